theorem w_code_X1_bare : Cond.code yX1_bare prog_3_method_3_code 6 (some .int) ∈ WALL := wall_t (tb_3 26 (by decide +kernel)) rfl
theorem w_code_X1_cell : Cond.code yX1_cell prog_3_method_5_code 2 (some .int) ∈ WALL := wall_t (tb_3 113 (by decide +kernel)) rfl
theorem w_code_X1_has : Cond.code yX1_has prog_3_method_11_code 9 (some .boolean) ∈ WALL := wall_t (tb_3 117 (by decide +kernel)) rfl
theorem w_code_X1_isVariable : Cond.code yX1_isVariable prog_3_method_4_code 2 (some .boolean) ∈ WALL := wall_t (tb_3 109 (by decide +kernel)) rfl
theorem w_code_X1_join : Cond.code yX1_join prog_3_method_10_code 5 none ∈ WALL := wall_t (tb_3 97 (by decide +kernel)) rfl
theorem w_code_X1_pair : Cond.code yX1_pair prog_3_method_7_code 6 (some .boolean) ∈ WALL := wall_t (tb_3 105 (by decide +kernel)) rfl
theorem w_code_X1_pushTerms : Cond.code yX1_pushTerms prog_3_method_8_code 8 (some .boolean) ∈ WALL := wall_t (tb_3 122 (by decide +kernel)) rfl
theorem w_code_X1_root : Cond.code yX1_root prog_3_method_9_code 4 (some .int) ∈ WALL := wall_t (tb_3 101 (by decide +kernel)) rfl
theorem w_code_X8_haveLikeNames : Cond.code yX8_haveLikeNames prog_10_method_10_code 3 (some .boolean) ∈ WALL := wall_t (tb_3 89 (by decide +kernel)) rfl
theorem w_code_X8_isClause : Cond.code yX8_isClause prog_10_method_4_code 2 (some .boolean) ∈ WALL := wall_t (tb_2 234 (by decide +kernel)) rfl
theorem w_code_X8_isNewName : Cond.code yX8_isNewName prog_10_method_14_code 7 (some .boolean) ∈ WALL := wall_t (tb_4 229 (by decide +kernel)) rfl
theorem w_code_X8_isPlus : Cond.code yX8_isPlus prog_10_method_6_code 3 (some .boolean) ∈ WALL := wall_t (tb_3 39 (by decide +kernel)) rfl
theorem w_code_X8_part : Cond.code yX8_part prog_10_method_7_code 3 (some .int) ∈ WALL := wall_t (tb_3 17 (by decide +kernel)) rfl
theorem w_f_X1_15 : Cond.fieldLink "OppositePairs$Bonds" 15 "OppositePairs$Bonds" "trail" "[I" ∈ WALL := wall_t (tb_1 136 (by decide +kernel)) rfl
theorem w_f_X1_18 : Cond.fieldLink "OppositePairs$Bonds" 18 "OppositePairs$Bonds" "same" "[I" ∈ WALL := wall_t (tb_1 140 (by decide +kernel)) rfl
theorem w_f_X1_21 : Cond.fieldLink "OppositePairs$Bonds" 21 "OppositePairs$Bonds" "joined" "[I" ∈ WALL := wall_t (tb_1 141 (by decide +kernel)) rfl
theorem w_f_X1_24 : Cond.fieldLink "OppositePairs$Bonds" 24 "OppositePairs$Bonds" "left" "[I" ∈ WALL := wall_t (tb_1 143 (by decide +kernel)) rfl
theorem w_f_X1_27 : Cond.fieldLink "OppositePairs$Bonds" 27 "OppositePairs$Bonds" "right" "[I" ∈ WALL := wall_t (tb_1 144 (by decide +kernel)) rfl
theorem w_f_X1_30 : Cond.fieldLink "OppositePairs$Bonds" 30 "OppositePairs$Bonds" "hold" "[I" ∈ WALL := wall_t (tb_1 146 (by decide +kernel)) rfl
theorem w_f_X1_33 : Cond.fieldLink "OppositePairs$Bonds" 33 "OppositePairs$Bonds" "seen" "[I" ∈ WALL := wall_t (tb_1 147 (by decide +kernel)) rfl
theorem w_f_X1_36 : Cond.fieldLink "OppositePairs$Bonds" 36 "OppositePairs$Bonds" "told" "LOppositePairs$Told;" ∈ WALL := wall_t (tb_1 134 (by decide +kernel)) rfl
theorem w_f_X1_40 : Cond.fieldLink "OppositePairs$Bonds" 40 "OppositePairs$Bonds" "trailed" "I" ∈ WALL := wall_t (tb_1 137 (by decide +kernel)) rfl
theorem w_f_X1_49 : Cond.fieldLink "OppositePairs$Bonds" 49 "OppositePairs$Bonds" "top" "I" ∈ WALL := wall_t (tb_1 145 (by decide +kernel)) rfl
theorem w_f_X1_52 : Cond.fieldLink "OppositePairs$Bonds" 52 "OppositePairs$Bonds" "joins" "I" ∈ WALL := wall_t (tb_1 142 (by decide +kernel)) rfl
theorem w_f_X1_9 : Cond.fieldLink "OppositePairs$Bonds" 9 "OppositePairs$Bonds" "bound" "[I" ∈ WALL := wall_t (tb_1 135 (by decide +kernel)) rfl
theorem w_f_X1_94 : Cond.fieldLink "OppositePairs$Bonds" 94 "OppositePairs$Bonds" "searches" "I" ∈ WALL := wall_t (tb_1 148 (by decide +kernel)) rfl
theorem w_f_X8_19 : Cond.fieldLink "OppositePairs$Told" 19 "OppositePairs$Told" "terms" "[I" ∈ WALL := wall_t (tb_1 80 (by decide +kernel)) rfl
theorem w_f_X8_25 : Cond.fieldLink "OppositePairs$Told" 25 "OppositePairs$Told" "literals" "[I" ∈ WALL := wall_t (tb_1 90 (by decide +kernel)) rfl
theorem w_f_X8_31 : Cond.fieldLink "OppositePairs$Told" 31 "OppositePairs$Told" "plus" "[I" ∈ WALL := wall_t (tb_1 97 (by decide +kernel)) rfl
theorem w_f_X8_34 : Cond.fieldLink "OppositePairs$Told" 34 "OppositePairs$Told" "first" "[I" ∈ WALL := wall_t (tb_1 100 (by decide +kernel)) rfl
theorem w_f_X8_37 : Cond.fieldLink "OppositePairs$Told" 37 "OppositePairs$Told" "parts" "I" ∈ WALL := wall_t (tb_1 89 (by decide +kernel)) rfl
theorem w_f_X8_41 : Cond.fieldLink "OppositePairs$Told" 41 "OppositePairs$Told" "clauses" "I" ∈ WALL := wall_t (tb_1 102 (by decide +kernel)) rfl
theorem w_f_X8_9 : Cond.fieldLink "OppositePairs$Told" 9 "OppositePairs$Told" "name" "[J" ∈ WALL := wall_t (tb_1 74 (by decide +kernel)) rfl
theorem w_ini_X1 : Cond.initialized "OppositePairs$Bonds" ∈ WALL := wall_t (tb_1 4 (by decide +kernel)) rfl
theorem w_ini_X8 : Cond.initialized "OppositePairs$Told" ∈ WALL := wall_t (tb_1 3 (by decide +kernel)) rfl
theorem w_instanceMethod_X1_bare : Cond.instanceMethod yX1_bare ∈ WALL := wall_t (tb_3 25 (by decide +kernel)) rfl
theorem w_instanceMethod_X1_cell : Cond.instanceMethod yX1_cell ∈ WALL := wall_t (tb_3 112 (by decide +kernel)) rfl
theorem w_instanceMethod_X1_has : Cond.instanceMethod yX1_has ∈ WALL := wall_t (tb_3 116 (by decide +kernel)) rfl
theorem w_instanceMethod_X1_isVariable : Cond.instanceMethod yX1_isVariable ∈ WALL := wall_t (tb_3 108 (by decide +kernel)) rfl
theorem w_instanceMethod_X1_join : Cond.instanceMethod yX1_join ∈ WALL := wall_t (tb_3 96 (by decide +kernel)) rfl
theorem w_instanceMethod_X1_pair : Cond.instanceMethod yX1_pair ∈ WALL := wall_t (tb_3 104 (by decide +kernel)) rfl
theorem w_instanceMethod_X1_pushTerms : Cond.instanceMethod yX1_pushTerms ∈ WALL := wall_t (tb_3 121 (by decide +kernel)) rfl
theorem w_instanceMethod_X1_root : Cond.instanceMethod yX1_root ∈ WALL := wall_t (tb_3 100 (by decide +kernel)) rfl
theorem w_instanceMethod_X8_haveLikeNames : Cond.instanceMethod yX8_haveLikeNames ∈ WALL := wall_t (tb_3 88 (by decide +kernel)) rfl
theorem w_instanceMethod_X8_isClause : Cond.instanceMethod yX8_isClause ∈ WALL := wall_t (tb_2 233 (by decide +kernel)) rfl
theorem w_instanceMethod_X8_isNewName : Cond.instanceMethod yX8_isNewName ∈ WALL := wall_t (tb_4 228 (by decide +kernel)) rfl
theorem w_instanceMethod_X8_isPlus : Cond.instanceMethod yX8_isPlus ∈ WALL := wall_t (tb_3 38 (by decide +kernel)) rfl
theorem w_instanceMethod_X8_part : Cond.instanceMethod yX8_part ∈ WALL := wall_t (tb_3 16 (by decide +kernel)) rfl
theorem w_k_X1_55 : Cond.constant "OppositePairs$Bonds" 55 (1000000 : Int32) ∈ WALL := wall_t (tb_3 22 (by decide +kernel)) rfl
theorem w_m_X1_56 : Cond.methodLink "OppositePairs$Bonds" 56 yX1_join ∈ WALL := wall_t (tb_3 94 (by decide +kernel)) rfl
theorem w_m_X1_60 : Cond.methodLink "OppositePairs$Bonds" 60 yX1_bare ∈ WALL := wall_t (tb_3 23 (by decide +kernel)) rfl
theorem w_m_X1_64 : Cond.methodLink "OppositePairs$Bonds" 64 yX1_pair ∈ WALL := wall_t (tb_3 102 (by decide +kernel)) rfl
theorem w_m_X1_68 : Cond.methodLink "OppositePairs$Bonds" 68 yX1_root ∈ WALL := wall_t (tb_3 98 (by decide +kernel)) rfl
theorem w_m_X1_71 : Cond.methodLink "OppositePairs$Bonds" 71 yX1_isVariable ∈ WALL := wall_t (tb_3 106 (by decide +kernel)) rfl
theorem w_m_X1_75 : Cond.methodLink "OppositePairs$Bonds" 75 yX1_cell ∈ WALL := wall_t (tb_3 110 (by decide +kernel)) rfl
theorem w_m_X1_78 : Cond.methodLink "OppositePairs$Bonds" 78 yX1_has ∈ WALL := wall_t (tb_3 114 (by decide +kernel)) rfl
theorem w_m_X1_84 : Cond.methodLink "OppositePairs$Bonds" 84 yX1_pushTerms ∈ WALL := wall_t (tb_3 119 (by decide +kernel)) rfl
theorem w_m_X8_50 : Cond.methodLink "OppositePairs$Told" 50 yX8_isClause ∈ WALL := wall_t (tb_3 31 (by decide +kernel)) rfl
theorem w_m_X8_54 : Cond.methodLink "OppositePairs$Told" 54 yX8_isPlus ∈ WALL := wall_t (tb_3 84 (by decide +kernel)) rfl
theorem w_m_X8_58 : Cond.methodLink "OppositePairs$Told" 58 yX8_part ∈ WALL := wall_t (tb_3 85 (by decide +kernel)) rfl
theorem w_m_X8_61 : Cond.methodLink "OppositePairs$Told" 61 yX8_haveLikeNames ∈ WALL := wall_t (tb_3 86 (by decide +kernel)) rfl
theorem w_m_X8_70 : Cond.methodLink "OppositePairs$Told" 70 yX8_isNewName ∈ WALL := wall_t (tb_4 226 (by decide +kernel)) rfl
theorem ws_sel_X1_bare : Cond.selects "OppositePairs$Bonds" yX1_bare yX1_bare ∈ WALL := wall_s 20 (by decide +kernel) rfl
theorem ws_sel_X1_cell : Cond.selects "OppositePairs$Bonds" yX1_cell yX1_cell ∈ WALL := wall_s 37 (by decide +kernel) rfl
theorem ws_sel_X1_has : Cond.selects "OppositePairs$Bonds" yX1_has yX1_has ∈ WALL := wall_s 38 (by decide +kernel) rfl
theorem ws_sel_X1_isVariable : Cond.selects "OppositePairs$Bonds" yX1_isVariable yX1_isVariable ∈ WALL := wall_s 36 (by decide +kernel) rfl
theorem ws_sel_X1_join : Cond.selects "OppositePairs$Bonds" yX1_join yX1_join ∈ WALL := wall_s 33 (by decide +kernel) rfl
theorem ws_sel_X1_pair : Cond.selects "OppositePairs$Bonds" yX1_pair yX1_pair ∈ WALL := wall_s 35 (by decide +kernel) rfl
theorem ws_sel_X1_pushTerms : Cond.selects "OppositePairs$Bonds" yX1_pushTerms yX1_pushTerms ∈ WALL := wall_s 39 (by decide +kernel) rfl
theorem ws_sel_X1_root : Cond.selects "OppositePairs$Bonds" yX1_root yX1_root ∈ WALL := wall_s 34 (by decide +kernel) rfl
theorem ws_sel_X8_haveLikeNames : Cond.selects "OppositePairs$Told" yX8_haveLikeNames yX8_haveLikeNames ∈ WALL := wall_s 31 (by decide +kernel) rfl
theorem ws_sel_X8_isClause : Cond.selects "OppositePairs$Told" yX8_isClause yX8_isClause ∈ WALL := wall_s 14 (by decide +kernel) rfl
theorem ws_sel_X8_isNewName : Cond.selects "OppositePairs$Told" yX8_isNewName yX8_isNewName ∈ WALL := wall_s 81 (by decide +kernel) rfl
theorem ws_sel_X8_isPlus : Cond.selects "OppositePairs$Told" yX8_isPlus yX8_isPlus ∈ WALL := wall_s 22 (by decide +kernel) rfl
theorem ws_sel_X8_part : Cond.selects "OppositePairs$Told" yX8_part yX8_part ∈ WALL := wall_s 18 (by decide +kernel) rfl
theorem n_f_X1_44 : Cond.fieldLinkNest "OppositePairs$Bonds" 44 "OppositePairs$Told" "variable" "[I" "OppositePairs" ∈ NWL := nwl_t (tb_1 78 (by decide +kernel)) rfl
theorem n_f_X1_88 : Cond.fieldLinkNest "OppositePairs$Bonds" 88 "OppositePairs$Told" "terms" "[I" "OppositePairs" ∈ NWL := nwl_t (tb_1 83 (by decide +kernel)) rfl
theorem n_f_X1_91 : Cond.fieldLinkNest "OppositePairs$Bonds" 91 "OppositePairs$Told" "term" "[I" "OppositePairs" ∈ NWL := nwl_t (tb_1 87 (by decide +kernel)) rfl
theorem n_m_X1_81 : Cond.methodLinkNest "OppositePairs$Bonds" 81 yX8_haveLikeNames "OppositePairs" ∈ NWL := nwl_t (tb_3 118 (by decide +kernel)) rfl
theorem dX1_alike_0 : decode cX1_alike 0 = .ok (.aload_n 0, 1) := by decide +kernel
theorem dX1_alike_1 : decode cX1_alike 1 = .ok (.getfield 24, 3) := by decide +kernel
theorem dX1_alike_100 : decode cX1_alike 100 = .ok (.getfield 36, 3) := by decide +kernel
theorem dX1_alike_103 : decode cX1_alike 103 = .ok (.iload 4, 2) := by decide +kernel
theorem dX1_alike_105 : decode cX1_alike 105 = .ok (.sipush 300, 3) := by decide +kernel
theorem dX1_alike_108 : decode cX1_alike 108 = .ok (.irem, 1) := by decide +kernel
theorem dX1_alike_109 : decode cX1_alike 109 = .ok (.iload 5, 2) := by decide +kernel
theorem dX1_alike_11 : decode cX1_alike 11 = .ok (.iconst 0, 1) := by decide +kernel
theorem dX1_alike_111 : decode cX1_alike 111 = .ok (.sipush 300, 3) := by decide +kernel
theorem dX1_alike_114 : decode cX1_alike 114 = .ok (.irem, 1) := by decide +kernel
theorem dX1_alike_115 : decode cX1_alike 115 = .ok (.invokevirtual 81, 3) := by decide +kernel
theorem dX1_alike_118 : decode cX1_alike 118 = .ok (.ifCond .eq 15, 3) := by decide +kernel
theorem dX1_alike_12 : decode cX1_alike 12 = .ok (.iload_n 2, 1) := by decide +kernel
theorem dX1_alike_121 : decode cX1_alike 121 = .ok (.aload_n 0, 1) := by decide +kernel
theorem dX1_alike_122 : decode cX1_alike 122 = .ok (.iload 4, 2) := by decide +kernel
theorem dX1_alike_124 : decode cX1_alike 124 = .ok (.iload 5, 2) := by decide +kernel
theorem dX1_alike_126 : decode cX1_alike 126 = .ok (.iconst 0, 1) := by decide +kernel
theorem dX1_alike_127 : decode cX1_alike 127 = .ok (.invokevirtual 84, 3) := by decide +kernel
theorem dX1_alike_13 : decode cX1_alike 13 = .ok (.iastore, 1) := by decide +kernel
theorem dX1_alike_130 : decode cX1_alike 130 = .ok (.ifCond .ne 5, 3) := by decide +kernel
theorem dX1_alike_133 : decode cX1_alike 133 = .ok (.iconst 0, 1) := by decide +kernel
theorem dX1_alike_134 : decode cX1_alike 134 = .ok (.ireturn, 1) := by decide +kernel
theorem dX1_alike_135 : decode cX1_alike 135 = .ok (.iinc 3 1, 3) := by decide +kernel
theorem dX1_alike_138 : decode cX1_alike 138 = .ok (.goto (-117), 3) := by decide +kernel
theorem dX1_alike_14 : decode cX1_alike 14 = .ok (.aload_n 0, 1) := by decide +kernel
theorem dX1_alike_141 : decode cX1_alike 141 = .ok (.aload_n 0, 1) := by decide +kernel
theorem dX1_alike_142 : decode cX1_alike 142 = .ok (.getfield 49, 3) := by decide +kernel
theorem dX1_alike_145 : decode cX1_alike 145 = .ok (.ifCond .ne 7, 3) := by decide +kernel
theorem dX1_alike_148 : decode cX1_alike 148 = .ok (.iconst 1, 1) := by decide +kernel
theorem dX1_alike_149 : decode cX1_alike 149 = .ok (.goto 4, 3) := by decide +kernel
theorem dX1_alike_15 : decode cX1_alike 15 = .ok (.iconst 1, 1) := by decide +kernel
theorem dX1_alike_152 : decode cX1_alike 152 = .ok (.iconst 0, 1) := by decide +kernel
theorem dX1_alike_153 : decode cX1_alike 153 = .ok (.ireturn, 1) := by decide +kernel
theorem dX1_alike_16 : decode cX1_alike 16 = .ok (.putfield 49, 3) := by decide +kernel
theorem dX1_alike_19 : decode cX1_alike 19 = .ok (.iconst 0, 1) := by decide +kernel
theorem dX1_alike_20 : decode cX1_alike 20 = .ok (.istore_n 3, 1) := by decide +kernel
theorem dX1_alike_21 : decode cX1_alike 21 = .ok (.iload_n 3, 1) := by decide +kernel
theorem dX1_alike_22 : decode cX1_alike 22 = .ok (.ldc 55, 2) := by decide +kernel
theorem dX1_alike_24 : decode cX1_alike 24 = .ok (.if_icmp .ge 117, 3) := by decide +kernel
theorem dX1_alike_27 : decode cX1_alike 27 = .ok (.aload_n 0, 1) := by decide +kernel
theorem dX1_alike_28 : decode cX1_alike 28 = .ok (.getfield 49, 3) := by decide +kernel
theorem dX1_alike_31 : decode cX1_alike 31 = .ok (.ifCond .le 110, 3) := by decide +kernel
theorem dX1_alike_34 : decode cX1_alike 34 = .ok (.aload_n 0, 1) := by decide +kernel
theorem dX1_alike_35 : decode cX1_alike 35 = .ok (.dup, 1) := by decide +kernel
theorem dX1_alike_36 : decode cX1_alike 36 = .ok (.getfield 49, 3) := by decide +kernel
theorem dX1_alike_39 : decode cX1_alike 39 = .ok (.iconst 1, 1) := by decide +kernel
theorem dX1_alike_4 : decode cX1_alike 4 = .ok (.iconst 0, 1) := by decide +kernel
theorem dX1_alike_40 : decode cX1_alike 40 = .ok (.isub, 1) := by decide +kernel
theorem dX1_alike_41 : decode cX1_alike 41 = .ok (.putfield 49, 3) := by decide +kernel
theorem dX1_alike_44 : decode cX1_alike 44 = .ok (.aload_n 0, 1) := by decide +kernel
theorem dX1_alike_45 : decode cX1_alike 45 = .ok (.aload_n 0, 1) := by decide +kernel
theorem dX1_alike_46 : decode cX1_alike 46 = .ok (.getfield 24, 3) := by decide +kernel
theorem dX1_alike_49 : decode cX1_alike 49 = .ok (.aload_n 0, 1) := by decide +kernel
theorem dX1_alike_5 : decode cX1_alike 5 = .ok (.iload_n 1, 1) := by decide +kernel
theorem dX1_alike_50 : decode cX1_alike 50 = .ok (.getfield 49, 3) := by decide +kernel
theorem dX1_alike_53 : decode cX1_alike 53 = .ok (.iaload, 1) := by decide +kernel
theorem dX1_alike_54 : decode cX1_alike 54 = .ok (.invokevirtual 60, 3) := by decide +kernel
theorem dX1_alike_57 : decode cX1_alike 57 = .ok (.istore 4, 2) := by decide +kernel
theorem dX1_alike_59 : decode cX1_alike 59 = .ok (.aload_n 0, 1) := by decide +kernel
theorem dX1_alike_6 : decode cX1_alike 6 = .ok (.iastore, 1) := by decide +kernel
theorem dX1_alike_60 : decode cX1_alike 60 = .ok (.aload_n 0, 1) := by decide +kernel
theorem dX1_alike_61 : decode cX1_alike 61 = .ok (.getfield 27, 3) := by decide +kernel
theorem dX1_alike_64 : decode cX1_alike 64 = .ok (.aload_n 0, 1) := by decide +kernel
theorem dX1_alike_65 : decode cX1_alike 65 = .ok (.getfield 49, 3) := by decide +kernel
theorem dX1_alike_68 : decode cX1_alike 68 = .ok (.iaload, 1) := by decide +kernel
theorem dX1_alike_69 : decode cX1_alike 69 = .ok (.invokevirtual 60, 3) := by decide +kernel
theorem dX1_alike_7 : decode cX1_alike 7 = .ok (.aload_n 0, 1) := by decide +kernel
theorem dX1_alike_72 : decode cX1_alike 72 = .ok (.istore 5, 2) := by decide +kernel
theorem dX1_alike_74 : decode cX1_alike 74 = .ok (.iload 4, 2) := by decide +kernel
theorem dX1_alike_76 : decode cX1_alike 76 = .ok (.iload 5, 2) := by decide +kernel
theorem dX1_alike_78 : decode cX1_alike 78 = .ok (.if_icmp .eq 57, 3) := by decide +kernel
theorem dX1_alike_8 : decode cX1_alike 8 = .ok (.getfield 27, 3) := by decide +kernel
theorem dX1_alike_81 : decode cX1_alike 81 = .ok (.aload_n 0, 1) := by decide +kernel
theorem dX1_alike_82 : decode cX1_alike 82 = .ok (.iload 4, 2) := by decide +kernel
theorem dX1_alike_84 : decode cX1_alike 84 = .ok (.invokevirtual 71, 3) := by decide +kernel
theorem dX1_alike_87 : decode cX1_alike 87 = .ok (.ifCond .ne 46, 3) := by decide +kernel
theorem dX1_alike_90 : decode cX1_alike 90 = .ok (.aload_n 0, 1) := by decide +kernel
theorem dX1_alike_91 : decode cX1_alike 91 = .ok (.iload 5, 2) := by decide +kernel
theorem dX1_alike_93 : decode cX1_alike 93 = .ok (.invokevirtual 71, 3) := by decide +kernel
theorem dX1_alike_96 : decode cX1_alike 96 = .ok (.ifCond .ne 37, 3) := by decide +kernel
theorem dX1_alike_99 : decode cX1_alike 99 = .ok (.aload_n 0, 1) := by decide +kernel
theorem dX1_bare_0 : decode cX1_bare 0 = .ok (.iload_n 1, 1) := by decide +kernel
theorem dX1_bare_1 : decode cX1_bare 1 = .ok (.istore_n 2, 1) := by decide +kernel
theorem dX1_bare_11 : decode cX1_bare 11 = .ok (.aload_n 0, 1) := by decide +kernel
theorem dX1_bare_12 : decode cX1_bare 12 = .ok (.getfield 36, 3) := by decide +kernel
theorem dX1_bare_15 : decode cX1_bare 15 = .ok (.getfield 44, 3) := by decide +kernel
theorem dX1_bare_18 : decode cX1_bare 18 = .ok (.iload_n 2, 1) := by decide +kernel
theorem dX1_bare_19 : decode cX1_bare 19 = .ok (.sipush 300, 3) := by decide +kernel
theorem dX1_bare_2 : decode cX1_bare 2 = .ok (.iconst 0, 1) := by decide +kernel
theorem dX1_bare_22 : decode cX1_bare 22 = .ok (.irem, 1) := by decide +kernel
theorem dX1_bare_23 : decode cX1_bare 23 = .ok (.iaload, 1) := by decide +kernel
theorem dX1_bare_24 : decode cX1_bare 24 = .ok (.istore 4, 2) := by decide +kernel
theorem dX1_bare_26 : decode cX1_bare 26 = .ok (.iload 4, 2) := by decide +kernel
theorem dX1_bare_28 : decode cX1_bare 28 = .ok (.iconst (-1), 1) := by decide +kernel
theorem dX1_bare_29 : decode cX1_bare 29 = .ok (.if_icmp .ne 5, 3) := by decide +kernel
theorem dX1_bare_3 : decode cX1_bare 3 = .ok (.istore_n 3, 1) := by decide +kernel
theorem dX1_bare_32 : decode cX1_bare 32 = .ok (.iload_n 2, 1) := by decide +kernel
theorem dX1_bare_33 : decode cX1_bare 33 = .ok (.ireturn, 1) := by decide +kernel
theorem dX1_bare_34 : decode cX1_bare 34 = .ok (.aload_n 0, 1) := by decide +kernel
theorem dX1_bare_35 : decode cX1_bare 35 = .ok (.getfield 9, 3) := by decide +kernel
theorem dX1_bare_38 : decode cX1_bare 38 = .ok (.iload_n 2, 1) := by decide +kernel
theorem dX1_bare_39 : decode cX1_bare 39 = .ok (.sipush 300, 3) := by decide +kernel
theorem dX1_bare_4 : decode cX1_bare 4 = .ok (.iload_n 3, 1) := by decide +kernel
theorem dX1_bare_42 : decode cX1_bare 42 = .ok (.idiv, 1) := by decide +kernel
theorem dX1_bare_43 : decode cX1_bare 43 = .ok (.bipush 8, 2) := by decide +kernel
theorem dX1_bare_45 : decode cX1_bare 45 = .ok (.imul, 1) := by decide +kernel
theorem dX1_bare_46 : decode cX1_bare 46 = .ok (.iload 4, 2) := by decide +kernel
theorem dX1_bare_48 : decode cX1_bare 48 = .ok (.iadd, 1) := by decide +kernel
theorem dX1_bare_49 : decode cX1_bare 49 = .ok (.iaload, 1) := by decide +kernel
theorem dX1_bare_5 : decode cX1_bare 5 = .ok (.sipush 256, 3) := by decide +kernel
theorem dX1_bare_50 : decode cX1_bare 50 = .ok (.istore 5, 2) := by decide +kernel
theorem dX1_bare_52 : decode cX1_bare 52 = .ok (.iload 5, 2) := by decide +kernel
theorem dX1_bare_54 : decode cX1_bare 54 = .ok (.ifCond .ne 5, 3) := by decide +kernel
theorem dX1_bare_57 : decode cX1_bare 57 = .ok (.iload_n 2, 1) := by decide +kernel
theorem dX1_bare_58 : decode cX1_bare 58 = .ok (.ireturn, 1) := by decide +kernel
theorem dX1_bare_59 : decode cX1_bare 59 = .ok (.iload 5, 2) := by decide +kernel
theorem dX1_bare_61 : decode cX1_bare 61 = .ok (.iconst 1, 1) := by decide +kernel
theorem dX1_bare_62 : decode cX1_bare 62 = .ok (.isub, 1) := by decide +kernel
theorem dX1_bare_63 : decode cX1_bare 63 = .ok (.istore_n 2, 1) := by decide +kernel
theorem dX1_bare_64 : decode cX1_bare 64 = .ok (.iinc 3 1, 3) := by decide +kernel
theorem dX1_bare_67 : decode cX1_bare 67 = .ok (.goto (-63), 3) := by decide +kernel
theorem dX1_bare_70 : decode cX1_bare 70 = .ok (.iload_n 2, 1) := by decide +kernel
theorem dX1_bare_71 : decode cX1_bare 71 = .ok (.ireturn, 1) := by decide +kernel
theorem dX1_bare_8 : decode cX1_bare 8 = .ok (.if_icmp .ge 62, 3) := by decide +kernel
theorem dX1_cell_0 : decode cX1_cell 0 = .ok (.iload_n 1, 1) := by decide +kernel
theorem dX1_cell_1 : decode cX1_cell 1 = .ok (.sipush 300, 3) := by decide +kernel
theorem dX1_cell_12 : decode cX1_cell 12 = .ok (.getfield 44, 3) := by decide +kernel
theorem dX1_cell_15 : decode cX1_cell 15 = .ok (.iload_n 1, 1) := by decide +kernel
theorem dX1_cell_16 : decode cX1_cell 16 = .ok (.sipush 300, 3) := by decide +kernel
theorem dX1_cell_19 : decode cX1_cell 19 = .ok (.irem, 1) := by decide +kernel
theorem dX1_cell_20 : decode cX1_cell 20 = .ok (.iaload, 1) := by decide +kernel
theorem dX1_cell_21 : decode cX1_cell 21 = .ok (.iadd, 1) := by decide +kernel
theorem dX1_cell_22 : decode cX1_cell 22 = .ok (.ireturn, 1) := by decide +kernel
theorem dX1_cell_4 : decode cX1_cell 4 = .ok (.idiv, 1) := by decide +kernel
theorem dX1_cell_5 : decode cX1_cell 5 = .ok (.bipush 8, 2) := by decide +kernel
theorem dX1_cell_7 : decode cX1_cell 7 = .ok (.imul, 1) := by decide +kernel
theorem dX1_cell_8 : decode cX1_cell 8 = .ok (.aload_n 0, 1) := by decide +kernel
theorem dX1_cell_9 : decode cX1_cell 9 = .ok (.getfield 36, 3) := by decide +kernel
theorem dX1_has_0 : decode cX1_has 0 = .ok (.aload_n 0, 1) := by decide +kernel
theorem dX1_has_1 : decode cX1_has 1 = .ok (.dup, 1) := by decide +kernel
theorem dX1_has_10 : decode cX1_has 10 = .ok (.iconst 1, 1) := by decide +kernel
theorem dX1_has_100 : decode cX1_has 100 = .ok (.iload 5, 2) := by decide +kernel
theorem dX1_has_102 : decode cX1_has 102 = .ok (.iaload, 1) := by decide +kernel
theorem dX1_has_103 : decode cX1_has 103 = .ok (.if_icmp .ge 36, 3) := by decide +kernel
theorem dX1_has_106 : decode cX1_has 106 = .ok (.aload_n 0, 1) := by decide +kernel
theorem dX1_has_107 : decode cX1_has 107 = .ok (.getfield 30, 3) := by decide +kernel
theorem dX1_has_11 : decode cX1_has 11 = .ok (.istore_n 3, 1) := by decide +kernel
theorem dX1_has_110 : decode cX1_has 110 = .ok (.iload_n 3, 1) := by decide +kernel
theorem dX1_has_111 : decode cX1_has 111 = .ok (.iinc 3 1, 3) := by decide +kernel
theorem dX1_has_114 : decode cX1_has 114 = .ok (.iload 6, 2) := by decide +kernel
theorem dX1_has_116 : decode cX1_has 116 = .ok (.aload_n 0, 1) := by decide +kernel
theorem dX1_has_117 : decode cX1_has 117 = .ok (.getfield 36, 3) := by decide +kernel
theorem dX1_has_12 : decode cX1_has 12 = .ok (.aload_n 0, 1) := by decide +kernel
theorem dX1_has_120 : decode cX1_has 120 = .ok (.getfield 91, 3) := by decide +kernel
theorem dX1_has_123 : decode cX1_has 123 = .ok (.iload 5, 2) := by decide +kernel
theorem dX1_has_125 : decode cX1_has 125 = .ok (.iconst 3, 1) := by decide +kernel
theorem dX1_has_126 : decode cX1_has 126 = .ok (.imul, 1) := by decide +kernel
theorem dX1_has_127 : decode cX1_has 127 = .ok (.iload 8, 2) := by decide +kernel
theorem dX1_has_129 : decode cX1_has 129 = .ok (.iadd, 1) := by decide +kernel
theorem dX1_has_13 : decode cX1_has 13 = .ok (.getfield 30, 3) := by decide +kernel
theorem dX1_has_130 : decode cX1_has 130 = .ok (.iaload, 1) := by decide +kernel
theorem dX1_has_131 : decode cX1_has 131 = .ok (.iadd, 1) := by decide +kernel
theorem dX1_has_132 : decode cX1_has 132 = .ok (.iastore, 1) := by decide +kernel
theorem dX1_has_133 : decode cX1_has 133 = .ok (.iinc 8 1, 3) := by decide +kernel
theorem dX1_has_136 : decode cX1_has 136 = .ok (.goto (-45), 3) := by decide +kernel
theorem dX1_has_139 : decode cX1_has 139 = .ok (.goto 78, 3) := by decide +kernel
theorem dX1_has_142 : decode cX1_has 142 = .ok (.iload 6, 2) := by decide +kernel
theorem dX1_has_144 : decode cX1_has 144 = .ok (.sipush 300, 3) := by decide +kernel
theorem dX1_has_147 : decode cX1_has 147 = .ok (.idiv, 1) := by decide +kernel
theorem dX1_has_148 : decode cX1_has 148 = .ok (.bipush 8, 2) := by decide +kernel
theorem dX1_has_150 : decode cX1_has 150 = .ok (.imul, 1) := by decide +kernel
theorem dX1_has_151 : decode cX1_has 151 = .ok (.iload 7, 2) := by decide +kernel
theorem dX1_has_153 : decode cX1_has 153 = .ok (.iadd, 1) := by decide +kernel
theorem dX1_has_154 : decode cX1_has 154 = .ok (.istore 8, 2) := by decide +kernel
theorem dX1_has_156 : decode cX1_has 156 = .ok (.iload 8, 2) := by decide +kernel
theorem dX1_has_158 : decode cX1_has 158 = .ok (.iload_n 2, 1) := by decide +kernel
theorem dX1_has_159 : decode cX1_has 159 = .ok (.if_icmp .ne 5, 3) := by decide +kernel
theorem dX1_has_16 : decode cX1_has 16 = .ok (.iconst 0, 1) := by decide +kernel
theorem dX1_has_162 : decode cX1_has 162 = .ok (.iconst 1, 1) := by decide +kernel
theorem dX1_has_163 : decode cX1_has 163 = .ok (.ireturn, 1) := by decide +kernel
theorem dX1_has_164 : decode cX1_has 164 = .ok (.aload_n 0, 1) := by decide +kernel
theorem dX1_has_165 : decode cX1_has 165 = .ok (.getfield 9, 3) := by decide +kernel
theorem dX1_has_168 : decode cX1_has 168 = .ok (.iload 8, 2) := by decide +kernel
theorem dX1_has_17 : decode cX1_has 17 = .ok (.iload_n 1, 1) := by decide +kernel
theorem dX1_has_170 : decode cX1_has 170 = .ok (.iaload, 1) := by decide +kernel
theorem dX1_has_171 : decode cX1_has 171 = .ok (.ifCond .eq 46, 3) := by decide +kernel
theorem dX1_has_174 : decode cX1_has 174 = .ok (.aload_n 0, 1) := by decide +kernel
theorem dX1_has_175 : decode cX1_has 175 = .ok (.getfield 33, 3) := by decide +kernel
theorem dX1_has_178 : decode cX1_has 178 = .ok (.iload 8, 2) := by decide +kernel
theorem dX1_has_18 : decode cX1_has 18 = .ok (.iastore, 1) := by decide +kernel
theorem dX1_has_180 : decode cX1_has 180 = .ok (.iaload, 1) := by decide +kernel
theorem dX1_has_181 : decode cX1_has 181 = .ok (.aload_n 0, 1) := by decide +kernel
theorem dX1_has_182 : decode cX1_has 182 = .ok (.getfield 94, 3) := by decide +kernel
theorem dX1_has_185 : decode cX1_has 185 = .ok (.if_icmp .eq 32, 3) := by decide +kernel
theorem dX1_has_188 : decode cX1_has 188 = .ok (.aload_n 0, 1) := by decide +kernel
theorem dX1_has_189 : decode cX1_has 189 = .ok (.getfield 33, 3) := by decide +kernel
theorem dX1_has_19 : decode cX1_has 19 = .ok (.iconst 0, 1) := by decide +kernel
theorem dX1_has_192 : decode cX1_has 192 = .ok (.iload 8, 2) := by decide +kernel
theorem dX1_has_194 : decode cX1_has 194 = .ok (.aload_n 0, 1) := by decide +kernel
theorem dX1_has_195 : decode cX1_has 195 = .ok (.getfield 94, 3) := by decide +kernel
theorem dX1_has_198 : decode cX1_has 198 = .ok (.iastore, 1) := by decide +kernel
theorem dX1_has_199 : decode cX1_has 199 = .ok (.aload_n 0, 1) := by decide +kernel
theorem dX1_has_2 : decode cX1_has 2 = .ok (.getfield 94, 3) := by decide +kernel
theorem dX1_has_20 : decode cX1_has 20 = .ok (.istore 4, 2) := by decide +kernel
theorem dX1_has_200 : decode cX1_has 200 = .ok (.getfield 30, 3) := by decide +kernel
theorem dX1_has_203 : decode cX1_has 203 = .ok (.iload_n 3, 1) := by decide +kernel
theorem dX1_has_204 : decode cX1_has 204 = .ok (.iinc 3 1, 3) := by decide +kernel
theorem dX1_has_207 : decode cX1_has 207 = .ok (.aload_n 0, 1) := by decide +kernel
theorem dX1_has_208 : decode cX1_has 208 = .ok (.getfield 9, 3) := by decide +kernel
theorem dX1_has_211 : decode cX1_has 211 = .ok (.iload 8, 2) := by decide +kernel
theorem dX1_has_213 : decode cX1_has 213 = .ok (.iaload, 1) := by decide +kernel
theorem dX1_has_214 : decode cX1_has 214 = .ok (.iconst 1, 1) := by decide +kernel
theorem dX1_has_215 : decode cX1_has 215 = .ok (.isub, 1) := by decide +kernel
theorem dX1_has_216 : decode cX1_has 216 = .ok (.iastore, 1) := by decide +kernel
theorem dX1_has_217 : decode cX1_has 217 = .ok (.iinc 4 1, 3) := by decide +kernel
theorem dX1_has_22 : decode cX1_has 22 = .ok (.iload 4, 2) := by decide +kernel
theorem dX1_has_220 : decode cX1_has 220 = .ok (.goto (-198), 3) := by decide +kernel
theorem dX1_has_223 : decode cX1_has 223 = .ok (.iload_n 3, 1) := by decide +kernel
theorem dX1_has_224 : decode cX1_has 224 = .ok (.ifCond .le 7, 3) := by decide +kernel
theorem dX1_has_227 : decode cX1_has 227 = .ok (.iconst 1, 1) := by decide +kernel
theorem dX1_has_228 : decode cX1_has 228 = .ok (.goto 4, 3) := by decide +kernel
theorem dX1_has_231 : decode cX1_has 231 = .ok (.iconst 0, 1) := by decide +kernel
theorem dX1_has_232 : decode cX1_has 232 = .ok (.ireturn, 1) := by decide +kernel
theorem dX1_has_24 : decode cX1_has 24 = .ok (.ldc 55, 2) := by decide +kernel
theorem dX1_has_26 : decode cX1_has 26 = .ok (.if_icmp .ge 197, 3) := by decide +kernel
theorem dX1_has_29 : decode cX1_has 29 = .ok (.iload_n 3, 1) := by decide +kernel
theorem dX1_has_30 : decode cX1_has 30 = .ok (.ifCond .le 193, 3) := by decide +kernel
theorem dX1_has_33 : decode cX1_has 33 = .ok (.iinc 3 (-1), 3) := by decide +kernel
theorem dX1_has_36 : decode cX1_has 36 = .ok (.aload_n 0, 1) := by decide +kernel
theorem dX1_has_37 : decode cX1_has 37 = .ok (.getfield 30, 3) := by decide +kernel
theorem dX1_has_40 : decode cX1_has 40 = .ok (.iload_n 3, 1) := by decide +kernel
theorem dX1_has_41 : decode cX1_has 41 = .ok (.iaload, 1) := by decide +kernel
theorem dX1_has_42 : decode cX1_has 42 = .ok (.sipush 300, 3) := by decide +kernel
theorem dX1_has_45 : decode cX1_has 45 = .ok (.irem, 1) := by decide +kernel
theorem dX1_has_46 : decode cX1_has 46 = .ok (.istore 5, 2) := by decide +kernel
theorem dX1_has_48 : decode cX1_has 48 = .ok (.aload_n 0, 1) := by decide +kernel
theorem dX1_has_49 : decode cX1_has 49 = .ok (.getfield 30, 3) := by decide +kernel
theorem dX1_has_5 : decode cX1_has 5 = .ok (.iconst 1, 1) := by decide +kernel
theorem dX1_has_52 : decode cX1_has 52 = .ok (.iload_n 3, 1) := by decide +kernel
theorem dX1_has_53 : decode cX1_has 53 = .ok (.iaload, 1) := by decide +kernel
theorem dX1_has_54 : decode cX1_has 54 = .ok (.iload 5, 2) := by decide +kernel
theorem dX1_has_56 : decode cX1_has 56 = .ok (.isub, 1) := by decide +kernel
theorem dX1_has_57 : decode cX1_has 57 = .ok (.istore 6, 2) := by decide +kernel
theorem dX1_has_59 : decode cX1_has 59 = .ok (.aload_n 0, 1) := by decide +kernel
theorem dX1_has_6 : decode cX1_has 6 = .ok (.iadd, 1) := by decide +kernel
theorem dX1_has_60 : decode cX1_has 60 = .ok (.getfield 36, 3) := by decide +kernel
theorem dX1_has_63 : decode cX1_has 63 = .ok (.getfield 44, 3) := by decide +kernel
theorem dX1_has_66 : decode cX1_has 66 = .ok (.iload 5, 2) := by decide +kernel
theorem dX1_has_68 : decode cX1_has 68 = .ok (.iaload, 1) := by decide +kernel
theorem dX1_has_69 : decode cX1_has 69 = .ok (.istore 7, 2) := by decide +kernel
theorem dX1_has_7 : decode cX1_has 7 = .ok (.putfield 94, 3) := by decide +kernel
theorem dX1_has_71 : decode cX1_has 71 = .ok (.iload_n 3, 1) := by decide +kernel
theorem dX1_has_72 : decode cX1_has 72 = .ok (.iconst 3, 1) := by decide +kernel
theorem dX1_has_73 : decode cX1_has 73 = .ok (.iadd, 1) := by decide +kernel
theorem dX1_has_74 : decode cX1_has 74 = .ok (.sipush 2048, 3) := by decide +kernel
theorem dX1_has_77 : decode cX1_has 77 = .ok (.if_icmp .le 5, 3) := by decide +kernel
theorem dX1_has_80 : decode cX1_has 80 = .ok (.iconst 1, 1) := by decide +kernel
theorem dX1_has_81 : decode cX1_has 81 = .ok (.ireturn, 1) := by decide +kernel
theorem dX1_has_82 : decode cX1_has 82 = .ok (.iload 7, 2) := by decide +kernel
theorem dX1_has_84 : decode cX1_has 84 = .ok (.iconst (-1), 1) := by decide +kernel
theorem dX1_has_85 : decode cX1_has 85 = .ok (.if_icmp .ne 57, 3) := by decide +kernel
theorem dX1_has_88 : decode cX1_has 88 = .ok (.iconst 0, 1) := by decide +kernel
theorem dX1_has_89 : decode cX1_has 89 = .ok (.istore 8, 2) := by decide +kernel
theorem dX1_has_91 : decode cX1_has 91 = .ok (.iload 8, 2) := by decide +kernel
theorem dX1_has_93 : decode cX1_has 93 = .ok (.aload_n 0, 1) := by decide +kernel
theorem dX1_has_94 : decode cX1_has 94 = .ok (.getfield 36, 3) := by decide +kernel
theorem dX1_has_97 : decode cX1_has 97 = .ok (.getfield 88, 3) := by decide +kernel
theorem dX1_isVariable_0 : decode cX1_isVariable 0 = .ok (.aload_n 0, 1) := by decide +kernel
theorem dX1_isVariable_1 : decode cX1_isVariable 1 = .ok (.getfield 36, 3) := by decide +kernel
theorem dX1_isVariable_11 : decode cX1_isVariable 11 = .ok (.irem, 1) := by decide +kernel
theorem dX1_isVariable_12 : decode cX1_isVariable 12 = .ok (.iaload, 1) := by decide +kernel
theorem dX1_isVariable_13 : decode cX1_isVariable 13 = .ok (.iconst (-1), 1) := by decide +kernel
theorem dX1_isVariable_14 : decode cX1_isVariable 14 = .ok (.if_icmp .eq 7, 3) := by decide +kernel
theorem dX1_isVariable_17 : decode cX1_isVariable 17 = .ok (.iconst 1, 1) := by decide +kernel
theorem dX1_isVariable_18 : decode cX1_isVariable 18 = .ok (.goto 4, 3) := by decide +kernel
theorem dX1_isVariable_21 : decode cX1_isVariable 21 = .ok (.iconst 0, 1) := by decide +kernel
theorem dX1_isVariable_22 : decode cX1_isVariable 22 = .ok (.ireturn, 1) := by decide +kernel
theorem dX1_isVariable_4 : decode cX1_isVariable 4 = .ok (.getfield 44, 3) := by decide +kernel
theorem dX1_isVariable_7 : decode cX1_isVariable 7 = .ok (.iload_n 1, 1) := by decide +kernel
theorem dX1_isVariable_8 : decode cX1_isVariable 8 = .ok (.sipush 300, 3) := by decide +kernel
theorem dX1_join_0 : decode cX1_join 0 = .ok (.aload_n 0, 1) := by decide +kernel
theorem dX1_join_1 : decode cX1_join 1 = .ok (.iload_n 1, 1) := by decide +kernel
theorem dX1_join_11 : decode cX1_join 11 = .ok (.istore 4, 2) := by decide +kernel
theorem dX1_join_13 : decode cX1_join 13 = .ok (.iload_n 3, 1) := by decide +kernel
theorem dX1_join_14 : decode cX1_join 14 = .ok (.iload 4, 2) := by decide +kernel
theorem dX1_join_16 : decode cX1_join 16 = .ok (.if_icmp .eq 40, 3) := by decide +kernel
theorem dX1_join_19 : decode cX1_join 19 = .ok (.aload_n 0, 1) := by decide +kernel
theorem dX1_join_2 : decode cX1_join 2 = .ok (.invokevirtual 68, 3) := by decide +kernel
theorem dX1_join_20 : decode cX1_join 20 = .ok (.getfield 52, 3) := by decide +kernel
theorem dX1_join_23 : decode cX1_join 23 = .ok (.sipush 1024, 3) := by decide +kernel
theorem dX1_join_26 : decode cX1_join 26 = .ok (.if_icmp .ge 30, 3) := by decide +kernel
theorem dX1_join_29 : decode cX1_join 29 = .ok (.aload_n 0, 1) := by decide +kernel
theorem dX1_join_30 : decode cX1_join 30 = .ok (.getfield 18, 3) := by decide +kernel
theorem dX1_join_33 : decode cX1_join 33 = .ok (.iload_n 3, 1) := by decide +kernel
theorem dX1_join_34 : decode cX1_join 34 = .ok (.iload 4, 2) := by decide +kernel
theorem dX1_join_36 : decode cX1_join 36 = .ok (.iconst 1, 1) := by decide +kernel
theorem dX1_join_37 : decode cX1_join 37 = .ok (.iadd, 1) := by decide +kernel
theorem dX1_join_38 : decode cX1_join 38 = .ok (.iastore, 1) := by decide +kernel
theorem dX1_join_39 : decode cX1_join 39 = .ok (.aload_n 0, 1) := by decide +kernel
theorem dX1_join_40 : decode cX1_join 40 = .ok (.getfield 21, 3) := by decide +kernel
theorem dX1_join_43 : decode cX1_join 43 = .ok (.aload_n 0, 1) := by decide +kernel
theorem dX1_join_44 : decode cX1_join 44 = .ok (.dup, 1) := by decide +kernel
theorem dX1_join_45 : decode cX1_join 45 = .ok (.getfield 52, 3) := by decide +kernel
theorem dX1_join_48 : decode cX1_join 48 = .ok (.dup_x1, 1) := by decide +kernel
theorem dX1_join_49 : decode cX1_join 49 = .ok (.iconst 1, 1) := by decide +kernel
theorem dX1_join_5 : decode cX1_join 5 = .ok (.istore_n 3, 1) := by decide +kernel
theorem dX1_join_50 : decode cX1_join 50 = .ok (.iadd, 1) := by decide +kernel
theorem dX1_join_51 : decode cX1_join 51 = .ok (.putfield 52, 3) := by decide +kernel
theorem dX1_join_54 : decode cX1_join 54 = .ok (.iload_n 3, 1) := by decide +kernel
theorem dX1_join_55 : decode cX1_join 55 = .ok (.iastore, 1) := by decide +kernel
theorem dX1_join_56 : decode cX1_join 56 = .ok (.return_, 1) := by decide +kernel
theorem dX1_join_6 : decode cX1_join 6 = .ok (.aload_n 0, 1) := by decide +kernel
theorem dX1_join_7 : decode cX1_join 7 = .ok (.iload_n 2, 1) := by decide +kernel
theorem dX1_join_8 : decode cX1_join 8 = .ok (.invokevirtual 68, 3) := by decide +kernel
theorem dX1_pair_0 : decode cX1_pair 0 = .ok (.aload_n 0, 1) := by decide +kernel
theorem dX1_pair_1 : decode cX1_pair 1 = .ok (.iload_n 1, 1) := by decide +kernel
theorem dX1_pair_10 : decode cX1_pair 10 = .ok (.if_icmp .ne 5, 3) := by decide +kernel
theorem dX1_pair_101 : decode cX1_pair 101 = .ok (.aload_n 0, 1) := by decide +kernel
theorem dX1_pair_102 : decode cX1_pair 102 = .ok (.dup, 1) := by decide +kernel
theorem dX1_pair_103 : decode cX1_pair 103 = .ok (.getfield 40, 3) := by decide +kernel
theorem dX1_pair_106 : decode cX1_pair 106 = .ok (.dup_x1, 1) := by decide +kernel
theorem dX1_pair_107 : decode cX1_pair 107 = .ok (.iconst 1, 1) := by decide +kernel
theorem dX1_pair_108 : decode cX1_pair 108 = .ok (.iadd, 1) := by decide +kernel
theorem dX1_pair_109 : decode cX1_pair 109 = .ok (.putfield 40, 3) := by decide +kernel
theorem dX1_pair_112 : decode cX1_pair 112 = .ok (.iload 4, 2) := by decide +kernel
theorem dX1_pair_114 : decode cX1_pair 114 = .ok (.iastore, 1) := by decide +kernel
theorem dX1_pair_115 : decode cX1_pair 115 = .ok (.iconst 1, 1) := by decide +kernel
theorem dX1_pair_116 : decode cX1_pair 116 = .ok (.ireturn, 1) := by decide +kernel
theorem dX1_pair_117 : decode cX1_pair 117 = .ok (.aload_n 0, 1) := by decide +kernel
theorem dX1_pair_118 : decode cX1_pair 118 = .ok (.getfield 36, 3) := by decide +kernel
theorem dX1_pair_121 : decode cX1_pair 121 = .ok (.iload_n 1, 1) := by decide +kernel
theorem dX1_pair_122 : decode cX1_pair 122 = .ok (.sipush 300, 3) := by decide +kernel
theorem dX1_pair_125 : decode cX1_pair 125 = .ok (.irem, 1) := by decide +kernel
theorem dX1_pair_126 : decode cX1_pair 126 = .ok (.iload_n 2, 1) := by decide +kernel
theorem dX1_pair_127 : decode cX1_pair 127 = .ok (.sipush 300, 3) := by decide +kernel
theorem dX1_pair_13 : decode cX1_pair 13 = .ok (.iconst 1, 1) := by decide +kernel
theorem dX1_pair_130 : decode cX1_pair 130 = .ok (.irem, 1) := by decide +kernel
theorem dX1_pair_131 : decode cX1_pair 131 = .ok (.invokevirtual 81, 3) := by decide +kernel
theorem dX1_pair_134 : decode cX1_pair 134 = .ok (.ifCond .eq 17, 3) := by decide +kernel
theorem dX1_pair_137 : decode cX1_pair 137 = .ok (.aload_n 0, 1) := by decide +kernel
theorem dX1_pair_138 : decode cX1_pair 138 = .ok (.iload_n 1, 1) := by decide +kernel
theorem dX1_pair_139 : decode cX1_pair 139 = .ok (.iload_n 2, 1) := by decide +kernel
theorem dX1_pair_14 : decode cX1_pair 14 = .ok (.ireturn, 1) := by decide +kernel
theorem dX1_pair_140 : decode cX1_pair 140 = .ok (.iconst 1, 1) := by decide +kernel
theorem dX1_pair_141 : decode cX1_pair 141 = .ok (.invokevirtual 84, 3) := by decide +kernel
theorem dX1_pair_144 : decode cX1_pair 144 = .ok (.ifCond .eq 7, 3) := by decide +kernel
theorem dX1_pair_147 : decode cX1_pair 147 = .ok (.iconst 1, 1) := by decide +kernel
theorem dX1_pair_148 : decode cX1_pair 148 = .ok (.goto 4, 3) := by decide +kernel
theorem dX1_pair_15 : decode cX1_pair 15 = .ok (.aload_n 0, 1) := by decide +kernel
theorem dX1_pair_151 : decode cX1_pair 151 = .ok (.iconst 0, 1) := by decide +kernel
theorem dX1_pair_152 : decode cX1_pair 152 = .ok (.ireturn, 1) := by decide +kernel
theorem dX1_pair_16 : decode cX1_pair 16 = .ok (.iload_n 1, 1) := by decide +kernel
theorem dX1_pair_17 : decode cX1_pair 17 = .ok (.invokevirtual 71, 3) := by decide +kernel
theorem dX1_pair_2 : decode cX1_pair 2 = .ok (.invokevirtual 68, 3) := by decide +kernel
theorem dX1_pair_20 : decode cX1_pair 20 = .ok (.ifCond .ne 11, 3) := by decide +kernel
theorem dX1_pair_23 : decode cX1_pair 23 = .ok (.aload_n 0, 1) := by decide +kernel
theorem dX1_pair_24 : decode cX1_pair 24 = .ok (.iload_n 2, 1) := by decide +kernel
theorem dX1_pair_25 : decode cX1_pair 25 = .ok (.invokevirtual 71, 3) := by decide +kernel
theorem dX1_pair_28 : decode cX1_pair 28 = .ok (.ifCond .eq 89, 3) := by decide +kernel
theorem dX1_pair_31 : decode cX1_pair 31 = .ok (.aload_n 0, 1) := by decide +kernel
theorem dX1_pair_32 : decode cX1_pair 32 = .ok (.iload_n 1, 1) := by decide +kernel
theorem dX1_pair_33 : decode cX1_pair 33 = .ok (.invokevirtual 71, 3) := by decide +kernel
theorem dX1_pair_36 : decode cX1_pair 36 = .ok (.istore_n 3, 1) := by decide +kernel
theorem dX1_pair_37 : decode cX1_pair 37 = .ok (.aload_n 0, 1) := by decide +kernel
theorem dX1_pair_38 : decode cX1_pair 38 = .ok (.iload_n 3, 1) := by decide +kernel
theorem dX1_pair_39 : decode cX1_pair 39 = .ok (.ifCond .eq 7, 3) := by decide +kernel
theorem dX1_pair_42 : decode cX1_pair 42 = .ok (.iload_n 1, 1) := by decide +kernel
theorem dX1_pair_43 : decode cX1_pair 43 = .ok (.goto 4, 3) := by decide +kernel
theorem dX1_pair_46 : decode cX1_pair 46 = .ok (.iload_n 2, 1) := by decide +kernel
theorem dX1_pair_47 : decode cX1_pair 47 = .ok (.invokevirtual 75, 3) := by decide +kernel
theorem dX1_pair_5 : decode cX1_pair 5 = .ok (.aload_n 0, 1) := by decide +kernel
theorem dX1_pair_50 : decode cX1_pair 50 = .ok (.istore 4, 2) := by decide +kernel
theorem dX1_pair_52 : decode cX1_pair 52 = .ok (.iload_n 3, 1) := by decide +kernel
theorem dX1_pair_53 : decode cX1_pair 53 = .ok (.ifCond .eq 7, 3) := by decide +kernel
theorem dX1_pair_56 : decode cX1_pair 56 = .ok (.iload_n 2, 1) := by decide +kernel
theorem dX1_pair_57 : decode cX1_pair 57 = .ok (.goto 4, 3) := by decide +kernel
theorem dX1_pair_6 : decode cX1_pair 6 = .ok (.iload_n 2, 1) := by decide +kernel
theorem dX1_pair_60 : decode cX1_pair 60 = .ok (.iload_n 1, 1) := by decide +kernel
theorem dX1_pair_61 : decode cX1_pair 61 = .ok (.istore 5, 2) := by decide +kernel
theorem dX1_pair_63 : decode cX1_pair 63 = .ok (.aload_n 0, 1) := by decide +kernel
theorem dX1_pair_64 : decode cX1_pair 64 = .ok (.getfield 40, 3) := by decide +kernel
theorem dX1_pair_67 : decode cX1_pair 67 = .ok (.sipush 256, 3) := by decide +kernel
theorem dX1_pair_7 : decode cX1_pair 7 = .ok (.invokevirtual 68, 3) := by decide +kernel
theorem dX1_pair_70 : decode cX1_pair 70 = .ok (.if_icmp .ge 14, 3) := by decide +kernel
theorem dX1_pair_73 : decode cX1_pair 73 = .ok (.aload_n 0, 1) := by decide +kernel
theorem dX1_pair_74 : decode cX1_pair 74 = .ok (.iload 5, 2) := by decide +kernel
theorem dX1_pair_76 : decode cX1_pair 76 = .ok (.iload 4, 2) := by decide +kernel
theorem dX1_pair_78 : decode cX1_pair 78 = .ok (.invokevirtual 78, 3) := by decide +kernel
theorem dX1_pair_81 : decode cX1_pair 81 = .ok (.ifCond .eq 5, 3) := by decide +kernel
theorem dX1_pair_84 : decode cX1_pair 84 = .ok (.iconst 0, 1) := by decide +kernel
theorem dX1_pair_85 : decode cX1_pair 85 = .ok (.ireturn, 1) := by decide +kernel
theorem dX1_pair_86 : decode cX1_pair 86 = .ok (.aload_n 0, 1) := by decide +kernel
theorem dX1_pair_87 : decode cX1_pair 87 = .ok (.getfield 9, 3) := by decide +kernel
theorem dX1_pair_90 : decode cX1_pair 90 = .ok (.iload 4, 2) := by decide +kernel
theorem dX1_pair_92 : decode cX1_pair 92 = .ok (.iload 5, 2) := by decide +kernel
theorem dX1_pair_94 : decode cX1_pair 94 = .ok (.iconst 1, 1) := by decide +kernel
theorem dX1_pair_95 : decode cX1_pair 95 = .ok (.iadd, 1) := by decide +kernel
theorem dX1_pair_96 : decode cX1_pair 96 = .ok (.iastore, 1) := by decide +kernel
theorem dX1_pair_97 : decode cX1_pair 97 = .ok (.aload_n 0, 1) := by decide +kernel
theorem dX1_pair_98 : decode cX1_pair 98 = .ok (.getfield 15, 3) := by decide +kernel
theorem dX1_parts_0 : decode cX1_parts 0 = .ok (.iconst 0, 1) := by decide +kernel
theorem dX1_parts_1 : decode cX1_parts 1 = .ok (.istore_n 3, 1) := by decide +kernel
theorem dX1_parts_10 : decode cX1_parts 10 = .ok (.iload_n 1, 1) := by decide +kernel
theorem dX1_parts_100 : decode cX1_parts 100 = .ok (.iinc 4 1, 3) := by decide +kernel
theorem dX1_parts_103 : decode cX1_parts 103 = .ok (.iload 6, 2) := by decide +kernel
theorem dX1_parts_105 : decode cX1_parts 105 = .ok (.iload 7, 2) := by decide +kernel
theorem dX1_parts_107 : decode cX1_parts 107 = .ok (.isub, 1) := by decide +kernel
theorem dX1_parts_108 : decode cX1_parts 108 = .ok (.aload_n 0, 1) := by decide +kernel
theorem dX1_parts_109 : decode cX1_parts 109 = .ok (.getfield 36, 3) := by decide +kernel
theorem dX1_parts_11 : decode cX1_parts 11 = .ok (.iastore, 1) := by decide +kernel
theorem dX1_parts_112 : decode cX1_parts 112 = .ok (.getfield 91, 3) := by decide +kernel
theorem dX1_parts_115 : decode cX1_parts 115 = .ok (.iload 7, 2) := by decide +kernel
theorem dX1_parts_117 : decode cX1_parts 117 = .ok (.iconst 3, 1) := by decide +kernel
theorem dX1_parts_118 : decode cX1_parts 118 = .ok (.imul, 1) := by decide +kernel
theorem dX1_parts_119 : decode cX1_parts 119 = .ok (.iload 8, 2) := by decide +kernel
theorem dX1_parts_12 : decode cX1_parts 12 = .ok (.iconst 0, 1) := by decide +kernel
theorem dX1_parts_121 : decode cX1_parts 121 = .ok (.iadd, 1) := by decide +kernel
theorem dX1_parts_122 : decode cX1_parts 122 = .ok (.iaload, 1) := by decide +kernel
theorem dX1_parts_123 : decode cX1_parts 123 = .ok (.iadd, 1) := by decide +kernel
theorem dX1_parts_124 : decode cX1_parts 124 = .ok (.iastore, 1) := by decide +kernel
theorem dX1_parts_125 : decode cX1_parts 125 = .ok (.iinc 8 1, 3) := by decide +kernel
theorem dX1_parts_128 : decode cX1_parts 128 = .ok (.goto (-49), 3) := by decide +kernel
theorem dX1_parts_13 : decode cX1_parts 13 = .ok (.istore 5, 2) := by decide +kernel
theorem dX1_parts_131 : decode cX1_parts 131 = .ok (.iinc 5 1, 3) := by decide +kernel
theorem dX1_parts_134 : decode cX1_parts 134 = .ok (.goto (-119), 3) := by decide +kernel
theorem dX1_parts_137 : decode cX1_parts 137 = .ok (.iload_n 3, 1) := by decide +kernel
theorem dX1_parts_138 : decode cX1_parts 138 = .ok (.ireturn, 1) := by decide +kernel
theorem dX1_parts_15 : decode cX1_parts 15 = .ok (.iload 5, 2) := by decide +kernel
theorem dX1_parts_17 : decode cX1_parts 17 = .ok (.ldc 55, 2) := by decide +kernel
theorem dX1_parts_19 : decode cX1_parts 19 = .ok (.if_icmp .ge 118, 3) := by decide +kernel
theorem dX1_parts_2 : decode cX1_parts 2 = .ok (.iconst 1, 1) := by decide +kernel
theorem dX1_parts_22 : decode cX1_parts 22 = .ok (.iload 4, 2) := by decide +kernel
theorem dX1_parts_24 : decode cX1_parts 24 = .ok (.ifCond .le 113, 3) := by decide +kernel
theorem dX1_parts_27 : decode cX1_parts 27 = .ok (.iload_n 3, 1) := by decide +kernel
theorem dX1_parts_28 : decode cX1_parts 28 = .ok (.iload 4, 2) := by decide +kernel
theorem dX1_parts_3 : decode cX1_parts 3 = .ok (.istore 4, 2) := by decide +kernel
theorem dX1_parts_30 : decode cX1_parts 30 = .ok (.iadd, 1) := by decide +kernel
theorem dX1_parts_31 : decode cX1_parts 31 = .ok (.iload_n 2, 1) := by decide +kernel
theorem dX1_parts_32 : decode cX1_parts 32 = .ok (.if_icmp .gt 13, 3) := by decide +kernel
theorem dX1_parts_35 : decode cX1_parts 35 = .ok (.iload 4, 2) := by decide +kernel
theorem dX1_parts_37 : decode cX1_parts 37 = .ok (.iconst 3, 1) := by decide +kernel
theorem dX1_parts_38 : decode cX1_parts 38 = .ok (.iadd, 1) := by decide +kernel
theorem dX1_parts_39 : decode cX1_parts 39 = .ok (.sipush 2048, 3) := by decide +kernel
theorem dX1_parts_42 : decode cX1_parts 42 = .ok (.if_icmp .le 7, 3) := by decide +kernel
theorem dX1_parts_45 : decode cX1_parts 45 = .ok (.iload_n 2, 1) := by decide +kernel
theorem dX1_parts_46 : decode cX1_parts 46 = .ok (.iconst 1, 1) := by decide +kernel
theorem dX1_parts_47 : decode cX1_parts 47 = .ok (.iadd, 1) := by decide +kernel
theorem dX1_parts_48 : decode cX1_parts 48 = .ok (.ireturn, 1) := by decide +kernel
theorem dX1_parts_49 : decode cX1_parts 49 = .ok (.iinc 4 (-1), 3) := by decide +kernel
theorem dX1_parts_5 : decode cX1_parts 5 = .ok (.aload_n 0, 1) := by decide +kernel
theorem dX1_parts_52 : decode cX1_parts 52 = .ok (.iinc 3 1, 3) := by decide +kernel
theorem dX1_parts_55 : decode cX1_parts 55 = .ok (.aload_n 0, 1) := by decide +kernel
theorem dX1_parts_56 : decode cX1_parts 56 = .ok (.aload_n 0, 1) := by decide +kernel
theorem dX1_parts_57 : decode cX1_parts 57 = .ok (.getfield 30, 3) := by decide +kernel
theorem dX1_parts_6 : decode cX1_parts 6 = .ok (.getfield 30, 3) := by decide +kernel
theorem dX1_parts_60 : decode cX1_parts 60 = .ok (.iload 4, 2) := by decide +kernel
theorem dX1_parts_62 : decode cX1_parts 62 = .ok (.iaload, 1) := by decide +kernel
theorem dX1_parts_63 : decode cX1_parts 63 = .ok (.invokevirtual 60, 3) := by decide +kernel
theorem dX1_parts_66 : decode cX1_parts 66 = .ok (.istore 6, 2) := by decide +kernel
theorem dX1_parts_68 : decode cX1_parts 68 = .ok (.iload 6, 2) := by decide +kernel
theorem dX1_parts_70 : decode cX1_parts 70 = .ok (.sipush 300, 3) := by decide +kernel
theorem dX1_parts_73 : decode cX1_parts 73 = .ok (.irem, 1) := by decide +kernel
theorem dX1_parts_74 : decode cX1_parts 74 = .ok (.istore 7, 2) := by decide +kernel
theorem dX1_parts_76 : decode cX1_parts 76 = .ok (.iconst 0, 1) := by decide +kernel
theorem dX1_parts_77 : decode cX1_parts 77 = .ok (.istore 8, 2) := by decide +kernel
theorem dX1_parts_79 : decode cX1_parts 79 = .ok (.iload 8, 2) := by decide +kernel
theorem dX1_parts_81 : decode cX1_parts 81 = .ok (.aload_n 0, 1) := by decide +kernel
theorem dX1_parts_82 : decode cX1_parts 82 = .ok (.getfield 36, 3) := by decide +kernel
theorem dX1_parts_85 : decode cX1_parts 85 = .ok (.getfield 88, 3) := by decide +kernel
theorem dX1_parts_88 : decode cX1_parts 88 = .ok (.iload 7, 2) := by decide +kernel
theorem dX1_parts_9 : decode cX1_parts 9 = .ok (.iconst 0, 1) := by decide +kernel
theorem dX1_parts_90 : decode cX1_parts 90 = .ok (.iaload, 1) := by decide +kernel
theorem dX1_parts_91 : decode cX1_parts 91 = .ok (.if_icmp .ge 40, 3) := by decide +kernel
theorem dX1_parts_94 : decode cX1_parts 94 = .ok (.aload_n 0, 1) := by decide +kernel
theorem dX1_parts_95 : decode cX1_parts 95 = .ok (.getfield 30, 3) := by decide +kernel
theorem dX1_parts_98 : decode cX1_parts 98 = .ok (.iload 4, 2) := by decide +kernel
theorem dX1_pushTerms_0 : decode cX1_pushTerms 0 = .ok (.iload_n 1, 1) := by decide +kernel
theorem dX1_pushTerms_1 : decode cX1_pushTerms 1 = .ok (.sipush 300, 3) := by decide +kernel
theorem dX1_pushTerms_100 : decode cX1_pushTerms 100 = .ok (.iload_n 1, 1) := by decide +kernel
theorem dX1_pushTerms_101 : decode cX1_pushTerms 101 = .ok (.iload 4, 2) := by decide +kernel
theorem dX1_pushTerms_103 : decode cX1_pushTerms 103 = .ok (.isub, 1) := by decide +kernel
theorem dX1_pushTerms_104 : decode cX1_pushTerms 104 = .ok (.aload_n 0, 1) := by decide +kernel
theorem dX1_pushTerms_105 : decode cX1_pushTerms 105 = .ok (.getfield 36, 3) := by decide +kernel
theorem dX1_pushTerms_108 : decode cX1_pushTerms 108 = .ok (.getfield 91, 3) := by decide +kernel
theorem dX1_pushTerms_11 : decode cX1_pushTerms 11 = .ok (.irem, 1) := by decide +kernel
theorem dX1_pushTerms_111 : decode cX1_pushTerms 111 = .ok (.iload 4, 2) := by decide +kernel
theorem dX1_pushTerms_113 : decode cX1_pushTerms 113 = .ok (.iconst 3, 1) := by decide +kernel
theorem dX1_pushTerms_114 : decode cX1_pushTerms 114 = .ok (.imul, 1) := by decide +kernel
theorem dX1_pushTerms_115 : decode cX1_pushTerms 115 = .ok (.iload 7, 2) := by decide +kernel
theorem dX1_pushTerms_117 : decode cX1_pushTerms 117 = .ok (.iadd, 1) := by decide +kernel
theorem dX1_pushTerms_118 : decode cX1_pushTerms 118 = .ok (.iaload, 1) := by decide +kernel
theorem dX1_pushTerms_119 : decode cX1_pushTerms 119 = .ok (.iadd, 1) := by decide +kernel
theorem dX1_pushTerms_12 : decode cX1_pushTerms 12 = .ok (.istore 5, 2) := by decide +kernel
theorem dX1_pushTerms_120 : decode cX1_pushTerms 120 = .ok (.iastore, 1) := by decide +kernel
theorem dX1_pushTerms_121 : decode cX1_pushTerms 121 = .ok (.aload_n 0, 1) := by decide +kernel
theorem dX1_pushTerms_122 : decode cX1_pushTerms 122 = .ok (.getfield 27, 3) := by decide +kernel
theorem dX1_pushTerms_125 : decode cX1_pushTerms 125 = .ok (.aload_n 0, 1) := by decide +kernel
theorem dX1_pushTerms_126 : decode cX1_pushTerms 126 = .ok (.dup, 1) := by decide +kernel
theorem dX1_pushTerms_127 : decode cX1_pushTerms 127 = .ok (.getfield 49, 3) := by decide +kernel
theorem dX1_pushTerms_130 : decode cX1_pushTerms 130 = .ok (.dup_x1, 1) := by decide +kernel
theorem dX1_pushTerms_131 : decode cX1_pushTerms 131 = .ok (.iconst 1, 1) := by decide +kernel
theorem dX1_pushTerms_132 : decode cX1_pushTerms 132 = .ok (.iadd, 1) := by decide +kernel
theorem dX1_pushTerms_133 : decode cX1_pushTerms 133 = .ok (.putfield 49, 3) := by decide +kernel
theorem dX1_pushTerms_136 : decode cX1_pushTerms 136 = .ok (.iload_n 2, 1) := by decide +kernel
theorem dX1_pushTerms_137 : decode cX1_pushTerms 137 = .ok (.iload 5, 2) := by decide +kernel
theorem dX1_pushTerms_139 : decode cX1_pushTerms 139 = .ok (.isub, 1) := by decide +kernel
theorem dX1_pushTerms_14 : decode cX1_pushTerms 14 = .ok (.aload_n 0, 1) := by decide +kernel
theorem dX1_pushTerms_140 : decode cX1_pushTerms 140 = .ok (.aload_n 0, 1) := by decide +kernel
theorem dX1_pushTerms_141 : decode cX1_pushTerms 141 = .ok (.getfield 36, 3) := by decide +kernel
theorem dX1_pushTerms_144 : decode cX1_pushTerms 144 = .ok (.getfield 91, 3) := by decide +kernel
theorem dX1_pushTerms_147 : decode cX1_pushTerms 147 = .ok (.iload 5, 2) := by decide +kernel
theorem dX1_pushTerms_149 : decode cX1_pushTerms 149 = .ok (.iconst 3, 1) := by decide +kernel
theorem dX1_pushTerms_15 : decode cX1_pushTerms 15 = .ok (.getfield 36, 3) := by decide +kernel
theorem dX1_pushTerms_150 : decode cX1_pushTerms 150 = .ok (.imul, 1) := by decide +kernel
theorem dX1_pushTerms_151 : decode cX1_pushTerms 151 = .ok (.iload 7, 2) := by decide +kernel
theorem dX1_pushTerms_153 : decode cX1_pushTerms 153 = .ok (.iadd, 1) := by decide +kernel
theorem dX1_pushTerms_154 : decode cX1_pushTerms 154 = .ok (.iaload, 1) := by decide +kernel
theorem dX1_pushTerms_155 : decode cX1_pushTerms 155 = .ok (.iadd, 1) := by decide +kernel
theorem dX1_pushTerms_156 : decode cX1_pushTerms 156 = .ok (.iastore, 1) := by decide +kernel
theorem dX1_pushTerms_157 : decode cX1_pushTerms 157 = .ok (.iinc 7 (-1), 3) := by decide +kernel
theorem dX1_pushTerms_160 : decode cX1_pushTerms 160 = .ok (.goto (-73), 3) := by decide +kernel
theorem dX1_pushTerms_163 : decode cX1_pushTerms 163 = .ok (.iconst 1, 1) := by decide +kernel
theorem dX1_pushTerms_164 : decode cX1_pushTerms 164 = .ok (.ireturn, 1) := by decide +kernel
theorem dX1_pushTerms_18 : decode cX1_pushTerms 18 = .ok (.getfield 88, 3) := by decide +kernel
theorem dX1_pushTerms_21 : decode cX1_pushTerms 21 = .ok (.iload 4, 2) := by decide +kernel
theorem dX1_pushTerms_23 : decode cX1_pushTerms 23 = .ok (.iaload, 1) := by decide +kernel
theorem dX1_pushTerms_24 : decode cX1_pushTerms 24 = .ok (.istore 6, 2) := by decide +kernel
theorem dX1_pushTerms_26 : decode cX1_pushTerms 26 = .ok (.aload_n 0, 1) := by decide +kernel
theorem dX1_pushTerms_27 : decode cX1_pushTerms 27 = .ok (.getfield 49, 3) := by decide +kernel
theorem dX1_pushTerms_30 : decode cX1_pushTerms 30 = .ok (.iload 6, 2) := by decide +kernel
theorem dX1_pushTerms_32 : decode cX1_pushTerms 32 = .ok (.iadd, 1) := by decide +kernel
theorem dX1_pushTerms_33 : decode cX1_pushTerms 33 = .ok (.iconst 1, 1) := by decide +kernel
theorem dX1_pushTerms_34 : decode cX1_pushTerms 34 = .ok (.iadd, 1) := by decide +kernel
theorem dX1_pushTerms_35 : decode cX1_pushTerms 35 = .ok (.sipush 2048, 3) := by decide +kernel
theorem dX1_pushTerms_38 : decode cX1_pushTerms 38 = .ok (.if_icmp .le 5, 3) := by decide +kernel
theorem dX1_pushTerms_4 : decode cX1_pushTerms 4 = .ok (.irem, 1) := by decide +kernel
theorem dX1_pushTerms_41 : decode cX1_pushTerms 41 = .ok (.iconst 0, 1) := by decide +kernel
theorem dX1_pushTerms_42 : decode cX1_pushTerms 42 = .ok (.ireturn, 1) := by decide +kernel
theorem dX1_pushTerms_43 : decode cX1_pushTerms 43 = .ok (.iload_n 3, 1) := by decide +kernel
theorem dX1_pushTerms_44 : decode cX1_pushTerms 44 = .ok (.ifCond .eq 37, 3) := by decide +kernel
theorem dX1_pushTerms_47 : decode cX1_pushTerms 47 = .ok (.iload 6, 2) := by decide +kernel
theorem dX1_pushTerms_49 : decode cX1_pushTerms 49 = .ok (.ifCond .le 32, 3) := by decide +kernel
theorem dX1_pushTerms_5 : decode cX1_pushTerms 5 = .ok (.istore 4, 2) := by decide +kernel
theorem dX1_pushTerms_52 : decode cX1_pushTerms 52 = .ok (.aload_n 0, 1) := by decide +kernel
theorem dX1_pushTerms_53 : decode cX1_pushTerms 53 = .ok (.getfield 24, 3) := by decide +kernel
theorem dX1_pushTerms_56 : decode cX1_pushTerms 56 = .ok (.aload_n 0, 1) := by decide +kernel
theorem dX1_pushTerms_57 : decode cX1_pushTerms 57 = .ok (.getfield 49, 3) := by decide +kernel
theorem dX1_pushTerms_60 : decode cX1_pushTerms 60 = .ok (.iconst (-1), 1) := by decide +kernel
theorem dX1_pushTerms_61 : decode cX1_pushTerms 61 = .ok (.iload_n 1, 1) := by decide +kernel
theorem dX1_pushTerms_62 : decode cX1_pushTerms 62 = .ok (.isub, 1) := by decide +kernel
theorem dX1_pushTerms_63 : decode cX1_pushTerms 63 = .ok (.iastore, 1) := by decide +kernel
theorem dX1_pushTerms_64 : decode cX1_pushTerms 64 = .ok (.aload_n 0, 1) := by decide +kernel
theorem dX1_pushTerms_65 : decode cX1_pushTerms 65 = .ok (.getfield 27, 3) := by decide +kernel
theorem dX1_pushTerms_68 : decode cX1_pushTerms 68 = .ok (.aload_n 0, 1) := by decide +kernel
theorem dX1_pushTerms_69 : decode cX1_pushTerms 69 = .ok (.dup, 1) := by decide +kernel
theorem dX1_pushTerms_7 : decode cX1_pushTerms 7 = .ok (.iload_n 2, 1) := by decide +kernel
theorem dX1_pushTerms_70 : decode cX1_pushTerms 70 = .ok (.getfield 49, 3) := by decide +kernel
theorem dX1_pushTerms_73 : decode cX1_pushTerms 73 = .ok (.dup_x1, 1) := by decide +kernel
theorem dX1_pushTerms_74 : decode cX1_pushTerms 74 = .ok (.iconst 1, 1) := by decide +kernel
theorem dX1_pushTerms_75 : decode cX1_pushTerms 75 = .ok (.iadd, 1) := by decide +kernel
theorem dX1_pushTerms_76 : decode cX1_pushTerms 76 = .ok (.putfield 49, 3) := by decide +kernel
theorem dX1_pushTerms_79 : decode cX1_pushTerms 79 = .ok (.iload_n 2, 1) := by decide +kernel
theorem dX1_pushTerms_8 : decode cX1_pushTerms 8 = .ok (.sipush 300, 3) := by decide +kernel
theorem dX1_pushTerms_80 : decode cX1_pushTerms 80 = .ok (.iastore, 1) := by decide +kernel
theorem dX1_pushTerms_81 : decode cX1_pushTerms 81 = .ok (.iload 6, 2) := by decide +kernel
theorem dX1_pushTerms_83 : decode cX1_pushTerms 83 = .ok (.iconst 1, 1) := by decide +kernel
theorem dX1_pushTerms_84 : decode cX1_pushTerms 84 = .ok (.isub, 1) := by decide +kernel
theorem dX1_pushTerms_85 : decode cX1_pushTerms 85 = .ok (.istore 7, 2) := by decide +kernel
theorem dX1_pushTerms_87 : decode cX1_pushTerms 87 = .ok (.iload 7, 2) := by decide +kernel
theorem dX1_pushTerms_89 : decode cX1_pushTerms 89 = .ok (.ifCond .lt 74, 3) := by decide +kernel
theorem dX1_pushTerms_92 : decode cX1_pushTerms 92 = .ok (.aload_n 0, 1) := by decide +kernel
theorem dX1_pushTerms_93 : decode cX1_pushTerms 93 = .ok (.getfield 24, 3) := by decide +kernel
theorem dX1_pushTerms_96 : decode cX1_pushTerms 96 = .ok (.aload_n 0, 1) := by decide +kernel
theorem dX1_pushTerms_97 : decode cX1_pushTerms 97 = .ok (.getfield 49, 3) := by decide +kernel
theorem dX1_root_0 : decode cX1_root 0 = .ok (.iload_n 1, 1) := by decide +kernel
theorem dX1_root_1 : decode cX1_root 1 = .ok (.istore_n 2, 1) := by decide +kernel
theorem dX1_root_11 : decode cX1_root 11 = .ok (.aload_n 0, 1) := by decide +kernel
theorem dX1_root_12 : decode cX1_root 12 = .ok (.getfield 18, 3) := by decide +kernel
theorem dX1_root_15 : decode cX1_root 15 = .ok (.iload_n 2, 1) := by decide +kernel
theorem dX1_root_16 : decode cX1_root 16 = .ok (.iaload, 1) := by decide +kernel
theorem dX1_root_17 : decode cX1_root 17 = .ok (.ifCond .eq 18, 3) := by decide +kernel
theorem dX1_root_2 : decode cX1_root 2 = .ok (.iconst 0, 1) := by decide +kernel
theorem dX1_root_20 : decode cX1_root 20 = .ok (.aload_n 0, 1) := by decide +kernel
theorem dX1_root_21 : decode cX1_root 21 = .ok (.getfield 18, 3) := by decide +kernel
theorem dX1_root_24 : decode cX1_root 24 = .ok (.iload_n 2, 1) := by decide +kernel
theorem dX1_root_25 : decode cX1_root 25 = .ok (.iaload, 1) := by decide +kernel
theorem dX1_root_26 : decode cX1_root 26 = .ok (.iconst 1, 1) := by decide +kernel
theorem dX1_root_27 : decode cX1_root 27 = .ok (.isub, 1) := by decide +kernel
theorem dX1_root_28 : decode cX1_root 28 = .ok (.istore_n 2, 1) := by decide +kernel
theorem dX1_root_29 : decode cX1_root 29 = .ok (.iinc 3 1, 3) := by decide +kernel
theorem dX1_root_3 : decode cX1_root 3 = .ok (.istore_n 3, 1) := by decide +kernel
theorem dX1_root_32 : decode cX1_root 32 = .ok (.goto (-28), 3) := by decide +kernel
theorem dX1_root_35 : decode cX1_root 35 = .ok (.iload_n 2, 1) := by decide +kernel
theorem dX1_root_36 : decode cX1_root 36 = .ok (.ireturn, 1) := by decide +kernel
theorem dX1_root_4 : decode cX1_root 4 = .ok (.iload_n 3, 1) := by decide +kernel
theorem dX1_root_5 : decode cX1_root 5 = .ok (.sipush 1024, 3) := by decide +kernel
theorem dX1_root_8 : decode cX1_root 8 = .ok (.if_icmp .ge 27, 3) := by decide +kernel
theorem dX1_undo_0 : decode cX1_undo 0 = .ok (.aload_n 0, 1) := by decide +kernel
theorem dX1_undo_1 : decode cX1_undo 1 = .ok (.getfield 40, 3) := by decide +kernel
theorem dX1_undo_12 : decode cX1_undo 12 = .ok (.ifCond .le 31, 3) := by decide +kernel
theorem dX1_undo_15 : decode cX1_undo 15 = .ok (.aload_n 0, 1) := by decide +kernel
theorem dX1_undo_16 : decode cX1_undo 16 = .ok (.dup, 1) := by decide +kernel
theorem dX1_undo_17 : decode cX1_undo 17 = .ok (.getfield 40, 3) := by decide +kernel
theorem dX1_undo_20 : decode cX1_undo 20 = .ok (.iconst 1, 1) := by decide +kernel
theorem dX1_undo_21 : decode cX1_undo 21 = .ok (.isub, 1) := by decide +kernel
theorem dX1_undo_22 : decode cX1_undo 22 = .ok (.putfield 40, 3) := by decide +kernel
theorem dX1_undo_25 : decode cX1_undo 25 = .ok (.aload_n 0, 1) := by decide +kernel
theorem dX1_undo_26 : decode cX1_undo 26 = .ok (.getfield 9, 3) := by decide +kernel
theorem dX1_undo_29 : decode cX1_undo 29 = .ok (.aload_n 0, 1) := by decide +kernel
theorem dX1_undo_30 : decode cX1_undo 30 = .ok (.getfield 15, 3) := by decide +kernel
theorem dX1_undo_33 : decode cX1_undo 33 = .ok (.aload_n 0, 1) := by decide +kernel
theorem dX1_undo_34 : decode cX1_undo 34 = .ok (.getfield 40, 3) := by decide +kernel
theorem dX1_undo_37 : decode cX1_undo 37 = .ok (.iaload, 1) := by decide +kernel
theorem dX1_undo_38 : decode cX1_undo 38 = .ok (.iconst 0, 1) := by decide +kernel
theorem dX1_undo_39 : decode cX1_undo 39 = .ok (.iastore, 1) := by decide +kernel
theorem dX1_undo_4 : decode cX1_undo 4 = .ok (.iload_n 1, 1) := by decide +kernel
theorem dX1_undo_40 : decode cX1_undo 40 = .ok (.goto (-40), 3) := by decide +kernel
theorem dX1_undo_43 : decode cX1_undo 43 = .ok (.return_, 1) := by decide +kernel
theorem dX1_undo_5 : decode cX1_undo 5 = .ok (.if_icmp .le 38, 3) := by decide +kernel
theorem dX1_undo_8 : decode cX1_undo 8 = .ok (.aload_n 0, 1) := by decide +kernel
theorem dX1_undo_9 : decode cX1_undo 9 = .ok (.getfield 40, 3) := by decide +kernel
theorem dX1_unify_0 : decode cX1_unify 0 = .ok (.aload_n 0, 1) := by decide +kernel
theorem dX1_unify_1 : decode cX1_unify 1 = .ok (.getfield 24, 3) := by decide +kernel
theorem dX1_unify_102 : decode cX1_unify 102 = .ok (.aload_n 0, 1) := by decide +kernel
theorem dX1_unify_103 : decode cX1_unify 103 = .ok (.getfield 49, 3) := by decide +kernel
theorem dX1_unify_106 : decode cX1_unify 106 = .ok (.iaload, 1) := by decide +kernel
theorem dX1_unify_107 : decode cX1_unify 107 = .ok (.invokevirtual 60, 3) := by decide +kernel
theorem dX1_unify_11 : decode cX1_unify 11 = .ok (.iconst 0, 1) := by decide +kernel
theorem dX1_unify_110 : decode cX1_unify 110 = .ok (.aload_n 0, 1) := by decide +kernel
theorem dX1_unify_111 : decode cX1_unify 111 = .ok (.aload_n 0, 1) := by decide +kernel
theorem dX1_unify_112 : decode cX1_unify 112 = .ok (.getfield 27, 3) := by decide +kernel
theorem dX1_unify_115 : decode cX1_unify 115 = .ok (.aload_n 0, 1) := by decide +kernel
theorem dX1_unify_116 : decode cX1_unify 116 = .ok (.getfield 49, 3) := by decide +kernel
theorem dX1_unify_119 : decode cX1_unify 119 = .ok (.iaload, 1) := by decide +kernel
theorem dX1_unify_12 : decode cX1_unify 12 = .ok (.iload_n 2, 1) := by decide +kernel
theorem dX1_unify_120 : decode cX1_unify 120 = .ok (.invokevirtual 60, 3) := by decide +kernel
theorem dX1_unify_123 : decode cX1_unify 123 = .ok (.invokevirtual 64, 3) := by decide +kernel
theorem dX1_unify_126 : decode cX1_unify 126 = .ok (.istore_n 3, 1) := by decide +kernel
theorem dX1_unify_127 : decode cX1_unify 127 = .ok (.iinc 4 1, 3) := by decide +kernel
theorem dX1_unify_13 : decode cX1_unify 13 = .ok (.iastore, 1) := by decide +kernel
theorem dX1_unify_130 : decode cX1_unify 130 = .ok (.goto (-101), 3) := by decide +kernel
theorem dX1_unify_133 : decode cX1_unify 133 = .ok (.iconst 0, 1) := by decide +kernel
theorem dX1_unify_134 : decode cX1_unify 134 = .ok (.istore 4, 2) := by decide +kernel
theorem dX1_unify_136 : decode cX1_unify 136 = .ok (.iload 4, 2) := by decide +kernel
theorem dX1_unify_138 : decode cX1_unify 138 = .ok (.aload_n 0, 1) := by decide +kernel
theorem dX1_unify_139 : decode cX1_unify 139 = .ok (.getfield 52, 3) := by decide +kernel
theorem dX1_unify_14 : decode cX1_unify 14 = .ok (.aload_n 0, 1) := by decide +kernel
theorem dX1_unify_142 : decode cX1_unify 142 = .ok (.if_icmp .ge 22, 3) := by decide +kernel
theorem dX1_unify_145 : decode cX1_unify 145 = .ok (.aload_n 0, 1) := by decide +kernel
theorem dX1_unify_146 : decode cX1_unify 146 = .ok (.getfield 18, 3) := by decide +kernel
theorem dX1_unify_149 : decode cX1_unify 149 = .ok (.aload_n 0, 1) := by decide +kernel
theorem dX1_unify_15 : decode cX1_unify 15 = .ok (.iconst 1, 1) := by decide +kernel
theorem dX1_unify_150 : decode cX1_unify 150 = .ok (.getfield 21, 3) := by decide +kernel
theorem dX1_unify_153 : decode cX1_unify 153 = .ok (.iload 4, 2) := by decide +kernel
theorem dX1_unify_155 : decode cX1_unify 155 = .ok (.iaload, 1) := by decide +kernel
theorem dX1_unify_156 : decode cX1_unify 156 = .ok (.iconst 0, 1) := by decide +kernel
theorem dX1_unify_157 : decode cX1_unify 157 = .ok (.iastore, 1) := by decide +kernel
theorem dX1_unify_158 : decode cX1_unify 158 = .ok (.iinc 4 1, 3) := by decide +kernel
theorem dX1_unify_16 : decode cX1_unify 16 = .ok (.putfield 49, 3) := by decide +kernel
theorem dX1_unify_161 : decode cX1_unify 161 = .ok (.goto (-25), 3) := by decide +kernel
theorem dX1_unify_164 : decode cX1_unify 164 = .ok (.iload_n 3, 1) := by decide +kernel
theorem dX1_unify_165 : decode cX1_unify 165 = .ok (.ifCond .eq 14, 3) := by decide +kernel
theorem dX1_unify_168 : decode cX1_unify 168 = .ok (.aload_n 0, 1) := by decide +kernel
theorem dX1_unify_169 : decode cX1_unify 169 = .ok (.getfield 49, 3) := by decide +kernel
theorem dX1_unify_172 : decode cX1_unify 172 = .ok (.ifCond .ne 7, 3) := by decide +kernel
theorem dX1_unify_175 : decode cX1_unify 175 = .ok (.iconst 1, 1) := by decide +kernel
theorem dX1_unify_176 : decode cX1_unify 176 = .ok (.goto 4, 3) := by decide +kernel
theorem dX1_unify_179 : decode cX1_unify 179 = .ok (.iconst 0, 1) := by decide +kernel
theorem dX1_unify_180 : decode cX1_unify 180 = .ok (.ireturn, 1) := by decide +kernel
theorem dX1_unify_19 : decode cX1_unify 19 = .ok (.aload_n 0, 1) := by decide +kernel
theorem dX1_unify_20 : decode cX1_unify 20 = .ok (.iconst 0, 1) := by decide +kernel
theorem dX1_unify_21 : decode cX1_unify 21 = .ok (.putfield 52, 3) := by decide +kernel
theorem dX1_unify_24 : decode cX1_unify 24 = .ok (.iconst 1, 1) := by decide +kernel
theorem dX1_unify_25 : decode cX1_unify 25 = .ok (.istore_n 3, 1) := by decide +kernel
theorem dX1_unify_26 : decode cX1_unify 26 = .ok (.iconst 0, 1) := by decide +kernel
theorem dX1_unify_27 : decode cX1_unify 27 = .ok (.istore 4, 2) := by decide +kernel
theorem dX1_unify_29 : decode cX1_unify 29 = .ok (.iload 4, 2) := by decide +kernel
theorem dX1_unify_31 : decode cX1_unify 31 = .ok (.ldc 55, 2) := by decide +kernel
theorem dX1_unify_33 : decode cX1_unify 33 = .ok (.if_icmp .ge 100, 3) := by decide +kernel
theorem dX1_unify_36 : decode cX1_unify 36 = .ok (.iload_n 3, 1) := by decide +kernel
theorem dX1_unify_37 : decode cX1_unify 37 = .ok (.ifCond .eq 96, 3) := by decide +kernel
theorem dX1_unify_4 : decode cX1_unify 4 = .ok (.iconst 0, 1) := by decide +kernel
theorem dX1_unify_40 : decode cX1_unify 40 = .ok (.aload_n 0, 1) := by decide +kernel
theorem dX1_unify_41 : decode cX1_unify 41 = .ok (.getfield 49, 3) := by decide +kernel
theorem dX1_unify_44 : decode cX1_unify 44 = .ok (.ifCond .le 89, 3) := by decide +kernel
theorem dX1_unify_47 : decode cX1_unify 47 = .ok (.aload_n 0, 1) := by decide +kernel
theorem dX1_unify_48 : decode cX1_unify 48 = .ok (.dup, 1) := by decide +kernel
theorem dX1_unify_49 : decode cX1_unify 49 = .ok (.getfield 49, 3) := by decide +kernel
theorem dX1_unify_5 : decode cX1_unify 5 = .ok (.iload_n 1, 1) := by decide +kernel
theorem dX1_unify_52 : decode cX1_unify 52 = .ok (.iconst 1, 1) := by decide +kernel
theorem dX1_unify_53 : decode cX1_unify 53 = .ok (.isub, 1) := by decide +kernel
theorem dX1_unify_54 : decode cX1_unify 54 = .ok (.putfield 49, 3) := by decide +kernel
theorem dX1_unify_57 : decode cX1_unify 57 = .ok (.aload_n 0, 1) := by decide +kernel
theorem dX1_unify_58 : decode cX1_unify 58 = .ok (.getfield 24, 3) := by decide +kernel
theorem dX1_unify_6 : decode cX1_unify 6 = .ok (.iastore, 1) := by decide +kernel
theorem dX1_unify_61 : decode cX1_unify 61 = .ok (.aload_n 0, 1) := by decide +kernel
theorem dX1_unify_62 : decode cX1_unify 62 = .ok (.getfield 49, 3) := by decide +kernel
theorem dX1_unify_65 : decode cX1_unify 65 = .ok (.iaload, 1) := by decide +kernel
theorem dX1_unify_66 : decode cX1_unify 66 = .ok (.ifCond .ge 30, 3) := by decide +kernel
theorem dX1_unify_69 : decode cX1_unify 69 = .ok (.aload_n 0, 1) := by decide +kernel
theorem dX1_unify_7 : decode cX1_unify 7 = .ok (.aload_n 0, 1) := by decide +kernel
theorem dX1_unify_70 : decode cX1_unify 70 = .ok (.iconst (-1), 1) := by decide +kernel
theorem dX1_unify_71 : decode cX1_unify 71 = .ok (.aload_n 0, 1) := by decide +kernel
theorem dX1_unify_72 : decode cX1_unify 72 = .ok (.getfield 24, 3) := by decide +kernel
theorem dX1_unify_75 : decode cX1_unify 75 = .ok (.aload_n 0, 1) := by decide +kernel
theorem dX1_unify_76 : decode cX1_unify 76 = .ok (.getfield 49, 3) := by decide +kernel
theorem dX1_unify_79 : decode cX1_unify 79 = .ok (.iaload, 1) := by decide +kernel
theorem dX1_unify_8 : decode cX1_unify 8 = .ok (.getfield 27, 3) := by decide +kernel
theorem dX1_unify_80 : decode cX1_unify 80 = .ok (.isub, 1) := by decide +kernel
theorem dX1_unify_81 : decode cX1_unify 81 = .ok (.aload_n 0, 1) := by decide +kernel
theorem dX1_unify_82 : decode cX1_unify 82 = .ok (.getfield 27, 3) := by decide +kernel
theorem dX1_unify_85 : decode cX1_unify 85 = .ok (.aload_n 0, 1) := by decide +kernel
theorem dX1_unify_86 : decode cX1_unify 86 = .ok (.getfield 49, 3) := by decide +kernel
theorem dX1_unify_89 : decode cX1_unify 89 = .ok (.iaload, 1) := by decide +kernel
theorem dX1_unify_90 : decode cX1_unify 90 = .ok (.invokevirtual 56, 3) := by decide +kernel
theorem dX1_unify_93 : decode cX1_unify 93 = .ok (.goto 34, 3) := by decide +kernel
theorem dX1_unify_96 : decode cX1_unify 96 = .ok (.aload_n 0, 1) := by decide +kernel
theorem dX1_unify_97 : decode cX1_unify 97 = .ok (.aload_n 0, 1) := by decide +kernel
theorem dX1_unify_98 : decode cX1_unify 98 = .ok (.aload_n 0, 1) := by decide +kernel
theorem dX1_unify_99 : decode cX1_unify 99 = .ok (.getfield 24, 3) := by decide +kernel
theorem dX8_all_0 : decode cX8_all 0 = .ok (.iconst 1, 1) := by decide +kernel
theorem dX8_all_1 : decode cX8_all 1 = .ok (.aload_n 0, 1) := by decide +kernel
theorem dX8_all_2 : decode cX8_all 2 = .ok (.getfield 41, 3) := by decide +kernel
theorem dX8_all_5 : decode cX8_all 5 = .ok (.ishl, 1) := by decide +kernel
theorem dX8_all_6 : decode cX8_all 6 = .ok (.iconst 1, 1) := by decide +kernel
theorem dX8_all_7 : decode cX8_all 7 = .ok (.isub, 1) := by decide +kernel
theorem dX8_all_8 : decode cX8_all 8 = .ok (.ireturn, 1) := by decide +kernel
theorem dX8_areOpposite_0 : decode cX8_areOpposite 0 = .ok (.aload_n 0, 1) := by decide +kernel
theorem dX8_areOpposite_1 : decode cX8_areOpposite 1 = .ok (.iload_n 1, 1) := by decide +kernel
theorem dX8_areOpposite_10 : decode cX8_areOpposite 10 = .ok (.invokevirtual 54, 3) := by decide +kernel
theorem dX8_areOpposite_13 : decode cX8_areOpposite 13 = .ok (.if_icmp .eq 27, 3) := by decide +kernel
theorem dX8_areOpposite_16 : decode cX8_areOpposite 16 = .ok (.aload_n 0, 1) := by decide +kernel
theorem dX8_areOpposite_17 : decode cX8_areOpposite 17 = .ok (.aload_n 0, 1) := by decide +kernel
theorem dX8_areOpposite_18 : decode cX8_areOpposite 18 = .ok (.iload_n 1, 1) := by decide +kernel
theorem dX8_areOpposite_19 : decode cX8_areOpposite 19 = .ok (.iload_n 2, 1) := by decide +kernel
theorem dX8_areOpposite_2 : decode cX8_areOpposite 2 = .ok (.iload_n 2, 1) := by decide +kernel
theorem dX8_areOpposite_20 : decode cX8_areOpposite 20 = .ok (.invokevirtual 58, 3) := by decide +kernel
theorem dX8_areOpposite_23 : decode cX8_areOpposite 23 = .ok (.aload_n 0, 1) := by decide +kernel
theorem dX8_areOpposite_24 : decode cX8_areOpposite 24 = .ok (.iload_n 3, 1) := by decide +kernel
theorem dX8_areOpposite_25 : decode cX8_areOpposite 25 = .ok (.iload 4, 2) := by decide +kernel
theorem dX8_areOpposite_27 : decode cX8_areOpposite 27 = .ok (.invokevirtual 58, 3) := by decide +kernel
theorem dX8_areOpposite_3 : decode cX8_areOpposite 3 = .ok (.invokevirtual 54, 3) := by decide +kernel
theorem dX8_areOpposite_30 : decode cX8_areOpposite 30 = .ok (.invokevirtual 61, 3) := by decide +kernel
theorem dX8_areOpposite_33 : decode cX8_areOpposite 33 = .ok (.ifCond .eq 7, 3) := by decide +kernel
theorem dX8_areOpposite_36 : decode cX8_areOpposite 36 = .ok (.iconst 1, 1) := by decide +kernel
theorem dX8_areOpposite_37 : decode cX8_areOpposite 37 = .ok (.goto 4, 3) := by decide +kernel
theorem dX8_areOpposite_40 : decode cX8_areOpposite 40 = .ok (.iconst 0, 1) := by decide +kernel
theorem dX8_areOpposite_41 : decode cX8_areOpposite 41 = .ok (.ireturn, 1) := by decide +kernel
theorem dX8_areOpposite_6 : decode cX8_areOpposite 6 = .ok (.aload_n 0, 1) := by decide +kernel
theorem dX8_areOpposite_7 : decode cX8_areOpposite 7 = .ok (.iload_n 3, 1) := by decide +kernel
theorem dX8_areOpposite_8 : decode cX8_areOpposite 8 = .ok (.iload 4, 2) := by decide +kernel
theorem dX8_clear_0 : decode cX8_clear 0 = .ok (.aload_n 0, 1) := by decide +kernel
theorem dX8_clear_1 : decode cX8_clear 1 = .ok (.iconst 0, 1) := by decide +kernel
theorem dX8_clear_10 : decode cX8_clear 10 = .ok (.return_, 1) := by decide +kernel
theorem dX8_clear_2 : decode cX8_clear 2 = .ok (.putfield 37, 3) := by decide +kernel
theorem dX8_clear_5 : decode cX8_clear 5 = .ok (.aload_n 0, 1) := by decide +kernel
theorem dX8_clear_6 : decode cX8_clear 6 = .ok (.iconst 0, 1) := by decide +kernel
theorem dX8_clear_7 : decode cX8_clear 7 = .ok (.putfield 41, 3) := by decide +kernel
theorem dX8_countLiterals_0 : decode cX8_countLiterals 0 = .ok (.iconst 0, 1) := by decide +kernel
theorem dX8_countLiterals_1 : decode cX8_countLiterals 1 = .ok (.istore_n 1, 1) := by decide +kernel
theorem dX8_countLiterals_12 : decode cX8_countLiterals 12 = .ok (.iload_n 1, 1) := by decide +kernel
theorem dX8_countLiterals_13 : decode cX8_countLiterals 13 = .ok (.aload_n 0, 1) := by decide +kernel
theorem dX8_countLiterals_14 : decode cX8_countLiterals 14 = .ok (.getfield 25, 3) := by decide +kernel
theorem dX8_countLiterals_17 : decode cX8_countLiterals 17 = .ok (.iload_n 2, 1) := by decide +kernel
theorem dX8_countLiterals_18 : decode cX8_countLiterals 18 = .ok (.iaload, 1) := by decide +kernel
theorem dX8_countLiterals_19 : decode cX8_countLiterals 19 = .ok (.iadd, 1) := by decide +kernel
theorem dX8_countLiterals_2 : decode cX8_countLiterals 2 = .ok (.iconst 0, 1) := by decide +kernel
theorem dX8_countLiterals_20 : decode cX8_countLiterals 20 = .ok (.istore_n 1, 1) := by decide +kernel
theorem dX8_countLiterals_21 : decode cX8_countLiterals 21 = .ok (.iinc 2 1, 3) := by decide +kernel
theorem dX8_countLiterals_24 : decode cX8_countLiterals 24 = .ok (.goto (-20), 3) := by decide +kernel
theorem dX8_countLiterals_27 : decode cX8_countLiterals 27 = .ok (.iload_n 1, 1) := by decide +kernel
theorem dX8_countLiterals_28 : decode cX8_countLiterals 28 = .ok (.ireturn, 1) := by decide +kernel
theorem dX8_countLiterals_3 : decode cX8_countLiterals 3 = .ok (.istore_n 2, 1) := by decide +kernel
theorem dX8_countLiterals_4 : decode cX8_countLiterals 4 = .ok (.iload_n 2, 1) := by decide +kernel
theorem dX8_countLiterals_5 : decode cX8_countLiterals 5 = .ok (.aload_n 0, 1) := by decide +kernel
theorem dX8_countLiterals_6 : decode cX8_countLiterals 6 = .ok (.getfield 41, 3) := by decide +kernel
theorem dX8_countLiterals_9 : decode cX8_countLiterals 9 = .ok (.if_icmp .ge 18, 3) := by decide +kernel
theorem dX8_countNames_0 : decode cX8_countNames 0 = .ok (.iconst 0, 1) := by decide +kernel
theorem dX8_countNames_1 : decode cX8_countNames 1 = .ok (.istore_n 1, 1) := by decide +kernel
theorem dX8_countNames_12 : decode cX8_countNames 12 = .ok (.iconst 0, 1) := by decide +kernel
theorem dX8_countNames_13 : decode cX8_countNames 13 = .ok (.istore_n 3, 1) := by decide +kernel
theorem dX8_countNames_14 : decode cX8_countNames 14 = .ok (.iload_n 3, 1) := by decide +kernel
theorem dX8_countNames_15 : decode cX8_countNames 15 = .ok (.aload_n 0, 1) := by decide +kernel
theorem dX8_countNames_16 : decode cX8_countNames 16 = .ok (.getfield 25, 3) := by decide +kernel
theorem dX8_countNames_19 : decode cX8_countNames 19 = .ok (.iload_n 2, 1) := by decide +kernel
theorem dX8_countNames_2 : decode cX8_countNames 2 = .ok (.iconst 0, 1) := by decide +kernel
theorem dX8_countNames_20 : decode cX8_countNames 20 = .ok (.iaload, 1) := by decide +kernel
theorem dX8_countNames_21 : decode cX8_countNames 21 = .ok (.if_icmp .ge 26, 3) := by decide +kernel
theorem dX8_countNames_24 : decode cX8_countNames 24 = .ok (.iload_n 1, 1) := by decide +kernel
theorem dX8_countNames_25 : decode cX8_countNames 25 = .ok (.aload_n 0, 1) := by decide +kernel
theorem dX8_countNames_26 : decode cX8_countNames 26 = .ok (.iload_n 2, 1) := by decide +kernel
theorem dX8_countNames_27 : decode cX8_countNames 27 = .ok (.iload_n 3, 1) := by decide +kernel
theorem dX8_countNames_28 : decode cX8_countNames 28 = .ok (.invokevirtual 70, 3) := by decide +kernel
theorem dX8_countNames_3 : decode cX8_countNames 3 = .ok (.istore_n 2, 1) := by decide +kernel
theorem dX8_countNames_31 : decode cX8_countNames 31 = .ok (.ifCond .eq 7, 3) := by decide +kernel
theorem dX8_countNames_34 : decode cX8_countNames 34 = .ok (.iconst 1, 1) := by decide +kernel
theorem dX8_countNames_35 : decode cX8_countNames 35 = .ok (.goto 4, 3) := by decide +kernel
theorem dX8_countNames_38 : decode cX8_countNames 38 = .ok (.iconst 0, 1) := by decide +kernel
theorem dX8_countNames_39 : decode cX8_countNames 39 = .ok (.iadd, 1) := by decide +kernel
theorem dX8_countNames_4 : decode cX8_countNames 4 = .ok (.iload_n 2, 1) := by decide +kernel
theorem dX8_countNames_40 : decode cX8_countNames 40 = .ok (.istore_n 1, 1) := by decide +kernel
theorem dX8_countNames_41 : decode cX8_countNames 41 = .ok (.iinc 3 1, 3) := by decide +kernel
theorem dX8_countNames_44 : decode cX8_countNames 44 = .ok (.goto (-30), 3) := by decide +kernel
theorem dX8_countNames_47 : decode cX8_countNames 47 = .ok (.iinc 2 1, 3) := by decide +kernel
theorem dX8_countNames_5 : decode cX8_countNames 5 = .ok (.aload_n 0, 1) := by decide +kernel
theorem dX8_countNames_50 : decode cX8_countNames 50 = .ok (.goto (-46), 3) := by decide +kernel
theorem dX8_countNames_53 : decode cX8_countNames 53 = .ok (.iload_n 1, 1) := by decide +kernel
theorem dX8_countNames_54 : decode cX8_countNames 54 = .ok (.ireturn, 1) := by decide +kernel
theorem dX8_countNames_6 : decode cX8_countNames 6 = .ok (.getfield 41, 3) := by decide +kernel
theorem dX8_countNames_9 : decode cX8_countNames 9 = .ok (.if_icmp .ge 44, 3) := by decide +kernel
theorem dX8_haveLikeNames_0 : decode cX8_haveLikeNames 0 = .ok (.aload_n 0, 1) := by decide +kernel
theorem dX8_haveLikeNames_1 : decode cX8_haveLikeNames 1 = .ok (.getfield 9, 3) := by decide +kernel
theorem dX8_haveLikeNames_10 : decode cX8_haveLikeNames 10 = .ok (.iload_n 2, 1) := by decide +kernel
theorem dX8_haveLikeNames_11 : decode cX8_haveLikeNames 11 = .ok (.laload, 1) := by decide +kernel
theorem dX8_haveLikeNames_12 : decode cX8_haveLikeNames 12 = .ok (.lcmp, 1) := by decide +kernel
theorem dX8_haveLikeNames_13 : decode cX8_haveLikeNames 13 = .ok (.ifCond .ne 22, 3) := by decide +kernel
theorem dX8_haveLikeNames_16 : decode cX8_haveLikeNames 16 = .ok (.aload_n 0, 1) := by decide +kernel
theorem dX8_haveLikeNames_17 : decode cX8_haveLikeNames 17 = .ok (.getfield 19, 3) := by decide +kernel
theorem dX8_haveLikeNames_20 : decode cX8_haveLikeNames 20 = .ok (.iload_n 1, 1) := by decide +kernel
theorem dX8_haveLikeNames_21 : decode cX8_haveLikeNames 21 = .ok (.iaload, 1) := by decide +kernel
theorem dX8_haveLikeNames_22 : decode cX8_haveLikeNames 22 = .ok (.aload_n 0, 1) := by decide +kernel
theorem dX8_haveLikeNames_23 : decode cX8_haveLikeNames 23 = .ok (.getfield 19, 3) := by decide +kernel
theorem dX8_haveLikeNames_26 : decode cX8_haveLikeNames 26 = .ok (.iload_n 2, 1) := by decide +kernel
theorem dX8_haveLikeNames_27 : decode cX8_haveLikeNames 27 = .ok (.iaload, 1) := by decide +kernel
theorem dX8_haveLikeNames_28 : decode cX8_haveLikeNames 28 = .ok (.if_icmp .ne 7, 3) := by decide +kernel
theorem dX8_haveLikeNames_31 : decode cX8_haveLikeNames 31 = .ok (.iconst 1, 1) := by decide +kernel
theorem dX8_haveLikeNames_32 : decode cX8_haveLikeNames 32 = .ok (.goto 4, 3) := by decide +kernel
theorem dX8_haveLikeNames_35 : decode cX8_haveLikeNames 35 = .ok (.iconst 0, 1) := by decide +kernel
theorem dX8_haveLikeNames_36 : decode cX8_haveLikeNames 36 = .ok (.ireturn, 1) := by decide +kernel
theorem dX8_haveLikeNames_4 : decode cX8_haveLikeNames 4 = .ok (.iload_n 1, 1) := by decide +kernel
theorem dX8_haveLikeNames_5 : decode cX8_haveLikeNames 5 = .ok (.laload, 1) := by decide +kernel
theorem dX8_haveLikeNames_6 : decode cX8_haveLikeNames 6 = .ok (.aload_n 0, 1) := by decide +kernel
theorem dX8_haveLikeNames_7 : decode cX8_haveLikeNames 7 = .ok (.getfield 9, 3) := by decide +kernel
theorem dX8_isClause_0 : decode cX8_isClause 0 = .ok (.iload_n 1, 1) := by decide +kernel
theorem dX8_isClause_1 : decode cX8_isClause 1 = .ok (.ifCond .lt 15, 3) := by decide +kernel
theorem dX8_isClause_12 : decode cX8_isClause 12 = .ok (.iconst 1, 1) := by decide +kernel
theorem dX8_isClause_13 : decode cX8_isClause 13 = .ok (.goto 4, 3) := by decide +kernel
theorem dX8_isClause_16 : decode cX8_isClause 16 = .ok (.iconst 0, 1) := by decide +kernel
theorem dX8_isClause_17 : decode cX8_isClause 17 = .ok (.ireturn, 1) := by decide +kernel
theorem dX8_isClause_4 : decode cX8_isClause 4 = .ok (.iload_n 1, 1) := by decide +kernel
theorem dX8_isClause_5 : decode cX8_isClause 5 = .ok (.aload_n 0, 1) := by decide +kernel
theorem dX8_isClause_6 : decode cX8_isClause 6 = .ok (.getfield 41, 3) := by decide +kernel
theorem dX8_isClause_9 : decode cX8_isClause 9 = .ok (.if_icmp .ge 7, 3) := by decide +kernel
theorem dX8_isLiteral_0 : decode cX8_isLiteral 0 = .ok (.aload_n 0, 1) := by decide +kernel
theorem dX8_isLiteral_1 : decode cX8_isLiteral 1 = .ok (.iload_n 1, 1) := by decide +kernel
theorem dX8_isLiteral_12 : decode cX8_isLiteral 12 = .ok (.iload_n 2, 1) := by decide +kernel
theorem dX8_isLiteral_13 : decode cX8_isLiteral 13 = .ok (.aload_n 0, 1) := by decide +kernel
theorem dX8_isLiteral_14 : decode cX8_isLiteral 14 = .ok (.getfield 25, 3) := by decide +kernel
theorem dX8_isLiteral_17 : decode cX8_isLiteral 17 = .ok (.iload_n 1, 1) := by decide +kernel
theorem dX8_isLiteral_18 : decode cX8_isLiteral 18 = .ok (.iaload, 1) := by decide +kernel
theorem dX8_isLiteral_19 : decode cX8_isLiteral 19 = .ok (.if_icmp .ge 7, 3) := by decide +kernel
theorem dX8_isLiteral_2 : decode cX8_isLiteral 2 = .ok (.invokevirtual 50, 3) := by decide +kernel
theorem dX8_isLiteral_22 : decode cX8_isLiteral 22 = .ok (.iconst 1, 1) := by decide +kernel
theorem dX8_isLiteral_23 : decode cX8_isLiteral 23 = .ok (.goto 4, 3) := by decide +kernel
theorem dX8_isLiteral_26 : decode cX8_isLiteral 26 = .ok (.iconst 0, 1) := by decide +kernel
theorem dX8_isLiteral_27 : decode cX8_isLiteral 27 = .ok (.ireturn, 1) := by decide +kernel
theorem dX8_isLiteral_5 : decode cX8_isLiteral 5 = .ok (.ifCond .eq 21, 3) := by decide +kernel
theorem dX8_isLiteral_8 : decode cX8_isLiteral 8 = .ok (.iload_n 2, 1) := by decide +kernel
theorem dX8_isLiteral_9 : decode cX8_isLiteral 9 = .ok (.ifCond .lt 17, 3) := by decide +kernel
theorem dX8_isNewName_0 : decode cX8_isNewName 0 = .ok (.aload_n 0, 1) := by decide +kernel
theorem dX8_isNewName_1 : decode cX8_isNewName 1 = .ok (.iload_n 1, 1) := by decide +kernel
theorem dX8_isNewName_10 : decode cX8_isNewName 10 = .ok (.iload 4, 2) := by decide +kernel
theorem dX8_isNewName_12 : decode cX8_isNewName 12 = .ok (.iload_n 1, 1) := by decide +kernel
theorem dX8_isNewName_13 : decode cX8_isNewName 13 = .ok (.if_icmp .gt 62, 3) := by decide +kernel
theorem dX8_isNewName_16 : decode cX8_isNewName 16 = .ok (.iload 4, 2) := by decide +kernel
theorem dX8_isNewName_18 : decode cX8_isNewName 18 = .ok (.iload_n 1, 1) := by decide +kernel
theorem dX8_isNewName_19 : decode cX8_isNewName 19 = .ok (.if_icmp .ne 7, 3) := by decide +kernel
theorem dX8_isNewName_2 : decode cX8_isNewName 2 = .ok (.iload_n 2, 1) := by decide +kernel
theorem dX8_isNewName_22 : decode cX8_isNewName 22 = .ok (.iload_n 2, 1) := by decide +kernel
theorem dX8_isNewName_23 : decode cX8_isNewName 23 = .ok (.goto 10, 3) := by decide +kernel
theorem dX8_isNewName_26 : decode cX8_isNewName 26 = .ok (.aload_n 0, 1) := by decide +kernel
theorem dX8_isNewName_27 : decode cX8_isNewName 27 = .ok (.getfield 25, 3) := by decide +kernel
theorem dX8_isNewName_3 : decode cX8_isNewName 3 = .ok (.invokevirtual 58, 3) := by decide +kernel
theorem dX8_isNewName_30 : decode cX8_isNewName 30 = .ok (.iload 4, 2) := by decide +kernel
theorem dX8_isNewName_32 : decode cX8_isNewName 32 = .ok (.iaload, 1) := by decide +kernel
theorem dX8_isNewName_33 : decode cX8_isNewName 33 = .ok (.istore 5, 2) := by decide +kernel
theorem dX8_isNewName_35 : decode cX8_isNewName 35 = .ok (.iconst 0, 1) := by decide +kernel
theorem dX8_isNewName_36 : decode cX8_isNewName 36 = .ok (.istore 6, 2) := by decide +kernel
theorem dX8_isNewName_38 : decode cX8_isNewName 38 = .ok (.iload 6, 2) := by decide +kernel
theorem dX8_isNewName_40 : decode cX8_isNewName 40 = .ok (.iload 5, 2) := by decide +kernel
theorem dX8_isNewName_42 : decode cX8_isNewName 42 = .ok (.if_icmp .ge 27, 3) := by decide +kernel
theorem dX8_isNewName_45 : decode cX8_isNewName 45 = .ok (.aload_n 0, 1) := by decide +kernel
theorem dX8_isNewName_46 : decode cX8_isNewName 46 = .ok (.iload_n 3, 1) := by decide +kernel
theorem dX8_isNewName_47 : decode cX8_isNewName 47 = .ok (.aload_n 0, 1) := by decide +kernel
theorem dX8_isNewName_48 : decode cX8_isNewName 48 = .ok (.iload 4, 2) := by decide +kernel
theorem dX8_isNewName_50 : decode cX8_isNewName 50 = .ok (.iload 6, 2) := by decide +kernel
theorem dX8_isNewName_52 : decode cX8_isNewName 52 = .ok (.invokevirtual 58, 3) := by decide +kernel
theorem dX8_isNewName_55 : decode cX8_isNewName 55 = .ok (.invokevirtual 61, 3) := by decide +kernel
theorem dX8_isNewName_58 : decode cX8_isNewName 58 = .ok (.ifCond .eq 5, 3) := by decide +kernel
theorem dX8_isNewName_6 : decode cX8_isNewName 6 = .ok (.istore_n 3, 1) := by decide +kernel
theorem dX8_isNewName_61 : decode cX8_isNewName 61 = .ok (.iconst 0, 1) := by decide +kernel
theorem dX8_isNewName_62 : decode cX8_isNewName 62 = .ok (.ireturn, 1) := by decide +kernel
theorem dX8_isNewName_63 : decode cX8_isNewName 63 = .ok (.iinc 6 1, 3) := by decide +kernel
theorem dX8_isNewName_66 : decode cX8_isNewName 66 = .ok (.goto (-28), 3) := by decide +kernel
theorem dX8_isNewName_69 : decode cX8_isNewName 69 = .ok (.iinc 4 1, 3) := by decide +kernel
theorem dX8_isNewName_7 : decode cX8_isNewName 7 = .ok (.iconst 0, 1) := by decide +kernel
theorem dX8_isNewName_72 : decode cX8_isNewName 72 = .ok (.goto (-62), 3) := by decide +kernel
theorem dX8_isNewName_75 : decode cX8_isNewName 75 = .ok (.iconst 1, 1) := by decide +kernel
theorem dX8_isNewName_76 : decode cX8_isNewName 76 = .ok (.ireturn, 1) := by decide +kernel
theorem dX8_isNewName_8 : decode cX8_isNewName 8 = .ok (.istore 4, 2) := by decide +kernel
theorem dX8_isPlus_0 : decode cX8_isPlus 0 = .ok (.aload_n 0, 1) := by decide +kernel
theorem dX8_isPlus_1 : decode cX8_isPlus 1 = .ok (.getfield 31, 3) := by decide +kernel
theorem dX8_isPlus_10 : decode cX8_isPlus 10 = .ok (.iconst 1, 1) := by decide +kernel
theorem dX8_isPlus_11 : decode cX8_isPlus 11 = .ok (.if_icmp .ne 7, 3) := by decide +kernel
theorem dX8_isPlus_14 : decode cX8_isPlus 14 = .ok (.iconst 1, 1) := by decide +kernel
theorem dX8_isPlus_15 : decode cX8_isPlus 15 = .ok (.goto 4, 3) := by decide +kernel
theorem dX8_isPlus_18 : decode cX8_isPlus 18 = .ok (.iconst 0, 1) := by decide +kernel
theorem dX8_isPlus_19 : decode cX8_isPlus 19 = .ok (.ireturn, 1) := by decide +kernel
theorem dX8_isPlus_4 : decode cX8_isPlus 4 = .ok (.iload_n 1, 1) := by decide +kernel
theorem dX8_isPlus_5 : decode cX8_isPlus 5 = .ok (.iaload, 1) := by decide +kernel
theorem dX8_isPlus_6 : decode cX8_isPlus 6 = .ok (.iload_n 2, 1) := by decide +kernel
theorem dX8_isPlus_7 : decode cX8_isPlus 7 = .ok (.ishr, 1) := by decide +kernel
theorem dX8_isPlus_8 : decode cX8_isPlus 8 = .ok (.iconst 1, 1) := by decide +kernel
theorem dX8_isPlus_9 : decode cX8_isPlus 9 = .ok (.iand, 1) := by decide +kernel
theorem dX8_part_0 : decode cX8_part 0 = .ok (.aload_n 0, 1) := by decide +kernel
theorem dX8_part_1 : decode cX8_part 1 = .ok (.getfield 34, 3) := by decide +kernel
theorem dX8_part_10 : decode cX8_part 10 = .ok (.iaload, 1) := by decide +kernel
theorem dX8_part_11 : decode cX8_part 11 = .ok (.ireturn, 1) := by decide +kernel
theorem dX8_part_4 : decode cX8_part 4 = .ok (.iload_n 1, 1) := by decide +kernel
theorem dX8_part_5 : decode cX8_part 5 = .ok (.bipush 6, 2) := by decide +kernel
theorem dX8_part_7 : decode cX8_part 7 = .ok (.imul, 1) := by decide +kernel
theorem dX8_part_8 : decode cX8_part 8 = .ok (.iload_n 2, 1) := by decide +kernel
theorem dX8_part_9 : decode cX8_part 9 = .ok (.iadd, 1) := by decide +kernel
abbrev mo0 (v : Nat → Value) (a9 : Value) : List Value := [(v 0), (v 1), (v 2), (v 3), (v 4), (v 5), (v 6), (v 7), (v 8), a9]
abbrev mo1 (v : Nat → Value) (a5 a9 : Value) : List Value := [(v 0), (v 1), (v 2), (v 3), (v 4), a5, (v 6), (v 7), (v 8), a9]
abbrev mo2 (v : Nat → Value) (a7 : Value) : List Value := [(v 0), (v 1), (v 2), (v 3), (v 4), (v 5), (v 6), a7, (v 8), (v 9)]
abbrev mo3 (v : Nat → Value) (a8 : Value) : List Value := [(v 0), (v 1), (v 2), (v 3), (v 4), (v 5), (v 6), (v 7), a8, (v 9)]
abbrev mo4 (v : Nat → Value) (a0 a2 : Value) : List Value := [a0, (v 1), a2, (v 3), (v 4), (v 5), (v 6), (v 7), (v 8), (v 9)]
abbrev mo5 (v : Nat → Value) (a0 a2 a7 a8 : Value) : List Value := [a0, (v 1), a2, (v 3), (v 4), (v 5), (v 6), a7, a8, (v 9)]
abbrev mo6 (v : Nat → Value) (a4 a9 : Value) : List Value := [(v 0), (v 1), (v 2), (v 3), a4, (v 5), (v 6), (v 7), (v 8), a9]
abbrev mo7 (v : Nat → Value) (a0 : Value) : List Value := [a0, (v 1), (v 2), (v 3), (v 4), (v 5), (v 6), (v 7), (v 8), (v 9), (v 10), (v 11), (v 12)]
abbrev mo8 (v : Nat → Value) (a1 : Value) : List Value := [(v 0), a1, (v 2), (v 3), (v 4), (v 5), (v 6), (v 7), (v 8), (v 9)]
abbrev mo9 (v : Nat → Value) (a0 a1 : Value) : List Value := [a0, a1, (v 2), (v 3), (v 4), (v 5), (v 6), (v 7), (v 8), (v 9), (v 10), (v 11), (v 12)]
abbrev mo10 (v : Nat → Value) (a1 a2 a3 : Value) : List Value := [(v 0), a1, a2, a3, (v 4), (v 5), (v 6), (v 7), (v 8), (v 9), (v 10), (v 11), (v 12)]
abbrev mo11 (v : Nat → Value) (a4 : Value) : List Value := [(v 0), (v 1), (v 2), (v 3), a4, (v 5), (v 6), (v 7), (v 8), (v 9), (v 10), (v 11), (v 12)]
abbrev mo12 (v : Nat → Value) (a4 a5 a6 : Value) : List Value := [(v 0), (v 1), (v 2), (v 3), a4, a5, a6, (v 7), (v 8), (v 9), (v 10), (v 11), (v 12)]
abbrev mo13 (v : Nat → Value) (a0 a2 a5 a8 : Value) : List Value := [a0, (v 1), a2, (v 3), (v 4), a5, (v 6), (v 7), a8, (v 9)]
abbrev mo14 (v : Nat → Value) (a0 a2 a5 a8 a9 : Value) : List Value := [a0, (v 1), a2, (v 3), (v 4), a5, (v 6), (v 7), a8, a9]
abbrev mo15 (v : Nat → Value) (a0 a7 a8 a9 : Value) : List Value := [a0, (v 1), (v 2), (v 3), (v 4), (v 5), (v 6), a7, a8, a9, (v 10), (v 11), (v 12)]
abbrev mo16 (v : Nat → Value) (a2 a3 : Value) : List Value := [(v 0), (v 1), a2, a3, (v 4), (v 5), (v 6), (v 7), (v 8), (v 9)]
abbrev mo17 (v : Nat → Value) (a0 a1 a10 a11 a12 : Value) : List Value := [a0, a1, (v 2), (v 3), (v 4), (v 5), (v 6), (v 7), (v 8), (v 9), a10, a11, a12]
abbrev mo18 (v : Nat → Value) (a1 a2 a3 : Value) : List Value := [(v 0), a1, a2, a3, (v 4), (v 5), (v 6), (v 7), (v 8), (v 9)]
abbrev mo19 (v : Nat → Value) (a0 a1 a10 : Value) : List Value := [a0, a1, (v 2), (v 3), (v 4), (v 5), (v 6), (v 7), (v 8), (v 9), a10, (v 11), (v 12)]
abbrev mo20 (v : Nat → Value) (a0 a1 a2 a3 a4 a7 a8 a9 a10 a11 a12 : Value) : List Value := [a0, a1, a2, a3, a4, (v 5), (v 6), a7, a8, a9, a10, a11, a12]
abbrev mo21 (v : Nat → Value) (a0 a1 a2 a3 : Value) : List Value := [a0, a1, a2, a3, (v 4), (v 5), (v 6), (v 7), (v 8), (v 9)]
abbrev mo22 (a0 a1 a2 a3 a4 a5 a6 a7 a8 a9 a10 a11 a12 : Value) : List Value := [a0, a1, a2, a3, a4, a5, a6, a7, a8, a9, a10, a11, a12]
abbrev mo23 (v : Nat → Value) (a0 a1 a7 a8 a9 : Value) : List Value := [a0, a1, (v 2), (v 3), (v 4), (v 5), (v 6), a7, a8, a9, (v 10), (v 11), (v 12)]
set_option maxRecDepth 100000 in
theorem mq1_0 (v : Nat → Value) (b5 : Value) : ∃ w : Nat → Value, ∀ (a9 : Value), mo0 w a9 = (mo1 v b5 a9) := ⟨fun k => List.getD (mo1 v b5 .null) k .null, fun _ => rfl⟩
set_option maxRecDepth 100000 in
theorem mq5_2 (v : Nat → Value) (b0 b2 b8 : Value) : ∃ w : Nat → Value, ∀ (a7 : Value), mo2 w a7 = (mo5 v b0 b2 a7 b8) := ⟨fun k => List.getD (mo5 v b0 b2 .null b8) k .null, fun _ => rfl⟩
set_option maxRecDepth 100000 in
theorem mq5_3 (v : Nat → Value) (b0 b2 b7 : Value) : ∃ w : Nat → Value, ∀ (a8 : Value), mo3 w a8 = (mo5 v b0 b2 b7 a8) := ⟨fun k => List.getD (mo5 v b0 b2 b7 .null) k .null, fun _ => rfl⟩
set_option maxRecDepth 100000 in
theorem mq5_4 (v : Nat → Value) (b7 b8 : Value) : ∃ w : Nat → Value, ∀ (a0 a2 : Value), mo4 w a0 a2 = (mo5 v a0 a2 b7 b8) := ⟨fun k => List.getD (mo5 v .null .null b7 b8) k .null, fun _ _ => rfl⟩
set_option maxRecDepth 100000 in
theorem mq12_11 (v : Nat → Value) (b5 b6 : Value) : ∃ w : Nat → Value, ∀ (a4 : Value), mo11 w a4 = (mo12 v a4 b5 b6) := ⟨fun k => List.getD (mo12 v .null b5 b6) k .null, fun _ => rfl⟩
set_option maxRecDepth 100000 in
theorem mq13_3 (v : Nat → Value) (b0 b2 b5 : Value) : ∃ w : Nat → Value, ∀ (a8 : Value), mo3 w a8 = (mo13 v b0 b2 b5 a8) := ⟨fun k => List.getD (mo13 v b0 b2 b5 .null) k .null, fun _ => rfl⟩
set_option maxRecDepth 100000 in
theorem mq13_4 (v : Nat → Value) (b5 b8 : Value) : ∃ w : Nat → Value, ∀ (a0 a2 : Value), mo4 w a0 a2 = (mo13 v a0 a2 b5 b8) := ⟨fun k => List.getD (mo13 v .null .null b5 b8) k .null, fun _ _ => rfl⟩
set_option maxRecDepth 100000 in
theorem mq14_13 (v : Nat → Value) (b9 : Value) : ∃ w : Nat → Value, ∀ (a0 a2 a5 a8 : Value), mo13 w a0 a2 a5 a8 = (mo14 v a0 a2 a5 a8 b9) := ⟨fun k => List.getD (mo14 v .null .null .null .null b9) k .null, fun _ _ _ _ => rfl⟩
set_option maxRecDepth 100000 in
theorem mq19_9 (v : Nat → Value) (b10 : Value) : ∃ w : Nat → Value, ∀ (a0 a1 : Value), mo9 w a0 a1 = (mo19 v a0 a1 b10) := ⟨fun k => List.getD (mo19 v .null .null b10) k .null, fun _ _ => rfl⟩
set_option maxRecDepth 100000 in
theorem mq18_8 (v : Nat → Value) (b2 b3 : Value) : ∃ w : Nat → Value, ∀ (a1 : Value), mo8 w a1 = (mo18 v a1 b2 b3) := ⟨fun k => List.getD (mo18 v .null b2 b3) k .null, fun _ => rfl⟩
set_option maxRecDepth 100000 in
theorem mq20_11 (v : Nat → Value) (b0 b1 b2 b3 b7 b8 b9 b10 b11 b12 : Value) : ∃ w : Nat → Value, ∀ (a4 : Value), mo11 w a4 = (mo20 v b0 b1 b2 b3 a4 b7 b8 b9 b10 b11 b12) := ⟨fun k => List.getD (mo20 v b0 b1 b2 b3 .null b7 b8 b9 b10 b11 b12) k .null, fun _ => rfl⟩
set_option maxRecDepth 100000 in
theorem mq20_7 (v : Nat → Value) (b1 b2 b3 b4 b7 b8 b9 b10 b11 b12 : Value) : ∃ w : Nat → Value, ∀ (a0 : Value), mo7 w a0 = (mo20 v a0 b1 b2 b3 b4 b7 b8 b9 b10 b11 b12) := ⟨fun k => List.getD (mo20 v .null b1 b2 b3 b4 b7 b8 b9 b10 b11 b12) k .null, fun _ => rfl⟩
set_option maxRecDepth 100000 in
theorem mq21_8 (v : Nat → Value) (b0 b2 b3 : Value) : ∃ w : Nat → Value, ∀ (a1 : Value), mo8 w a1 = (mo21 v b0 a1 b2 b3) := ⟨fun k => List.getD (mo21 v b0 .null b2 b3) k .null, fun _ => rfl⟩
set_option maxRecDepth 100000 in
theorem mq20_17 (v : Nat → Value) (b2 b3 b4 b7 b8 b9 : Value) : ∃ w : Nat → Value, ∀ (a0 a1 a10 a11 a12 : Value), mo17 w a0 a1 a10 a11 a12 = (mo20 v a0 a1 b2 b3 b4 b7 b8 b9 a10 a11 a12) := ⟨fun k => List.getD (mo20 v .null .null b2 b3 b4 b7 b8 b9 .null .null .null) k .null, fun _ _ _ _ _ => rfl⟩
set_option maxRecDepth 100000 in
theorem mq21_18 (v : Nat → Value) (b0 : Value) : ∃ w : Nat → Value, ∀ (a1 a2 a3 : Value), mo18 w a1 a2 a3 = (mo21 v b0 a1 a2 a3) := ⟨fun k => List.getD (mo21 v b0 .null .null .null) k .null, fun _ _ _ => rfl⟩
set_option maxRecDepth 100000 in
theorem mq21_4 (v : Nat → Value) (b1 b3 : Value) : ∃ w : Nat → Value, ∀ (a0 a2 : Value), mo4 w a0 a2 = (mo21 v a0 b1 a2 b3) := ⟨fun k => List.getD (mo21 v .null b1 .null b3) k .null, fun _ _ => rfl⟩
set_option maxRecDepth 100000 in
theorem mq20_15 (v : Nat → Value) (b1 b2 b3 b4 b10 b11 b12 : Value) : ∃ w : Nat → Value, ∀ (a0 a7 a8 a9 : Value), mo15 w a0 a7 a8 a9 = (mo20 v a0 b1 b2 b3 b4 a7 a8 a9 b10 b11 b12) := ⟨fun k => List.getD (mo20 v .null b1 b2 b3 b4 .null .null .null b10 b11 b12) k .null, fun _ _ _ _ => rfl⟩
set_option maxRecDepth 100000 in
theorem mq21_16 (v : Nat → Value) (b0 b1 : Value) : ∃ w : Nat → Value, ∀ (a2 a3 : Value), mo16 w a2 a3 = (mo21 v b0 b1 a2 a3) := ⟨fun k => List.getD (mo21 v b0 b1 .null .null) k .null, fun _ _ => rfl⟩
set_option maxRecDepth 100000 in
theorem mq22_9 (b2 b3 b4 b5 b6 b7 b8 b9 b10 b11 b12 : Value) : ∃ w : Nat → Value, ∀ (a0 a1 : Value), mo9 w a0 a1 = (mo22 a0 a1 b2 b3 b4 b5 b6 b7 b8 b9 b10 b11 b12) := ⟨fun k => List.getD (mo22 .null .null b2 b3 b4 b5 b6 b7 b8 b9 b10 b11 b12) k .null, fun _ _ => rfl⟩
set_option maxRecDepth 100000 in
theorem mq22_20 (b5 b6 : Value) : ∃ w : Nat → Value, ∀ (a0 a1 a2 a3 a4 a7 a8 a9 a10 a11 a12 : Value), mo20 w a0 a1 a2 a3 a4 a7 a8 a9 a10 a11 a12 = (mo22 a0 a1 a2 a3 a4 b5 b6 a7 a8 a9 a10 a11 a12) := ⟨fun k => List.getD (mo22 .null .null .null .null .null b5 b6 .null .null .null .null .null .null) k .null, fun _ _ _ _ _ _ _ _ _ _ _ => rfl⟩
set_option maxRecDepth 100000 in
theorem mq22_12 (b0 b1 b2 b3 b7 b8 b9 b10 b11 b12 : Value) : ∃ w : Nat → Value, ∀ (a4 a5 a6 : Value), mo12 w a4 a5 a6 = (mo22 b0 b1 b2 b3 a4 a5 a6 b7 b8 b9 b10 b11 b12) := ⟨fun k => List.getD (mo22 b0 b1 b2 b3 .null .null .null b7 b8 b9 b10 b11 b12) k .null, fun _ _ _ => rfl⟩
set_option maxRecDepth 100000 in
theorem mq23_9 (v : Nat → Value) (b7 b8 b9 : Value) : ∃ w : Nat → Value, ∀ (a0 a1 : Value), mo9 w a0 a1 = (mo23 v a0 a1 b7 b8 b9) := ⟨fun k => List.getD (mo23 v .null .null b7 b8 b9) k .null, fun _ _ => rfl⟩
set_option maxRecDepth 100000 in
theorem mq23_7 (v : Nat → Value) (b1 b7 b8 b9 : Value) : ∃ w : Nat → Value, ∀ (a0 : Value), mo7 w a0 = (mo23 v a0 b1 b7 b8 b9) := ⟨fun k => List.getD (mo23 v .null b1 b7 b8 b9) k .null, fun _ => rfl⟩
set_option maxRecDepth 100000 in
theorem mq23_15 (v : Nat → Value) (b1 : Value) : ∃ w : Nat → Value, ∀ (a0 a7 a8 a9 : Value), mo15 w a0 a7 a8 a9 = (mo23 v a0 b1 a7 a8 a9) := ⟨fun k => List.getD (mo23 v .null b1 .null .null .null) k .null, fun _ _ _ _ => rfl⟩
set_option maxHeartbeats 8000000 in
set_option maxRecDepth 100000 in
theorem c_X8_isClause (l : Launch) (dC : Nat → ClassId) (dI : Nat → Nat → Nat) (sz : Nat) (h_td : Nat) (v_td : Nat → Value) (x_td_clauses : Int32) (p1 : Int32) (hx_td_clauses : 0 ≤ (x_td_clauses).toInt ∧ (x_td_clauses).toInt ≤ 16) : Met l yX8_isClause (Ws yX8_isClause cX8_isClause 2 (some .boolean)) (({ frames := 0, cells := 0, slots := 0, locals := 0 } : Room)) (PRE (dC, dI) cls [] [(h_td, .inr (5, (mo0 v_td (.int x_td_clauses))))] sz [.ref h_td, .int p1]) (va_Qi (fun (r : Int32) (_ : Unit) => ((r = 1 ∧ (0 ≤ p1.toInt) ∧ (p1.toInt < x_td_clauses.toInt)) ∨ (r = 0 ∧ (p1.toInt < 0 ∨ x_td_clauses.toInt ≤ p1.toInt)))) (fun (_ : Unit) (t : State) => va_P (dC, dI) cls [(h_td, .inr (5, (mo0 v_td (.int x_td_clauses))))] t.heap ∧ va_D (va_A [(h_td, .inr (5, (mo0 v_td (.int x_td_clauses))))] sz) [(h_td, .inr (5, (mo0 v_td (.int x_td_clauses))))]) (va_A [(h_td, .inr (5, (mo0 v_td (.int x_td_clauses))))] sz)) 0 0 (va_A [(h_td, .inr (5, (mo0 v_td (.int x_td_clauses))))] sz) := by
  refine Met.ofW (cc := cX8_isClause) (maxL := 2) (ret := (some .boolean)) (by decide) rfl ?_
  intro p e s m args below meth c s₁ B hml hv
  obtain ⟨rfl, hsz, hP, hK, hD0, hN⟩ := hv
  have hx := B.exec
  have hb := B.bytes
  have hr := B.returns
  have hts := atoms_spec (ws := Ws yX8_isClause cX8_isClause 2 (some .boolean)) B.pre
  have hT : ∀ w ∈ WALL, w ∈ Ws yX8_isClause cX8_isClause 2 (some .boolean) := fun w h => List.mem_cons_of_mem _ h
  have hw := fun w (h : w ∈ WALL) => hts w (hT w h)
  have hown : s.vm.findClass RX8 = some m.cls := findClass_of_methodNamed B.named
  have hlocks := B.notSynchronized
  subst hsz
  have hD := hD0.self (sz := s.heap.size)
  generalize hAe : va_A [(h_td, .inr (5, (mo0 v_td (.int x_td_clauses))))] s.heap.size = A at hD ⊢
  have hA : ∀ q : Nat, s.heap.size ≤ q → A q := fun q h => by rw [← hAe]; exact Or.inr h
  have hS : va_S A s.heap s.heap [] := va_S.rf
  have hl := lv_entry ([.ref h_td, .int p1]) (n := 2) (Nat.le_of_ble_eq_true rfl)
  rw [lg_entry_eq]
  generalize (lg_sl ([.ref h_td, .int p1]) ++ List.replicate (2 - (lg_sl ([.ref h_td, .int p1])).length) Slot.unset).toArray = ls at hl ⊢
  have hl : lv_has ls 2 [(0, .ref h_td), (1, .int p1)] := hl
  refine lv_iload_n hx hb dX8_isClause_0 rfl (lv_at hl 1 rfl) ?_
  refine lv_if_lt (tgt := 16) hx hb dX8_isClause_1 (by decide) (fun c1 => ?_) (fun c1 => ?_)
  · have kc1 := (cv_lt (rfl : (p1).toInt = (p1).toInt) (by decide : (0 : Int32).toInt = 0)).mp c1
    refine lv_iconst (v := 0) hx hb dX8_isClause_16 (by decide) ?_
    refine W.widen (k := 0) (n := 0) (Nat.le_of_ble_eq_true rfl) (Nat.le_of_ble_eq_true rfl) ?_
    have cst0 : (0 : Int32).toInt = 0 := by decide
    have : p1.toInt < 0 ∨ x_td_clauses.toInt ≤ p1.toInt := by omega
    exact W.zret (v := 0) (ty := .boolean) hx hb hr (by decide) (fun t ht hW => ⟨⟨0, (), rfl, (Or.inr (⟨rfl, by assumption⟩)), by rw [ht]; exact hP, hD⟩, hS.F ht⟩) hS.2.2 dX8_isClause_17
  · have kc1 := (not_congr (cv_lt (rfl : (p1).toInt = (p1).toInt) (by decide : (0 : Int32).toInt = 0))).mp c1
    refine lv_iload_n hx hb dX8_isClause_4 rfl (lv_at hl 1 rfl) ?_
    refine lv_aload_n hx hb dX8_isClause_5 rfl (lv_at hl 0 rfl) ?_
    refine va_get (D := (dC, dI)) (ci := 5) (v := .int x_td_clauses) (C := RX8) (T := TX8) (N := 10) hx hb hw iwX8 hown hK hP 0 rfl rfl 9 (by decide) (hw _ w_f_X8_41) (fun _ h9 => h9) rfl dX8_isClause_6 ?_
    refine lv_icmp_ge (tgt := 16) hx hb dX8_isClause_9 (by decide) (fun c3 => ?_) (fun c3 => ?_)
    · have kc3 := (cv_le (rfl : (x_td_clauses).toInt = (x_td_clauses).toInt) (rfl : (p1).toInt = (p1).toInt)).mp c3
      refine lv_iconst (v := 0) hx hb dX8_isClause_16 (by decide) ?_
      refine W.widen (k := 0) (n := 0) (Nat.le_of_ble_eq_true rfl) (Nat.le_of_ble_eq_true rfl) ?_
      have cst0 : (0 : Int32).toInt = 0 := by decide
      have : p1.toInt < 0 ∨ x_td_clauses.toInt ≤ p1.toInt := by omega
      exact W.zret (v := 0) (ty := .boolean) hx hb hr (by decide) (fun t ht hW => ⟨⟨0, (), rfl, (Or.inr (⟨rfl, by assumption⟩)), by rw [ht]; exact hP, hD⟩, hS.F ht⟩) hS.2.2 dX8_isClause_17
    · have kc3 := (not_congr (cv_le (rfl : (x_td_clauses).toInt = (x_td_clauses).toInt) (rfl : (p1).toInt = (p1).toInt))).mp c3
      refine lv_iconst (v := 1) hx hb dX8_isClause_12 (by decide) ?_
      refine lv_goto (tgt := 17) hx hb dX8_isClause_13 (by decide) ?_
      refine W.widen (k := 0) (n := 0) (Nat.le_of_ble_eq_true rfl) (Nat.le_of_ble_eq_true rfl) ?_
      have cst1 : (1 : Int32).toInt = 1 := by decide
      have : 0 ≤ p1.toInt := by omega
      have : p1.toInt < x_td_clauses.toInt := by omega
      exact W.zret (v := 1) (ty := .boolean) hx hb hr (by decide) (fun t ht hW => ⟨⟨1, (), rfl, (Or.inl (⟨rfl, by assumption, by assumption⟩)), by rw [ht]; exact hP, hD⟩, hS.F ht⟩) hS.2.2 dX8_isClause_17

set_option maxHeartbeats 8000000 in
set_option maxRecDepth 100000 in
theorem c_X8_isLiteral (l : Launch) (dC : Nat → ClassId) (dI : Nat → Nat → Nat) (sz : Nat) (h_td : Nat) (h_lit : Nat) (v_td : Nat → Value) (x_td_clauses : Int32) (cy_lit : ClassId) (f_lit : Nat → Int32) (p1 : Int32) (p2 : Int32) (hx_td_clauses : 0 ≤ (x_td_clauses).toInt ∧ (x_td_clauses).toInt ≤ 16) (hf_lit : Rg 0 6 f_lit) : Met l yX8_isLiteral (Ws yX8_isLiteral cX8_isLiteral 3 (some .boolean)) (({ frames := 1, cells := 0, slots := 0, locals := 21 } : Room)) (PRE (dC, dI) cls [(cy_lit, .int)] [(h_td, .inr (5, (mo1 v_td (.ref h_lit) (.int x_td_clauses)))), (h_lit, .inl (cy_lit, 16, .inl f_lit))] sz [.ref h_td, .int p1, .int p2]) (va_Qi (fun (r : Int32) (_ : Unit) => ((r = 1 ∧ (0 ≤ p1.toInt) ∧ (p1.toInt < x_td_clauses.toInt) ∧ (0 ≤ p2.toInt) ∧ (p2.toInt ≤ 5)) ∨ (r = 0))) (fun (_ : Unit) (t : State) => va_P (dC, dI) cls [(h_td, .inr (5, (mo1 v_td (.ref h_lit) (.int x_td_clauses)))), (h_lit, .inl (cy_lit, 16, .inl f_lit))] t.heap ∧ va_D (va_A [(h_td, .inr (5, (mo1 v_td (.ref h_lit) (.int x_td_clauses)))), (h_lit, .inl (cy_lit, 16, .inl f_lit))] sz) [(h_td, .inr (5, (mo1 v_td (.ref h_lit) (.int x_td_clauses)))), (h_lit, .inl (cy_lit, 16, .inl f_lit))]) (va_A [(h_td, .inr (5, (mo1 v_td (.ref h_lit) (.int x_td_clauses)))), (h_lit, .inl (cy_lit, 16, .inl f_lit))] sz)) 0 0 (va_A [(h_td, .inr (5, (mo1 v_td (.ref h_lit) (.int x_td_clauses)))), (h_lit, .inl (cy_lit, 16, .inl f_lit))] sz) := by
  refine Met.ofW (cc := cX8_isLiteral) (maxL := 3) (ret := (some .boolean)) (by decide) rfl ?_
  intro p e s m args below meth c s₁ B hml hv
  obtain ⟨rfl, hsz, hP, hK, hD0, hN⟩ := hv
  have hx := B.exec
  have hb := B.bytes
  have hr := B.returns
  have hts := atoms_spec (ws := Ws yX8_isLiteral cX8_isLiteral 3 (some .boolean)) B.pre
  have hT : ∀ w ∈ WALL, w ∈ Ws yX8_isLiteral cX8_isLiteral 3 (some .boolean) := fun w h => List.mem_cons_of_mem _ h
  have hw := fun w (h : w ∈ WALL) => hts w (hT w h)
  have hown : s.vm.findClass RX8 = some m.cls := findClass_of_methodNamed B.named
  have hlocks := B.notSynchronized
  subst hsz
  have hD := hD0.self (sz := s.heap.size)
  generalize hAe : va_A [(h_td, .inr (5, (mo1 v_td (.ref h_lit) (.int x_td_clauses)))), (h_lit, .inl (cy_lit, 16, .inl f_lit))] s.heap.size = A at hD ⊢
  have hA : ∀ q : Nat, s.heap.size ≤ q → A q := fun q h => by rw [← hAe]; exact Or.inr h
  have hS : va_S A s.heap s.heap [] := va_S.rf
  have hl := lv_entry ([.ref h_td, .int p1, .int p2]) (n := 3) (Nat.le_of_ble_eq_true rfl)
  rw [lg_entry_eq]
  generalize (lg_sl ([.ref h_td, .int p1, .int p2]) ++ List.replicate (3 - (lg_sl ([.ref h_td, .int p1, .int p2])).length) Slot.unset).toArray = ls at hl ⊢
  have hl : lv_has ls 3 [(0, .ref h_td), (1, .int p1), (2, .int p2)] := hl
  refine lv_aload_n hx hb dX8_isLiteral_0 rfl (lv_at hl 0 rfl) ?_
  refine lv_iload_n hx hb dX8_isLiteral_1 rfl (lv_at hl 1 rfl) ?_
  obtain ⟨vq1, evq1⟩ := mq1_0 v_td (.ref h_lit)
  replace hP : va_P (dC, dI) cls [(h_td, .inr (5, (mo0 vq1 (.int x_td_clauses)))), (h_lit, .inl (cy_lit, 16, .inl f_lit))] s.heap := by rw [evq1]; exact hP
  replace hD : va_D A [(h_td, .inr (5, (mo0 vq1 (.int x_td_clauses)))), (h_lit, .inl (cy_lit, 16, .inl f_lit))] := by rw [evq1]; exact hD
  have hPc := hP.sub (ws' := [(h_td, .inr (5, (mo0 vq1 (.int x_td_clauses))))]) [0] rfl
  have hDc := hD.sub (ws' := [(h_td, .inr (5, (mo0 vq1 (.int x_td_clauses))))]) [0] (by decide) rfl
  have hKc := hK.sub (tys' := []) [] rfl
  have hFc := va_free (wc := [(h_td, .inr (5, (mo0 vq1 (.int x_td_clauses))))]) hD hS hA [0] rfl
  refine va_calli (va_runV (As := [.int p1]) (rest := []) ⟨hx, hb, hml, hown, hts⟩ (c_X8_isClause l dC dI s.heap.size h_td vq1 x_td_clauses p1 (by first | exact hx_td_clauses | omega)) (cwV 1 hts (gv hT w_m_X8_50 w_instanceMethod_X8_isClause ws_sel_X8_isClause w_ini_X8 w_code_X8_isClause) rfl rfl rfl (by decide +kernel) ⟨(Nat.le_of_ble_eq_true rfl), (Nat.le_of_ble_eq_true rfl)⟩) ⟨pre_blind, va_recv hK hP (ci := 5) (q0 := 0) rfl rfl, pre_of hPc hKc hDc hN⟩ rfl rfl hl.1 rfl (lv_room (Nat.le_of_ble_eq_true rfl)) dX8_isLiteral_2 ⟨(Nat.le_of_ble_eq_true rfl), (Nat.le_of_ble_eq_true rfl)⟩) hS (fun q _ h => hFc q h) hFc (fun r2 u t H locs ht hvm hq hB hz1 hk1 hS9 => ?_)
  obtain ⟨hP1, hD1⟩ := hB
  rw [ht] at hP1
  obtain ⟨hP9, hD9⟩ := va_join (wr := [(h_lit, .inl (cy_lit, 16, .inl f_lit))]) (w1 := [(h_td, .inr (5, (mo0 vq1 (.int x_td_clauses))))]) hP hD [0] [1] rfl rfl (by decide) (by decide) hk1 hFc hP1 hD1
  clear hP hD hS hPc hDc hKc hFc hP1 hD1 hk1 hz1 ht hvm
  have hP : va_P (dC, dI) cls [(h_lit, .inl (cy_lit, 16, .inl f_lit)), (h_td, .inr (5, (mo0 vq1 (.int x_td_clauses))))] H := hP9
  have hD : va_D A [(h_lit, .inl (cy_lit, 16, .inl f_lit)), (h_td, .inr (5, (mo0 vq1 (.int x_td_clauses))))] := hD9
  have hS := hS9
  clear hP9 hD9 hS9
  rw [evq1] at hP hD
  replace hP : va_P (dC, dI) cls [(h_lit, .inl (cy_lit, 16, .inl f_lit)), (h_td, .inr (5, (mo1 v_td (.ref h_lit) (.int x_td_clauses))))] H := hP
  replace hD : va_D A [(h_lit, .inl (cy_lit, 16, .inl f_lit)), (h_td, .inr (5, (mo1 v_td (.ref h_lit) (.int x_td_clauses))))] := hD
  clear evq1 
  rcases hq with ⟨rfl, hq⟩ | ⟨rfl, hq⟩
  · replace hq : (0 ≤ (p1).toInt) ∧ ((p1).toInt < (x_td_clauses).toInt) := hq
    refine lv_if_eq (tgt := 26) hx hb dX8_isLiteral_5 (by decide) (fun c9 => absurd c9 (by decide)) (fun _ => ?_)
    refine lv_iload_n hx hb dX8_isLiteral_8 rfl (lv_at hl 2 rfl) ?_
    refine lv_if_lt (tgt := 26) hx hb dX8_isLiteral_9 (by decide) (fun c3 => ?_) (fun c3 => ?_)
    · have kc3 := (cv_lt (rfl : (p2).toInt = (p2).toInt) (by decide : (0 : Int32).toInt = 0)).mp c3
      refine lv_iconst (v := 0) hx hb dX8_isLiteral_26 (by decide) ?_
      replace hP : va_P (dC, dI) cls [(h_td, .inr (5, (mo1 v_td (.ref h_lit) (.int x_td_clauses)))), (h_lit, .inl (cy_lit, 16, .inl f_lit))] H := hP.sub [1, 0] rfl
      replace hD : va_D A [(h_td, .inr (5, (mo1 v_td (.ref h_lit) (.int x_td_clauses)))), (h_lit, .inl (cy_lit, 16, .inl f_lit))] := hD.sub [1, 0] (by decide) rfl
      refine W.widen (k := 0) (n := 0) (Nat.le_of_ble_eq_true rfl) (Nat.le_of_ble_eq_true rfl) ?_
      have cst0 : (0 : Int32).toInt = 0 := by decide
      exact W.zret (v := 0) (ty := .boolean) hx hb hr (by decide) (fun t ht hW => ⟨⟨0, (), rfl, (Or.inr (rfl)), by rw [ht]; exact hP, hD⟩, hS.F ht⟩) hS.2.2 dX8_isLiteral_27
    · have kc3 := (not_congr (cv_lt (rfl : (p2).toInt = (p2).toInt) (by decide : (0 : Int32).toInt = 0))).mp c3
      refine lv_iload_n hx hb dX8_isLiteral_12 rfl (lv_at hl 2 rfl) ?_
      refine lv_aload_n hx hb dX8_isLiteral_13 rfl (lv_at hl 0 rfl) ?_
      refine va_get (D := (dC, dI)) (ci := 5) (v := .ref h_lit) (C := RX8) (T := TX8) (N := 10) hx hb hw iwX8 hown hK hP 1 rfl rfl 5 (by decide) (hw _ w_f_X8_25) (fun _ h9 => h9) rfl dX8_isLiteral_14 ?_
      refine lv_iload_n hx hb dX8_isLiteral_17 rfl (lv_at hl 1 rfl) ?_
      refine va_iald hx hb hK hP 0 0 rfl rfl (i := p1) (vp_in_iff.mpr (by omega)) dX8_isLiteral_18 ?_
      refine lv_topi (fun z5 ez5 => ?_)
      have rz5 : 0 ≤ (z5).toInt ∧ (z5).toInt ≤ 6 := by rw [ez5]; exact hf_lit _
      refine lv_icmp_ge (tgt := 26) hx hb dX8_isLiteral_19 (by decide) (fun c6 => ?_) (fun c6 => ?_)
      · have kc6 := (cv_le (rfl : (z5).toInt = (z5).toInt) (rfl : (p2).toInt = (p2).toInt)).mp c6
        refine lv_iconst (v := 0) hx hb dX8_isLiteral_26 (by decide) ?_
        replace hP : va_P (dC, dI) cls [(h_td, .inr (5, (mo1 v_td (.ref h_lit) (.int x_td_clauses)))), (h_lit, .inl (cy_lit, 16, .inl f_lit))] H := hP.sub [1, 0] rfl
        replace hD : va_D A [(h_td, .inr (5, (mo1 v_td (.ref h_lit) (.int x_td_clauses)))), (h_lit, .inl (cy_lit, 16, .inl f_lit))] := hD.sub [1, 0] (by decide) rfl
        refine W.widen (k := 0) (n := 0) (Nat.le_of_ble_eq_true rfl) (Nat.le_of_ble_eq_true rfl) ?_
        have cst0 : (0 : Int32).toInt = 0 := by decide
        exact W.zret (v := 0) (ty := .boolean) hx hb hr (by decide) (fun t ht hW => ⟨⟨0, (), rfl, (Or.inr (rfl)), by rw [ht]; exact hP, hD⟩, hS.F ht⟩) hS.2.2 dX8_isLiteral_27
      · have kc6 := (not_congr (cv_le (rfl : (z5).toInt = (z5).toInt) (rfl : (p2).toInt = (p2).toInt))).mp c6
        refine lv_iconst (v := 1) hx hb dX8_isLiteral_22 (by decide) ?_
        refine lv_goto (tgt := 27) hx hb dX8_isLiteral_23 (by decide) ?_
        replace hP : va_P (dC, dI) cls [(h_td, .inr (5, (mo1 v_td (.ref h_lit) (.int x_td_clauses)))), (h_lit, .inl (cy_lit, 16, .inl f_lit))] H := hP.sub [1, 0] rfl
        replace hD : va_D A [(h_td, .inr (5, (mo1 v_td (.ref h_lit) (.int x_td_clauses)))), (h_lit, .inl (cy_lit, 16, .inl f_lit))] := hD.sub [1, 0] (by decide) rfl
        refine W.widen (k := 0) (n := 0) (Nat.le_of_ble_eq_true rfl) (Nat.le_of_ble_eq_true rfl) ?_
        have cst1 : (1 : Int32).toInt = 1 := by decide
        have : 0 ≤ p1.toInt := by omega
        have : p1.toInt < x_td_clauses.toInt := by omega
        have : 0 ≤ p2.toInt := by omega
        have : p2.toInt ≤ 5 := by omega
        exact W.zret (v := 1) (ty := .boolean) hx hb hr (by decide) (fun t ht hW => ⟨⟨1, (), rfl, (Or.inl (⟨rfl, by assumption, by assumption, by assumption, by assumption⟩)), by rw [ht]; exact hP, hD⟩, hS.F ht⟩) hS.2.2 dX8_isLiteral_27
  · replace hq : ((p1).toInt < 0 ∨ (x_td_clauses).toInt ≤ (p1).toInt) := hq
    refine lv_if_eq (tgt := 26) hx hb dX8_isLiteral_5 (by decide) (fun _ => ?_) (fun c9 => absurd c9 (by decide))
    refine lv_iconst (v := 0) hx hb dX8_isLiteral_26 (by decide) ?_
    replace hP : va_P (dC, dI) cls [(h_td, .inr (5, (mo1 v_td (.ref h_lit) (.int x_td_clauses)))), (h_lit, .inl (cy_lit, 16, .inl f_lit))] H := hP.sub [1, 0] rfl
    replace hD : va_D A [(h_td, .inr (5, (mo1 v_td (.ref h_lit) (.int x_td_clauses)))), (h_lit, .inl (cy_lit, 16, .inl f_lit))] := hD.sub [1, 0] (by decide) rfl
    refine W.widen (k := 0) (n := 0) (Nat.le_of_ble_eq_true rfl) (Nat.le_of_ble_eq_true rfl) ?_
    have cst0 : (0 : Int32).toInt = 0 := by decide
    exact W.zret (v := 0) (ty := .boolean) hx hb hr (by decide) (fun t ht hW => ⟨⟨0, (), rfl, (Or.inr (rfl)), by rw [ht]; exact hP, hD⟩, hS.F ht⟩) hS.2.2 dX8_isLiteral_27

set_option maxHeartbeats 8000000 in
set_option maxRecDepth 100000 in
theorem c_X8_isLiteral_e (l : Launch) (dC : Nat → ClassId) (dI : Nat → Nat → Nat) (sz : Nat) (h_td : Nat) (h_lit : Nat) (v_td : Nat → Value) (x_td_clauses : Int32) (cy_lit : ClassId) (f_lit : Nat → Int32) (p1 : Int32) (p2 : Int32) (hx_td_clauses : 0 ≤ (x_td_clauses).toInt ∧ (x_td_clauses).toInt ≤ 16) (hf_lit : Rg 0 6 f_lit) : Met l yX8_isLiteral (Ws yX8_isLiteral cX8_isLiteral 3 (some .boolean)) (({ frames := 1, cells := 0, slots := 0, locals := 21 } : Room)) (PRE (dC, dI) cls [(cy_lit, .int)] [(h_td, .inr (5, (mo1 v_td (.ref h_lit) (.int x_td_clauses)))), (h_lit, .inl (cy_lit, 16, .inl f_lit))] sz [.ref h_td, .int p1, .int p2]) (va_Qi (fun (r : Int32) (_ : Unit) => ((r = 1 ∧ (0 ≤ (p1).toInt) ∧ ((p1).toInt < (x_td_clauses).toInt) ∧ (0 ≤ (p2).toInt) ∧ ((p2).toInt ≤ 5) ∧ ((p2).toInt < (f_lit (Int32.toNatClampNeg p1)).toInt)) ∨ (r = 0 ∧ ((p1).toInt < 0 ∨ (x_td_clauses).toInt ≤ (p1).toInt ∨ (p2).toInt < 0 ∨ (f_lit (Int32.toNatClampNeg p1)).toInt ≤ (p2).toInt)))) (fun (_ : Unit) (t : State) => va_P (dC, dI) cls [(h_td, .inr (5, (mo1 v_td (.ref h_lit) (.int x_td_clauses)))), (h_lit, .inl (cy_lit, 16, .inl f_lit))] t.heap ∧ va_D (va_A [(h_td, .inr (5, (mo1 v_td (.ref h_lit) (.int x_td_clauses)))), (h_lit, .inl (cy_lit, 16, .inl f_lit))] sz) [(h_td, .inr (5, (mo1 v_td (.ref h_lit) (.int x_td_clauses)))), (h_lit, .inl (cy_lit, 16, .inl f_lit))]) (va_A [(h_td, .inr (5, (mo1 v_td (.ref h_lit) (.int x_td_clauses)))), (h_lit, .inl (cy_lit, 16, .inl f_lit))] sz)) 0 0 (va_A [(h_td, .inr (5, (mo1 v_td (.ref h_lit) (.int x_td_clauses)))), (h_lit, .inl (cy_lit, 16, .inl f_lit))] sz) := by
  refine Met.ofW (cc := cX8_isLiteral) (maxL := 3) (ret := (some .boolean)) (by decide) rfl ?_
  intro p e s m args below meth c s₁ B hml hv
  obtain ⟨rfl, hsz, hP, hK, hD0, hN⟩ := hv
  have hx := B.exec
  have hb := B.bytes
  have hr := B.returns
  have hts := atoms_spec (ws := Ws yX8_isLiteral cX8_isLiteral 3 (some .boolean)) B.pre
  have hT : ∀ w ∈ WALL, w ∈ Ws yX8_isLiteral cX8_isLiteral 3 (some .boolean) := fun w h => List.mem_cons_of_mem _ h
  have hw := fun w (h : w ∈ WALL) => hts w (hT w h)
  have hown : s.vm.findClass RX8 = some m.cls := findClass_of_methodNamed B.named
  have hlocks := B.notSynchronized
  subst hsz
  have hD := hD0.self (sz := s.heap.size)
  generalize hAe : va_A [(h_td, .inr (5, (mo1 v_td (.ref h_lit) (.int x_td_clauses)))), (h_lit, .inl (cy_lit, 16, .inl f_lit))] s.heap.size = A at hD ⊢
  have hA : ∀ q : Nat, s.heap.size ≤ q → A q := fun q h => by rw [← hAe]; exact Or.inr h
  have hS : va_S A s.heap s.heap [] := va_S.rf
  have hl := lv_entry ([.ref h_td, .int p1, .int p2]) (n := 3) (Nat.le_of_ble_eq_true rfl)
  rw [lg_entry_eq]
  generalize (lg_sl ([.ref h_td, .int p1, .int p2]) ++ List.replicate (3 - (lg_sl ([.ref h_td, .int p1, .int p2])).length) Slot.unset).toArray = ls at hl ⊢
  have hl : lv_has ls 3 [(0, .ref h_td), (1, .int p1), (2, .int p2)] := hl
  refine lv_aload_n hx hb dX8_isLiteral_0 rfl (lv_at hl 0 rfl) ?_
  refine lv_iload_n hx hb dX8_isLiteral_1 rfl (lv_at hl 1 rfl) ?_
  obtain ⟨vq1, evq1⟩ := mq1_0 v_td (.ref h_lit)
  replace hP : va_P (dC, dI) cls [(h_td, .inr (5, (mo0 vq1 (.int x_td_clauses)))), (h_lit, .inl (cy_lit, 16, .inl f_lit))] s.heap := by rw [evq1]; exact hP
  replace hD : va_D A [(h_td, .inr (5, (mo0 vq1 (.int x_td_clauses)))), (h_lit, .inl (cy_lit, 16, .inl f_lit))] := by rw [evq1]; exact hD
  have hPc := hP.sub (ws' := [(h_td, .inr (5, (mo0 vq1 (.int x_td_clauses))))]) [0] rfl
  have hDc := hD.sub (ws' := [(h_td, .inr (5, (mo0 vq1 (.int x_td_clauses))))]) [0] (by decide) rfl
  have hKc := hK.sub (tys' := []) [] rfl
  have hFc := va_free (wc := [(h_td, .inr (5, (mo0 vq1 (.int x_td_clauses))))]) hD hS hA [0] rfl
  refine va_calli (va_runV (As := [.int p1]) (rest := []) ⟨hx, hb, hml, hown, hts⟩ (c_X8_isClause l dC dI s.heap.size h_td vq1 x_td_clauses p1 (by first | exact hx_td_clauses | omega)) (cwV 1 hts (gv hT w_m_X8_50 w_instanceMethod_X8_isClause ws_sel_X8_isClause w_ini_X8 w_code_X8_isClause) rfl rfl rfl (by decide +kernel) ⟨(Nat.le_of_ble_eq_true rfl), (Nat.le_of_ble_eq_true rfl)⟩) ⟨pre_blind, va_recv hK hP (ci := 5) (q0 := 0) rfl rfl, pre_of hPc hKc hDc hN⟩ rfl rfl hl.1 rfl (lv_room (Nat.le_of_ble_eq_true rfl)) dX8_isLiteral_2 ⟨(Nat.le_of_ble_eq_true rfl), (Nat.le_of_ble_eq_true rfl)⟩) hS (fun q _ h => hFc q h) hFc (fun r2 u t H locs ht hvm hq hB hz1 hk1 hS9 => ?_)
  obtain ⟨hP1, hD1⟩ := hB
  rw [ht] at hP1
  obtain ⟨hP9, hD9⟩ := va_join (wr := [(h_lit, .inl (cy_lit, 16, .inl f_lit))]) (w1 := [(h_td, .inr (5, (mo0 vq1 (.int x_td_clauses))))]) hP hD [0] [1] rfl rfl (by decide) (by decide) hk1 hFc hP1 hD1
  clear hP hD hS hPc hDc hKc hFc hP1 hD1 hk1 hz1 ht hvm
  have hP : va_P (dC, dI) cls [(h_lit, .inl (cy_lit, 16, .inl f_lit)), (h_td, .inr (5, (mo0 vq1 (.int x_td_clauses))))] H := hP9
  have hD : va_D A [(h_lit, .inl (cy_lit, 16, .inl f_lit)), (h_td, .inr (5, (mo0 vq1 (.int x_td_clauses))))] := hD9
  have hS := hS9
  clear hP9 hD9 hS9
  rw [evq1] at hP hD
  replace hP : va_P (dC, dI) cls [(h_lit, .inl (cy_lit, 16, .inl f_lit)), (h_td, .inr (5, (mo1 v_td (.ref h_lit) (.int x_td_clauses))))] H := hP
  replace hD : va_D A [(h_lit, .inl (cy_lit, 16, .inl f_lit)), (h_td, .inr (5, (mo1 v_td (.ref h_lit) (.int x_td_clauses))))] := hD
  clear evq1 
  rcases hq with ⟨rfl, hq⟩ | ⟨rfl, hq⟩
  · replace hq : (0 ≤ (p1).toInt) ∧ ((p1).toInt < (x_td_clauses).toInt) := hq
    refine lv_if_eq (tgt := 26) hx hb dX8_isLiteral_5 (by decide) (fun c9 => absurd c9 (by decide)) (fun _ => ?_)
    refine lv_iload_n hx hb dX8_isLiteral_8 rfl (lv_at hl 2 rfl) ?_
    refine lv_if_lt (tgt := 26) hx hb dX8_isLiteral_9 (by decide) (fun c3 => ?_) (fun c3 => ?_)
    · have kc3 := (cv_lt (rfl : (p2).toInt = (p2).toInt) (by decide : (0 : Int32).toInt = 0)).mp c3
      refine lv_iconst (v := 0) hx hb dX8_isLiteral_26 (by decide) ?_
      replace hP : va_P (dC, dI) cls [(h_td, .inr (5, (mo1 v_td (.ref h_lit) (.int x_td_clauses)))), (h_lit, .inl (cy_lit, 16, .inl f_lit))] H := hP.sub [1, 0] rfl
      replace hD : va_D A [(h_td, .inr (5, (mo1 v_td (.ref h_lit) (.int x_td_clauses)))), (h_lit, .inl (cy_lit, 16, .inl f_lit))] := hD.sub [1, 0] (by decide) rfl
      refine W.widen (k := 0) (n := 0) (Nat.le_of_ble_eq_true rfl) (Nat.le_of_ble_eq_true rfl) ?_
      have cst0 : (0 : Int32).toInt = 0 := by decide
      have : (p1).toInt < 0 ∨ (x_td_clauses).toInt ≤ (p1).toInt ∨ (p2).toInt < 0 ∨ (f_lit (Int32.toNatClampNeg p1)).toInt ≤ (p2).toInt := by omega
      exact W.zret (v := 0) (ty := .boolean) hx hb hr (by decide) (fun t ht hW => ⟨⟨0, (), rfl, (Or.inr (⟨rfl, by assumption⟩)), by rw [ht]; exact hP, hD⟩, hS.F ht⟩) hS.2.2 dX8_isLiteral_27
    · have kc3 := (not_congr (cv_lt (rfl : (p2).toInt = (p2).toInt) (by decide : (0 : Int32).toInt = 0))).mp c3
      refine lv_iload_n hx hb dX8_isLiteral_12 rfl (lv_at hl 2 rfl) ?_
      refine lv_aload_n hx hb dX8_isLiteral_13 rfl (lv_at hl 0 rfl) ?_
      refine va_get (D := (dC, dI)) (ci := 5) (v := .ref h_lit) (C := RX8) (T := TX8) (N := 10) hx hb hw iwX8 hown hK hP 1 rfl rfl 5 (by decide) (hw _ w_f_X8_25) (fun _ h9 => h9) rfl dX8_isLiteral_14 ?_
      refine lv_iload_n hx hb dX8_isLiteral_17 rfl (lv_at hl 1 rfl) ?_
      refine va_iald hx hb hK hP 0 0 rfl rfl (i := p1) (vp_in_iff.mpr (by omega)) dX8_isLiteral_18 ?_
      refine lv_topi (fun z5 ez5 => ?_)
      have rz5 : 0 ≤ (z5).toInt ∧ (z5).toInt ≤ 6 := by rw [ez5]; exact hf_lit _
      have mzz5 : (f_lit (Int32.toNatClampNeg p1)).toInt = (z5).toInt := by rw [ez5]
      refine lv_icmp_ge (tgt := 26) hx hb dX8_isLiteral_19 (by decide) (fun c6 => ?_) (fun c6 => ?_)
      · have kc6 := (cv_le (rfl : (z5).toInt = (z5).toInt) (rfl : (p2).toInt = (p2).toInt)).mp c6
        refine lv_iconst (v := 0) hx hb dX8_isLiteral_26 (by decide) ?_
        replace hP : va_P (dC, dI) cls [(h_td, .inr (5, (mo1 v_td (.ref h_lit) (.int x_td_clauses)))), (h_lit, .inl (cy_lit, 16, .inl f_lit))] H := hP.sub [1, 0] rfl
        replace hD : va_D A [(h_td, .inr (5, (mo1 v_td (.ref h_lit) (.int x_td_clauses)))), (h_lit, .inl (cy_lit, 16, .inl f_lit))] := hD.sub [1, 0] (by decide) rfl
        refine W.widen (k := 0) (n := 0) (Nat.le_of_ble_eq_true rfl) (Nat.le_of_ble_eq_true rfl) ?_
        have cst0 : (0 : Int32).toInt = 0 := by decide
        have : (p1).toInt < 0 ∨ (x_td_clauses).toInt ≤ (p1).toInt ∨ (p2).toInt < 0 ∨ (f_lit (Int32.toNatClampNeg p1)).toInt ≤ (p2).toInt := by omega
        exact W.zret (v := 0) (ty := .boolean) hx hb hr (by decide) (fun t ht hW => ⟨⟨0, (), rfl, (Or.inr (⟨rfl, by assumption⟩)), by rw [ht]; exact hP, hD⟩, hS.F ht⟩) hS.2.2 dX8_isLiteral_27
      · have kc6 := (not_congr (cv_le (rfl : (z5).toInt = (z5).toInt) (rfl : (p2).toInt = (p2).toInt))).mp c6
        refine lv_iconst (v := 1) hx hb dX8_isLiteral_22 (by decide) ?_
        refine lv_goto (tgt := 27) hx hb dX8_isLiteral_23 (by decide) ?_
        replace hP : va_P (dC, dI) cls [(h_td, .inr (5, (mo1 v_td (.ref h_lit) (.int x_td_clauses)))), (h_lit, .inl (cy_lit, 16, .inl f_lit))] H := hP.sub [1, 0] rfl
        replace hD : va_D A [(h_td, .inr (5, (mo1 v_td (.ref h_lit) (.int x_td_clauses)))), (h_lit, .inl (cy_lit, 16, .inl f_lit))] := hD.sub [1, 0] (by decide) rfl
        refine W.widen (k := 0) (n := 0) (Nat.le_of_ble_eq_true rfl) (Nat.le_of_ble_eq_true rfl) ?_
        have cst1 : (1 : Int32).toInt = 1 := by decide
        have : 0 ≤ (p1).toInt := by omega
        have : (p1).toInt < (x_td_clauses).toInt := by omega
        have : 0 ≤ (p2).toInt := by omega
        have : (p2).toInt ≤ 5 := by omega
        have : (p2).toInt < (f_lit (Int32.toNatClampNeg p1)).toInt := by omega
        exact W.zret (v := 1) (ty := .boolean) hx hb hr (by decide) (fun t ht hW => ⟨⟨1, (), rfl, (Or.inl (⟨rfl, by assumption, by assumption, by assumption, by assumption, by assumption⟩)), by rw [ht]; exact hP, hD⟩, hS.F ht⟩) hS.2.2 dX8_isLiteral_27
  · replace hq : ((p1).toInt < 0 ∨ (x_td_clauses).toInt ≤ (p1).toInt) := hq
    refine lv_if_eq (tgt := 26) hx hb dX8_isLiteral_5 (by decide) (fun _ => ?_) (fun c9 => absurd c9 (by decide))
    refine lv_iconst (v := 0) hx hb dX8_isLiteral_26 (by decide) ?_
    replace hP : va_P (dC, dI) cls [(h_td, .inr (5, (mo1 v_td (.ref h_lit) (.int x_td_clauses)))), (h_lit, .inl (cy_lit, 16, .inl f_lit))] H := hP.sub [1, 0] rfl
    replace hD : va_D A [(h_td, .inr (5, (mo1 v_td (.ref h_lit) (.int x_td_clauses)))), (h_lit, .inl (cy_lit, 16, .inl f_lit))] := hD.sub [1, 0] (by decide) rfl
    refine W.widen (k := 0) (n := 0) (Nat.le_of_ble_eq_true rfl) (Nat.le_of_ble_eq_true rfl) ?_
    have cst0 : (0 : Int32).toInt = 0 := by decide
    have : (p1).toInt < 0 ∨ (x_td_clauses).toInt ≤ (p1).toInt ∨ (p2).toInt < 0 ∨ (f_lit (Int32.toNatClampNeg p1)).toInt ≤ (p2).toInt := by omega
    exact W.zret (v := 0) (ty := .boolean) hx hb hr (by decide) (fun t ht hW => ⟨⟨0, (), rfl, (Or.inr (⟨rfl, by assumption⟩)), by rw [ht]; exact hP, hD⟩, hS.F ht⟩) hS.2.2 dX8_isLiteral_27

set_option maxHeartbeats 8000000 in
set_option maxRecDepth 100000 in
theorem c_X8_isPlus (l : Launch) (dC : Nat → ClassId) (dI : Nat → Nat → Nat) (sz : Nat) (h_td : Nat) (h_pls : Nat) (v_td : Nat → Value) (cy_pls : ClassId) (f_pls : Nat → Int32) (p1 : Int32) (p2 : Int32) (q0 : 0 ≤ (p1).toInt ∧ (p1).toInt ≤ 15) : Met l yX8_isPlus (Ws yX8_isPlus cX8_isPlus 3 (some .boolean)) (({ frames := 0, cells := 0, slots := 0, locals := 0 } : Room)) (PRE (dC, dI) cls [(cy_pls, .int)] [(h_td, .inr (5, (mo2 v_td (.ref h_pls)))), (h_pls, .inl (cy_pls, 16, .inl f_pls))] sz [.ref h_td, .int p1, .int p2]) (va_Qi (fun (r : Int32) (_ : Unit) => (0 ≤ r.toInt ∧ r.toInt ≤ 1)) (fun (_ : Unit) (t : State) => va_P (dC, dI) cls [(h_td, .inr (5, (mo2 v_td (.ref h_pls)))), (h_pls, .inl (cy_pls, 16, .inl f_pls))] t.heap ∧ va_D (va_A [(h_td, .inr (5, (mo2 v_td (.ref h_pls)))), (h_pls, .inl (cy_pls, 16, .inl f_pls))] sz) [(h_td, .inr (5, (mo2 v_td (.ref h_pls)))), (h_pls, .inl (cy_pls, 16, .inl f_pls))]) (va_A [(h_td, .inr (5, (mo2 v_td (.ref h_pls)))), (h_pls, .inl (cy_pls, 16, .inl f_pls))] sz)) 0 0 (va_A [(h_td, .inr (5, (mo2 v_td (.ref h_pls)))), (h_pls, .inl (cy_pls, 16, .inl f_pls))] sz) := by
  refine Met.ofW (cc := cX8_isPlus) (maxL := 3) (ret := (some .boolean)) (by decide) rfl ?_
  intro p e s m args below meth c s₁ B hml hv
  obtain ⟨rfl, hsz, hP, hK, hD0, hN⟩ := hv
  have hx := B.exec
  have hb := B.bytes
  have hr := B.returns
  have hts := atoms_spec (ws := Ws yX8_isPlus cX8_isPlus 3 (some .boolean)) B.pre
  have hT : ∀ w ∈ WALL, w ∈ Ws yX8_isPlus cX8_isPlus 3 (some .boolean) := fun w h => List.mem_cons_of_mem _ h
  have hw := fun w (h : w ∈ WALL) => hts w (hT w h)
  have hown : s.vm.findClass RX8 = some m.cls := findClass_of_methodNamed B.named
  have hlocks := B.notSynchronized
  subst hsz
  have hD := hD0.self (sz := s.heap.size)
  generalize hAe : va_A [(h_td, .inr (5, (mo2 v_td (.ref h_pls)))), (h_pls, .inl (cy_pls, 16, .inl f_pls))] s.heap.size = A at hD ⊢
  have hA : ∀ q : Nat, s.heap.size ≤ q → A q := fun q h => by rw [← hAe]; exact Or.inr h
  have hS : va_S A s.heap s.heap [] := va_S.rf
  have hl := lv_entry ([.ref h_td, .int p1, .int p2]) (n := 3) (Nat.le_of_ble_eq_true rfl)
  rw [lg_entry_eq]
  generalize (lg_sl ([.ref h_td, .int p1, .int p2]) ++ List.replicate (3 - (lg_sl ([.ref h_td, .int p1, .int p2])).length) Slot.unset).toArray = ls at hl ⊢
  have hl : lv_has ls 3 [(0, .ref h_td), (1, .int p1), (2, .int p2)] := hl
  refine lv_aload_n hx hb dX8_isPlus_0 rfl (lv_at hl 0 rfl) ?_
  refine va_get (D := (dC, dI)) (ci := 5) (v := .ref h_pls) (C := RX8) (T := TX8) (N := 10) hx hb hw iwX8 hown hK hP 0 rfl rfl 7 (by decide) (hw _ w_f_X8_31) (fun _ h9 => h9) rfl dX8_isPlus_1 ?_
  refine lv_iload_n hx hb dX8_isPlus_4 rfl (lv_at hl 1 rfl) ?_
  refine va_iald hx hb hK hP 1 0 rfl rfl (i := p1) (vp_in_iff.mpr (by omega)) dX8_isPlus_5 ?_
  refine lv_topi (fun z1 ez1 => ?_)
  refine lv_iload_n hx hb dX8_isPlus_6 rfl (lv_at hl 2 rfl) ?_
  refine lv_ishr hx hb dX8_isPlus_7 ?_
  refine lv_topi (fun z2 ez2 => ?_)
  refine lv_iconst (v := 1) hx hb dX8_isPlus_8 (by decide) ?_
  refine lv_iand hx hb dX8_isPlus_9 ?_
  refine lv_topi (fun z3 ez3 => ?_)
  have tz3 : 0 ≤ (z3).toInt ∧ (z3).toInt ≤ 1 := by rw [ez3]; exact i_andr 1 (by decide) (by decide) (by decide)
  refine lv_iconst (v := 1) hx hb dX8_isPlus_10 (by decide) ?_
  refine lv_icmp_ne (tgt := 18) hx hb dX8_isPlus_11 (by decide) (fun c4 => ?_) (fun c4 => ?_)
  · have kc4 := (not_congr (cv_eq (rfl : (z3).toInt = (z3).toInt) (by decide : (1 : Int32).toInt = 1))).mp c4
    refine lv_iconst (v := 0) hx hb dX8_isPlus_18 (by decide) ?_
    refine W.widen (k := 0) (n := 0) (Nat.le_of_ble_eq_true rfl) (Nat.le_of_ble_eq_true rfl) ?_
    have cst0 : (0 : Int32).toInt = 0 := by decide
    have w5 : 0 ≤ (0 : Int32).toInt ∧ (0 : Int32).toInt ≤ 1 := by omega
    exact W.zret (v := 0) (ty := .boolean) hx hb hr (by decide) (fun t ht hW => ⟨⟨0, (), rfl, w5, by rw [ht]; exact hP, hD⟩, hS.F ht⟩) hS.2.2 dX8_isPlus_19
  · have kc4 := (cv_eq (rfl : (z3).toInt = (z3).toInt) (by decide : (1 : Int32).toInt = 1)).mp c4
    refine lv_iconst (v := 1) hx hb dX8_isPlus_14 (by decide) ?_
    refine lv_goto (tgt := 19) hx hb dX8_isPlus_15 (by decide) ?_
    refine W.widen (k := 0) (n := 0) (Nat.le_of_ble_eq_true rfl) (Nat.le_of_ble_eq_true rfl) ?_
    have cst1 : (1 : Int32).toInt = 1 := by decide
    have w6 : 0 ≤ (1 : Int32).toInt ∧ (1 : Int32).toInt ≤ 1 := by omega
    exact W.zret (v := 1) (ty := .boolean) hx hb hr (by decide) (fun t ht hW => ⟨⟨1, (), rfl, w6, by rw [ht]; exact hP, hD⟩, hS.F ht⟩) hS.2.2 dX8_isPlus_19

set_option maxHeartbeats 8000000 in
set_option maxRecDepth 100000 in
theorem c_X8_part (l : Launch) (dC : Nat → ClassId) (dI : Nat → Nat → Nat) (sz : Nat) (h_td : Nat) (h_fst : Nat) (v_td : Nat → Value) (cy_fst : ClassId) (f_fst : Nat → Int32) (p1 : Int32) (p2 : Int32) (hf_fst : Rg 0 299 f_fst) (q0 : 0 ≤ (p1).toInt ∧ (p1).toInt ≤ 15) (q1 : 0 ≤ (p2).toInt ∧ (p2).toInt ≤ 5) : Met l yX8_part (Ws yX8_part cX8_part 3 (some .int)) (({ frames := 0, cells := 0, slots := 0, locals := 0 } : Room)) (PRE (dC, dI) cls [(cy_fst, .int)] [(h_td, .inr (5, (mo3 v_td (.ref h_fst)))), (h_fst, .inl (cy_fst, 96, .inl f_fst))] sz [.ref h_td, .int p1, .int p2]) (va_Qi (fun (r : Int32) (_ : Unit) => (0 ≤ r.toInt ∧ r.toInt ≤ 299) ∧ (r = f_fst (6 * (p1).toInt.toNat + (p2).toInt.toNat))) (fun (_ : Unit) (t : State) => va_P (dC, dI) cls [(h_td, .inr (5, (mo3 v_td (.ref h_fst)))), (h_fst, .inl (cy_fst, 96, .inl f_fst))] t.heap ∧ va_D (va_A [(h_td, .inr (5, (mo3 v_td (.ref h_fst)))), (h_fst, .inl (cy_fst, 96, .inl f_fst))] sz) [(h_td, .inr (5, (mo3 v_td (.ref h_fst)))), (h_fst, .inl (cy_fst, 96, .inl f_fst))]) (va_A [(h_td, .inr (5, (mo3 v_td (.ref h_fst)))), (h_fst, .inl (cy_fst, 96, .inl f_fst))] sz)) 0 0 (va_A [(h_td, .inr (5, (mo3 v_td (.ref h_fst)))), (h_fst, .inl (cy_fst, 96, .inl f_fst))] sz) := by
  refine Met.ofW (cc := cX8_part) (maxL := 3) (ret := (some .int)) (by decide) rfl ?_
  intro p e s m args below meth c s₁ B hml hv
  obtain ⟨rfl, hsz, hP, hK, hD0, hN⟩ := hv
  have hx := B.exec
  have hb := B.bytes
  have hr := B.returns
  have hts := atoms_spec (ws := Ws yX8_part cX8_part 3 (some .int)) B.pre
  have hT : ∀ w ∈ WALL, w ∈ Ws yX8_part cX8_part 3 (some .int) := fun w h => List.mem_cons_of_mem _ h
  have hw := fun w (h : w ∈ WALL) => hts w (hT w h)
  have hown : s.vm.findClass RX8 = some m.cls := findClass_of_methodNamed B.named
  have hlocks := B.notSynchronized
  subst hsz
  have hD := hD0.self (sz := s.heap.size)
  generalize hAe : va_A [(h_td, .inr (5, (mo3 v_td (.ref h_fst)))), (h_fst, .inl (cy_fst, 96, .inl f_fst))] s.heap.size = A at hD ⊢
  have hA : ∀ q : Nat, s.heap.size ≤ q → A q := fun q h => by rw [← hAe]; exact Or.inr h
  have hS : va_S A s.heap s.heap [] := va_S.rf
  have hl := lv_entry ([.ref h_td, .int p1, .int p2]) (n := 3) (Nat.le_of_ble_eq_true rfl)
  rw [lg_entry_eq]
  generalize (lg_sl ([.ref h_td, .int p1, .int p2]) ++ List.replicate (3 - (lg_sl ([.ref h_td, .int p1, .int p2])).length) Slot.unset).toArray = ls at hl ⊢
  have hl : lv_has ls 3 [(0, .ref h_td), (1, .int p1), (2, .int p2)] := hl
  refine lv_aload_n hx hb dX8_part_0 rfl (lv_at hl 0 rfl) ?_
  refine va_get (D := (dC, dI)) (ci := 5) (v := .ref h_fst) (C := RX8) (T := TX8) (N := 10) hx hb hw iwX8 hown hK hP 0 rfl rfl 8 (by decide) (hw _ w_f_X8_34) (fun _ h9 => h9) rfl dX8_part_1 ?_
  refine lv_iload_n hx hb dX8_part_4 rfl (lv_at hl 1 rfl) ?_
  refine lv_bipush (v := 6) hx hb dX8_part_5 (by decide) ?_
  refine lv_imul hx hb dX8_part_7 ?_
  refine lv_topi (fun z1 ez1 => ?_)
  have tz1 : (z1).toInt = (p1).toInt * 6 := by rw [ez1]; exact i_mul rfl (by decide) (by omega)
  refine lv_iload_n hx hb dX8_part_8 rfl (lv_at hl 2 rfl) ?_
  refine lv_iadd hx hb dX8_part_9 ?_
  refine lv_topi (fun z2 ez2 => ?_)
  have tz2 : (z2).toInt = (z1).toInt + (p2).toInt := by rw [ez2]; exact i_add rfl rfl (by omega)
  refine va_iald hx hb hK hP 1 0 rfl rfl (i := z2) (vp_in_iff.mpr (by omega)) dX8_part_10 ?_
  refine lv_topi (fun z3 ez3 => ?_)
  have rz3 : 0 ≤ (z3).toInt ∧ (z3).toInt ≤ 299 := by rw [ez3]; exact hf_fst _
  have pe9 : Int32.toNatClampNeg z2 = 6 * (p1).toInt.toNat + (p2).toInt.toNat := by rw [clamp_nat (i := z2) (by omega)]; omega
  have pt9 : z3 = f_fst (6 * (p1).toInt.toNat + (p2).toInt.toNat) := by rw [ez3, pe9]
  refine W.widen (k := 0) (n := 0) (Nat.le_of_ble_eq_true rfl) (Nat.le_of_ble_eq_true rfl) ?_
  have w4 : 0 ≤ (z3 : Int32).toInt ∧ (z3 : Int32).toInt ≤ 299 := by omega
  have w5 : (z3 : Int32) = f_fst (6 * (p1).toInt.toNat + (p2).toInt.toNat) := pt9
  exact W.iret (v := z3) hx hb hr (fun t ht hW => ⟨⟨z3, (), rfl, ⟨w4, w5⟩, by rw [ht]; exact hP, hD⟩, hS.F ht⟩) hS.2.2 dX8_part_11

set_option maxHeartbeats 8000000 in
set_option maxRecDepth 100000 in
theorem c_X8_all (l : Launch) (dC : Nat → ClassId) (dI : Nat → Nat → Nat) (sz : Nat) (h_td : Nat) (v_td : Nat → Value) (x_td_clauses : Int32) (hx_td_clauses : 0 ≤ (x_td_clauses).toInt ∧ (x_td_clauses).toInt ≤ 16) : Met l yX8_all (Ws yX8_all cX8_all 1 (some .int)) (({ frames := 0, cells := 0, slots := 0, locals := 0 } : Room)) (PRE (dC, dI) cls [] [(h_td, .inr (5, (mo0 v_td (.int x_td_clauses))))] sz [.ref h_td]) (va_Qi (fun (r : Int32) (_ : Unit) => True) (fun (_ : Unit) (t : State) => va_P (dC, dI) cls [(h_td, .inr (5, (mo0 v_td (.int x_td_clauses))))] t.heap ∧ va_D (va_A [(h_td, .inr (5, (mo0 v_td (.int x_td_clauses))))] sz) [(h_td, .inr (5, (mo0 v_td (.int x_td_clauses))))]) (va_A [(h_td, .inr (5, (mo0 v_td (.int x_td_clauses))))] sz)) 0 0 (va_A [(h_td, .inr (5, (mo0 v_td (.int x_td_clauses))))] sz) := by
  refine Met.ofW (cc := cX8_all) (maxL := 1) (ret := (some .int)) (by decide) rfl ?_
  intro p e s m args below meth c s₁ B hml hv
  obtain ⟨rfl, hsz, hP, hK, hD0, hN⟩ := hv
  have hx := B.exec
  have hb := B.bytes
  have hr := B.returns
  have hts := atoms_spec (ws := Ws yX8_all cX8_all 1 (some .int)) B.pre
  have hT : ∀ w ∈ WALL, w ∈ Ws yX8_all cX8_all 1 (some .int) := fun w h => List.mem_cons_of_mem _ h
  have hw := fun w (h : w ∈ WALL) => hts w (hT w h)
  have hown : s.vm.findClass RX8 = some m.cls := findClass_of_methodNamed B.named
  have hlocks := B.notSynchronized
  subst hsz
  have hD := hD0.self (sz := s.heap.size)
  generalize hAe : va_A [(h_td, .inr (5, (mo0 v_td (.int x_td_clauses))))] s.heap.size = A at hD ⊢
  have hA : ∀ q : Nat, s.heap.size ≤ q → A q := fun q h => by rw [← hAe]; exact Or.inr h
  have hS : va_S A s.heap s.heap [] := va_S.rf
  have hl := lv_entry ([.ref h_td]) (n := 1) (Nat.le_of_ble_eq_true rfl)
  rw [lg_entry_eq]
  generalize (lg_sl ([.ref h_td]) ++ List.replicate (1 - (lg_sl ([.ref h_td])).length) Slot.unset).toArray = ls at hl ⊢
  have hl : lv_has ls 1 [(0, .ref h_td)] := hl
  refine lv_iconst (v := 1) hx hb dX8_all_0 (by decide) ?_
  refine lv_aload_n hx hb dX8_all_1 rfl (lv_at hl 0 rfl) ?_
  refine va_get (D := (dC, dI)) (ci := 5) (v := .int x_td_clauses) (C := RX8) (T := TX8) (N := 10) hx hb hw iwX8 hown hK hP 0 rfl rfl 9 (by decide) (hw _ w_f_X8_41) (fun _ h9 => h9) rfl dX8_all_2 ?_
  refine lv_ishl hx hb dX8_all_5 ?_
  refine lv_topi (fun z1 ez1 => ?_)
  refine lv_iconst (v := 1) hx hb dX8_all_6 (by decide) ?_
  refine lv_isub hx hb dX8_all_7 ?_
  refine lv_topi (fun z2 ez2 => ?_)
  refine W.widen (k := 0) (n := 0) (Nat.le_of_ble_eq_true rfl) (Nat.le_of_ble_eq_true rfl) ?_
  exact W.iret (v := z2) hx hb hr (fun t ht hW => ⟨⟨z2, (), rfl, trivial, by rw [ht]; exact hP, hD⟩, hS.F ht⟩) hS.2.2 dX8_all_8

set_option maxHeartbeats 8000000 in
set_option maxRecDepth 100000 in
theorem c_X8_haveLikeNames (l : Launch) (dC : Nat → ClassId) (dI : Nat → Nat → Nat) (sz : Nat) (h_td : Nat) (h_nam : Nat) (h_trm : Nat) (v_td : Nat → Value) (cy_nam : ClassId) (f_nam : Nat → Int64) (cy_trm : ClassId) (f_trm : Nat → Int32) (p1 : Int32) (p2 : Int32) (hf_trm : Rg 0 3 f_trm) (q0 : 0 ≤ (p1).toInt ∧ (p1).toInt ≤ 299) (q1 : 0 ≤ (p2).toInt ∧ (p2).toInt ≤ 299) : Met l yX8_haveLikeNames (Ws yX8_haveLikeNames cX8_haveLikeNames 3 (some .boolean)) (({ frames := 0, cells := 0, slots := 0, locals := 0 } : Room)) (PRE (dC, dI) cls [(cy_nam, .long), (cy_trm, .int)] [(h_td, .inr (5, (mo4 v_td (.ref h_nam) (.ref h_trm)))), (h_nam, .inl (cy_nam, 300, .inr (.inl f_nam))), (h_trm, .inl (cy_trm, 300, .inl f_trm))] sz [.ref h_td, .int p1, .int p2]) (va_Qi (fun (r : Int32) (_ : Unit) => (0 ≤ r.toInt ∧ r.toInt ≤ 1)) (fun (_ : Unit) (t : State) => va_P (dC, dI) cls [(h_td, .inr (5, (mo4 v_td (.ref h_nam) (.ref h_trm)))), (h_nam, .inl (cy_nam, 300, .inr (.inl f_nam))), (h_trm, .inl (cy_trm, 300, .inl f_trm))] t.heap ∧ va_D (va_A [(h_td, .inr (5, (mo4 v_td (.ref h_nam) (.ref h_trm)))), (h_nam, .inl (cy_nam, 300, .inr (.inl f_nam))), (h_trm, .inl (cy_trm, 300, .inl f_trm))] sz) [(h_td, .inr (5, (mo4 v_td (.ref h_nam) (.ref h_trm)))), (h_nam, .inl (cy_nam, 300, .inr (.inl f_nam))), (h_trm, .inl (cy_trm, 300, .inl f_trm))]) (va_A [(h_td, .inr (5, (mo4 v_td (.ref h_nam) (.ref h_trm)))), (h_nam, .inl (cy_nam, 300, .inr (.inl f_nam))), (h_trm, .inl (cy_trm, 300, .inl f_trm))] sz)) 0 0 (va_A [(h_td, .inr (5, (mo4 v_td (.ref h_nam) (.ref h_trm)))), (h_nam, .inl (cy_nam, 300, .inr (.inl f_nam))), (h_trm, .inl (cy_trm, 300, .inl f_trm))] sz) := by
  refine Met.ofW (cc := cX8_haveLikeNames) (maxL := 3) (ret := (some .boolean)) (by decide) rfl ?_
  intro p e s m args below meth c s₁ B hml hv
  obtain ⟨rfl, hsz, hP, hK, hD0, hN⟩ := hv
  have hx := B.exec
  have hb := B.bytes
  have hr := B.returns
  have hts := atoms_spec (ws := Ws yX8_haveLikeNames cX8_haveLikeNames 3 (some .boolean)) B.pre
  have hT : ∀ w ∈ WALL, w ∈ Ws yX8_haveLikeNames cX8_haveLikeNames 3 (some .boolean) := fun w h => List.mem_cons_of_mem _ h
  have hw := fun w (h : w ∈ WALL) => hts w (hT w h)
  have hown : s.vm.findClass RX8 = some m.cls := findClass_of_methodNamed B.named
  have hlocks := B.notSynchronized
  subst hsz
  have hD := hD0.self (sz := s.heap.size)
  generalize hAe : va_A [(h_td, .inr (5, (mo4 v_td (.ref h_nam) (.ref h_trm)))), (h_nam, .inl (cy_nam, 300, .inr (.inl f_nam))), (h_trm, .inl (cy_trm, 300, .inl f_trm))] s.heap.size = A at hD ⊢
  have hA : ∀ q : Nat, s.heap.size ≤ q → A q := fun q h => by rw [← hAe]; exact Or.inr h
  have hS : va_S A s.heap s.heap [] := va_S.rf
  have hl := lv_entry ([.ref h_td, .int p1, .int p2]) (n := 3) (Nat.le_of_ble_eq_true rfl)
  rw [lg_entry_eq]
  generalize (lg_sl ([.ref h_td, .int p1, .int p2]) ++ List.replicate (3 - (lg_sl ([.ref h_td, .int p1, .int p2])).length) Slot.unset).toArray = ls at hl ⊢
  have hl : lv_has ls 3 [(0, .ref h_td), (1, .int p1), (2, .int p2)] := hl
  refine lv_aload_n hx hb dX8_haveLikeNames_0 rfl (lv_at hl 0 rfl) ?_
  refine va_get (D := (dC, dI)) (ci := 5) (v := .ref h_nam) (C := RX8) (T := TX8) (N := 10) hx hb hw iwX8 hown hK hP 0 rfl rfl 0 (by decide) (hw _ w_f_X8_9) (fun _ h9 => h9) rfl dX8_haveLikeNames_1 ?_
  refine lv_iload_n hx hb dX8_haveLikeNames_4 rfl (lv_at hl 1 rfl) ?_
  refine va_lald hx hb hK hP 1 0 rfl rfl (i := p1) (vp_in_iff.mpr (by omega)) dX8_haveLikeNames_5 ?_
  refine lv_topl (fun z1 ez1 => ?_)
  refine lv_aload_n hx hb dX8_haveLikeNames_6 rfl (lv_at hl 0 rfl) ?_
  refine va_get (D := (dC, dI)) (ci := 5) (v := .ref h_nam) (C := RX8) (T := TX8) (N := 10) hx hb hw iwX8 hown hK hP 0 rfl rfl 0 (by decide) (hw _ w_f_X8_9) (fun _ h9 => h9) rfl dX8_haveLikeNames_7 ?_
  refine lv_iload_n hx hb dX8_haveLikeNames_10 rfl (lv_at hl 2 rfl) ?_
  refine va_lald hx hb hK hP 1 0 rfl rfl (i := p2) (vp_in_iff.mpr (by omega)) dX8_haveLikeNames_11 ?_
  refine lv_topl (fun z2 ez2 => ?_)
  refine W.lcmp hx hb dX8_haveLikeNames_12 ?_
  refine lv_topi (fun z3 ez3 => ?_)
  refine lv_if_ne (tgt := 35) hx hb dX8_haveLikeNames_13 (by decide) (fun c4 => ?_) (fun c4 => ?_)
  · have kc4 := (not_congr (cv_eq (rfl : (z3).toInt = (z3).toInt) (by decide : (0 : Int32).toInt = 0))).mp c4
    refine lv_iconst (v := 0) hx hb dX8_haveLikeNames_35 (by decide) ?_
    refine W.widen (k := 0) (n := 0) (Nat.le_of_ble_eq_true rfl) (Nat.le_of_ble_eq_true rfl) ?_
    have cst0 : (0 : Int32).toInt = 0 := by decide
    have w5 : 0 ≤ (0 : Int32).toInt ∧ (0 : Int32).toInt ≤ 1 := by omega
    exact W.zret (v := 0) (ty := .boolean) hx hb hr (by decide) (fun t ht hW => ⟨⟨0, (), rfl, w5, by rw [ht]; exact hP, hD⟩, hS.F ht⟩) hS.2.2 dX8_haveLikeNames_36
  · have kc4 := (cv_eq (rfl : (z3).toInt = (z3).toInt) (by decide : (0 : Int32).toInt = 0)).mp c4
    refine lv_aload_n hx hb dX8_haveLikeNames_16 rfl (lv_at hl 0 rfl) ?_
    refine va_get (D := (dC, dI)) (ci := 5) (v := .ref h_trm) (C := RX8) (T := TX8) (N := 10) hx hb hw iwX8 hown hK hP 0 rfl rfl 2 (by decide) (hw _ w_f_X8_19) (fun _ h9 => h9) rfl dX8_haveLikeNames_17 ?_
    refine lv_iload_n hx hb dX8_haveLikeNames_20 rfl (lv_at hl 1 rfl) ?_
    refine va_iald hx hb hK hP 2 1 rfl rfl (i := p1) (vp_in_iff.mpr (by omega)) dX8_haveLikeNames_21 ?_
    refine lv_topi (fun z6 ez6 => ?_)
    have rz6 : 0 ≤ (z6).toInt ∧ (z6).toInt ≤ 3 := by rw [ez6]; exact hf_trm _
    refine lv_aload_n hx hb dX8_haveLikeNames_22 rfl (lv_at hl 0 rfl) ?_
    refine va_get (D := (dC, dI)) (ci := 5) (v := .ref h_trm) (C := RX8) (T := TX8) (N := 10) hx hb hw iwX8 hown hK hP 0 rfl rfl 2 (by decide) (hw _ w_f_X8_19) (fun _ h9 => h9) rfl dX8_haveLikeNames_23 ?_
    refine lv_iload_n hx hb dX8_haveLikeNames_26 rfl (lv_at hl 2 rfl) ?_
    refine va_iald hx hb hK hP 2 1 rfl rfl (i := p2) (vp_in_iff.mpr (by omega)) dX8_haveLikeNames_27 ?_
    refine lv_topi (fun z7 ez7 => ?_)
    have rz7 : 0 ≤ (z7).toInt ∧ (z7).toInt ≤ 3 := by rw [ez7]; exact hf_trm _
    refine lv_icmp_ne (tgt := 35) hx hb dX8_haveLikeNames_28 (by decide) (fun c8 => ?_) (fun c8 => ?_)
    · have kc8 := (not_congr (cv_eq (rfl : (z6).toInt = (z6).toInt) (rfl : (z7).toInt = (z7).toInt))).mp c8
      refine lv_iconst (v := 0) hx hb dX8_haveLikeNames_35 (by decide) ?_
      refine W.widen (k := 0) (n := 0) (Nat.le_of_ble_eq_true rfl) (Nat.le_of_ble_eq_true rfl) ?_
      have cst0 : (0 : Int32).toInt = 0 := by decide
      have w9 : 0 ≤ (0 : Int32).toInt ∧ (0 : Int32).toInt ≤ 1 := by omega
      exact W.zret (v := 0) (ty := .boolean) hx hb hr (by decide) (fun t ht hW => ⟨⟨0, (), rfl, w9, by rw [ht]; exact hP, hD⟩, hS.F ht⟩) hS.2.2 dX8_haveLikeNames_36
    · have kc8 := (cv_eq (rfl : (z6).toInt = (z6).toInt) (rfl : (z7).toInt = (z7).toInt)).mp c8
      refine lv_iconst (v := 1) hx hb dX8_haveLikeNames_31 (by decide) ?_
      refine lv_goto (tgt := 36) hx hb dX8_haveLikeNames_32 (by decide) ?_
      refine W.widen (k := 0) (n := 0) (Nat.le_of_ble_eq_true rfl) (Nat.le_of_ble_eq_true rfl) ?_
      have cst1 : (1 : Int32).toInt = 1 := by decide
      have w10 : 0 ≤ (1 : Int32).toInt ∧ (1 : Int32).toInt ≤ 1 := by omega
      exact W.zret (v := 1) (ty := .boolean) hx hb hr (by decide) (fun t ht hW => ⟨⟨1, (), rfl, w10, by rw [ht]; exact hP, hD⟩, hS.F ht⟩) hS.2.2 dX8_haveLikeNames_36

set_option maxHeartbeats 8000000 in
set_option maxRecDepth 100000 in
theorem c_X8_areOpposite (l : Launch) (dC : Nat → ClassId) (dI : Nat → Nat → Nat) (sz : Nat) (h_td : Nat) (h_nam : Nat) (h_trm : Nat) (h_pls : Nat) (h_fst : Nat) (v_td : Nat → Value) (cy_nam : ClassId) (f_nam : Nat → Int64) (cy_trm : ClassId) (f_trm : Nat → Int32) (cy_pls : ClassId) (f_pls : Nat → Int32) (cy_fst : ClassId) (f_fst : Nat → Int32) (p1 : Int32) (p2 : Int32) (p3 : Int32) (p4 : Int32) (hf_trm : Rg 0 3 f_trm) (hf_fst : Rg 0 299 f_fst) (q0 : 0 ≤ (p1).toInt ∧ (p1).toInt ≤ 15) (q1 : 0 ≤ (p2).toInt ∧ (p2).toInt ≤ 5) (q2 : 0 ≤ (p3).toInt ∧ (p3).toInt ≤ 15) (q3 : 0 ≤ (p4).toInt ∧ (p4).toInt ≤ 5) : Met l yX8_areOpposite (Ws yX8_areOpposite cX8_areOpposite 5 (some .boolean)) (({ frames := 1, cells := 0, slots := 0, locals := 22 } : Room)) (PRE (dC, dI) cls [(cy_nam, .long), (cy_trm, .int), (cy_pls, .int), (cy_fst, .int)] [(h_td, .inr (5, (mo5 v_td (.ref h_nam) (.ref h_trm) (.ref h_pls) (.ref h_fst)))), (h_nam, .inl (cy_nam, 300, .inr (.inl f_nam))), (h_trm, .inl (cy_trm, 300, .inl f_trm)), (h_pls, .inl (cy_pls, 16, .inl f_pls)), (h_fst, .inl (cy_fst, 96, .inl f_fst))] sz [.ref h_td, .int p1, .int p2, .int p3, .int p4]) (va_Qi (fun (r : Int32) (_ : Unit) => (0 ≤ r.toInt ∧ r.toInt ≤ 1)) (fun (_ : Unit) (t : State) => va_P (dC, dI) cls [(h_td, .inr (5, (mo5 v_td (.ref h_nam) (.ref h_trm) (.ref h_pls) (.ref h_fst)))), (h_nam, .inl (cy_nam, 300, .inr (.inl f_nam))), (h_trm, .inl (cy_trm, 300, .inl f_trm)), (h_pls, .inl (cy_pls, 16, .inl f_pls)), (h_fst, .inl (cy_fst, 96, .inl f_fst))] t.heap ∧ va_D (va_A [(h_td, .inr (5, (mo5 v_td (.ref h_nam) (.ref h_trm) (.ref h_pls) (.ref h_fst)))), (h_nam, .inl (cy_nam, 300, .inr (.inl f_nam))), (h_trm, .inl (cy_trm, 300, .inl f_trm)), (h_pls, .inl (cy_pls, 16, .inl f_pls)), (h_fst, .inl (cy_fst, 96, .inl f_fst))] sz) [(h_td, .inr (5, (mo5 v_td (.ref h_nam) (.ref h_trm) (.ref h_pls) (.ref h_fst)))), (h_nam, .inl (cy_nam, 300, .inr (.inl f_nam))), (h_trm, .inl (cy_trm, 300, .inl f_trm)), (h_pls, .inl (cy_pls, 16, .inl f_pls)), (h_fst, .inl (cy_fst, 96, .inl f_fst))]) (va_A [(h_td, .inr (5, (mo5 v_td (.ref h_nam) (.ref h_trm) (.ref h_pls) (.ref h_fst)))), (h_nam, .inl (cy_nam, 300, .inr (.inl f_nam))), (h_trm, .inl (cy_trm, 300, .inl f_trm)), (h_pls, .inl (cy_pls, 16, .inl f_pls)), (h_fst, .inl (cy_fst, 96, .inl f_fst))] sz)) 0 0 (va_A [(h_td, .inr (5, (mo5 v_td (.ref h_nam) (.ref h_trm) (.ref h_pls) (.ref h_fst)))), (h_nam, .inl (cy_nam, 300, .inr (.inl f_nam))), (h_trm, .inl (cy_trm, 300, .inl f_trm)), (h_pls, .inl (cy_pls, 16, .inl f_pls)), (h_fst, .inl (cy_fst, 96, .inl f_fst))] sz) := by
  refine Met.ofW (cc := cX8_areOpposite) (maxL := 5) (ret := (some .boolean)) (by decide) rfl ?_
  intro p e s m args below meth c s₁ B hml hv
  obtain ⟨rfl, hsz, hP, hK, hD0, hN⟩ := hv
  have hx := B.exec
  have hb := B.bytes
  have hr := B.returns
  have hts := atoms_spec (ws := Ws yX8_areOpposite cX8_areOpposite 5 (some .boolean)) B.pre
  have hT : ∀ w ∈ WALL, w ∈ Ws yX8_areOpposite cX8_areOpposite 5 (some .boolean) := fun w h => List.mem_cons_of_mem _ h
  have hw := fun w (h : w ∈ WALL) => hts w (hT w h)
  have hown : s.vm.findClass RX8 = some m.cls := findClass_of_methodNamed B.named
  have hlocks := B.notSynchronized
  subst hsz
  have hD := hD0.self (sz := s.heap.size)
  generalize hAe : va_A [(h_td, .inr (5, (mo5 v_td (.ref h_nam) (.ref h_trm) (.ref h_pls) (.ref h_fst)))), (h_nam, .inl (cy_nam, 300, .inr (.inl f_nam))), (h_trm, .inl (cy_trm, 300, .inl f_trm)), (h_pls, .inl (cy_pls, 16, .inl f_pls)), (h_fst, .inl (cy_fst, 96, .inl f_fst))] s.heap.size = A at hD ⊢
  have hA : ∀ q : Nat, s.heap.size ≤ q → A q := fun q h => by rw [← hAe]; exact Or.inr h
  have hS : va_S A s.heap s.heap [] := va_S.rf
  have hl := lv_entry ([.ref h_td, .int p1, .int p2, .int p3, .int p4]) (n := 5) (Nat.le_of_ble_eq_true rfl)
  rw [lg_entry_eq]
  generalize (lg_sl ([.ref h_td, .int p1, .int p2, .int p3, .int p4]) ++ List.replicate (5 - (lg_sl ([.ref h_td, .int p1, .int p2, .int p3, .int p4])).length) Slot.unset).toArray = ls at hl ⊢
  have hl : lv_has ls 5 [(0, .ref h_td), (1, .int p1), (2, .int p2), (3, .int p3), (4, .int p4)] := hl
  refine lv_aload_n hx hb dX8_areOpposite_0 rfl (lv_at hl 0 rfl) ?_
  refine lv_iload_n hx hb dX8_areOpposite_1 rfl (lv_at hl 1 rfl) ?_
  refine lv_iload_n hx hb dX8_areOpposite_2 rfl (lv_at hl 2 rfl) ?_
  obtain ⟨vq1, evq1⟩ := mq5_2 v_td (.ref h_nam) (.ref h_trm) (.ref h_fst)
  replace hP : va_P (dC, dI) cls [(h_td, .inr (5, (mo2 vq1 (.ref h_pls)))), (h_nam, .inl (cy_nam, 300, .inr (.inl f_nam))), (h_trm, .inl (cy_trm, 300, .inl f_trm)), (h_pls, .inl (cy_pls, 16, .inl f_pls)), (h_fst, .inl (cy_fst, 96, .inl f_fst))] s.heap := by rw [evq1]; exact hP
  replace hD : va_D A [(h_td, .inr (5, (mo2 vq1 (.ref h_pls)))), (h_nam, .inl (cy_nam, 300, .inr (.inl f_nam))), (h_trm, .inl (cy_trm, 300, .inl f_trm)), (h_pls, .inl (cy_pls, 16, .inl f_pls)), (h_fst, .inl (cy_fst, 96, .inl f_fst))] := by rw [evq1]; exact hD
  have hPc := hP.sub (ws' := [(h_td, .inr (5, (mo2 vq1 (.ref h_pls)))), (h_pls, .inl (cy_pls, 16, .inl f_pls))]) [0, 3] rfl
  have hDc := hD.sub (ws' := [(h_td, .inr (5, (mo2 vq1 (.ref h_pls)))), (h_pls, .inl (cy_pls, 16, .inl f_pls))]) [0, 3] (by decide) rfl
  have hKc := hK.sub (tys' := [(cy_pls, .int)]) [2] rfl
  have hFc := va_free (wc := [(h_td, .inr (5, (mo2 vq1 (.ref h_pls)))), (h_pls, .inl (cy_pls, 16, .inl f_pls))]) hD hS hA [0, 3] rfl
  refine va_calli (va_runV (As := [.int p1, .int p2]) (rest := []) ⟨hx, hb, hml, hown, hts⟩ (c_X8_isPlus l dC dI s.heap.size h_td h_pls vq1 cy_pls f_pls p1 p2 (by first | exact q0 | omega)) (cwV 2 hts (gv hT w_m_X8_54 w_instanceMethod_X8_isPlus ws_sel_X8_isPlus w_ini_X8 w_code_X8_isPlus) rfl rfl rfl (by decide +kernel) ⟨(Nat.le_of_ble_eq_true rfl), (Nat.le_of_ble_eq_true rfl)⟩) ⟨pre_blind, va_recv hK hP (ci := 5) (q0 := 0) rfl rfl, pre_of hPc hKc hDc hN⟩ rfl rfl hl.1 rfl (lv_room (Nat.le_of_ble_eq_true rfl)) dX8_areOpposite_3 ⟨(Nat.le_of_ble_eq_true rfl), (Nat.le_of_ble_eq_true rfl)⟩) hS (fun q _ h => hFc q h) hFc (fun r2 u t H locs ht hvm hq hB hz1 hk1 hS9 => ?_)
  obtain ⟨hP1, hD1⟩ := hB
  rw [ht] at hP1
  obtain ⟨hP9, hD9⟩ := va_join (wr := [(h_nam, .inl (cy_nam, 300, .inr (.inl f_nam))), (h_trm, .inl (cy_trm, 300, .inl f_trm)), (h_fst, .inl (cy_fst, 96, .inl f_fst))]) (w1 := [(h_td, .inr (5, (mo2 vq1 (.ref h_pls)))), (h_pls, .inl (cy_pls, 16, .inl f_pls))]) hP hD [0, 3] [1, 2, 4] rfl rfl (by decide) (by decide) hk1 hFc hP1 hD1
  clear hP hD hS hPc hDc hKc hFc hP1 hD1 hk1 hz1 ht hvm
  have hP : va_P (dC, dI) cls [(h_nam, .inl (cy_nam, 300, .inr (.inl f_nam))), (h_trm, .inl (cy_trm, 300, .inl f_trm)), (h_fst, .inl (cy_fst, 96, .inl f_fst)), (h_td, .inr (5, (mo2 vq1 (.ref h_pls)))), (h_pls, .inl (cy_pls, 16, .inl f_pls))] H := hP9
  have hD : va_D A [(h_nam, .inl (cy_nam, 300, .inr (.inl f_nam))), (h_trm, .inl (cy_trm, 300, .inl f_trm)), (h_fst, .inl (cy_fst, 96, .inl f_fst)), (h_td, .inr (5, (mo2 vq1 (.ref h_pls)))), (h_pls, .inl (cy_pls, 16, .inl f_pls))] := hD9
  have hS := hS9
  clear hP9 hD9 hS9
  rw [evq1] at hP hD
  replace hP : va_P (dC, dI) cls [(h_nam, .inl (cy_nam, 300, .inr (.inl f_nam))), (h_trm, .inl (cy_trm, 300, .inl f_trm)), (h_fst, .inl (cy_fst, 96, .inl f_fst)), (h_td, .inr (5, (mo5 v_td (.ref h_nam) (.ref h_trm) (.ref h_pls) (.ref h_fst)))), (h_pls, .inl (cy_pls, 16, .inl f_pls))] H := hP
  replace hD : va_D A [(h_nam, .inl (cy_nam, 300, .inr (.inl f_nam))), (h_trm, .inl (cy_trm, 300, .inl f_trm)), (h_fst, .inl (cy_fst, 96, .inl f_fst)), (h_td, .inr (5, (mo5 v_td (.ref h_nam) (.ref h_trm) (.ref h_pls) (.ref h_fst)))), (h_pls, .inl (cy_pls, 16, .inl f_pls))] := hD
  clear evq1 
  have k3 : 0 ≤ (r2).toInt ∧ (r2).toInt ≤ 1 := hq
  clear hq
  refine lv_aload_n hx hb dX8_areOpposite_6 rfl (lv_at hl 0 rfl) ?_
  refine lv_iload_n hx hb dX8_areOpposite_7 rfl (lv_at hl 3 rfl) ?_
  refine lv_iload hx hb dX8_areOpposite_8 (lv_at hl 4 rfl) ?_
  obtain ⟨vq4, evq4⟩ := mq5_2 v_td (.ref h_nam) (.ref h_trm) (.ref h_fst)
  replace hP : va_P (dC, dI) cls [(h_nam, .inl (cy_nam, 300, .inr (.inl f_nam))), (h_trm, .inl (cy_trm, 300, .inl f_trm)), (h_fst, .inl (cy_fst, 96, .inl f_fst)), (h_td, .inr (5, (mo2 vq4 (.ref h_pls)))), (h_pls, .inl (cy_pls, 16, .inl f_pls))] H := by rw [evq4]; exact hP
  replace hD : va_D A [(h_nam, .inl (cy_nam, 300, .inr (.inl f_nam))), (h_trm, .inl (cy_trm, 300, .inl f_trm)), (h_fst, .inl (cy_fst, 96, .inl f_fst)), (h_td, .inr (5, (mo2 vq4 (.ref h_pls)))), (h_pls, .inl (cy_pls, 16, .inl f_pls))] := by rw [evq4]; exact hD
  have hPc := hP.sub (ws' := [(h_td, .inr (5, (mo2 vq4 (.ref h_pls)))), (h_pls, .inl (cy_pls, 16, .inl f_pls))]) [3, 4] rfl
  have hDc := hD.sub (ws' := [(h_td, .inr (5, (mo2 vq4 (.ref h_pls)))), (h_pls, .inl (cy_pls, 16, .inl f_pls))]) [3, 4] (by decide) rfl
  have hKc := hK.sub (tys' := [(cy_pls, .int)]) [2] rfl
  have hFc := va_free (wc := [(h_td, .inr (5, (mo2 vq4 (.ref h_pls)))), (h_pls, .inl (cy_pls, 16, .inl f_pls))]) hD hS hA [3, 4] rfl
  refine va_calli (va_runV (As := [.int p3, .int p4]) (rest := [.int r2]) ⟨hx, hb, hml, hown, hts⟩ (c_X8_isPlus l dC dI H.size h_td h_pls vq4 cy_pls f_pls p3 p4 (by first | exact q2 | omega)) (cwV 2 hts (gv hT w_m_X8_54 w_instanceMethod_X8_isPlus ws_sel_X8_isPlus w_ini_X8 w_code_X8_isPlus) rfl rfl rfl (by decide +kernel) ⟨(Nat.le_of_ble_eq_true rfl), (Nat.le_of_ble_eq_true rfl)⟩) ⟨pre_blind, va_recv hK hP (ci := 5) (q0 := 3) rfl rfl, pre_of hPc hKc hDc hN⟩ rfl rfl hl.1 rfl (lv_room (Nat.le_of_ble_eq_true rfl)) dX8_areOpposite_10 ⟨(Nat.le_of_ble_eq_true rfl), (Nat.le_of_ble_eq_true rfl)⟩) hS (fun q _ h => hFc q h) hFc (fun r5 u t H locs ht hvm hq hB hz1 hk1 hS9 => ?_)
  obtain ⟨hP1, hD1⟩ := hB
  rw [ht] at hP1
  obtain ⟨hP9, hD9⟩ := va_join (wr := [(h_nam, .inl (cy_nam, 300, .inr (.inl f_nam))), (h_trm, .inl (cy_trm, 300, .inl f_trm)), (h_fst, .inl (cy_fst, 96, .inl f_fst))]) (w1 := [(h_td, .inr (5, (mo2 vq4 (.ref h_pls)))), (h_pls, .inl (cy_pls, 16, .inl f_pls))]) hP hD [3, 4] [0, 1, 2] rfl rfl (by decide) (by decide) hk1 hFc hP1 hD1
  clear hP hD hS hPc hDc hKc hFc hP1 hD1 hk1 hz1 ht hvm
  have hP : va_P (dC, dI) cls [(h_nam, .inl (cy_nam, 300, .inr (.inl f_nam))), (h_trm, .inl (cy_trm, 300, .inl f_trm)), (h_fst, .inl (cy_fst, 96, .inl f_fst)), (h_td, .inr (5, (mo2 vq4 (.ref h_pls)))), (h_pls, .inl (cy_pls, 16, .inl f_pls))] H := hP9
  have hD : va_D A [(h_nam, .inl (cy_nam, 300, .inr (.inl f_nam))), (h_trm, .inl (cy_trm, 300, .inl f_trm)), (h_fst, .inl (cy_fst, 96, .inl f_fst)), (h_td, .inr (5, (mo2 vq4 (.ref h_pls)))), (h_pls, .inl (cy_pls, 16, .inl f_pls))] := hD9
  have hS := hS9
  clear hP9 hD9 hS9
  rw [evq4] at hP hD
  replace hP : va_P (dC, dI) cls [(h_nam, .inl (cy_nam, 300, .inr (.inl f_nam))), (h_trm, .inl (cy_trm, 300, .inl f_trm)), (h_fst, .inl (cy_fst, 96, .inl f_fst)), (h_td, .inr (5, (mo5 v_td (.ref h_nam) (.ref h_trm) (.ref h_pls) (.ref h_fst)))), (h_pls, .inl (cy_pls, 16, .inl f_pls))] H := hP
  replace hD : va_D A [(h_nam, .inl (cy_nam, 300, .inr (.inl f_nam))), (h_trm, .inl (cy_trm, 300, .inl f_trm)), (h_fst, .inl (cy_fst, 96, .inl f_fst)), (h_td, .inr (5, (mo5 v_td (.ref h_nam) (.ref h_trm) (.ref h_pls) (.ref h_fst)))), (h_pls, .inl (cy_pls, 16, .inl f_pls))] := hD
  clear evq4 
  have k6 : 0 ≤ (r5).toInt ∧ (r5).toInt ≤ 1 := hq
  clear hq
  refine lv_icmp_eq (tgt := 40) hx hb dX8_areOpposite_13 (by decide) (fun c7 => ?_) (fun c7 => ?_)
  · have kc7 := (cv_eq (rfl : (r2).toInt = (r2).toInt) (rfl : (r5).toInt = (r5).toInt)).mp c7
    refine lv_iconst (v := 0) hx hb dX8_areOpposite_40 (by decide) ?_
    replace hP : va_P (dC, dI) cls [(h_td, .inr (5, (mo5 v_td (.ref h_nam) (.ref h_trm) (.ref h_pls) (.ref h_fst)))), (h_nam, .inl (cy_nam, 300, .inr (.inl f_nam))), (h_trm, .inl (cy_trm, 300, .inl f_trm)), (h_pls, .inl (cy_pls, 16, .inl f_pls)), (h_fst, .inl (cy_fst, 96, .inl f_fst))] H := hP.sub [3, 0, 1, 4, 2] rfl
    replace hD : va_D A [(h_td, .inr (5, (mo5 v_td (.ref h_nam) (.ref h_trm) (.ref h_pls) (.ref h_fst)))), (h_nam, .inl (cy_nam, 300, .inr (.inl f_nam))), (h_trm, .inl (cy_trm, 300, .inl f_trm)), (h_pls, .inl (cy_pls, 16, .inl f_pls)), (h_fst, .inl (cy_fst, 96, .inl f_fst))] := hD.sub [3, 0, 1, 4, 2] (by decide) rfl
    refine W.widen (k := 0) (n := 0) (Nat.le_of_ble_eq_true rfl) (Nat.le_of_ble_eq_true rfl) ?_
    have cst0 : (0 : Int32).toInt = 0 := by decide
    have w8 : 0 ≤ (0 : Int32).toInt ∧ (0 : Int32).toInt ≤ 1 := by omega
    exact W.zret (v := 0) (ty := .boolean) hx hb hr (by decide) (fun t ht hW => ⟨⟨0, (), rfl, w8, by rw [ht]; exact hP, hD⟩, hS.F ht⟩) hS.2.2 dX8_areOpposite_41
  · have kc7 := (not_congr (cv_eq (rfl : (r2).toInt = (r2).toInt) (rfl : (r5).toInt = (r5).toInt))).mp c7
    refine lv_aload_n hx hb dX8_areOpposite_16 rfl (lv_at hl 0 rfl) ?_
    refine lv_aload_n hx hb dX8_areOpposite_17 rfl (lv_at hl 0 rfl) ?_
    refine lv_iload_n hx hb dX8_areOpposite_18 rfl (lv_at hl 1 rfl) ?_
    refine lv_iload_n hx hb dX8_areOpposite_19 rfl (lv_at hl 2 rfl) ?_
    obtain ⟨vq9, evq9⟩ := mq5_3 v_td (.ref h_nam) (.ref h_trm) (.ref h_pls)
    replace hP : va_P (dC, dI) cls [(h_nam, .inl (cy_nam, 300, .inr (.inl f_nam))), (h_trm, .inl (cy_trm, 300, .inl f_trm)), (h_fst, .inl (cy_fst, 96, .inl f_fst)), (h_td, .inr (5, (mo3 vq9 (.ref h_fst)))), (h_pls, .inl (cy_pls, 16, .inl f_pls))] H := by rw [evq9]; exact hP
    replace hD : va_D A [(h_nam, .inl (cy_nam, 300, .inr (.inl f_nam))), (h_trm, .inl (cy_trm, 300, .inl f_trm)), (h_fst, .inl (cy_fst, 96, .inl f_fst)), (h_td, .inr (5, (mo3 vq9 (.ref h_fst)))), (h_pls, .inl (cy_pls, 16, .inl f_pls))] := by rw [evq9]; exact hD
    have hPc := hP.sub (ws' := [(h_td, .inr (5, (mo3 vq9 (.ref h_fst)))), (h_fst, .inl (cy_fst, 96, .inl f_fst))]) [3, 2] rfl
    have hDc := hD.sub (ws' := [(h_td, .inr (5, (mo3 vq9 (.ref h_fst)))), (h_fst, .inl (cy_fst, 96, .inl f_fst))]) [3, 2] (by decide) rfl
    have hKc := hK.sub (tys' := [(cy_fst, .int)]) [3] rfl
    have hFc := va_free (wc := [(h_td, .inr (5, (mo3 vq9 (.ref h_fst)))), (h_fst, .inl (cy_fst, 96, .inl f_fst))]) hD hS hA [3, 2] rfl
    refine va_calli (va_runV (As := [.int p1, .int p2]) (rest := [.ref h_td]) ⟨hx, hb, hml, hown, hts⟩ (c_X8_part l dC dI H.size h_td h_fst vq9 cy_fst f_fst p1 p2 hf_fst (by first | exact q0 | omega) (by first | exact q1 | omega)) (cwV 2 hts (gv hT w_m_X8_58 w_instanceMethod_X8_part ws_sel_X8_part w_ini_X8 w_code_X8_part) rfl rfl rfl (by decide +kernel) ⟨(Nat.le_of_ble_eq_true rfl), (Nat.le_of_ble_eq_true rfl)⟩) ⟨pre_blind, va_recv hK hP (ci := 5) (q0 := 3) rfl rfl, pre_of hPc hKc hDc hN⟩ rfl rfl hl.1 rfl (lv_room (Nat.le_of_ble_eq_true rfl)) dX8_areOpposite_20 ⟨(Nat.le_of_ble_eq_true rfl), (Nat.le_of_ble_eq_true rfl)⟩) hS (fun q _ h => hFc q h) hFc (fun r10 u t H locs ht hvm hq hB hz1 hk1 hS9 => ?_)
    obtain ⟨hP1, hD1⟩ := hB
    rw [ht] at hP1
    obtain ⟨hP9, hD9⟩ := va_join (wr := [(h_nam, .inl (cy_nam, 300, .inr (.inl f_nam))), (h_trm, .inl (cy_trm, 300, .inl f_trm)), (h_pls, .inl (cy_pls, 16, .inl f_pls))]) (w1 := [(h_td, .inr (5, (mo3 vq9 (.ref h_fst)))), (h_fst, .inl (cy_fst, 96, .inl f_fst))]) hP hD [3, 2] [0, 1, 4] rfl rfl (by decide) (by decide) hk1 hFc hP1 hD1
    clear hP hD hS hPc hDc hKc hFc hP1 hD1 hk1 hz1 ht hvm
    have hP : va_P (dC, dI) cls [(h_nam, .inl (cy_nam, 300, .inr (.inl f_nam))), (h_trm, .inl (cy_trm, 300, .inl f_trm)), (h_pls, .inl (cy_pls, 16, .inl f_pls)), (h_td, .inr (5, (mo3 vq9 (.ref h_fst)))), (h_fst, .inl (cy_fst, 96, .inl f_fst))] H := hP9
    have hD : va_D A [(h_nam, .inl (cy_nam, 300, .inr (.inl f_nam))), (h_trm, .inl (cy_trm, 300, .inl f_trm)), (h_pls, .inl (cy_pls, 16, .inl f_pls)), (h_td, .inr (5, (mo3 vq9 (.ref h_fst)))), (h_fst, .inl (cy_fst, 96, .inl f_fst))] := hD9
    have hS := hS9
    clear hP9 hD9 hS9
    rw [evq9] at hP hD
    replace hP : va_P (dC, dI) cls [(h_nam, .inl (cy_nam, 300, .inr (.inl f_nam))), (h_trm, .inl (cy_trm, 300, .inl f_trm)), (h_pls, .inl (cy_pls, 16, .inl f_pls)), (h_td, .inr (5, (mo5 v_td (.ref h_nam) (.ref h_trm) (.ref h_pls) (.ref h_fst)))), (h_fst, .inl (cy_fst, 96, .inl f_fst))] H := hP
    replace hD : va_D A [(h_nam, .inl (cy_nam, 300, .inr (.inl f_nam))), (h_trm, .inl (cy_trm, 300, .inl f_trm)), (h_pls, .inl (cy_pls, 16, .inl f_pls)), (h_td, .inr (5, (mo5 v_td (.ref h_nam) (.ref h_trm) (.ref h_pls) (.ref h_fst)))), (h_fst, .inl (cy_fst, 96, .inl f_fst))] := hD
    clear evq9 
    obtain ⟨k11, k12⟩ := hq
    replace k11 : 0 ≤ (r10).toInt ∧ (r10).toInt ≤ 299 := k11
    replace k12 : (r10) = f_fst (6 * ((p1)).toInt.toNat + ((p2)).toInt.toNat) := k12
    refine lv_aload_n hx hb dX8_areOpposite_23 rfl (lv_at hl 0 rfl) ?_
    refine lv_iload_n hx hb dX8_areOpposite_24 rfl (lv_at hl 3 rfl) ?_
    refine lv_iload hx hb dX8_areOpposite_25 (lv_at hl 4 rfl) ?_
    obtain ⟨vq13, evq13⟩ := mq5_3 v_td (.ref h_nam) (.ref h_trm) (.ref h_pls)
    replace hP : va_P (dC, dI) cls [(h_nam, .inl (cy_nam, 300, .inr (.inl f_nam))), (h_trm, .inl (cy_trm, 300, .inl f_trm)), (h_pls, .inl (cy_pls, 16, .inl f_pls)), (h_td, .inr (5, (mo3 vq13 (.ref h_fst)))), (h_fst, .inl (cy_fst, 96, .inl f_fst))] H := by rw [evq13]; exact hP
    replace hD : va_D A [(h_nam, .inl (cy_nam, 300, .inr (.inl f_nam))), (h_trm, .inl (cy_trm, 300, .inl f_trm)), (h_pls, .inl (cy_pls, 16, .inl f_pls)), (h_td, .inr (5, (mo3 vq13 (.ref h_fst)))), (h_fst, .inl (cy_fst, 96, .inl f_fst))] := by rw [evq13]; exact hD
    have hPc := hP.sub (ws' := [(h_td, .inr (5, (mo3 vq13 (.ref h_fst)))), (h_fst, .inl (cy_fst, 96, .inl f_fst))]) [3, 4] rfl
    have hDc := hD.sub (ws' := [(h_td, .inr (5, (mo3 vq13 (.ref h_fst)))), (h_fst, .inl (cy_fst, 96, .inl f_fst))]) [3, 4] (by decide) rfl
    have hKc := hK.sub (tys' := [(cy_fst, .int)]) [3] rfl
    have hFc := va_free (wc := [(h_td, .inr (5, (mo3 vq13 (.ref h_fst)))), (h_fst, .inl (cy_fst, 96, .inl f_fst))]) hD hS hA [3, 4] rfl
    refine va_calli (va_runV (As := [.int p3, .int p4]) (rest := [.int r10, .ref h_td]) ⟨hx, hb, hml, hown, hts⟩ (c_X8_part l dC dI H.size h_td h_fst vq13 cy_fst f_fst p3 p4 hf_fst (by first | exact q2 | omega) (by first | exact q3 | omega)) (cwV 2 hts (gv hT w_m_X8_58 w_instanceMethod_X8_part ws_sel_X8_part w_ini_X8 w_code_X8_part) rfl rfl rfl (by decide +kernel) ⟨(Nat.le_of_ble_eq_true rfl), (Nat.le_of_ble_eq_true rfl)⟩) ⟨pre_blind, va_recv hK hP (ci := 5) (q0 := 3) rfl rfl, pre_of hPc hKc hDc hN⟩ rfl rfl hl.1 rfl (lv_room (Nat.le_of_ble_eq_true rfl)) dX8_areOpposite_27 ⟨(Nat.le_of_ble_eq_true rfl), (Nat.le_of_ble_eq_true rfl)⟩) hS (fun q _ h => hFc q h) hFc (fun r14 u t H locs ht hvm hq hB hz1 hk1 hS9 => ?_)
    obtain ⟨hP1, hD1⟩ := hB
    rw [ht] at hP1
    obtain ⟨hP9, hD9⟩ := va_join (wr := [(h_nam, .inl (cy_nam, 300, .inr (.inl f_nam))), (h_trm, .inl (cy_trm, 300, .inl f_trm)), (h_pls, .inl (cy_pls, 16, .inl f_pls))]) (w1 := [(h_td, .inr (5, (mo3 vq13 (.ref h_fst)))), (h_fst, .inl (cy_fst, 96, .inl f_fst))]) hP hD [3, 4] [0, 1, 2] rfl rfl (by decide) (by decide) hk1 hFc hP1 hD1
    clear hP hD hS hPc hDc hKc hFc hP1 hD1 hk1 hz1 ht hvm
    have hP : va_P (dC, dI) cls [(h_nam, .inl (cy_nam, 300, .inr (.inl f_nam))), (h_trm, .inl (cy_trm, 300, .inl f_trm)), (h_pls, .inl (cy_pls, 16, .inl f_pls)), (h_td, .inr (5, (mo3 vq13 (.ref h_fst)))), (h_fst, .inl (cy_fst, 96, .inl f_fst))] H := hP9
    have hD : va_D A [(h_nam, .inl (cy_nam, 300, .inr (.inl f_nam))), (h_trm, .inl (cy_trm, 300, .inl f_trm)), (h_pls, .inl (cy_pls, 16, .inl f_pls)), (h_td, .inr (5, (mo3 vq13 (.ref h_fst)))), (h_fst, .inl (cy_fst, 96, .inl f_fst))] := hD9
    have hS := hS9
    clear hP9 hD9 hS9
    rw [evq13] at hP hD
    replace hP : va_P (dC, dI) cls [(h_nam, .inl (cy_nam, 300, .inr (.inl f_nam))), (h_trm, .inl (cy_trm, 300, .inl f_trm)), (h_pls, .inl (cy_pls, 16, .inl f_pls)), (h_td, .inr (5, (mo5 v_td (.ref h_nam) (.ref h_trm) (.ref h_pls) (.ref h_fst)))), (h_fst, .inl (cy_fst, 96, .inl f_fst))] H := hP
    replace hD : va_D A [(h_nam, .inl (cy_nam, 300, .inr (.inl f_nam))), (h_trm, .inl (cy_trm, 300, .inl f_trm)), (h_pls, .inl (cy_pls, 16, .inl f_pls)), (h_td, .inr (5, (mo5 v_td (.ref h_nam) (.ref h_trm) (.ref h_pls) (.ref h_fst)))), (h_fst, .inl (cy_fst, 96, .inl f_fst))] := hD
    clear evq13 
    obtain ⟨k15, k16⟩ := hq
    replace k15 : 0 ≤ (r14).toInt ∧ (r14).toInt ≤ 299 := k15
    replace k16 : (r14) = f_fst (6 * ((p3)).toInt.toNat + ((p4)).toInt.toNat) := k16
    obtain ⟨vq17, evq17⟩ := mq5_4 v_td (.ref h_pls) (.ref h_fst)
    replace hP : va_P (dC, dI) cls [(h_nam, .inl (cy_nam, 300, .inr (.inl f_nam))), (h_trm, .inl (cy_trm, 300, .inl f_trm)), (h_pls, .inl (cy_pls, 16, .inl f_pls)), (h_td, .inr (5, (mo4 vq17 (.ref h_nam) (.ref h_trm)))), (h_fst, .inl (cy_fst, 96, .inl f_fst))] H := by rw [evq17]; exact hP
    replace hD : va_D A [(h_nam, .inl (cy_nam, 300, .inr (.inl f_nam))), (h_trm, .inl (cy_trm, 300, .inl f_trm)), (h_pls, .inl (cy_pls, 16, .inl f_pls)), (h_td, .inr (5, (mo4 vq17 (.ref h_nam) (.ref h_trm)))), (h_fst, .inl (cy_fst, 96, .inl f_fst))] := by rw [evq17]; exact hD
    have hPc := hP.sub (ws' := [(h_td, .inr (5, (mo4 vq17 (.ref h_nam) (.ref h_trm)))), (h_nam, .inl (cy_nam, 300, .inr (.inl f_nam))), (h_trm, .inl (cy_trm, 300, .inl f_trm))]) [3, 0, 1] rfl
    have hDc := hD.sub (ws' := [(h_td, .inr (5, (mo4 vq17 (.ref h_nam) (.ref h_trm)))), (h_nam, .inl (cy_nam, 300, .inr (.inl f_nam))), (h_trm, .inl (cy_trm, 300, .inl f_trm))]) [3, 0, 1] (by decide) rfl
    have hKc := hK.sub (tys' := [(cy_nam, .long), (cy_trm, .int)]) [0, 1] rfl
    have hFc := va_free (wc := [(h_td, .inr (5, (mo4 vq17 (.ref h_nam) (.ref h_trm)))), (h_nam, .inl (cy_nam, 300, .inr (.inl f_nam))), (h_trm, .inl (cy_trm, 300, .inl f_trm))]) hD hS hA [3, 0, 1] rfl
    refine va_calli (va_runV (As := [.int r10, .int r14]) (rest := []) ⟨hx, hb, hml, hown, hts⟩ (c_X8_haveLikeNames l dC dI H.size h_td h_nam h_trm vq17 cy_nam f_nam cy_trm f_trm r10 r14 hf_trm (by first | exact k11 | omega) (by first | exact k15 | omega)) (cwV 2 hts (gv hT w_m_X8_61 w_instanceMethod_X8_haveLikeNames ws_sel_X8_haveLikeNames w_ini_X8 w_code_X8_haveLikeNames) rfl rfl rfl (by decide +kernel) ⟨(Nat.le_of_ble_eq_true rfl), (Nat.le_of_ble_eq_true rfl)⟩) ⟨pre_blind, va_recv hK hP (ci := 5) (q0 := 3) rfl rfl, pre_of hPc hKc hDc hN⟩ rfl rfl hl.1 rfl (lv_room (Nat.le_of_ble_eq_true rfl)) dX8_areOpposite_30 ⟨(Nat.le_of_ble_eq_true rfl), (Nat.le_of_ble_eq_true rfl)⟩) hS (fun q _ h => hFc q h) hFc (fun r18 u t H locs ht hvm hq hB hz1 hk1 hS9 => ?_)
    obtain ⟨hP1, hD1⟩ := hB
    rw [ht] at hP1
    obtain ⟨hP9, hD9⟩ := va_join (wr := [(h_pls, .inl (cy_pls, 16, .inl f_pls)), (h_fst, .inl (cy_fst, 96, .inl f_fst))]) (w1 := [(h_td, .inr (5, (mo4 vq17 (.ref h_nam) (.ref h_trm)))), (h_nam, .inl (cy_nam, 300, .inr (.inl f_nam))), (h_trm, .inl (cy_trm, 300, .inl f_trm))]) hP hD [3, 0, 1] [2, 4] rfl rfl (by decide) (by decide) hk1 hFc hP1 hD1
    clear hP hD hS hPc hDc hKc hFc hP1 hD1 hk1 hz1 ht hvm
    have hP : va_P (dC, dI) cls [(h_pls, .inl (cy_pls, 16, .inl f_pls)), (h_fst, .inl (cy_fst, 96, .inl f_fst)), (h_td, .inr (5, (mo4 vq17 (.ref h_nam) (.ref h_trm)))), (h_nam, .inl (cy_nam, 300, .inr (.inl f_nam))), (h_trm, .inl (cy_trm, 300, .inl f_trm))] H := hP9
    have hD : va_D A [(h_pls, .inl (cy_pls, 16, .inl f_pls)), (h_fst, .inl (cy_fst, 96, .inl f_fst)), (h_td, .inr (5, (mo4 vq17 (.ref h_nam) (.ref h_trm)))), (h_nam, .inl (cy_nam, 300, .inr (.inl f_nam))), (h_trm, .inl (cy_trm, 300, .inl f_trm))] := hD9
    have hS := hS9
    clear hP9 hD9 hS9
    rw [evq17] at hP hD
    replace hP : va_P (dC, dI) cls [(h_pls, .inl (cy_pls, 16, .inl f_pls)), (h_fst, .inl (cy_fst, 96, .inl f_fst)), (h_td, .inr (5, (mo5 v_td (.ref h_nam) (.ref h_trm) (.ref h_pls) (.ref h_fst)))), (h_nam, .inl (cy_nam, 300, .inr (.inl f_nam))), (h_trm, .inl (cy_trm, 300, .inl f_trm))] H := hP
    replace hD : va_D A [(h_pls, .inl (cy_pls, 16, .inl f_pls)), (h_fst, .inl (cy_fst, 96, .inl f_fst)), (h_td, .inr (5, (mo5 v_td (.ref h_nam) (.ref h_trm) (.ref h_pls) (.ref h_fst)))), (h_nam, .inl (cy_nam, 300, .inr (.inl f_nam))), (h_trm, .inl (cy_trm, 300, .inl f_trm))] := hD
    clear evq17 
    have k19 : 0 ≤ (r18).toInt ∧ (r18).toInt ≤ 1 := hq
    clear hq
    refine lv_if_eq (tgt := 40) hx hb dX8_areOpposite_33 (by decide) (fun c20 => ?_) (fun c20 => ?_)
    · have kc20 := (cv_eq (rfl : (r18).toInt = (r18).toInt) (by decide : (0 : Int32).toInt = 0)).mp c20
      refine lv_iconst (v := 0) hx hb dX8_areOpposite_40 (by decide) ?_
      replace hP : va_P (dC, dI) cls [(h_td, .inr (5, (mo5 v_td (.ref h_nam) (.ref h_trm) (.ref h_pls) (.ref h_fst)))), (h_nam, .inl (cy_nam, 300, .inr (.inl f_nam))), (h_trm, .inl (cy_trm, 300, .inl f_trm)), (h_pls, .inl (cy_pls, 16, .inl f_pls)), (h_fst, .inl (cy_fst, 96, .inl f_fst))] H := hP.sub [2, 3, 4, 0, 1] rfl
      replace hD : va_D A [(h_td, .inr (5, (mo5 v_td (.ref h_nam) (.ref h_trm) (.ref h_pls) (.ref h_fst)))), (h_nam, .inl (cy_nam, 300, .inr (.inl f_nam))), (h_trm, .inl (cy_trm, 300, .inl f_trm)), (h_pls, .inl (cy_pls, 16, .inl f_pls)), (h_fst, .inl (cy_fst, 96, .inl f_fst))] := hD.sub [2, 3, 4, 0, 1] (by decide) rfl
      refine W.widen (k := 0) (n := 0) (Nat.le_of_ble_eq_true rfl) (Nat.le_of_ble_eq_true rfl) ?_
      have cst0 : (0 : Int32).toInt = 0 := by decide
      have w21 : 0 ≤ (0 : Int32).toInt ∧ (0 : Int32).toInt ≤ 1 := by omega
      exact W.zret (v := 0) (ty := .boolean) hx hb hr (by decide) (fun t ht hW => ⟨⟨0, (), rfl, w21, by rw [ht]; exact hP, hD⟩, hS.F ht⟩) hS.2.2 dX8_areOpposite_41
    · have kc20 := (not_congr (cv_eq (rfl : (r18).toInt = (r18).toInt) (by decide : (0 : Int32).toInt = 0))).mp c20
      refine lv_iconst (v := 1) hx hb dX8_areOpposite_36 (by decide) ?_
      refine lv_goto (tgt := 41) hx hb dX8_areOpposite_37 (by decide) ?_
      replace hP : va_P (dC, dI) cls [(h_td, .inr (5, (mo5 v_td (.ref h_nam) (.ref h_trm) (.ref h_pls) (.ref h_fst)))), (h_nam, .inl (cy_nam, 300, .inr (.inl f_nam))), (h_trm, .inl (cy_trm, 300, .inl f_trm)), (h_pls, .inl (cy_pls, 16, .inl f_pls)), (h_fst, .inl (cy_fst, 96, .inl f_fst))] H := hP.sub [2, 3, 4, 0, 1] rfl
      replace hD : va_D A [(h_td, .inr (5, (mo5 v_td (.ref h_nam) (.ref h_trm) (.ref h_pls) (.ref h_fst)))), (h_nam, .inl (cy_nam, 300, .inr (.inl f_nam))), (h_trm, .inl (cy_trm, 300, .inl f_trm)), (h_pls, .inl (cy_pls, 16, .inl f_pls)), (h_fst, .inl (cy_fst, 96, .inl f_fst))] := hD.sub [2, 3, 4, 0, 1] (by decide) rfl
      refine W.widen (k := 0) (n := 0) (Nat.le_of_ble_eq_true rfl) (Nat.le_of_ble_eq_true rfl) ?_
      have cst1 : (1 : Int32).toInt = 1 := by decide
      have w22 : 0 ≤ (1 : Int32).toInt ∧ (1 : Int32).toInt ≤ 1 := by omega
      exact W.zret (v := 1) (ty := .boolean) hx hb hr (by decide) (fun t ht hW => ⟨⟨1, (), rfl, w22, by rw [ht]; exact hP, hD⟩, hS.F ht⟩) hS.2.2 dX8_areOpposite_41

set_option maxHeartbeats 8000000 in
set_option maxRecDepth 100000 in
theorem c_X8_clear (l : Launch) (dC : Nat → ClassId) (dI : Nat → Nat → Nat) (sz : Nat) (h_td : Nat) (v_td : Nat → Value) (x_td_parts : Int32) (x_td_clauses : Int32) (hx_td_parts : 0 ≤ (x_td_parts).toInt ∧ (x_td_parts).toInt ≤ 300) (hx_td_clauses : 0 ≤ (x_td_clauses).toInt ∧ (x_td_clauses).toInt ≤ 16) : Met l yX8_clear (Ws yX8_clear cX8_clear 1 none) (({ frames := 0, cells := 0, slots := 0, locals := 0 } : Room)) (PRE (dC, dI) cls [] [(h_td, .inr (5, (mo6 v_td (.int x_td_parts) (.int x_td_clauses))))] sz [.ref h_td]) (va_Qv (fun (u : (Int32) × (Int32)) => (0 ≤ (u.1).toInt ∧ (u.1).toInt ≤ 300) ∧ (0 ≤ (u.2).toInt ∧ (u.2).toInt ≤ 16) ∧ ((u.1).toInt = 0) ∧ ((u.2).toInt = 0)) (fun (u : (Int32) × (Int32)) (t : State) => va_P (dC, dI) cls [(h_td, .inr (5, (mo6 v_td (.int u.1) (.int u.2))))] t.heap ∧ va_D (va_A [(h_td, .inr (5, (mo6 v_td (.int x_td_parts) (.int x_td_clauses))))] sz) [(h_td, .inr (5, (mo6 v_td (.int u.1) (.int u.2))))]) (va_A [(h_td, .inr (5, (mo6 v_td (.int x_td_parts) (.int x_td_clauses))))] sz)) 0 0 (va_A [(h_td, .inr (5, (mo6 v_td (.int x_td_parts) (.int x_td_clauses))))] sz) := by
  refine Met.ofW (cc := cX8_clear) (maxL := 1) (ret := none) (by decide) rfl ?_
  intro p e s m args below meth c s₁ B hml hv
  obtain ⟨rfl, hsz, hP, hK, hD0, hN⟩ := hv
  have hx := B.exec
  have hb := B.bytes
  have hr := B.returns
  have hts := atoms_spec (ws := Ws yX8_clear cX8_clear 1 none) B.pre
  have hT : ∀ w ∈ WALL, w ∈ Ws yX8_clear cX8_clear 1 none := fun w h => List.mem_cons_of_mem _ h
  have hw := fun w (h : w ∈ WALL) => hts w (hT w h)
  have hown : s.vm.findClass RX8 = some m.cls := findClass_of_methodNamed B.named
  have hlocks := B.notSynchronized
  subst hsz
  have hD := hD0.self (sz := s.heap.size)
  generalize hAe : va_A [(h_td, .inr (5, (mo6 v_td (.int x_td_parts) (.int x_td_clauses))))] s.heap.size = A at hD ⊢
  have hA : ∀ q : Nat, s.heap.size ≤ q → A q := fun q h => by rw [← hAe]; exact Or.inr h
  have hS : va_S A s.heap s.heap [] := va_S.rf
  have hl := lv_entry ([.ref h_td]) (n := 1) (Nat.le_of_ble_eq_true rfl)
  rw [lg_entry_eq]
  generalize (lg_sl ([.ref h_td]) ++ List.replicate (1 - (lg_sl ([.ref h_td])).length) Slot.unset).toArray = ls at hl ⊢
  have hl : lv_has ls 1 [(0, .ref h_td)] := hl
  refine lv_aload_n hx hb dX8_clear_0 rfl (lv_at hl 0 rfl) ?_
  refine lv_iconst (v := 0) hx hb dX8_clear_1 (by decide) ?_
  refine va_put (D := (dC, dI)) (ci := 5) (v := .int 0) (ty := tyX8 4) (C := RX8) (T := TX8) (N := 10) hx hb hw iwX8 tyX8 tyX8_ok nmX8 hown hK hP hD hS 0 rfl rfl 4 (by decide) (hw _ w_f_X8_37) (fun _ h9 => h9) rfl (tyX8_ok 4 (by decide)) rfl rfl (Nat.le_of_ble_eq_true rfl) dX8_clear_2 (fun H locs hP9 hD9 hS9 => ?_)
  clear hP hD hS
  have hP : va_P (dC, dI) cls [(h_td, .inr (5, (mo6 v_td (.int 0) (.int x_td_clauses))))] H := hP9
  have hD : va_D A [(h_td, .inr (5, (mo6 v_td (.int 0) (.int x_td_clauses))))] := hD9
  have hS := hS9
  clear hP9 hD9 hS9
  refine lv_aload_n hx hb dX8_clear_5 rfl (lv_at hl 0 rfl) ?_
  refine lv_iconst (v := 0) hx hb dX8_clear_6 (by decide) ?_
  refine va_put (D := (dC, dI)) (ci := 5) (v := .int 0) (ty := tyX8 9) (C := RX8) (T := TX8) (N := 10) hx hb hw iwX8 tyX8 tyX8_ok nmX8 hown hK hP hD hS 0 rfl rfl 9 (by decide) (hw _ w_f_X8_41) (fun _ h9 => h9) rfl (tyX8_ok 9 (by decide)) rfl rfl (Nat.le_of_ble_eq_true rfl) dX8_clear_7 (fun H locs hP9 hD9 hS9 => ?_)
  clear hP hD hS
  have hP : va_P (dC, dI) cls [(h_td, .inr (5, (mo6 v_td (.int 0) (.int 0))))] H := hP9
  have hD : va_D A [(h_td, .inr (5, (mo6 v_td (.int 0) (.int 0))))] := hD9
  have hS := hS9
  clear hP9 hD9 hS9
  refine W.widen (k := 0) (n := 0) (Nat.le_of_ble_eq_true rfl) (Nat.le_of_ble_eq_true rfl) ?_
  have cst0 : (0 : Int32).toInt = 0 := by decide
  have w1 : 0 ≤ ((0 : Int32)).toInt ∧ ((0 : Int32)).toInt ≤ 300 := by omega
  have w2 : 0 ≤ ((0 : Int32)).toInt ∧ ((0 : Int32)).toInt ≤ 16 := by omega
  have w3 : ((0 : Int32)).toInt = 0 := by omega
  have w4 : ((0 : Int32)).toInt = 0 := by omega
  exact W.vret hx hb hr (fun t ht hW => ⟨⟨(0, 0), rfl, ⟨w1, w2, w3, w4⟩, by rw [ht]; exact hP, hD⟩, hS.F ht⟩) hS.2.2 dX8_clear_10

set_option maxHeartbeats 8000000 in
set_option maxRecDepth 100000 in
theorem c_X1_isVariable (l : Launch) (dC : Nat → ClassId) (dI : Nat → Nat → Nat) (sz : Nat) (h_bd : Nat) (h_td : Nat) (h_var : Nat) (v_bd : Nat → Value) (v_td : Nat → Value) (cy_var : ClassId) (f_var : Nat → Int32) (p1 : Int32) (hf_var : Rg (-1) 7 f_var) (q0 : 0 ≤ (p1).toInt ∧ (p1).toInt ≤ 9599) : Met l yX1_isVariable (Ws yX1_isVariable cX1_isVariable 2 (some .boolean)) (({ frames := 0, cells := 0, slots := 0, locals := 0 } : Room)) (PRE (dC, dI) cls [(cy_var, .int)] [(h_bd, .inr (1, (mo7 v_bd (.ref h_td)))), (h_td, .inr (5, (mo8 v_td (.ref h_var)))), (h_var, .inl (cy_var, 300, .inl f_var))] sz [.ref h_bd, .int p1]) (va_Qi (fun (r : Int32) (_ : Unit) => ((r = 1 ∧ (0 ≤ (vrb f_var p1).toInt) ∧ ((vrb f_var p1).toInt ≤ 7)) ∨ (r = 0 ∧ ((vrb f_var p1).toInt = -1)))) (fun (_ : Unit) (t : State) => va_P (dC, dI) cls [(h_bd, .inr (1, (mo7 v_bd (.ref h_td)))), (h_td, .inr (5, (mo8 v_td (.ref h_var)))), (h_var, .inl (cy_var, 300, .inl f_var))] t.heap ∧ va_D (va_A [(h_bd, .inr (1, (mo7 v_bd (.ref h_td)))), (h_td, .inr (5, (mo8 v_td (.ref h_var)))), (h_var, .inl (cy_var, 300, .inl f_var))] sz) [(h_bd, .inr (1, (mo7 v_bd (.ref h_td)))), (h_td, .inr (5, (mo8 v_td (.ref h_var)))), (h_var, .inl (cy_var, 300, .inl f_var))]) (va_A [(h_bd, .inr (1, (mo7 v_bd (.ref h_td)))), (h_td, .inr (5, (mo8 v_td (.ref h_var)))), (h_var, .inl (cy_var, 300, .inl f_var))] sz)) 0 0 (va_A [(h_bd, .inr (1, (mo7 v_bd (.ref h_td)))), (h_td, .inr (5, (mo8 v_td (.ref h_var)))), (h_var, .inl (cy_var, 300, .inl f_var))] sz) := by
  refine Met.ofW (cc := cX1_isVariable) (maxL := 2) (ret := (some .boolean)) (by decide) rfl ?_
  intro p e s m args below meth c s₁ B hml hv
  obtain ⟨rfl, hsz, hP, hK, hD0, hN⟩ := hv
  have hx := B.exec
  have hb := B.bytes
  have hr := B.returns
  have hts := atoms_spec (ws := Ws yX1_isVariable cX1_isVariable 2 (some .boolean)) B.pre
  have hT : ∀ w ∈ WALL, w ∈ Ws yX1_isVariable cX1_isVariable 2 (some .boolean) := fun w h => List.mem_cons_of_mem _ h
  have hw := fun w (h : w ∈ WALL) => hts w (hT w h)
  have hown : s.vm.findClass RX1 = some m.cls := findClass_of_methodNamed B.named
  have hlocks := B.notSynchronized
  subst hsz
  have hD := hD0.self (sz := s.heap.size)
  generalize hAe : va_A [(h_bd, .inr (1, (mo7 v_bd (.ref h_td)))), (h_td, .inr (5, (mo8 v_td (.ref h_var)))), (h_var, .inl (cy_var, 300, .inl f_var))] s.heap.size = A at hD ⊢
  have hA : ∀ q : Nat, s.heap.size ≤ q → A q := fun q h => by rw [← hAe]; exact Or.inr h
  have hS : va_S A s.heap s.heap [] := va_S.rf
  have hl := lv_entry ([.ref h_bd, .int p1]) (n := 2) (Nat.le_of_ble_eq_true rfl)
  rw [lg_entry_eq]
  generalize (lg_sl ([.ref h_bd, .int p1]) ++ List.replicate (2 - (lg_sl ([.ref h_bd, .int p1])).length) Slot.unset).toArray = ls at hl ⊢
  have hl : lv_has ls 2 [(0, .ref h_bd), (1, .int p1)] := hl
  refine lv_aload_n hx hb dX1_isVariable_0 rfl (lv_at hl 0 rfl) ?_
  refine va_get (D := (dC, dI)) (ci := 1) (v := .ref h_td) (C := RX1) (T := TX1) (N := 13) hx hb hw iwX1 hown hK hP 0 rfl rfl 0 (by decide) (hw _ w_f_X1_36) (fun _ h9 => h9) rfl dX1_isVariable_1 ?_
  refine va_getN (D := (dC, dI)) (ci := 5) (v := .ref h_var) (C := RX8) (T := TX8) (N := 10) (host := "OppositePairs") hx hb hw iwX8 hown hK hP 1 rfl rfl 1 (by decide) (hN.use n_f_X1_44 rfl) (fun _ h9 => h9) rfl dX1_isVariable_4 ?_
  refine lv_iload_n hx hb dX1_isVariable_7 rfl (lv_at hl 1 rfl) ?_
  refine lv_sipush (v := 300) hx hb dX1_isVariable_8 (by decide) ?_
  refine lv_irem hx hb dX1_isVariable_11 (by decide) ?_
  refine lv_topi (fun z1 ez1 => ?_)
  have tz1 : (z1).toInt = (p1).toInt % 300 := by rw [ez1]; exact i_rem rfl (by decide) (by omega)
  refine va_iald hx hb hK hP 2 0 rfl rfl (i := z1) (vp_in_iff.mpr (by omega)) dX1_isVariable_12 ?_
  refine lv_topi (fun z2 ez2 => ?_)
  have rz2 : -1 ≤ (z2).toInt ∧ (z2).toInt ≤ 7 := by rw [ez2]; exact hf_var _
  have vbz2 : (vrb f_var p1).toInt = (z2).toInt := by unfold vrb; rw [ez2, ez1]
  refine lv_iconst (v := (-1)) hx hb dX1_isVariable_13 (by decide) ?_
  refine lv_icmp_eq (tgt := 21) hx hb dX1_isVariable_14 (by decide) (fun c3 => ?_) (fun c3 => ?_)
  · have kc3 := (cv_eq (rfl : (z2).toInt = (z2).toInt) (by decide : ((-1) : Int32).toInt = -1)).mp c3
    refine lv_iconst (v := 0) hx hb dX1_isVariable_21 (by decide) ?_
    refine W.widen (k := 0) (n := 0) (Nat.le_of_ble_eq_true rfl) (Nat.le_of_ble_eq_true rfl) ?_
    have cst0 : (0 : Int32).toInt = 0 := by decide
    have : (vrb f_var p1).toInt = -1 := by omega
    exact W.zret (v := 0) (ty := .boolean) hx hb hr (by decide) (fun t ht hW => ⟨⟨0, (), rfl, (Or.inr (⟨rfl, by assumption⟩)), by rw [ht]; exact hP, hD⟩, hS.F ht⟩) hS.2.2 dX1_isVariable_22
  · have kc3 := (not_congr (cv_eq (rfl : (z2).toInt = (z2).toInt) (by decide : ((-1) : Int32).toInt = -1))).mp c3
    refine lv_iconst (v := 1) hx hb dX1_isVariable_17 (by decide) ?_
    refine lv_goto (tgt := 22) hx hb dX1_isVariable_18 (by decide) ?_
    refine W.widen (k := 0) (n := 0) (Nat.le_of_ble_eq_true rfl) (Nat.le_of_ble_eq_true rfl) ?_
    have cst1 : (1 : Int32).toInt = 1 := by decide
    have : 0 ≤ (vrb f_var p1).toInt := by omega
    have : (vrb f_var p1).toInt ≤ 7 := by omega
    exact W.zret (v := 1) (ty := .boolean) hx hb hr (by decide) (fun t ht hW => ⟨⟨1, (), rfl, (Or.inl (⟨rfl, by assumption, by assumption⟩)), by rw [ht]; exact hP, hD⟩, hS.F ht⟩) hS.2.2 dX1_isVariable_22

set_option maxHeartbeats 8000000 in
set_option maxRecDepth 100000 in
theorem c_X1_cell (l : Launch) (dC : Nat → ClassId) (dI : Nat → Nat → Nat) (sz : Nat) (h_bd : Nat) (h_td : Nat) (h_var : Nat) (v_bd : Nat → Value) (v_td : Nat → Value) (cy_var : ClassId) (f_var : Nat → Int32) (p1 : Int32) (hf_var : Rg (-1) 7 f_var) (q0 : 0 ≤ (p1).toInt ∧ (p1).toInt ≤ 9599) : Met l yX1_cell (Ws yX1_cell cX1_cell 2 (some .int)) (({ frames := 0, cells := 0, slots := 0, locals := 0 } : Room)) (PRE (dC, dI) cls [(cy_var, .int)] [(h_bd, .inr (1, (mo7 v_bd (.ref h_td)))), (h_td, .inr (5, (mo8 v_td (.ref h_var)))), (h_var, .inl (cy_var, 300, .inl f_var))] sz [.ref h_bd, .int p1]) (va_Qi (fun (r : Int32) (_ : Unit) => (-1 ≤ r.toInt ∧ r.toInt ≤ 255) ∧ (r.toInt = p1.toInt / 300 * 8 + (vrb f_var p1).toInt)) (fun (_ : Unit) (t : State) => va_P (dC, dI) cls [(h_bd, .inr (1, (mo7 v_bd (.ref h_td)))), (h_td, .inr (5, (mo8 v_td (.ref h_var)))), (h_var, .inl (cy_var, 300, .inl f_var))] t.heap ∧ va_D (va_A [(h_bd, .inr (1, (mo7 v_bd (.ref h_td)))), (h_td, .inr (5, (mo8 v_td (.ref h_var)))), (h_var, .inl (cy_var, 300, .inl f_var))] sz) [(h_bd, .inr (1, (mo7 v_bd (.ref h_td)))), (h_td, .inr (5, (mo8 v_td (.ref h_var)))), (h_var, .inl (cy_var, 300, .inl f_var))]) (va_A [(h_bd, .inr (1, (mo7 v_bd (.ref h_td)))), (h_td, .inr (5, (mo8 v_td (.ref h_var)))), (h_var, .inl (cy_var, 300, .inl f_var))] sz)) 0 0 (va_A [(h_bd, .inr (1, (mo7 v_bd (.ref h_td)))), (h_td, .inr (5, (mo8 v_td (.ref h_var)))), (h_var, .inl (cy_var, 300, .inl f_var))] sz) := by
  refine Met.ofW (cc := cX1_cell) (maxL := 2) (ret := (some .int)) (by decide) rfl ?_
  intro p e s m args below meth c s₁ B hml hv
  obtain ⟨rfl, hsz, hP, hK, hD0, hN⟩ := hv
  have hx := B.exec
  have hb := B.bytes
  have hr := B.returns
  have hts := atoms_spec (ws := Ws yX1_cell cX1_cell 2 (some .int)) B.pre
  have hT : ∀ w ∈ WALL, w ∈ Ws yX1_cell cX1_cell 2 (some .int) := fun w h => List.mem_cons_of_mem _ h
  have hw := fun w (h : w ∈ WALL) => hts w (hT w h)
  have hown : s.vm.findClass RX1 = some m.cls := findClass_of_methodNamed B.named
  have hlocks := B.notSynchronized
  subst hsz
  have hD := hD0.self (sz := s.heap.size)
  generalize hAe : va_A [(h_bd, .inr (1, (mo7 v_bd (.ref h_td)))), (h_td, .inr (5, (mo8 v_td (.ref h_var)))), (h_var, .inl (cy_var, 300, .inl f_var))] s.heap.size = A at hD ⊢
  have hA : ∀ q : Nat, s.heap.size ≤ q → A q := fun q h => by rw [← hAe]; exact Or.inr h
  have hS : va_S A s.heap s.heap [] := va_S.rf
  have hl := lv_entry ([.ref h_bd, .int p1]) (n := 2) (Nat.le_of_ble_eq_true rfl)
  rw [lg_entry_eq]
  generalize (lg_sl ([.ref h_bd, .int p1]) ++ List.replicate (2 - (lg_sl ([.ref h_bd, .int p1])).length) Slot.unset).toArray = ls at hl ⊢
  have hl : lv_has ls 2 [(0, .ref h_bd), (1, .int p1)] := hl
  refine lv_iload_n hx hb dX1_cell_0 rfl (lv_at hl 1 rfl) ?_
  refine lv_sipush (v := 300) hx hb dX1_cell_1 (by decide) ?_
  refine lv_idiv hx hb dX1_cell_4 (by decide) ?_
  refine lv_topi (fun z1 ez1 => ?_)
  have tz1 : (z1).toInt = (p1).toInt / 300 := by rw [ez1]; exact i_div rfl (by decide) (by omega)
  refine lv_bipush (v := 8) hx hb dX1_cell_5 (by decide) ?_
  refine lv_imul hx hb dX1_cell_7 ?_
  refine lv_topi (fun z2 ez2 => ?_)
  have tz2 : (z2).toInt = (z1).toInt * 8 := by rw [ez2]; exact i_mul rfl (by decide) (by omega)
  refine lv_aload_n hx hb dX1_cell_8 rfl (lv_at hl 0 rfl) ?_
  refine va_get (D := (dC, dI)) (ci := 1) (v := .ref h_td) (C := RX1) (T := TX1) (N := 13) hx hb hw iwX1 hown hK hP 0 rfl rfl 0 (by decide) (hw _ w_f_X1_36) (fun _ h9 => h9) rfl dX1_cell_9 ?_
  refine va_getN (D := (dC, dI)) (ci := 5) (v := .ref h_var) (C := RX8) (T := TX8) (N := 10) (host := "OppositePairs") hx hb hw iwX8 hown hK hP 1 rfl rfl 1 (by decide) (hN.use n_f_X1_44 rfl) (fun _ h9 => h9) rfl dX1_cell_12 ?_
  refine lv_iload_n hx hb dX1_cell_15 rfl (lv_at hl 1 rfl) ?_
  refine lv_sipush (v := 300) hx hb dX1_cell_16 (by decide) ?_
  refine lv_irem hx hb dX1_cell_19 (by decide) ?_
  refine lv_topi (fun z3 ez3 => ?_)
  have tz3 : (z3).toInt = (p1).toInt % 300 := by rw [ez3]; exact i_rem rfl (by decide) (by omega)
  refine va_iald hx hb hK hP 2 0 rfl rfl (i := z3) (vp_in_iff.mpr (by omega)) dX1_cell_20 ?_
  refine lv_topi (fun z4 ez4 => ?_)
  have rz4 : -1 ≤ (z4).toInt ∧ (z4).toInt ≤ 7 := by rw [ez4]; exact hf_var _
  have vbz4 : (vrb f_var p1).toInt = (z4).toInt := by unfold vrb; rw [ez4, ez3]
  refine lv_iadd hx hb dX1_cell_21 ?_
  refine lv_topi (fun z5 ez5 => ?_)
  have tz5 : (z5).toInt = (z2).toInt + (z4).toInt := by rw [ez5]; exact i_add rfl rfl (by omega)
  refine W.widen (k := 0) (n := 0) (Nat.le_of_ble_eq_true rfl) (Nat.le_of_ble_eq_true rfl) ?_
  have w6 : -1 ≤ (z5 : Int32).toInt ∧ (z5 : Int32).toInt ≤ 255 := by omega
  have w7 : (z5 : Int32).toInt = p1.toInt / 300 * 8 + (vrb f_var p1).toInt := by omega
  exact W.iret (v := z5) hx hb hr (fun t ht hW => ⟨⟨z5, (), rfl, ⟨w6, w7⟩, by rw [ht]; exact hP, hD⟩, hS.F ht⟩) hS.2.2 dX1_cell_22

set_option maxHeartbeats 8000000 in
set_option maxRecDepth 100000 in
theorem c_X1_bare (l : Launch) (dC : Nat → ClassId) (dI : Nat → Nat → Nat) (sz : Nat) (h_bd : Nat) (h_bnd : Nat) (h_td : Nat) (h_var : Nat) (v_bd : Nat → Value) (cy_bnd : ClassId) (f_bnd : Nat → Int32) (v_td : Nat → Value) (cy_var : ClassId) (f_var : Nat → Int32) (p1 : Int32) (hf_bnd : Rg 0 9600 f_bnd) (hf_var : Rg (-1) 7 f_var) (q0 : 0 ≤ (p1).toInt ∧ (p1).toInt ≤ 9599) : Met l yX1_bare (Ws yX1_bare cX1_bare 6 (some .int)) (({ frames := 0, cells := 0, slots := 0, locals := 0 } : Room)) (PRE (dC, dI) cls [(cy_bnd, .int), (cy_var, .int)] [(h_bd, .inr (1, (mo9 v_bd (.ref h_td) (.ref h_bnd)))), (h_bnd, .inl (cy_bnd, 256, .inl f_bnd)), (h_td, .inr (5, (mo8 v_td (.ref h_var)))), (h_var, .inl (cy_var, 300, .inl f_var))] sz [.ref h_bd, .int p1]) (va_Qi (fun (r : Int32) (_ : Unit) => (0 ≤ r.toInt ∧ r.toInt ≤ 9599)) (fun (_ : Unit) (t : State) => va_P (dC, dI) cls [(h_bd, .inr (1, (mo9 v_bd (.ref h_td) (.ref h_bnd)))), (h_bnd, .inl (cy_bnd, 256, .inl f_bnd)), (h_td, .inr (5, (mo8 v_td (.ref h_var)))), (h_var, .inl (cy_var, 300, .inl f_var))] t.heap ∧ va_D (va_A [(h_bd, .inr (1, (mo9 v_bd (.ref h_td) (.ref h_bnd)))), (h_bnd, .inl (cy_bnd, 256, .inl f_bnd)), (h_td, .inr (5, (mo8 v_td (.ref h_var)))), (h_var, .inl (cy_var, 300, .inl f_var))] sz) [(h_bd, .inr (1, (mo9 v_bd (.ref h_td) (.ref h_bnd)))), (h_bnd, .inl (cy_bnd, 256, .inl f_bnd)), (h_td, .inr (5, (mo8 v_td (.ref h_var)))), (h_var, .inl (cy_var, 300, .inl f_var))]) (va_A [(h_bd, .inr (1, (mo9 v_bd (.ref h_td) (.ref h_bnd)))), (h_bnd, .inl (cy_bnd, 256, .inl f_bnd)), (h_td, .inr (5, (mo8 v_td (.ref h_var)))), (h_var, .inl (cy_var, 300, .inl f_var))] sz)) 0 0 (va_A [(h_bd, .inr (1, (mo9 v_bd (.ref h_td) (.ref h_bnd)))), (h_bnd, .inl (cy_bnd, 256, .inl f_bnd)), (h_td, .inr (5, (mo8 v_td (.ref h_var)))), (h_var, .inl (cy_var, 300, .inl f_var))] sz) := by
  refine Met.ofW (cc := cX1_bare) (maxL := 6) (ret := (some .int)) (by decide) rfl ?_
  intro p e s m args below meth c s₁ B hml hv
  obtain ⟨rfl, hsz, hP, hK, hD0, hN⟩ := hv
  have hx := B.exec
  have hb := B.bytes
  have hr := B.returns
  have hts := atoms_spec (ws := Ws yX1_bare cX1_bare 6 (some .int)) B.pre
  have hT : ∀ w ∈ WALL, w ∈ Ws yX1_bare cX1_bare 6 (some .int) := fun w h => List.mem_cons_of_mem _ h
  have hw := fun w (h : w ∈ WALL) => hts w (hT w h)
  have hown : s.vm.findClass RX1 = some m.cls := findClass_of_methodNamed B.named
  have hlocks := B.notSynchronized
  subst hsz
  have hD := hD0.self (sz := s.heap.size)
  generalize hAe : va_A [(h_bd, .inr (1, (mo9 v_bd (.ref h_td) (.ref h_bnd)))), (h_bnd, .inl (cy_bnd, 256, .inl f_bnd)), (h_td, .inr (5, (mo8 v_td (.ref h_var)))), (h_var, .inl (cy_var, 300, .inl f_var))] s.heap.size = A at hD ⊢
  have hA : ∀ q : Nat, s.heap.size ≤ q → A q := fun q h => by rw [← hAe]; exact Or.inr h
  have hS : va_S A s.heap s.heap [] := va_S.rf
  have hl := lv_entry ([.ref h_bd, .int p1]) (n := 6) (Nat.le_of_ble_eq_true rfl)
  rw [lg_entry_eq]
  generalize (lg_sl ([.ref h_bd, .int p1]) ++ List.replicate (6 - (lg_sl ([.ref h_bd, .int p1])).length) Slot.unset).toArray = ls at hl ⊢
  have hl : lv_has ls 6 [(0, .ref h_bd), (1, .int p1)] := hl
  refine lv_iload_n hx hb dX1_bare_0 rfl (lv_at hl 1 rfl) ?_
  refine lv_istore_n (lv' := [(2, .int p1), (0, .ref h_bd), (1, .int p1)]) hx hb dX1_bare_1 rfl hl (by decide) rfl (fun ls hl => ?_)
  refine lv_iconst (v := 0) hx hb dX1_bare_2 (by decide) ?_
  refine lv_istore_n (lv' := [(3, .int 0), (2, .int p1), (0, .ref h_bd), (1, .int p1)]) hx hb dX1_bare_3 rfl hl (by decide) rfl (fun ls hl => ?_)
  have lp3 : ∀ (n : Nat) (x1 : Int32) (x2 : Int32) (H : Heap) (locs : List Loc) (ls : Array Slot), (0 ≤ (x1).toInt ∧ (x1).toInt ≤ 9599) → (0 ≤ (x2).toInt ∧ (x2).toInt ≤ 256) → (256 - (x2).toInt).toNat + 1 ≤ n → va_P (dC, dI) cls [(h_bd, .inr (1, (mo9 v_bd (.ref h_td) (.ref h_bnd)))), (h_bnd, .inl (cy_bnd, 256, .inl f_bnd)), (h_td, .inr (5, (mo8 v_td (.ref h_var)))), (h_var, .inl (cy_var, 300, .inl f_var))] H → va_D A [(h_bd, .inr (1, (mo9 v_bd (.ref h_td) (.ref h_bnd)))), (h_bnd, .inl (cy_bnd, 256, .inl f_bnd)), (h_td, .inr (5, (mo8 v_td (.ref h_var)))), (h_var, .inl (cy_var, 300, .inl f_var))] → va_S A s.heap H locs → lv_has ls 6 [(0, .ref h_bd), (1, .int p1), (2, .int x1), (3, .int x2)] → W p l e ({ frames := 0, cells := 0, slots := 0, locals := 0 } : Room) s m ([.ref h_bd, .int p1] : List Value).toArray below meth c H locs 0 0 (MQ below (va_Qi (fun (r : Int32) (_ : Unit) => (0 ≤ r.toInt ∧ r.toInt ≤ 9599)) (fun (_ : Unit) (t : State) => va_P (dC, dI) cls [(h_bd, .inr (1, (mo9 v_bd (.ref h_td) (.ref h_bnd)))), (h_bnd, .inl (cy_bnd, 256, .inl f_bnd)), (h_td, .inr (5, (mo8 v_td (.ref h_var)))), (h_var, .inl (cy_var, 300, .inl f_var))] t.heap ∧ va_D A [(h_bd, .inr (1, (mo9 v_bd (.ref h_td) (.ref h_bnd)))), (h_bnd, .inl (cy_bnd, 256, .inl f_bnd)), (h_td, .inr (5, (mo8 v_td (.ref h_var)))), (h_var, .inl (cy_var, 300, .inl f_var))]) A) ([.ref h_bd, .int p1] : List Value).toArray s 0 0 A) (F0 m 4 ls []) := by
    clear hP hD hS hl
    intro n
    induction n with
    | zero => intro x1 x2 H locs ls klp3_0 klp3_1 hm hP hD hS hl; exact False.elim (by omega)
    | succ n ih => 
      intro x1 x2 H locs ls klp3_0 klp3_1 hm hP hD hS hl
      have ih4 := ih
      clear ih
      refine lv_iload_n hx hb dX1_bare_4 rfl (lv_at hl 3 rfl) ?_
      refine lv_sipush (v := 256) hx hb dX1_bare_5 (by decide) ?_
      refine lv_icmp_ge (tgt := 70) hx hb dX1_bare_8 (by decide) (fun c5 => ?_) (fun c5 => ?_)
      · have kc5 := (cv_le (by decide : (256 : Int32).toInt = 256) (rfl : (x2).toInt = (x2).toInt)).mp c5
        refine lv_iload_n hx hb dX1_bare_70 rfl (lv_at hl 2 rfl) ?_
        refine W.widen (k := 0) (n := 0) (Nat.le_of_ble_eq_true rfl) (Nat.le_of_ble_eq_true rfl) ?_
        have w6 : 0 ≤ (x1 : Int32).toInt ∧ (x1 : Int32).toInt ≤ 9599 := by first | exact klp3_0 | omega
        exact W.iret (v := x1) hx hb hr (fun t ht hW => ⟨⟨x1, (), rfl, w6, by rw [ht]; exact hP, hD⟩, hS.F ht⟩) hS.2.2 dX1_bare_71
      · have kc5 := (not_congr (cv_le (by decide : (256 : Int32).toInt = 256) (rfl : (x2).toInt = (x2).toInt))).mp c5
        refine lv_aload_n hx hb dX1_bare_11 rfl (lv_at hl 0 rfl) ?_
        refine va_get (D := (dC, dI)) (ci := 1) (v := .ref h_td) (C := RX1) (T := TX1) (N := 13) hx hb hw iwX1 hown hK hP 0 rfl rfl 0 (by decide) (hw _ w_f_X1_36) (fun _ h9 => h9) rfl dX1_bare_12 ?_
        refine va_getN (D := (dC, dI)) (ci := 5) (v := .ref h_var) (C := RX8) (T := TX8) (N := 10) (host := "OppositePairs") hx hb hw iwX8 hown hK hP 2 rfl rfl 1 (by decide) (hN.use n_f_X1_44 rfl) (fun _ h9 => h9) rfl dX1_bare_15 ?_
        refine lv_iload_n hx hb dX1_bare_18 rfl (lv_at hl 2 rfl) ?_
        refine lv_sipush (v := 300) hx hb dX1_bare_19 (by decide) ?_
        refine lv_irem hx hb dX1_bare_22 (by decide) ?_
        refine lv_topi (fun z7 ez7 => ?_)
        have tz7 : (z7).toInt = (x1).toInt % 300 := by rw [ez7]; exact i_rem rfl (by decide) (by omega)
        refine va_iald hx hb hK hP 3 1 rfl rfl (i := z7) (vp_in_iff.mpr (by omega)) dX1_bare_23 ?_
        refine lv_topi (fun z8 ez8 => ?_)
        have rz8 : -1 ≤ (z8).toInt ∧ (z8).toInt ≤ 7 := by rw [ez8]; exact hf_var _
        refine lv_istore (lv' := [(4, .int z8), (0, .ref h_bd), (1, .int p1), (2, .int x1), (3, .int x2)]) hx hb dX1_bare_24 hl (by decide) rfl (fun ls hl => ?_)
        refine lv_iload hx hb dX1_bare_26 (lv_at hl 0 rfl) ?_
        refine lv_iconst (v := (-1)) hx hb dX1_bare_28 (by decide) ?_
        refine lv_icmp_ne (tgt := 34) hx hb dX1_bare_29 (by decide) (fun c9 => ?_) (fun c9 => ?_)
        · have kc9 := (not_congr (cv_eq (rfl : (z8).toInt = (z8).toInt) (by decide : ((-1) : Int32).toInt = -1))).mp c9
          refine lv_aload_n hx hb dX1_bare_34 rfl (lv_at hl 1 rfl) ?_
          refine va_get (D := (dC, dI)) (ci := 1) (v := .ref h_bnd) (C := RX1) (T := TX1) (N := 13) hx hb hw iwX1 hown hK hP 0 rfl rfl 1 (by decide) (hw _ w_f_X1_9) (fun _ h9 => h9) rfl dX1_bare_35 ?_
          refine lv_iload_n hx hb dX1_bare_38 rfl (lv_at hl 3 rfl) ?_
          refine lv_sipush (v := 300) hx hb dX1_bare_39 (by decide) ?_
          refine lv_idiv hx hb dX1_bare_42 (by decide) ?_
          refine lv_topi (fun z10 ez10 => ?_)
          have tz10 : (z10).toInt = (x1).toInt / 300 := by rw [ez10]; exact i_div rfl (by decide) (by omega)
          refine lv_bipush (v := 8) hx hb dX1_bare_43 (by decide) ?_
          refine lv_imul hx hb dX1_bare_45 ?_
          refine lv_topi (fun z11 ez11 => ?_)
          have tz11 : (z11).toInt = (z10).toInt * 8 := by rw [ez11]; exact i_mul rfl (by decide) (by omega)
          refine lv_iload hx hb dX1_bare_46 (lv_at hl 0 rfl) ?_
          refine lv_iadd hx hb dX1_bare_48 ?_
          refine lv_topi (fun z12 ez12 => ?_)
          have tz12 : (z12).toInt = (z11).toInt + (z8).toInt := by rw [ez12]; exact i_add rfl rfl (by omega)
          refine va_iald hx hb hK hP 1 0 rfl rfl (i := z12) (vp_in_iff.mpr (by omega)) dX1_bare_49 ?_
          refine lv_topi (fun z13 ez13 => ?_)
          have rz13 : 0 ≤ (z13).toInt ∧ (z13).toInt ≤ 9600 := by rw [ez13]; exact hf_bnd _
          refine lv_istore (lv' := [(5, .int z13), (4, .int z8), (0, .ref h_bd), (1, .int p1), (2, .int x1), (3, .int x2)]) hx hb dX1_bare_50 hl (by decide) rfl (fun ls hl => ?_)
          refine lv_iload hx hb dX1_bare_52 (lv_at hl 0 rfl) ?_
          refine lv_if_ne (tgt := 59) hx hb dX1_bare_54 (by decide) (fun c14 => ?_) (fun c14 => ?_)
          · have kc14 := (not_congr (cv_eq (rfl : (z13).toInt = (z13).toInt) (by decide : (0 : Int32).toInt = 0))).mp c14
            refine lv_iload hx hb dX1_bare_59 (lv_at hl 0 rfl) ?_
            refine lv_iconst (v := 1) hx hb dX1_bare_61 (by decide) ?_
            refine lv_isub hx hb dX1_bare_62 ?_
            refine lv_topi (fun z15 ez15 => ?_)
            have tz15 : (z15).toInt = (z13).toInt - 1 := by rw [ez15]; exact i_sub rfl (by decide) (by omega)
            refine lv_istore_n (lv' := [(2, .int z15), (5, .int z13), (4, .int z8), (0, .ref h_bd), (1, .int p1), (3, .int x2)]) hx hb dX1_bare_63 rfl hl (by decide) rfl (fun ls hl => ?_)
            obtain ⟨z16, ez16⟩ : ∃ y : Int32, y = x2 + 1 := ⟨_, rfl⟩
            have tz16 : (z16).toInt = (x2).toInt + 1 := by rw [ez16]; exact i_add rfl (by decide) (by omega)
            refine lv_iinc (v := z16) (lv' := [(3, .int z16), (2, .int z15), (5, .int z13), (4, .int z8), (0, .ref h_bd), (1, .int p1)]) hx hb dX1_bare_64 hl (k := 5) rfl (by rw [ez16]; rfl) (by decide) rfl (fun ls hl => ?_)
            refine lv_goto (tgt := 4) hx hb dX1_bare_67 (by decide) ?_
            exact ih4 (z15) (z16) _ _ _ (by omega) (by omega) (by omega) hP hD hS (lv_sub hl [4, 5, 1, 0] rfl)
          · have kc14 := (cv_eq (rfl : (z13).toInt = (z13).toInt) (by decide : (0 : Int32).toInt = 0)).mp c14
            refine lv_iload_n hx hb dX1_bare_57 rfl (lv_at hl 4 rfl) ?_
            refine W.widen (k := 0) (n := 0) (Nat.le_of_ble_eq_true rfl) (Nat.le_of_ble_eq_true rfl) ?_
            have w17 : 0 ≤ (x1 : Int32).toInt ∧ (x1 : Int32).toInt ≤ 9599 := by first | exact klp3_0 | omega
            exact W.iret (v := x1) hx hb hr (fun t ht hW => ⟨⟨x1, (), rfl, w17, by rw [ht]; exact hP, hD⟩, hS.F ht⟩) hS.2.2 dX1_bare_58
        · have kc9 := (cv_eq (rfl : (z8).toInt = (z8).toInt) (by decide : ((-1) : Int32).toInt = -1)).mp c9
          refine lv_iload_n hx hb dX1_bare_32 rfl (lv_at hl 3 rfl) ?_
          refine W.widen (k := 0) (n := 0) (Nat.le_of_ble_eq_true rfl) (Nat.le_of_ble_eq_true rfl) ?_
          have w18 : 0 ≤ (x1 : Int32).toInt ∧ (x1 : Int32).toInt ≤ 9599 := by first | exact klp3_0 | omega
          exact W.iret (v := x1) hx hb hr (fun t ht hW => ⟨⟨x1, (), rfl, w18, by rw [ht]; exact hP, hD⟩, hS.F ht⟩) hS.2.2 dX1_bare_33
  have cst0 : (0 : Int32).toInt = 0 := by decide
  exact lp3 _ (p1) (0) _ _ _ (by first | exact q0 | omega) (by decide) (Nat.le_refl _) hP hD hS (lv_sub hl [2, 3, 1, 0] rfl)

set_option maxHeartbeats 8000000 in
set_option maxRecDepth 100000 in
theorem c_X1_bare_i (l : Launch) (dC : Nat → ClassId) (dI : Nat → Nat → Nat) (sz : Nat) (h_bd : Nat) (h_bnd : Nat) (h_td : Nat) (h_var : Nat) (v_bd : Nat → Value) (cy_bnd : ClassId) (f_bnd : Nat → Int32) (v_td : Nat → Value) (cy_var : ClassId) (f_var : Nat → Int32) (p1 : Int32) (Lo : Int) (Hi : Int) (hf_bnd : Rg 0 9600 f_bnd) (hf_var : Rg (-1) 7 f_var) (q0 : 0 ≤ (p1).toInt ∧ (p1).toInt ≤ 9599) (q1 : 0 ≤ Lo ∧ Lo < Hi ∧ Hi ≤ 32) (q2 : 300 * Lo ≤ (p1).toInt ∧ (p1).toInt < 300 * Hi) (hn_cls : CLS Lo Hi f_bnd) : Met l yX1_bare (Ws yX1_bare cX1_bare 6 (some .int)) (({ frames := 0, cells := 0, slots := 0, locals := 0 } : Room)) (PRE (dC, dI) cls [(cy_bnd, .int), (cy_var, .int)] [(h_bd, .inr (1, (mo9 v_bd (.ref h_td) (.ref h_bnd)))), (h_bnd, .inl (cy_bnd, 256, .inl f_bnd)), (h_td, .inr (5, (mo8 v_td (.ref h_var)))), (h_var, .inl (cy_var, 300, .inl f_var))] sz [.ref h_bd, .int p1]) (va_Qi (fun (r : Int32) (_ : Unit) => (0 ≤ r.toInt ∧ r.toInt ≤ 9599) ∧ (300 * Lo ≤ r.toInt ∧ r.toInt < 300 * Hi)) (fun (_ : Unit) (t : State) => va_P (dC, dI) cls [(h_bd, .inr (1, (mo9 v_bd (.ref h_td) (.ref h_bnd)))), (h_bnd, .inl (cy_bnd, 256, .inl f_bnd)), (h_td, .inr (5, (mo8 v_td (.ref h_var)))), (h_var, .inl (cy_var, 300, .inl f_var))] t.heap ∧ va_D (va_A [(h_bd, .inr (1, (mo9 v_bd (.ref h_td) (.ref h_bnd)))), (h_bnd, .inl (cy_bnd, 256, .inl f_bnd)), (h_td, .inr (5, (mo8 v_td (.ref h_var)))), (h_var, .inl (cy_var, 300, .inl f_var))] sz) [(h_bd, .inr (1, (mo9 v_bd (.ref h_td) (.ref h_bnd)))), (h_bnd, .inl (cy_bnd, 256, .inl f_bnd)), (h_td, .inr (5, (mo8 v_td (.ref h_var)))), (h_var, .inl (cy_var, 300, .inl f_var))]) (va_A [(h_bd, .inr (1, (mo9 v_bd (.ref h_td) (.ref h_bnd)))), (h_bnd, .inl (cy_bnd, 256, .inl f_bnd)), (h_td, .inr (5, (mo8 v_td (.ref h_var)))), (h_var, .inl (cy_var, 300, .inl f_var))] sz)) 0 0 (va_A [(h_bd, .inr (1, (mo9 v_bd (.ref h_td) (.ref h_bnd)))), (h_bnd, .inl (cy_bnd, 256, .inl f_bnd)), (h_td, .inr (5, (mo8 v_td (.ref h_var)))), (h_var, .inl (cy_var, 300, .inl f_var))] sz) := by
  refine Met.ofW (cc := cX1_bare) (maxL := 6) (ret := (some .int)) (by decide) rfl ?_
  intro p e s m args below meth c s₁ B hml hv
  obtain ⟨rfl, hsz, hP, hK, hD0, hN⟩ := hv
  have hx := B.exec
  have hb := B.bytes
  have hr := B.returns
  have hts := atoms_spec (ws := Ws yX1_bare cX1_bare 6 (some .int)) B.pre
  have hT : ∀ w ∈ WALL, w ∈ Ws yX1_bare cX1_bare 6 (some .int) := fun w h => List.mem_cons_of_mem _ h
  have hw := fun w (h : w ∈ WALL) => hts w (hT w h)
  have hown : s.vm.findClass RX1 = some m.cls := findClass_of_methodNamed B.named
  have hlocks := B.notSynchronized
  subst hsz
  have hD := hD0.self (sz := s.heap.size)
  generalize hAe : va_A [(h_bd, .inr (1, (mo9 v_bd (.ref h_td) (.ref h_bnd)))), (h_bnd, .inl (cy_bnd, 256, .inl f_bnd)), (h_td, .inr (5, (mo8 v_td (.ref h_var)))), (h_var, .inl (cy_var, 300, .inl f_var))] s.heap.size = A at hD ⊢
  have hA : ∀ q : Nat, s.heap.size ≤ q → A q := fun q h => by rw [← hAe]; exact Or.inr h
  have hS : va_S A s.heap s.heap [] := va_S.rf
  have hl := lv_entry ([.ref h_bd, .int p1]) (n := 6) (Nat.le_of_ble_eq_true rfl)
  rw [lg_entry_eq]
  generalize (lg_sl ([.ref h_bd, .int p1]) ++ List.replicate (6 - (lg_sl ([.ref h_bd, .int p1])).length) Slot.unset).toArray = ls at hl ⊢
  have hl : lv_has ls 6 [(0, .ref h_bd), (1, .int p1)] := hl
  refine lv_iload_n hx hb dX1_bare_0 rfl (lv_at hl 1 rfl) ?_
  refine lv_istore_n (lv' := [(2, .int p1), (0, .ref h_bd), (1, .int p1)]) hx hb dX1_bare_1 rfl hl (by decide) rfl (fun ls hl => ?_)
  refine lv_iconst (v := 0) hx hb dX1_bare_2 (by decide) ?_
  refine lv_istore_n (lv' := [(3, .int 0), (2, .int p1), (0, .ref h_bd), (1, .int p1)]) hx hb dX1_bare_3 rfl hl (by decide) rfl (fun ls hl => ?_)
  have lp3 : ∀ (n : Nat) (x1 : Int32) (x2 : Int32) (H : Heap) (locs : List Loc) (ls : Array Slot), (0 ≤ (x1).toInt ∧ (x1).toInt ≤ 9599) → (0 ≤ (x2).toInt ∧ (x2).toInt ≤ 256) → (300 * Lo ≤ (x1).toInt ∧ (x1).toInt < 300 * Hi) → (256 - (x2).toInt).toNat + 1 ≤ n → va_P (dC, dI) cls [(h_bd, .inr (1, (mo9 v_bd (.ref h_td) (.ref h_bnd)))), (h_bnd, .inl (cy_bnd, 256, .inl f_bnd)), (h_td, .inr (5, (mo8 v_td (.ref h_var)))), (h_var, .inl (cy_var, 300, .inl f_var))] H → va_D A [(h_bd, .inr (1, (mo9 v_bd (.ref h_td) (.ref h_bnd)))), (h_bnd, .inl (cy_bnd, 256, .inl f_bnd)), (h_td, .inr (5, (mo8 v_td (.ref h_var)))), (h_var, .inl (cy_var, 300, .inl f_var))] → va_S A s.heap H locs → lv_has ls 6 [(0, .ref h_bd), (1, .int p1), (2, .int x1), (3, .int x2)] → W p l e ({ frames := 0, cells := 0, slots := 0, locals := 0 } : Room) s m ([.ref h_bd, .int p1] : List Value).toArray below meth c H locs 0 0 (MQ below (va_Qi (fun (r : Int32) (_ : Unit) => (0 ≤ r.toInt ∧ r.toInt ≤ 9599) ∧ (300 * Lo ≤ r.toInt ∧ r.toInt < 300 * Hi)) (fun (_ : Unit) (t : State) => va_P (dC, dI) cls [(h_bd, .inr (1, (mo9 v_bd (.ref h_td) (.ref h_bnd)))), (h_bnd, .inl (cy_bnd, 256, .inl f_bnd)), (h_td, .inr (5, (mo8 v_td (.ref h_var)))), (h_var, .inl (cy_var, 300, .inl f_var))] t.heap ∧ va_D A [(h_bd, .inr (1, (mo9 v_bd (.ref h_td) (.ref h_bnd)))), (h_bnd, .inl (cy_bnd, 256, .inl f_bnd)), (h_td, .inr (5, (mo8 v_td (.ref h_var)))), (h_var, .inl (cy_var, 300, .inl f_var))]) A) ([.ref h_bd, .int p1] : List Value).toArray s 0 0 A) (F0 m 4 ls []) := by
    clear hP hD hS hl
    intro n
    induction n with
    | zero => intro x1 x2 H locs ls klp3_0 klp3_1 klp3_2 hm hP hD hS hl; exact False.elim (by omega)
    | succ n ih => 
      intro x1 x2 H locs ls klp3_0 klp3_1 klp3_2 hm hP hD hS hl
      have ih4 := ih
      clear ih
      refine lv_iload_n hx hb dX1_bare_4 rfl (lv_at hl 3 rfl) ?_
      refine lv_sipush (v := 256) hx hb dX1_bare_5 (by decide) ?_
      refine lv_icmp_ge (tgt := 70) hx hb dX1_bare_8 (by decide) (fun c5 => ?_) (fun c5 => ?_)
      · have kc5 := (cv_le (by decide : (256 : Int32).toInt = 256) (rfl : (x2).toInt = (x2).toInt)).mp c5
        refine lv_iload_n hx hb dX1_bare_70 rfl (lv_at hl 2 rfl) ?_
        refine W.widen (k := 0) (n := 0) (Nat.le_of_ble_eq_true rfl) (Nat.le_of_ble_eq_true rfl) ?_
        have w6 : 0 ≤ (x1 : Int32).toInt ∧ (x1 : Int32).toInt ≤ 9599 := by first | exact klp3_0 | omega
        have w7 : 300 * Lo ≤ (x1 : Int32).toInt ∧ (x1 : Int32).toInt < 300 * Hi := by first | exact klp3_2 | omega
        exact W.iret (v := x1) hx hb hr (fun t ht hW => ⟨⟨x1, (), rfl, ⟨w6, w7⟩, by rw [ht]; exact hP, hD⟩, hS.F ht⟩) hS.2.2 dX1_bare_71
      · have kc5 := (not_congr (cv_le (by decide : (256 : Int32).toInt = 256) (rfl : (x2).toInt = (x2).toInt))).mp c5
        refine lv_aload_n hx hb dX1_bare_11 rfl (lv_at hl 0 rfl) ?_
        refine va_get (D := (dC, dI)) (ci := 1) (v := .ref h_td) (C := RX1) (T := TX1) (N := 13) hx hb hw iwX1 hown hK hP 0 rfl rfl 0 (by decide) (hw _ w_f_X1_36) (fun _ h9 => h9) rfl dX1_bare_12 ?_
        refine va_getN (D := (dC, dI)) (ci := 5) (v := .ref h_var) (C := RX8) (T := TX8) (N := 10) (host := "OppositePairs") hx hb hw iwX8 hown hK hP 2 rfl rfl 1 (by decide) (hN.use n_f_X1_44 rfl) (fun _ h9 => h9) rfl dX1_bare_15 ?_
        refine lv_iload_n hx hb dX1_bare_18 rfl (lv_at hl 2 rfl) ?_
        refine lv_sipush (v := 300) hx hb dX1_bare_19 (by decide) ?_
        refine lv_irem hx hb dX1_bare_22 (by decide) ?_
        refine lv_topi (fun z8 ez8 => ?_)
        have tz8 : (z8).toInt = (x1).toInt % 300 := by rw [ez8]; exact i_rem rfl (by decide) (by omega)
        refine va_iald hx hb hK hP 3 1 rfl rfl (i := z8) (vp_in_iff.mpr (by omega)) dX1_bare_23 ?_
        refine lv_topi (fun z9 ez9 => ?_)
        have rz9 : -1 ≤ (z9).toInt ∧ (z9).toInt ≤ 7 := by rw [ez9]; exact hf_var _
        refine lv_istore (lv' := [(4, .int z9), (0, .ref h_bd), (1, .int p1), (2, .int x1), (3, .int x2)]) hx hb dX1_bare_24 hl (by decide) rfl (fun ls hl => ?_)
        refine lv_iload hx hb dX1_bare_26 (lv_at hl 0 rfl) ?_
        refine lv_iconst (v := (-1)) hx hb dX1_bare_28 (by decide) ?_
        refine lv_icmp_ne (tgt := 34) hx hb dX1_bare_29 (by decide) (fun c10 => ?_) (fun c10 => ?_)
        · have kc10 := (not_congr (cv_eq (rfl : (z9).toInt = (z9).toInt) (by decide : ((-1) : Int32).toInt = -1))).mp c10
          refine lv_aload_n hx hb dX1_bare_34 rfl (lv_at hl 1 rfl) ?_
          refine va_get (D := (dC, dI)) (ci := 1) (v := .ref h_bnd) (C := RX1) (T := TX1) (N := 13) hx hb hw iwX1 hown hK hP 0 rfl rfl 1 (by decide) (hw _ w_f_X1_9) (fun _ h9 => h9) rfl dX1_bare_35 ?_
          refine lv_iload_n hx hb dX1_bare_38 rfl (lv_at hl 3 rfl) ?_
          refine lv_sipush (v := 300) hx hb dX1_bare_39 (by decide) ?_
          refine lv_idiv hx hb dX1_bare_42 (by decide) ?_
          refine lv_topi (fun z11 ez11 => ?_)
          have tz11 : (z11).toInt = (x1).toInt / 300 := by rw [ez11]; exact i_div rfl (by decide) (by omega)
          refine lv_bipush (v := 8) hx hb dX1_bare_43 (by decide) ?_
          refine lv_imul hx hb dX1_bare_45 ?_
          refine lv_topi (fun z12 ez12 => ?_)
          have tz12 : (z12).toInt = (z11).toInt * 8 := by rw [ez12]; exact i_mul rfl (by decide) (by omega)
          refine lv_iload hx hb dX1_bare_46 (lv_at hl 0 rfl) ?_
          refine lv_iadd hx hb dX1_bare_48 ?_
          refine lv_topi (fun z13 ez13 => ?_)
          have tz13 : (z13).toInt = (z12).toInt + (z9).toInt := by rw [ez13]; exact i_add rfl rfl (by omega)
          refine va_iald hx hb hK hP 1 0 rfl rfl (i := z13) (vp_in_iff.mpr (by omega)) dX1_bare_49 ?_
          refine lv_topi (fun z14 ez14 => ?_)
          have rz14 : 0 ≤ (z14).toInt ∧ (z14).toInt ≤ 9600 := by rw [ez14]; exact hf_bnd _
          have cbz14 : (z14).toInt = 0 ∨ (300 * Lo < (z14).toInt ∧ (z14).toInt ≤ 300 * Hi) := by rw [ez14]; exact cls_at hn_cls (by omega) (by omega) (by omega)
          refine lv_istore (lv' := [(5, .int z14), (4, .int z9), (0, .ref h_bd), (1, .int p1), (2, .int x1), (3, .int x2)]) hx hb dX1_bare_50 hl (by decide) rfl (fun ls hl => ?_)
          refine lv_iload hx hb dX1_bare_52 (lv_at hl 0 rfl) ?_
          refine lv_if_ne (tgt := 59) hx hb dX1_bare_54 (by decide) (fun c15 => ?_) (fun c15 => ?_)
          · have kc15 := (not_congr (cv_eq (rfl : (z14).toInt = (z14).toInt) (by decide : (0 : Int32).toInt = 0))).mp c15
            refine lv_iload hx hb dX1_bare_59 (lv_at hl 0 rfl) ?_
            refine lv_iconst (v := 1) hx hb dX1_bare_61 (by decide) ?_
            refine lv_isub hx hb dX1_bare_62 ?_
            refine lv_topi (fun z16 ez16 => ?_)
            have tz16 : (z16).toInt = (z14).toInt - 1 := by rw [ez16]; exact i_sub rfl (by decide) (by omega)
            refine lv_istore_n (lv' := [(2, .int z16), (5, .int z14), (4, .int z9), (0, .ref h_bd), (1, .int p1), (3, .int x2)]) hx hb dX1_bare_63 rfl hl (by decide) rfl (fun ls hl => ?_)
            obtain ⟨z17, ez17⟩ : ∃ y : Int32, y = x2 + 1 := ⟨_, rfl⟩
            have tz17 : (z17).toInt = (x2).toInt + 1 := by rw [ez17]; exact i_add rfl (by decide) (by omega)
            refine lv_iinc (v := z17) (lv' := [(3, .int z17), (2, .int z16), (5, .int z14), (4, .int z9), (0, .ref h_bd), (1, .int p1)]) hx hb dX1_bare_64 hl (k := 5) rfl (by rw [ez17]; rfl) (by decide) rfl (fun ls hl => ?_)
            refine lv_goto (tgt := 4) hx hb dX1_bare_67 (by decide) ?_
            exact ih4 (z16) (z17) _ _ _ (by omega) (by omega) (by omega) (by omega) hP hD hS (lv_sub hl [4, 5, 1, 0] rfl)
          · have kc15 := (cv_eq (rfl : (z14).toInt = (z14).toInt) (by decide : (0 : Int32).toInt = 0)).mp c15
            refine lv_iload_n hx hb dX1_bare_57 rfl (lv_at hl 4 rfl) ?_
            refine W.widen (k := 0) (n := 0) (Nat.le_of_ble_eq_true rfl) (Nat.le_of_ble_eq_true rfl) ?_
            have w18 : 0 ≤ (x1 : Int32).toInt ∧ (x1 : Int32).toInt ≤ 9599 := by first | exact klp3_0 | omega
            have w19 : 300 * Lo ≤ (x1 : Int32).toInt ∧ (x1 : Int32).toInt < 300 * Hi := by first | exact klp3_2 | omega
            exact W.iret (v := x1) hx hb hr (fun t ht hW => ⟨⟨x1, (), rfl, ⟨w18, w19⟩, by rw [ht]; exact hP, hD⟩, hS.F ht⟩) hS.2.2 dX1_bare_58
        · have kc10 := (cv_eq (rfl : (z9).toInt = (z9).toInt) (by decide : ((-1) : Int32).toInt = -1)).mp c10
          refine lv_iload_n hx hb dX1_bare_32 rfl (lv_at hl 3 rfl) ?_
          refine W.widen (k := 0) (n := 0) (Nat.le_of_ble_eq_true rfl) (Nat.le_of_ble_eq_true rfl) ?_
          have w20 : 0 ≤ (x1 : Int32).toInt ∧ (x1 : Int32).toInt ≤ 9599 := by first | exact klp3_0 | omega
          have w21 : 300 * Lo ≤ (x1 : Int32).toInt ∧ (x1 : Int32).toInt < 300 * Hi := by first | exact klp3_2 | omega
          exact W.iret (v := x1) hx hb hr (fun t ht hW => ⟨⟨x1, (), rfl, ⟨w20, w21⟩, by rw [ht]; exact hP, hD⟩, hS.F ht⟩) hS.2.2 dX1_bare_33
  have cst0 : (0 : Int32).toInt = 0 := by decide
  exact lp3 _ (p1) (0) _ _ _ (by first | exact q0 | omega) (by decide) (by first | exact q2 | omega) (Nat.le_refl _) hP hD hS (lv_sub hl [2, 3, 1, 0] rfl)

set_option maxHeartbeats 8000000 in
set_option maxRecDepth 100000 in
theorem c_X1_undo (l : Launch) (dC : Nat → ClassId) (dI : Nat → Nat → Nat) (sz : Nat) (h_bd : Nat) (h_bnd : Nat) (h_trl : Nat) (v_bd : Nat → Value) (x_bd_trailed : Int32) (cy_bnd : ClassId) (f_bnd : Nat → Int32) (cy_trl : ClassId) (f_trl : Nat → Int32) (p1 : Int32) (hx_bd_trailed : 0 ≤ (x_bd_trailed).toInt ∧ (x_bd_trailed).toInt ≤ 256) (hf_bnd : Rg 0 9600 f_bnd) (hf_trl : Rg 0 255 f_trl) : Met l yX1_undo (Ws yX1_undo cX1_undo 2 none) (({ frames := 0, cells := 0, slots := 0, locals := 0 } : Room)) (PRE (dC, dI) cls [(cy_bnd, .int), (cy_trl, .int)] [(h_bd, .inr (1, (mo10 v_bd (.ref h_bnd) (.ref h_trl) (.int x_bd_trailed)))), (h_bnd, .inl (cy_bnd, 256, .inl f_bnd)), (h_trl, .inl (cy_trl, 256, .inl f_trl))] sz [.ref h_bd, .int p1]) (va_Qv (fun (u : (Int32) × (Nat → Int32)) => (0 ≤ (u.1).toInt ∧ (u.1).toInt ≤ 256) ∧ (Rg 0 9600 u.2) ∧ ((u.1).toInt ≤ (p1).toInt ∨ (u.1).toInt ≤ 0) ∧ ((u.1).toInt ≤ (x_bd_trailed).toInt) ∧ ((p1).toInt ≤ (u.1).toInt ∨ (u.1).toInt = (x_bd_trailed).toInt) ∧ (UND (u.1).toInt (x_bd_trailed).toInt f_bnd f_trl u.2) ∧ (UNE (u.1).toInt (x_bd_trailed).toInt f_trl f_bnd u.2)) (fun (u : (Int32) × (Nat → Int32)) (t : State) => va_P (dC, dI) cls [(h_bd, .inr (1, (mo10 v_bd (.ref h_bnd) (.ref h_trl) (.int u.1)))), (h_bnd, .inl (cy_bnd, 256, .inl u.2)), (h_trl, .inl (cy_trl, 256, .inl f_trl))] t.heap ∧ va_D (va_A [(h_bd, .inr (1, (mo10 v_bd (.ref h_bnd) (.ref h_trl) (.int x_bd_trailed)))), (h_bnd, .inl (cy_bnd, 256, .inl f_bnd)), (h_trl, .inl (cy_trl, 256, .inl f_trl))] sz) [(h_bd, .inr (1, (mo10 v_bd (.ref h_bnd) (.ref h_trl) (.int u.1)))), (h_bnd, .inl (cy_bnd, 256, .inl u.2)), (h_trl, .inl (cy_trl, 256, .inl f_trl))]) (va_A [(h_bd, .inr (1, (mo10 v_bd (.ref h_bnd) (.ref h_trl) (.int x_bd_trailed)))), (h_bnd, .inl (cy_bnd, 256, .inl f_bnd)), (h_trl, .inl (cy_trl, 256, .inl f_trl))] sz)) 0 0 (va_A [(h_bd, .inr (1, (mo10 v_bd (.ref h_bnd) (.ref h_trl) (.int x_bd_trailed)))), (h_bnd, .inl (cy_bnd, 256, .inl f_bnd)), (h_trl, .inl (cy_trl, 256, .inl f_trl))] sz) := by
  refine Met.ofW (cc := cX1_undo) (maxL := 2) (ret := none) (by decide) rfl ?_
  intro p e s m args below meth c s₁ B hml hv
  obtain ⟨rfl, hsz, hP, hK, hD0, hN⟩ := hv
  have hx := B.exec
  have hb := B.bytes
  have hr := B.returns
  have hts := atoms_spec (ws := Ws yX1_undo cX1_undo 2 none) B.pre
  have hT : ∀ w ∈ WALL, w ∈ Ws yX1_undo cX1_undo 2 none := fun w h => List.mem_cons_of_mem _ h
  have hw := fun w (h : w ∈ WALL) => hts w (hT w h)
  have hown : s.vm.findClass RX1 = some m.cls := findClass_of_methodNamed B.named
  have hlocks := B.notSynchronized
  subst hsz
  have hD := hD0.self (sz := s.heap.size)
  generalize hAe : va_A [(h_bd, .inr (1, (mo10 v_bd (.ref h_bnd) (.ref h_trl) (.int x_bd_trailed)))), (h_bnd, .inl (cy_bnd, 256, .inl f_bnd)), (h_trl, .inl (cy_trl, 256, .inl f_trl))] s.heap.size = A at hD ⊢
  have hA : ∀ q : Nat, s.heap.size ≤ q → A q := fun q h => by rw [← hAe]; exact Or.inr h
  have hS : va_S A s.heap s.heap [] := va_S.rf
  have hl := lv_entry ([.ref h_bd, .int p1]) (n := 2) (Nat.le_of_ble_eq_true rfl)
  rw [lg_entry_eq]
  generalize (lg_sl ([.ref h_bd, .int p1]) ++ List.replicate (2 - (lg_sl ([.ref h_bd, .int p1])).length) Slot.unset).toArray = ls at hl ⊢
  have hl : lv_has ls 2 [(0, .ref h_bd), (1, .int p1)] := hl
  have lp3 : ∀ (n : Nat) (x1 : Int32) (f2 : Nat → Int32) (H : Heap) (locs : List Loc) (ls : Array Slot), (0 ≤ (x1).toInt ∧ (x1).toInt ≤ 256) → (Rg 0 9600 f2) → ((x1).toInt ≤ (x_bd_trailed).toInt) → ((p1).toInt ≤ (x1).toInt ∨ (x1).toInt = (x_bd_trailed).toInt) → (UND (x1).toInt (x_bd_trailed).toInt f_bnd f_trl f2) → (UNE (x1).toInt (x_bd_trailed).toInt f_trl f_bnd f2) → ((x1).toInt).toNat + 1 ≤ n → va_P (dC, dI) cls [(h_bd, .inr (1, (mo10 v_bd (.ref h_bnd) (.ref h_trl) (.int x1)))), (h_bnd, .inl (cy_bnd, 256, .inl f2)), (h_trl, .inl (cy_trl, 256, .inl f_trl))] H → va_D A [(h_bd, .inr (1, (mo10 v_bd (.ref h_bnd) (.ref h_trl) (.int x1)))), (h_bnd, .inl (cy_bnd, 256, .inl f2)), (h_trl, .inl (cy_trl, 256, .inl f_trl))] → va_S A s.heap H locs → lv_has ls 2 [(0, .ref h_bd), (1, .int p1)] → W p l e ({ frames := 0, cells := 0, slots := 0, locals := 0 } : Room) s m ([.ref h_bd, .int p1] : List Value).toArray below meth c H locs 0 0 (MQ below (va_Qv (fun (u : (Int32) × (Nat → Int32)) => (0 ≤ (u.1).toInt ∧ (u.1).toInt ≤ 256) ∧ (Rg 0 9600 u.2) ∧ ((u.1).toInt ≤ (p1).toInt ∨ (u.1).toInt ≤ 0) ∧ ((u.1).toInt ≤ (x_bd_trailed).toInt) ∧ ((p1).toInt ≤ (u.1).toInt ∨ (u.1).toInt = (x_bd_trailed).toInt) ∧ (UND (u.1).toInt (x_bd_trailed).toInt f_bnd f_trl u.2) ∧ (UNE (u.1).toInt (x_bd_trailed).toInt f_trl f_bnd u.2)) (fun (u : (Int32) × (Nat → Int32)) (t : State) => va_P (dC, dI) cls [(h_bd, .inr (1, (mo10 v_bd (.ref h_bnd) (.ref h_trl) (.int u.1)))), (h_bnd, .inl (cy_bnd, 256, .inl u.2)), (h_trl, .inl (cy_trl, 256, .inl f_trl))] t.heap ∧ va_D A [(h_bd, .inr (1, (mo10 v_bd (.ref h_bnd) (.ref h_trl) (.int u.1)))), (h_bnd, .inl (cy_bnd, 256, .inl u.2)), (h_trl, .inl (cy_trl, 256, .inl f_trl))]) A) ([.ref h_bd, .int p1] : List Value).toArray s 0 0 A) (F0 m 0 ls []) := by
    clear hP hD hS hl
    intro n
    induction n with
    | zero => intro x1 f2 H locs ls klp3_0 hf2 klp3_2 klp3_3 klp3_4 klp3_5 hm hP hD hS hl; exact False.elim (by omega)
    | succ n ih => 
      intro x1 f2 H locs ls klp3_0 hf2 klp3_2 klp3_3 klp3_4 klp3_5 hm hP hD hS hl
      have ih4 := ih
      clear ih
      refine lv_aload_n hx hb dX1_undo_0 rfl (lv_at hl 0 rfl) ?_
      refine va_get (D := (dC, dI)) (ci := 1) (v := .int x1) (C := RX1) (T := TX1) (N := 13) hx hb hw iwX1 hown hK hP 0 rfl rfl 3 (by decide) (hw _ w_f_X1_40) (fun _ h9 => h9) rfl dX1_undo_1 ?_
      refine lv_iload_n hx hb dX1_undo_4 rfl (lv_at hl 1 rfl) ?_
      refine lv_icmp_le (tgt := 43) hx hb dX1_undo_5 (by decide) (fun c5 => ?_) (fun c5 => ?_)
      · have kc5 := (cv_le (rfl : (x1).toInt = (x1).toInt) (rfl : (p1).toInt = (p1).toInt)).mp c5
        refine W.widen (k := 0) (n := 0) (Nat.le_of_ble_eq_true rfl) (Nat.le_of_ble_eq_true rfl) ?_
        have w6 : 0 ≤ ((x1)).toInt ∧ ((x1)).toInt ≤ 256 := by first | exact klp3_0 | omega
        have w7 : ((x1)).toInt ≤ (p1).toInt ∨ ((x1)).toInt ≤ 0 := by omega
        have w8 : ((x1)).toInt ≤ (x_bd_trailed).toInt := by first | exact klp3_2 | omega
        have w9 : (p1).toInt ≤ ((x1)).toInt ∨ ((x1)).toInt = (x_bd_trailed).toInt := by first | exact klp3_3 | omega
        have w10 : UND ((x1)).toInt (x_bd_trailed).toInt f_bnd f_trl (f2) := (und_cast klp3_4 (by omega))
        have w11 : UNE ((x1)).toInt (x_bd_trailed).toInt f_trl f_bnd (f2) := (une_cast klp3_5 (by omega))
        exact W.vret hx hb hr (fun t ht hW => ⟨⟨(x1, f2), rfl, ⟨w6, hf2, w7, w8, w9, w10, w11⟩, by rw [ht]; exact hP, hD⟩, hS.F ht⟩) hS.2.2 dX1_undo_43
      · have kc5 := (not_congr (cv_le (rfl : (x1).toInt = (x1).toInt) (rfl : (p1).toInt = (p1).toInt))).mp c5
        refine lv_aload_n hx hb dX1_undo_8 rfl (lv_at hl 0 rfl) ?_
        refine va_get (D := (dC, dI)) (ci := 1) (v := .int x1) (C := RX1) (T := TX1) (N := 13) hx hb hw iwX1 hown hK hP 0 rfl rfl 3 (by decide) (hw _ w_f_X1_40) (fun _ h9 => h9) rfl dX1_undo_9 ?_
        refine lv_if_le (tgt := 43) hx hb dX1_undo_12 (by decide) (fun c12 => ?_) (fun c12 => ?_)
        · have kc12 := (cv_le (rfl : (x1).toInt = (x1).toInt) (by decide : (0 : Int32).toInt = 0)).mp c12
          refine W.widen (k := 0) (n := 0) (Nat.le_of_ble_eq_true rfl) (Nat.le_of_ble_eq_true rfl) ?_
          have w13 : 0 ≤ ((x1)).toInt ∧ ((x1)).toInt ≤ 256 := by first | exact klp3_0 | omega
          have w14 : ((x1)).toInt ≤ (p1).toInt ∨ ((x1)).toInt ≤ 0 := by omega
          have w15 : ((x1)).toInt ≤ (x_bd_trailed).toInt := by first | exact klp3_2 | omega
          have w16 : (p1).toInt ≤ ((x1)).toInt ∨ ((x1)).toInt = (x_bd_trailed).toInt := by first | exact klp3_3 | omega
          have w17 : UND ((x1)).toInt (x_bd_trailed).toInt f_bnd f_trl (f2) := (und_cast klp3_4 (by omega))
          have w18 : UNE ((x1)).toInt (x_bd_trailed).toInt f_trl f_bnd (f2) := (une_cast klp3_5 (by omega))
          exact W.vret hx hb hr (fun t ht hW => ⟨⟨(x1, f2), rfl, ⟨w13, hf2, w14, w15, w16, w17, w18⟩, by rw [ht]; exact hP, hD⟩, hS.F ht⟩) hS.2.2 dX1_undo_43
        · have kc12 := (not_congr (cv_le (rfl : (x1).toInt = (x1).toInt) (by decide : (0 : Int32).toInt = 0))).mp c12
          refine lv_aload_n hx hb dX1_undo_15 rfl (lv_at hl 0 rfl) ?_
          refine lv_dup hx hb dX1_undo_16 rfl ?_
          refine va_get (D := (dC, dI)) (ci := 1) (v := .int x1) (C := RX1) (T := TX1) (N := 13) hx hb hw iwX1 hown hK hP 0 rfl rfl 3 (by decide) (hw _ w_f_X1_40) (fun _ h9 => h9) rfl dX1_undo_17 ?_
          refine lv_iconst (v := 1) hx hb dX1_undo_20 (by decide) ?_
          refine lv_isub hx hb dX1_undo_21 ?_
          refine lv_topi (fun z19 ez19 => ?_)
          have tz19 : (z19).toInt = (x1).toInt - 1 := by rw [ez19]; exact i_sub rfl (by decide) (by omega)
          refine va_put (D := (dC, dI)) (ci := 1) (v := .int z19) (ty := tyX1 3) (C := RX1) (T := TX1) (N := 13) hx hb hw iwX1 tyX1 tyX1_ok nmX1 hown hK hP hD hS 0 rfl rfl 3 (by decide) (hw _ w_f_X1_40) (fun _ h9 => h9) rfl (tyX1_ok 3 (by decide)) rfl rfl (Nat.le_of_ble_eq_true rfl) dX1_undo_22 (fun H locs hP9 hD9 hS9 => ?_)
          clear hP hD hS
          have hP : va_P (dC, dI) cls [(h_bd, .inr (1, (mo10 v_bd (.ref h_bnd) (.ref h_trl) (.int z19)))), (h_bnd, .inl (cy_bnd, 256, .inl f2)), (h_trl, .inl (cy_trl, 256, .inl f_trl))] H := hP9
          have hD : va_D A [(h_bd, .inr (1, (mo10 v_bd (.ref h_bnd) (.ref h_trl) (.int z19)))), (h_bnd, .inl (cy_bnd, 256, .inl f2)), (h_trl, .inl (cy_trl, 256, .inl f_trl))] := hD9
          have hS := hS9
          clear hP9 hD9 hS9
          refine lv_aload_n hx hb dX1_undo_25 rfl (lv_at hl 0 rfl) ?_
          refine va_get (D := (dC, dI)) (ci := 1) (v := .ref h_bnd) (C := RX1) (T := TX1) (N := 13) hx hb hw iwX1 hown hK hP 0 rfl rfl 1 (by decide) (hw _ w_f_X1_9) (fun _ h9 => h9) rfl dX1_undo_26 ?_
          refine lv_aload_n hx hb dX1_undo_29 rfl (lv_at hl 0 rfl) ?_
          refine va_get (D := (dC, dI)) (ci := 1) (v := .ref h_trl) (C := RX1) (T := TX1) (N := 13) hx hb hw iwX1 hown hK hP 0 rfl rfl 2 (by decide) (hw _ w_f_X1_15) (fun _ h9 => h9) rfl dX1_undo_30 ?_
          refine lv_aload_n hx hb dX1_undo_33 rfl (lv_at hl 0 rfl) ?_
          refine va_get (D := (dC, dI)) (ci := 1) (v := .int z19) (C := RX1) (T := TX1) (N := 13) hx hb hw iwX1 hown hK hP 0 rfl rfl 3 (by decide) (hw _ w_f_X1_40) (fun _ h9 => h9) rfl dX1_undo_34 ?_
          refine va_iald hx hb hK hP 2 1 rfl rfl (i := z19) (vp_in_iff.mpr (by omega)) dX1_undo_37 ?_
          refine lv_topi (fun z20 ez20 => ?_)
          have rz20 : 0 ≤ (z20).toInt ∧ (z20).toInt ≤ 255 := by rw [ez20]; exact hf_trl _
          refine lv_iconst (v := 0) hx hb dX1_undo_38 (by decide) ?_
          refine va_iast hx hb hK hP hD hS 1 0 rfl rfl (i := z20) (x := 0) (vp_in_iff.mpr (by omega)) dX1_undo_39 (fun H locs hP9 hD9 hS9 => ?_)
          obtain ⟨f21, ef21⟩ : ∃ g : Nat → Int32, g = upd f2 (Int32.toNatClampNeg z20) 0 := ⟨_, rfl⟩
          clear hP hD hS
          have hP : va_P (dC, dI) cls [(h_bd, .inr (1, (mo10 v_bd (.ref h_bnd) (.ref h_trl) (.int z19)))), (h_bnd, .inl (cy_bnd, 256, .inl f21)), (h_trl, .inl (cy_trl, 256, .inl f_trl))] H := by rw [ef21]; exact hP9
          have hD : va_D A [(h_bd, .inr (1, (mo10 v_bd (.ref h_bnd) (.ref h_trl) (.int z19)))), (h_bnd, .inl (cy_bnd, 256, .inl f21)), (h_trl, .inl (cy_trl, 256, .inl f_trl))] := by rw [ef21]; exact hD9
          have hS := hS9
          clear hP9 hD9 hS9
          have hf21 : Rg 0 9600 f21 := by rw [ef21]; exact rg_upd hf2 (by decide)
          have ud22 : UND (z19).toInt (x_bd_trailed).toInt f_bnd f_trl f21 := und_step klp3_4 (by omega) (k := z19) (by omega) (by omega) ez20 ef21
          have ue23 : UNE (z19).toInt (x_bd_trailed).toInt f_trl f_bnd f21 := une_step klp3_5 (by omega) (k := z19) (by omega) (by omega) (by omega) ez20 hf_trl (by decide) ef21
          refine lv_goto (tgt := 0) hx hb dX1_undo_40 (by decide) ?_
          exact ih4 (z19) (f21) _ _ _ (by omega) hf21 (by omega) (by omega) (und_cast ud22 (by omega)) (une_cast ue23 (by omega)) (by omega) hP hD hS (lv_sub hl [0, 1] rfl)
  exact lp3 _ (x_bd_trailed) (f_bnd) _ _ _ (by first | exact hx_bd_trailed | omega) hf_bnd (by omega) (by omega) (und_cast und_zero (by omega)) (une_cast une_zero (by omega)) (Nat.le_refl _) hP hD hS (lv_sub hl [0, 1] rfl)

set_option maxHeartbeats 8000000 in
set_option maxRecDepth 100000 in
theorem c_X1_root (l : Launch) (dC : Nat → ClassId) (dI : Nat → Nat → Nat) (sz : Nat) (h_bd : Nat) (h_sam : Nat) (v_bd : Nat → Value) (cy_sam : ClassId) (f_sam : Nat → Int32) (p1 : Int32) (hf_sam : Rg 0 9600 f_sam) (q0 : 0 ≤ (p1).toInt ∧ (p1).toInt ≤ 9599) : Met l yX1_root (Ws yX1_root cX1_root 4 (some .int)) (({ frames := 0, cells := 0, slots := 0, locals := 0 } : Room)) (PRE (dC, dI) cls [(cy_sam, .int)] [(h_bd, .inr (1, (mo11 v_bd (.ref h_sam)))), (h_sam, .inl (cy_sam, 9600, .inl f_sam))] sz [.ref h_bd, .int p1]) (va_Qi (fun (r : Int32) (_ : Unit) => (0 ≤ r.toInt ∧ r.toInt ≤ 9599)) (fun (_ : Unit) (t : State) => va_P (dC, dI) cls [(h_bd, .inr (1, (mo11 v_bd (.ref h_sam)))), (h_sam, .inl (cy_sam, 9600, .inl f_sam))] t.heap ∧ va_D (va_A [(h_bd, .inr (1, (mo11 v_bd (.ref h_sam)))), (h_sam, .inl (cy_sam, 9600, .inl f_sam))] sz) [(h_bd, .inr (1, (mo11 v_bd (.ref h_sam)))), (h_sam, .inl (cy_sam, 9600, .inl f_sam))]) (va_A [(h_bd, .inr (1, (mo11 v_bd (.ref h_sam)))), (h_sam, .inl (cy_sam, 9600, .inl f_sam))] sz)) 0 0 (va_A [(h_bd, .inr (1, (mo11 v_bd (.ref h_sam)))), (h_sam, .inl (cy_sam, 9600, .inl f_sam))] sz) := by
  refine Met.ofW (cc := cX1_root) (maxL := 4) (ret := (some .int)) (by decide) rfl ?_
  intro p e s m args below meth c s₁ B hml hv
  obtain ⟨rfl, hsz, hP, hK, hD0, hN⟩ := hv
  have hx := B.exec
  have hb := B.bytes
  have hr := B.returns
  have hts := atoms_spec (ws := Ws yX1_root cX1_root 4 (some .int)) B.pre
  have hT : ∀ w ∈ WALL, w ∈ Ws yX1_root cX1_root 4 (some .int) := fun w h => List.mem_cons_of_mem _ h
  have hw := fun w (h : w ∈ WALL) => hts w (hT w h)
  have hown : s.vm.findClass RX1 = some m.cls := findClass_of_methodNamed B.named
  have hlocks := B.notSynchronized
  subst hsz
  have hD := hD0.self (sz := s.heap.size)
  generalize hAe : va_A [(h_bd, .inr (1, (mo11 v_bd (.ref h_sam)))), (h_sam, .inl (cy_sam, 9600, .inl f_sam))] s.heap.size = A at hD ⊢
  have hA : ∀ q : Nat, s.heap.size ≤ q → A q := fun q h => by rw [← hAe]; exact Or.inr h
  have hS : va_S A s.heap s.heap [] := va_S.rf
  have hl := lv_entry ([.ref h_bd, .int p1]) (n := 4) (Nat.le_of_ble_eq_true rfl)
  rw [lg_entry_eq]
  generalize (lg_sl ([.ref h_bd, .int p1]) ++ List.replicate (4 - (lg_sl ([.ref h_bd, .int p1])).length) Slot.unset).toArray = ls at hl ⊢
  have hl : lv_has ls 4 [(0, .ref h_bd), (1, .int p1)] := hl
  refine lv_iload_n hx hb dX1_root_0 rfl (lv_at hl 1 rfl) ?_
  refine lv_istore_n (lv' := [(2, .int p1), (0, .ref h_bd), (1, .int p1)]) hx hb dX1_root_1 rfl hl (by decide) rfl (fun ls hl => ?_)
  refine lv_iconst (v := 0) hx hb dX1_root_2 (by decide) ?_
  refine lv_istore_n (lv' := [(3, .int 0), (2, .int p1), (0, .ref h_bd), (1, .int p1)]) hx hb dX1_root_3 rfl hl (by decide) rfl (fun ls hl => ?_)
  have lp3 : ∀ (n : Nat) (x1 : Int32) (x2 : Int32) (H : Heap) (locs : List Loc) (ls : Array Slot), (0 ≤ (x1).toInt ∧ (x1).toInt ≤ 9599) → (0 ≤ (x2).toInt ∧ (x2).toInt ≤ 1024) → (1024 - (x2).toInt).toNat + 1 ≤ n → va_P (dC, dI) cls [(h_bd, .inr (1, (mo11 v_bd (.ref h_sam)))), (h_sam, .inl (cy_sam, 9600, .inl f_sam))] H → va_D A [(h_bd, .inr (1, (mo11 v_bd (.ref h_sam)))), (h_sam, .inl (cy_sam, 9600, .inl f_sam))] → va_S A s.heap H locs → lv_has ls 4 [(0, .ref h_bd), (1, .int p1), (2, .int x1), (3, .int x2)] → W p l e ({ frames := 0, cells := 0, slots := 0, locals := 0 } : Room) s m ([.ref h_bd, .int p1] : List Value).toArray below meth c H locs 0 0 (MQ below (va_Qi (fun (r : Int32) (_ : Unit) => (0 ≤ r.toInt ∧ r.toInt ≤ 9599)) (fun (_ : Unit) (t : State) => va_P (dC, dI) cls [(h_bd, .inr (1, (mo11 v_bd (.ref h_sam)))), (h_sam, .inl (cy_sam, 9600, .inl f_sam))] t.heap ∧ va_D A [(h_bd, .inr (1, (mo11 v_bd (.ref h_sam)))), (h_sam, .inl (cy_sam, 9600, .inl f_sam))]) A) ([.ref h_bd, .int p1] : List Value).toArray s 0 0 A) (F0 m 4 ls []) := by
    clear hP hD hS hl
    intro n
    induction n with
    | zero => intro x1 x2 H locs ls klp3_0 klp3_1 hm hP hD hS hl; exact False.elim (by omega)
    | succ n ih => 
      intro x1 x2 H locs ls klp3_0 klp3_1 hm hP hD hS hl
      have ih4 := ih
      clear ih
      refine lv_iload_n hx hb dX1_root_4 rfl (lv_at hl 3 rfl) ?_
      refine lv_sipush (v := 1024) hx hb dX1_root_5 (by decide) ?_
      refine lv_icmp_ge (tgt := 35) hx hb dX1_root_8 (by decide) (fun c5 => ?_) (fun c5 => ?_)
      · have kc5 := (cv_le (by decide : (1024 : Int32).toInt = 1024) (rfl : (x2).toInt = (x2).toInt)).mp c5
        refine lv_iload_n hx hb dX1_root_35 rfl (lv_at hl 2 rfl) ?_
        refine W.widen (k := 0) (n := 0) (Nat.le_of_ble_eq_true rfl) (Nat.le_of_ble_eq_true rfl) ?_
        have w6 : 0 ≤ (x1 : Int32).toInt ∧ (x1 : Int32).toInt ≤ 9599 := by first | exact klp3_0 | omega
        exact W.iret (v := x1) hx hb hr (fun t ht hW => ⟨⟨x1, (), rfl, w6, by rw [ht]; exact hP, hD⟩, hS.F ht⟩) hS.2.2 dX1_root_36
      · have kc5 := (not_congr (cv_le (by decide : (1024 : Int32).toInt = 1024) (rfl : (x2).toInt = (x2).toInt))).mp c5
        refine lv_aload_n hx hb dX1_root_11 rfl (lv_at hl 0 rfl) ?_
        refine va_get (D := (dC, dI)) (ci := 1) (v := .ref h_sam) (C := RX1) (T := TX1) (N := 13) hx hb hw iwX1 hown hK hP 0 rfl rfl 4 (by decide) (hw _ w_f_X1_18) (fun _ h9 => h9) rfl dX1_root_12 ?_
        refine lv_iload_n hx hb dX1_root_15 rfl (lv_at hl 2 rfl) ?_
        refine va_iald hx hb hK hP 1 0 rfl rfl (i := x1) (vp_in_iff.mpr (by omega)) dX1_root_16 ?_
        refine lv_topi (fun z7 ez7 => ?_)
        have rz7 : 0 ≤ (z7).toInt ∧ (z7).toInt ≤ 9600 := by rw [ez7]; exact hf_sam _
        refine lv_if_eq (tgt := 35) hx hb dX1_root_17 (by decide) (fun c8 => ?_) (fun c8 => ?_)
        · have kc8 := (cv_eq (rfl : (z7).toInt = (z7).toInt) (by decide : (0 : Int32).toInt = 0)).mp c8
          refine lv_iload_n hx hb dX1_root_35 rfl (lv_at hl 2 rfl) ?_
          refine W.widen (k := 0) (n := 0) (Nat.le_of_ble_eq_true rfl) (Nat.le_of_ble_eq_true rfl) ?_
          have w9 : 0 ≤ (x1 : Int32).toInt ∧ (x1 : Int32).toInt ≤ 9599 := by first | exact klp3_0 | omega
          exact W.iret (v := x1) hx hb hr (fun t ht hW => ⟨⟨x1, (), rfl, w9, by rw [ht]; exact hP, hD⟩, hS.F ht⟩) hS.2.2 dX1_root_36
        · have kc8 := (not_congr (cv_eq (rfl : (z7).toInt = (z7).toInt) (by decide : (0 : Int32).toInt = 0))).mp c8
          refine lv_aload_n hx hb dX1_root_20 rfl (lv_at hl 0 rfl) ?_
          refine va_get (D := (dC, dI)) (ci := 1) (v := .ref h_sam) (C := RX1) (T := TX1) (N := 13) hx hb hw iwX1 hown hK hP 0 rfl rfl 4 (by decide) (hw _ w_f_X1_18) (fun _ h9 => h9) rfl dX1_root_21 ?_
          refine lv_iload_n hx hb dX1_root_24 rfl (lv_at hl 2 rfl) ?_
          refine va_iald hx hb hK hP 1 0 rfl rfl (i := x1) (vp_in_iff.mpr (by omega)) dX1_root_25 ?_
          refine lv_topi (fun z10 ez10 => ?_)
          have qz10 : (z10).toInt = (z7).toInt := by rw [ez10, ez7]
          have rz10 : 0 ≤ (z10).toInt ∧ (z10).toInt ≤ 9600 := by rw [ez10]; exact hf_sam _
          refine lv_iconst (v := 1) hx hb dX1_root_26 (by decide) ?_
          refine lv_isub hx hb dX1_root_27 ?_
          refine lv_topi (fun z11 ez11 => ?_)
          have tz11 : (z11).toInt = (z10).toInt - 1 := by rw [ez11]; exact i_sub rfl (by decide) (by omega)
          refine lv_istore_n (lv' := [(2, .int z11), (0, .ref h_bd), (1, .int p1), (3, .int x2)]) hx hb dX1_root_28 rfl hl (by decide) rfl (fun ls hl => ?_)
          obtain ⟨z12, ez12⟩ : ∃ y : Int32, y = x2 + 1 := ⟨_, rfl⟩
          have tz12 : (z12).toInt = (x2).toInt + 1 := by rw [ez12]; exact i_add rfl (by decide) (by omega)
          refine lv_iinc (v := z12) (lv' := [(3, .int z12), (2, .int z11), (0, .ref h_bd), (1, .int p1)]) hx hb dX1_root_29 hl (k := 3) rfl (by rw [ez12]; rfl) (by decide) rfl (fun ls hl => ?_)
          refine lv_goto (tgt := 4) hx hb dX1_root_32 (by decide) ?_
          exact ih4 (z11) (z12) _ _ _ (by omega) (by omega) (by omega) hP hD hS (lv_sub hl [2, 3, 1, 0] rfl)
  have cst0 : (0 : Int32).toInt = 0 := by decide
  exact lp3 _ (p1) (0) _ _ _ (by first | exact q0 | omega) (by decide) (Nat.le_refl _) hP hD hS (lv_sub hl [2, 3, 1, 0] rfl)

set_option maxHeartbeats 8000000 in
set_option maxRecDepth 100000 in
theorem c_X1_join (l : Launch) (dC : Nat → ClassId) (dI : Nat → Nat → Nat) (sz : Nat) (h_bd : Nat) (h_sam : Nat) (h_jnd : Nat) (v_bd : Nat → Value) (x_bd_joins : Int32) (cy_sam : ClassId) (f_sam : Nat → Int32) (cy_jnd : ClassId) (f_jnd : Nat → Int32) (p1 : Int32) (p2 : Int32) (hx_bd_joins : 0 ≤ (x_bd_joins).toInt ∧ (x_bd_joins).toInt ≤ 1024) (hf_sam : Rg 0 9600 f_sam) (hf_jnd : Rg 0 9599 f_jnd) (q0 : 0 ≤ (p1).toInt ∧ (p1).toInt ≤ 9599) (q1 : 0 ≤ (p2).toInt ∧ (p2).toInt ≤ 9599) : Met l yX1_join (Ws yX1_join cX1_join 5 none) (({ frames := 1, cells := 0, slots := 0, locals := 23 } : Room)) (PRE (dC, dI) cls [(cy_sam, .int), (cy_jnd, .int)] [(h_bd, .inr (1, (mo12 v_bd (.ref h_sam) (.ref h_jnd) (.int x_bd_joins)))), (h_sam, .inl (cy_sam, 9600, .inl f_sam)), (h_jnd, .inl (cy_jnd, 1024, .inl f_jnd))] sz [.ref h_bd, .int p1, .int p2]) (va_Qv (fun (u : (Int32) × (Nat → Int32) × (Nat → Int32)) => (0 ≤ (u.1).toInt ∧ (u.1).toInt ≤ 1024) ∧ (Rg 0 9600 u.2.1) ∧ (Rg 0 9599 u.2.2)) (fun (u : (Int32) × (Nat → Int32) × (Nat → Int32)) (t : State) => va_P (dC, dI) cls [(h_bd, .inr (1, (mo12 v_bd (.ref h_sam) (.ref h_jnd) (.int u.1)))), (h_sam, .inl (cy_sam, 9600, .inl u.2.1)), (h_jnd, .inl (cy_jnd, 1024, .inl u.2.2))] t.heap ∧ va_D (va_A [(h_bd, .inr (1, (mo12 v_bd (.ref h_sam) (.ref h_jnd) (.int x_bd_joins)))), (h_sam, .inl (cy_sam, 9600, .inl f_sam)), (h_jnd, .inl (cy_jnd, 1024, .inl f_jnd))] sz) [(h_bd, .inr (1, (mo12 v_bd (.ref h_sam) (.ref h_jnd) (.int u.1)))), (h_sam, .inl (cy_sam, 9600, .inl u.2.1)), (h_jnd, .inl (cy_jnd, 1024, .inl u.2.2))]) (va_A [(h_bd, .inr (1, (mo12 v_bd (.ref h_sam) (.ref h_jnd) (.int x_bd_joins)))), (h_sam, .inl (cy_sam, 9600, .inl f_sam)), (h_jnd, .inl (cy_jnd, 1024, .inl f_jnd))] sz)) 0 0 (va_A [(h_bd, .inr (1, (mo12 v_bd (.ref h_sam) (.ref h_jnd) (.int x_bd_joins)))), (h_sam, .inl (cy_sam, 9600, .inl f_sam)), (h_jnd, .inl (cy_jnd, 1024, .inl f_jnd))] sz) := by
  refine Met.ofW (cc := cX1_join) (maxL := 5) (ret := none) (by decide) rfl ?_
  intro p e s m args below meth c s₁ B hml hv
  obtain ⟨rfl, hsz, hP, hK, hD0, hN⟩ := hv
  have hx := B.exec
  have hb := B.bytes
  have hr := B.returns
  have hts := atoms_spec (ws := Ws yX1_join cX1_join 5 none) B.pre
  have hT : ∀ w ∈ WALL, w ∈ Ws yX1_join cX1_join 5 none := fun w h => List.mem_cons_of_mem _ h
  have hw := fun w (h : w ∈ WALL) => hts w (hT w h)
  have hown : s.vm.findClass RX1 = some m.cls := findClass_of_methodNamed B.named
  have hlocks := B.notSynchronized
  subst hsz
  have hD := hD0.self (sz := s.heap.size)
  generalize hAe : va_A [(h_bd, .inr (1, (mo12 v_bd (.ref h_sam) (.ref h_jnd) (.int x_bd_joins)))), (h_sam, .inl (cy_sam, 9600, .inl f_sam)), (h_jnd, .inl (cy_jnd, 1024, .inl f_jnd))] s.heap.size = A at hD ⊢
  have hA : ∀ q : Nat, s.heap.size ≤ q → A q := fun q h => by rw [← hAe]; exact Or.inr h
  have hS : va_S A s.heap s.heap [] := va_S.rf
  have hl := lv_entry ([.ref h_bd, .int p1, .int p2]) (n := 5) (Nat.le_of_ble_eq_true rfl)
  rw [lg_entry_eq]
  generalize (lg_sl ([.ref h_bd, .int p1, .int p2]) ++ List.replicate (5 - (lg_sl ([.ref h_bd, .int p1, .int p2])).length) Slot.unset).toArray = ls at hl ⊢
  have hl : lv_has ls 5 [(0, .ref h_bd), (1, .int p1), (2, .int p2)] := hl
  refine lv_aload_n hx hb dX1_join_0 rfl (lv_at hl 0 rfl) ?_
  refine lv_iload_n hx hb dX1_join_1 rfl (lv_at hl 1 rfl) ?_
  obtain ⟨vq1, evq1⟩ := mq12_11 v_bd (.ref h_jnd) (.int x_bd_joins)
  replace hP : va_P (dC, dI) cls [(h_bd, .inr (1, (mo11 vq1 (.ref h_sam)))), (h_sam, .inl (cy_sam, 9600, .inl f_sam)), (h_jnd, .inl (cy_jnd, 1024, .inl f_jnd))] s.heap := by rw [evq1]; exact hP
  replace hD : va_D A [(h_bd, .inr (1, (mo11 vq1 (.ref h_sam)))), (h_sam, .inl (cy_sam, 9600, .inl f_sam)), (h_jnd, .inl (cy_jnd, 1024, .inl f_jnd))] := by rw [evq1]; exact hD
  have hPc := hP.sub (ws' := [(h_bd, .inr (1, (mo11 vq1 (.ref h_sam)))), (h_sam, .inl (cy_sam, 9600, .inl f_sam))]) [0, 1] rfl
  have hDc := hD.sub (ws' := [(h_bd, .inr (1, (mo11 vq1 (.ref h_sam)))), (h_sam, .inl (cy_sam, 9600, .inl f_sam))]) [0, 1] (by decide) rfl
  have hKc := hK.sub (tys' := [(cy_sam, .int)]) [0] rfl
  have hFc := va_free (wc := [(h_bd, .inr (1, (mo11 vq1 (.ref h_sam)))), (h_sam, .inl (cy_sam, 9600, .inl f_sam))]) hD hS hA [0, 1] rfl
  refine va_calli (va_runV (As := [.int p1]) (rest := []) ⟨hx, hb, hml, hown, hts⟩ (c_X1_root l dC dI s.heap.size h_bd h_sam vq1 cy_sam f_sam p1 hf_sam (by first | exact q0 | omega)) (cwV 1 hts (gv hT w_m_X1_68 w_instanceMethod_X1_root ws_sel_X1_root w_ini_X1 w_code_X1_root) rfl rfl rfl (by decide +kernel) ⟨(Nat.le_of_ble_eq_true rfl), (Nat.le_of_ble_eq_true rfl)⟩) ⟨pre_blind, va_recv hK hP (ci := 1) (q0 := 0) rfl rfl, pre_of hPc hKc hDc hN⟩ rfl rfl hl.1 rfl (lv_room (Nat.le_of_ble_eq_true rfl)) dX1_join_2 ⟨(Nat.le_of_ble_eq_true rfl), (Nat.le_of_ble_eq_true rfl)⟩) hS (fun q _ h => hFc q h) hFc (fun r2 u t H locs ht hvm hq hB hz1 hk1 hS9 => ?_)
  obtain ⟨hP1, hD1⟩ := hB
  rw [ht] at hP1
  obtain ⟨hP9, hD9⟩ := va_join (wr := [(h_jnd, .inl (cy_jnd, 1024, .inl f_jnd))]) (w1 := [(h_bd, .inr (1, (mo11 vq1 (.ref h_sam)))), (h_sam, .inl (cy_sam, 9600, .inl f_sam))]) hP hD [0, 1] [2] rfl rfl (by decide) (by decide) hk1 hFc hP1 hD1
  clear hP hD hS hPc hDc hKc hFc hP1 hD1 hk1 hz1 ht hvm
  have hP : va_P (dC, dI) cls [(h_jnd, .inl (cy_jnd, 1024, .inl f_jnd)), (h_bd, .inr (1, (mo11 vq1 (.ref h_sam)))), (h_sam, .inl (cy_sam, 9600, .inl f_sam))] H := hP9
  have hD : va_D A [(h_jnd, .inl (cy_jnd, 1024, .inl f_jnd)), (h_bd, .inr (1, (mo11 vq1 (.ref h_sam)))), (h_sam, .inl (cy_sam, 9600, .inl f_sam))] := hD9
  have hS := hS9
  clear hP9 hD9 hS9
  rw [evq1] at hP hD
  replace hP : va_P (dC, dI) cls [(h_jnd, .inl (cy_jnd, 1024, .inl f_jnd)), (h_bd, .inr (1, (mo12 v_bd (.ref h_sam) (.ref h_jnd) (.int x_bd_joins)))), (h_sam, .inl (cy_sam, 9600, .inl f_sam))] H := hP
  replace hD : va_D A [(h_jnd, .inl (cy_jnd, 1024, .inl f_jnd)), (h_bd, .inr (1, (mo12 v_bd (.ref h_sam) (.ref h_jnd) (.int x_bd_joins)))), (h_sam, .inl (cy_sam, 9600, .inl f_sam))] := hD
  clear evq1 
  have k3 : 0 ≤ (r2).toInt ∧ (r2).toInt ≤ 9599 := hq
  clear hq
  refine lv_istore_n (lv' := [(3, .int r2), (0, .ref h_bd), (1, .int p1), (2, .int p2)]) hx hb dX1_join_5 rfl hl (by decide) rfl (fun ls hl => ?_)
  refine lv_aload_n hx hb dX1_join_6 rfl (lv_at hl 1 rfl) ?_
  refine lv_iload_n hx hb dX1_join_7 rfl (lv_at hl 3 rfl) ?_
  obtain ⟨vq4, evq4⟩ := mq12_11 v_bd (.ref h_jnd) (.int x_bd_joins)
  replace hP : va_P (dC, dI) cls [(h_jnd, .inl (cy_jnd, 1024, .inl f_jnd)), (h_bd, .inr (1, (mo11 vq4 (.ref h_sam)))), (h_sam, .inl (cy_sam, 9600, .inl f_sam))] H := by rw [evq4]; exact hP
  replace hD : va_D A [(h_jnd, .inl (cy_jnd, 1024, .inl f_jnd)), (h_bd, .inr (1, (mo11 vq4 (.ref h_sam)))), (h_sam, .inl (cy_sam, 9600, .inl f_sam))] := by rw [evq4]; exact hD
  have hPc := hP.sub (ws' := [(h_bd, .inr (1, (mo11 vq4 (.ref h_sam)))), (h_sam, .inl (cy_sam, 9600, .inl f_sam))]) [1, 2] rfl
  have hDc := hD.sub (ws' := [(h_bd, .inr (1, (mo11 vq4 (.ref h_sam)))), (h_sam, .inl (cy_sam, 9600, .inl f_sam))]) [1, 2] (by decide) rfl
  have hKc := hK.sub (tys' := [(cy_sam, .int)]) [0] rfl
  have hFc := va_free (wc := [(h_bd, .inr (1, (mo11 vq4 (.ref h_sam)))), (h_sam, .inl (cy_sam, 9600, .inl f_sam))]) hD hS hA [1, 2] rfl
  refine va_calli (va_runV (As := [.int p2]) (rest := []) ⟨hx, hb, hml, hown, hts⟩ (c_X1_root l dC dI H.size h_bd h_sam vq4 cy_sam f_sam p2 hf_sam (by first | exact q1 | omega)) (cwV 1 hts (gv hT w_m_X1_68 w_instanceMethod_X1_root ws_sel_X1_root w_ini_X1 w_code_X1_root) rfl rfl rfl (by decide +kernel) ⟨(Nat.le_of_ble_eq_true rfl), (Nat.le_of_ble_eq_true rfl)⟩) ⟨pre_blind, va_recv hK hP (ci := 1) (q0 := 1) rfl rfl, pre_of hPc hKc hDc hN⟩ rfl rfl hl.1 rfl (lv_room (Nat.le_of_ble_eq_true rfl)) dX1_join_8 ⟨(Nat.le_of_ble_eq_true rfl), (Nat.le_of_ble_eq_true rfl)⟩) hS (fun q _ h => hFc q h) hFc (fun r5 u t H locs ht hvm hq hB hz1 hk1 hS9 => ?_)
  obtain ⟨hP1, hD1⟩ := hB
  rw [ht] at hP1
  obtain ⟨hP9, hD9⟩ := va_join (wr := [(h_jnd, .inl (cy_jnd, 1024, .inl f_jnd))]) (w1 := [(h_bd, .inr (1, (mo11 vq4 (.ref h_sam)))), (h_sam, .inl (cy_sam, 9600, .inl f_sam))]) hP hD [1, 2] [0] rfl rfl (by decide) (by decide) hk1 hFc hP1 hD1
  clear hP hD hS hPc hDc hKc hFc hP1 hD1 hk1 hz1 ht hvm
  have hP : va_P (dC, dI) cls [(h_jnd, .inl (cy_jnd, 1024, .inl f_jnd)), (h_bd, .inr (1, (mo11 vq4 (.ref h_sam)))), (h_sam, .inl (cy_sam, 9600, .inl f_sam))] H := hP9
  have hD : va_D A [(h_jnd, .inl (cy_jnd, 1024, .inl f_jnd)), (h_bd, .inr (1, (mo11 vq4 (.ref h_sam)))), (h_sam, .inl (cy_sam, 9600, .inl f_sam))] := hD9
  have hS := hS9
  clear hP9 hD9 hS9
  rw [evq4] at hP hD
  replace hP : va_P (dC, dI) cls [(h_jnd, .inl (cy_jnd, 1024, .inl f_jnd)), (h_bd, .inr (1, (mo12 v_bd (.ref h_sam) (.ref h_jnd) (.int x_bd_joins)))), (h_sam, .inl (cy_sam, 9600, .inl f_sam))] H := hP
  replace hD : va_D A [(h_jnd, .inl (cy_jnd, 1024, .inl f_jnd)), (h_bd, .inr (1, (mo12 v_bd (.ref h_sam) (.ref h_jnd) (.int x_bd_joins)))), (h_sam, .inl (cy_sam, 9600, .inl f_sam))] := hD
  clear evq4 
  have k6 : 0 ≤ (r5).toInt ∧ (r5).toInt ≤ 9599 := hq
  clear hq
  refine lv_istore (lv' := [(4, .int r5), (3, .int r2), (0, .ref h_bd), (1, .int p1), (2, .int p2)]) hx hb dX1_join_11 hl (by decide) rfl (fun ls hl => ?_)
  refine lv_iload_n hx hb dX1_join_13 rfl (lv_at hl 1 rfl) ?_
  refine lv_iload hx hb dX1_join_14 (lv_at hl 0 rfl) ?_
  refine lv_icmp_eq (tgt := 56) hx hb dX1_join_16 (by decide) (fun c7 => ?_) (fun c7 => ?_)
  · have kc7 := (cv_eq (rfl : (r2).toInt = (r2).toInt) (rfl : (r5).toInt = (r5).toInt)).mp c7
    replace hP : va_P (dC, dI) cls [(h_bd, .inr (1, (mo12 v_bd (.ref h_sam) (.ref h_jnd) (.int x_bd_joins)))), (h_sam, .inl (cy_sam, 9600, .inl f_sam)), (h_jnd, .inl (cy_jnd, 1024, .inl f_jnd))] H := hP.sub [1, 2, 0] rfl
    replace hD : va_D A [(h_bd, .inr (1, (mo12 v_bd (.ref h_sam) (.ref h_jnd) (.int x_bd_joins)))), (h_sam, .inl (cy_sam, 9600, .inl f_sam)), (h_jnd, .inl (cy_jnd, 1024, .inl f_jnd))] := hD.sub [1, 2, 0] (by decide) rfl
    refine W.widen (k := 0) (n := 0) (Nat.le_of_ble_eq_true rfl) (Nat.le_of_ble_eq_true rfl) ?_
    have w8 : 0 ≤ ((x_bd_joins)).toInt ∧ ((x_bd_joins)).toInt ≤ 1024 := by first | exact hx_bd_joins | omega
    exact W.vret hx hb hr (fun t ht hW => ⟨⟨(x_bd_joins, f_sam, f_jnd), rfl, ⟨w8, hf_sam, hf_jnd⟩, by rw [ht]; exact hP, hD⟩, hS.F ht⟩) hS.2.2 dX1_join_56
  · have kc7 := (not_congr (cv_eq (rfl : (r2).toInt = (r2).toInt) (rfl : (r5).toInt = (r5).toInt))).mp c7
    refine lv_aload_n hx hb dX1_join_19 rfl (lv_at hl 2 rfl) ?_
    refine va_get (D := (dC, dI)) (ci := 1) (v := .int x_bd_joins) (C := RX1) (T := TX1) (N := 13) hx hb hw iwX1 hown hK hP 1 rfl rfl 6 (by decide) (hw _ w_f_X1_52) (fun _ h9 => h9) rfl dX1_join_20 ?_
    refine lv_sipush (v := 1024) hx hb dX1_join_23 (by decide) ?_
    refine lv_icmp_ge (tgt := 56) hx hb dX1_join_26 (by decide) (fun c9 => ?_) (fun c9 => ?_)
    · have kc9 := (cv_le (by decide : (1024 : Int32).toInt = 1024) (rfl : (x_bd_joins).toInt = (x_bd_joins).toInt)).mp c9
      replace hP : va_P (dC, dI) cls [(h_bd, .inr (1, (mo12 v_bd (.ref h_sam) (.ref h_jnd) (.int x_bd_joins)))), (h_sam, .inl (cy_sam, 9600, .inl f_sam)), (h_jnd, .inl (cy_jnd, 1024, .inl f_jnd))] H := hP.sub [1, 2, 0] rfl
      replace hD : va_D A [(h_bd, .inr (1, (mo12 v_bd (.ref h_sam) (.ref h_jnd) (.int x_bd_joins)))), (h_sam, .inl (cy_sam, 9600, .inl f_sam)), (h_jnd, .inl (cy_jnd, 1024, .inl f_jnd))] := hD.sub [1, 2, 0] (by decide) rfl
      refine W.widen (k := 0) (n := 0) (Nat.le_of_ble_eq_true rfl) (Nat.le_of_ble_eq_true rfl) ?_
      have w10 : 0 ≤ ((x_bd_joins)).toInt ∧ ((x_bd_joins)).toInt ≤ 1024 := by first | exact hx_bd_joins | omega
      exact W.vret hx hb hr (fun t ht hW => ⟨⟨(x_bd_joins, f_sam, f_jnd), rfl, ⟨w10, hf_sam, hf_jnd⟩, by rw [ht]; exact hP, hD⟩, hS.F ht⟩) hS.2.2 dX1_join_56
    · have kc9 := (not_congr (cv_le (by decide : (1024 : Int32).toInt = 1024) (rfl : (x_bd_joins).toInt = (x_bd_joins).toInt))).mp c9
      refine lv_aload_n hx hb dX1_join_29 rfl (lv_at hl 2 rfl) ?_
      refine va_get (D := (dC, dI)) (ci := 1) (v := .ref h_sam) (C := RX1) (T := TX1) (N := 13) hx hb hw iwX1 hown hK hP 1 rfl rfl 4 (by decide) (hw _ w_f_X1_18) (fun _ h9 => h9) rfl dX1_join_30 ?_
      refine lv_iload_n hx hb dX1_join_33 rfl (lv_at hl 1 rfl) ?_
      refine lv_iload hx hb dX1_join_34 (lv_at hl 0 rfl) ?_
      refine lv_iconst (v := 1) hx hb dX1_join_36 (by decide) ?_
      refine lv_iadd hx hb dX1_join_37 ?_
      refine lv_topi (fun z11 ez11 => ?_)
      have tz11 : (z11).toInt = (r5).toInt + 1 := by rw [ez11]; exact i_add rfl (by decide) (by omega)
      refine va_iast hx hb hK hP hD hS 2 0 rfl rfl (i := r2) (x := z11) (vp_in_iff.mpr (by omega)) dX1_join_38 (fun H locs hP9 hD9 hS9 => ?_)
      obtain ⟨f12, ef12⟩ : ∃ g : Nat → Int32, g = upd f_sam (Int32.toNatClampNeg r2) z11 := ⟨_, rfl⟩
      clear hP hD hS
      have hP : va_P (dC, dI) cls [(h_jnd, .inl (cy_jnd, 1024, .inl f_jnd)), (h_bd, .inr (1, (mo12 v_bd (.ref h_sam) (.ref h_jnd) (.int x_bd_joins)))), (h_sam, .inl (cy_sam, 9600, .inl f12))] H := by rw [ef12]; exact hP9
      have hD : va_D A [(h_jnd, .inl (cy_jnd, 1024, .inl f_jnd)), (h_bd, .inr (1, (mo12 v_bd (.ref h_sam) (.ref h_jnd) (.int x_bd_joins)))), (h_sam, .inl (cy_sam, 9600, .inl f12))] := by rw [ef12]; exact hD9
      have hS := hS9
      clear hP9 hD9 hS9
      have hf12 : Rg 0 9600 f12 := by rw [ef12]; exact rg_upd hf_sam (by omega)
      clear ef12
      refine lv_aload_n hx hb dX1_join_39 rfl (lv_at hl 2 rfl) ?_
      refine va_get (D := (dC, dI)) (ci := 1) (v := .ref h_jnd) (C := RX1) (T := TX1) (N := 13) hx hb hw iwX1 hown hK hP 1 rfl rfl 5 (by decide) (hw _ w_f_X1_21) (fun _ h9 => h9) rfl dX1_join_40 ?_
      refine lv_aload_n hx hb dX1_join_43 rfl (lv_at hl 2 rfl) ?_
      refine lv_dup hx hb dX1_join_44 rfl ?_
      refine va_get (D := (dC, dI)) (ci := 1) (v := .int x_bd_joins) (C := RX1) (T := TX1) (N := 13) hx hb hw iwX1 hown hK hP 1 rfl rfl 6 (by decide) (hw _ w_f_X1_52) (fun _ h9 => h9) rfl dX1_join_45 ?_
      refine lv_dup_x1 hx hb dX1_join_48 rfl rfl ?_
      refine lv_iconst (v := 1) hx hb dX1_join_49 (by decide) ?_
      refine lv_iadd hx hb dX1_join_50 ?_
      refine lv_topi (fun z13 ez13 => ?_)
      have tz13 : (z13).toInt = (x_bd_joins).toInt + 1 := by rw [ez13]; exact i_add rfl (by decide) (by omega)
      refine va_put (D := (dC, dI)) (ci := 1) (v := .int z13) (ty := tyX1 6) (C := RX1) (T := TX1) (N := 13) hx hb hw iwX1 tyX1 tyX1_ok nmX1 hown hK hP hD hS 1 rfl rfl 6 (by decide) (hw _ w_f_X1_52) (fun _ h9 => h9) rfl (tyX1_ok 6 (by decide)) rfl rfl (Nat.le_of_ble_eq_true rfl) dX1_join_51 (fun H locs hP9 hD9 hS9 => ?_)
      clear hP hD hS
      have hP : va_P (dC, dI) cls [(h_jnd, .inl (cy_jnd, 1024, .inl f_jnd)), (h_bd, .inr (1, (mo12 v_bd (.ref h_sam) (.ref h_jnd) (.int z13)))), (h_sam, .inl (cy_sam, 9600, .inl f12))] H := hP9
      have hD : va_D A [(h_jnd, .inl (cy_jnd, 1024, .inl f_jnd)), (h_bd, .inr (1, (mo12 v_bd (.ref h_sam) (.ref h_jnd) (.int z13)))), (h_sam, .inl (cy_sam, 9600, .inl f12))] := hD9
      have hS := hS9
      clear hP9 hD9 hS9
      refine lv_iload_n hx hb dX1_join_54 rfl (lv_at hl 1 rfl) ?_
      refine va_iast hx hb hK hP hD hS 0 1 rfl rfl (i := x_bd_joins) (x := r2) (vp_in_iff.mpr (by omega)) dX1_join_55 (fun H locs hP9 hD9 hS9 => ?_)
      obtain ⟨f14, ef14⟩ : ∃ g : Nat → Int32, g = upd f_jnd (Int32.toNatClampNeg x_bd_joins) r2 := ⟨_, rfl⟩
      clear hP hD hS
      have hP : va_P (dC, dI) cls [(h_jnd, .inl (cy_jnd, 1024, .inl f14)), (h_bd, .inr (1, (mo12 v_bd (.ref h_sam) (.ref h_jnd) (.int z13)))), (h_sam, .inl (cy_sam, 9600, .inl f12))] H := by rw [ef14]; exact hP9
      have hD : va_D A [(h_jnd, .inl (cy_jnd, 1024, .inl f14)), (h_bd, .inr (1, (mo12 v_bd (.ref h_sam) (.ref h_jnd) (.int z13)))), (h_sam, .inl (cy_sam, 9600, .inl f12))] := by rw [ef14]; exact hD9
      have hS := hS9
      clear hP9 hD9 hS9
      have hf14 : Rg 0 9599 f14 := by rw [ef14]; exact rg_upd hf_jnd (by omega)
      clear ef14
      replace hP : va_P (dC, dI) cls [(h_bd, .inr (1, (mo12 v_bd (.ref h_sam) (.ref h_jnd) (.int z13)))), (h_sam, .inl (cy_sam, 9600, .inl f12)), (h_jnd, .inl (cy_jnd, 1024, .inl f14))] H := hP.sub [1, 2, 0] rfl
      replace hD : va_D A [(h_bd, .inr (1, (mo12 v_bd (.ref h_sam) (.ref h_jnd) (.int z13)))), (h_sam, .inl (cy_sam, 9600, .inl f12)), (h_jnd, .inl (cy_jnd, 1024, .inl f14))] := hD.sub [1, 2, 0] (by decide) rfl
      refine W.widen (k := 0) (n := 0) (Nat.le_of_ble_eq_true rfl) (Nat.le_of_ble_eq_true rfl) ?_
      have w15 : 0 ≤ ((z13)).toInt ∧ ((z13)).toInt ≤ 1024 := by omega
      exact W.vret hx hb hr (fun t ht hW => ⟨⟨(z13, f12, f14), rfl, ⟨w15, hf12, hf14⟩, by rw [ht]; exact hP, hD⟩, hS.F ht⟩) hS.2.2 dX1_join_56

set_option maxHeartbeats 8000000 in
set_option maxRecDepth 100000 in
theorem c_X8_countLiterals (l : Launch) (dC : Nat → ClassId) (dI : Nat → Nat → Nat) (sz : Nat) (h_td : Nat) (h_lit : Nat) (v_td : Nat → Value) (x_td_clauses : Int32) (cy_lit : ClassId) (f_lit : Nat → Int32) (hx_td_clauses : 0 ≤ (x_td_clauses).toInt ∧ (x_td_clauses).toInt ≤ 16) (hf_lit : Rg 0 6 f_lit) : Met l yX8_countLiterals (Ws yX8_countLiterals cX8_countLiterals 3 (some .int)) (({ frames := 0, cells := 0, slots := 0, locals := 0 } : Room)) (PRE (dC, dI) cls [(cy_lit, .int)] [(h_td, .inr (5, (mo1 v_td (.ref h_lit) (.int x_td_clauses)))), (h_lit, .inl (cy_lit, 16, .inl f_lit))] sz [.ref h_td]) (va_Qi (fun (r : Int32) (_ : Unit) => True) (fun (_ : Unit) (t : State) => va_P (dC, dI) cls [(h_td, .inr (5, (mo1 v_td (.ref h_lit) (.int x_td_clauses)))), (h_lit, .inl (cy_lit, 16, .inl f_lit))] t.heap ∧ va_D (va_A [(h_td, .inr (5, (mo1 v_td (.ref h_lit) (.int x_td_clauses)))), (h_lit, .inl (cy_lit, 16, .inl f_lit))] sz) [(h_td, .inr (5, (mo1 v_td (.ref h_lit) (.int x_td_clauses)))), (h_lit, .inl (cy_lit, 16, .inl f_lit))]) (va_A [(h_td, .inr (5, (mo1 v_td (.ref h_lit) (.int x_td_clauses)))), (h_lit, .inl (cy_lit, 16, .inl f_lit))] sz)) 0 0 (va_A [(h_td, .inr (5, (mo1 v_td (.ref h_lit) (.int x_td_clauses)))), (h_lit, .inl (cy_lit, 16, .inl f_lit))] sz) := by
  refine Met.ofW (cc := cX8_countLiterals) (maxL := 3) (ret := (some .int)) (by decide) rfl ?_
  intro p e s m args below meth c s₁ B hml hv
  obtain ⟨rfl, hsz, hP, hK, hD0, hN⟩ := hv
  have hx := B.exec
  have hb := B.bytes
  have hr := B.returns
  have hts := atoms_spec (ws := Ws yX8_countLiterals cX8_countLiterals 3 (some .int)) B.pre
  have hT : ∀ w ∈ WALL, w ∈ Ws yX8_countLiterals cX8_countLiterals 3 (some .int) := fun w h => List.mem_cons_of_mem _ h
  have hw := fun w (h : w ∈ WALL) => hts w (hT w h)
  have hown : s.vm.findClass RX8 = some m.cls := findClass_of_methodNamed B.named
  have hlocks := B.notSynchronized
  subst hsz
  have hD := hD0.self (sz := s.heap.size)
  generalize hAe : va_A [(h_td, .inr (5, (mo1 v_td (.ref h_lit) (.int x_td_clauses)))), (h_lit, .inl (cy_lit, 16, .inl f_lit))] s.heap.size = A at hD ⊢
  have hA : ∀ q : Nat, s.heap.size ≤ q → A q := fun q h => by rw [← hAe]; exact Or.inr h
  have hS : va_S A s.heap s.heap [] := va_S.rf
  have hl := lv_entry ([.ref h_td]) (n := 3) (Nat.le_of_ble_eq_true rfl)
  rw [lg_entry_eq]
  generalize (lg_sl ([.ref h_td]) ++ List.replicate (3 - (lg_sl ([.ref h_td])).length) Slot.unset).toArray = ls at hl ⊢
  have hl : lv_has ls 3 [(0, .ref h_td)] := hl
  refine lv_iconst (v := 0) hx hb dX8_countLiterals_0 (by decide) ?_
  refine lv_istore_n (lv' := [(1, .int 0), (0, .ref h_td)]) hx hb dX8_countLiterals_1 rfl hl (by decide) rfl (fun ls hl => ?_)
  refine lv_iconst (v := 0) hx hb dX8_countLiterals_2 (by decide) ?_
  refine lv_istore_n (lv' := [(2, .int 0), (1, .int 0), (0, .ref h_td)]) hx hb dX8_countLiterals_3 rfl hl (by decide) rfl (fun ls hl => ?_)
  have lp3 : ∀ (n : Nat) (x1 : Int32) (x2 : Int32) (H : Heap) (locs : List Loc) (ls : Array Slot), (0 ≤ (x2).toInt ∧ (x2).toInt ≤ 16) → (16 - (x2).toInt).toNat + 1 ≤ n → va_P (dC, dI) cls [(h_td, .inr (5, (mo1 v_td (.ref h_lit) (.int x_td_clauses)))), (h_lit, .inl (cy_lit, 16, .inl f_lit))] H → va_D A [(h_td, .inr (5, (mo1 v_td (.ref h_lit) (.int x_td_clauses)))), (h_lit, .inl (cy_lit, 16, .inl f_lit))] → va_S A s.heap H locs → lv_has ls 3 [(0, .ref h_td), (1, .int x1), (2, .int x2)] → W p l e ({ frames := 0, cells := 0, slots := 0, locals := 0 } : Room) s m ([.ref h_td] : List Value).toArray below meth c H locs 0 0 (MQ below (va_Qi (fun (r : Int32) (_ : Unit) => True) (fun (_ : Unit) (t : State) => va_P (dC, dI) cls [(h_td, .inr (5, (mo1 v_td (.ref h_lit) (.int x_td_clauses)))), (h_lit, .inl (cy_lit, 16, .inl f_lit))] t.heap ∧ va_D A [(h_td, .inr (5, (mo1 v_td (.ref h_lit) (.int x_td_clauses)))), (h_lit, .inl (cy_lit, 16, .inl f_lit))]) A) ([.ref h_td] : List Value).toArray s 0 0 A) (F0 m 4 ls []) := by
    clear hP hD hS hl
    intro n
    induction n with
    | zero => intro x1 x2 H locs ls klp3_0 hm hP hD hS hl; exact False.elim (by omega)
    | succ n ih => 
      intro x1 x2 H locs ls klp3_0 hm hP hD hS hl
      have ih4 := ih
      clear ih
      refine lv_iload_n hx hb dX8_countLiterals_4 rfl (lv_at hl 2 rfl) ?_
      refine lv_aload_n hx hb dX8_countLiterals_5 rfl (lv_at hl 0 rfl) ?_
      refine va_get (D := (dC, dI)) (ci := 5) (v := .int x_td_clauses) (C := RX8) (T := TX8) (N := 10) hx hb hw iwX8 hown hK hP 0 rfl rfl 9 (by decide) (hw _ w_f_X8_41) (fun _ h9 => h9) rfl dX8_countLiterals_6 ?_
      refine lv_icmp_ge (tgt := 27) hx hb dX8_countLiterals_9 (by decide) (fun c5 => ?_) (fun c5 => ?_)
      · have kc5 := (cv_le (rfl : (x_td_clauses).toInt = (x_td_clauses).toInt) (rfl : (x2).toInt = (x2).toInt)).mp c5
        refine lv_iload_n hx hb dX8_countLiterals_27 rfl (lv_at hl 1 rfl) ?_
        refine W.widen (k := 0) (n := 0) (Nat.le_of_ble_eq_true rfl) (Nat.le_of_ble_eq_true rfl) ?_
        exact W.iret (v := x1) hx hb hr (fun t ht hW => ⟨⟨x1, (), rfl, trivial, by rw [ht]; exact hP, hD⟩, hS.F ht⟩) hS.2.2 dX8_countLiterals_28
      · have kc5 := (not_congr (cv_le (rfl : (x_td_clauses).toInt = (x_td_clauses).toInt) (rfl : (x2).toInt = (x2).toInt))).mp c5
        refine lv_iload_n hx hb dX8_countLiterals_12 rfl (lv_at hl 1 rfl) ?_
        refine lv_aload_n hx hb dX8_countLiterals_13 rfl (lv_at hl 0 rfl) ?_
        refine va_get (D := (dC, dI)) (ci := 5) (v := .ref h_lit) (C := RX8) (T := TX8) (N := 10) hx hb hw iwX8 hown hK hP 0 rfl rfl 5 (by decide) (hw _ w_f_X8_25) (fun _ h9 => h9) rfl dX8_countLiterals_14 ?_
        refine lv_iload_n hx hb dX8_countLiterals_17 rfl (lv_at hl 2 rfl) ?_
        refine va_iald hx hb hK hP 1 0 rfl rfl (i := x2) (vp_in_iff.mpr (by omega)) dX8_countLiterals_18 ?_
        refine lv_topi (fun z6 ez6 => ?_)
        have rz6 : 0 ≤ (z6).toInt ∧ (z6).toInt ≤ 6 := by rw [ez6]; exact hf_lit _
        refine lv_iadd hx hb dX8_countLiterals_19 ?_
        refine lv_topi (fun z7 ez7 => ?_)
        refine lv_istore_n (lv' := [(1, .int z7), (0, .ref h_td), (2, .int x2)]) hx hb dX8_countLiterals_20 rfl hl (by decide) rfl (fun ls hl => ?_)
        obtain ⟨z8, ez8⟩ : ∃ y : Int32, y = x2 + 1 := ⟨_, rfl⟩
        have tz8 : (z8).toInt = (x2).toInt + 1 := by rw [ez8]; exact i_add rfl (by decide) (by omega)
        refine lv_iinc (v := z8) (lv' := [(2, .int z8), (1, .int z7), (0, .ref h_td)]) hx hb dX8_countLiterals_21 hl (k := 2) rfl (by rw [ez8]; rfl) (by decide) rfl (fun ls hl => ?_)
        refine lv_goto (tgt := 4) hx hb dX8_countLiterals_24 (by decide) ?_
        exact ih4 (z7) (z8) _ _ _ (by omega) (by omega) hP hD hS (lv_sub hl [2, 1, 0] rfl)
  have cst0 : (0 : Int32).toInt = 0 := by decide
  exact lp3 _ (0) (0) _ _ _ (by decide) (Nat.le_refl _) hP hD hS (lv_sub hl [2, 1, 0] rfl)

set_option maxHeartbeats 8000000 in
set_option maxRecDepth 100000 in
theorem c_X8_isNewName (l : Launch) (dC : Nat → ClassId) (dI : Nat → Nat → Nat) (sz : Nat) (h_td : Nat) (h_nam : Nat) (h_trm : Nat) (h_lit : Nat) (h_fst : Nat) (v_td : Nat → Value) (cy_nam : ClassId) (f_nam : Nat → Int64) (cy_trm : ClassId) (f_trm : Nat → Int32) (cy_lit : ClassId) (f_lit : Nat → Int32) (cy_fst : ClassId) (f_fst : Nat → Int32) (p1 : Int32) (p2 : Int32) (hf_trm : Rg 0 3 f_trm) (hf_lit : Rg 0 6 f_lit) (hf_fst : Rg 0 299 f_fst) (q0 : 0 ≤ (p1).toInt ∧ (p1).toInt ≤ 15) (q1 : 0 ≤ (p2).toInt ∧ (p2).toInt ≤ 5) : Met l yX8_isNewName (Ws yX8_isNewName cX8_isNewName 7 (some .boolean)) (({ frames := 1, cells := 0, slots := 0, locals := 22 } : Room)) (PRE (dC, dI) cls [(cy_nam, .long), (cy_trm, .int), (cy_lit, .int), (cy_fst, .int)] [(h_td, .inr (5, (mo13 v_td (.ref h_nam) (.ref h_trm) (.ref h_lit) (.ref h_fst)))), (h_nam, .inl (cy_nam, 300, .inr (.inl f_nam))), (h_trm, .inl (cy_trm, 300, .inl f_trm)), (h_lit, .inl (cy_lit, 16, .inl f_lit)), (h_fst, .inl (cy_fst, 96, .inl f_fst))] sz [.ref h_td, .int p1, .int p2]) (va_Qi (fun (r : Int32) (_ : Unit) => (0 ≤ r.toInt ∧ r.toInt ≤ 1)) (fun (_ : Unit) (t : State) => va_P (dC, dI) cls [(h_td, .inr (5, (mo13 v_td (.ref h_nam) (.ref h_trm) (.ref h_lit) (.ref h_fst)))), (h_nam, .inl (cy_nam, 300, .inr (.inl f_nam))), (h_trm, .inl (cy_trm, 300, .inl f_trm)), (h_lit, .inl (cy_lit, 16, .inl f_lit)), (h_fst, .inl (cy_fst, 96, .inl f_fst))] t.heap ∧ va_D (va_A [(h_td, .inr (5, (mo13 v_td (.ref h_nam) (.ref h_trm) (.ref h_lit) (.ref h_fst)))), (h_nam, .inl (cy_nam, 300, .inr (.inl f_nam))), (h_trm, .inl (cy_trm, 300, .inl f_trm)), (h_lit, .inl (cy_lit, 16, .inl f_lit)), (h_fst, .inl (cy_fst, 96, .inl f_fst))] sz) [(h_td, .inr (5, (mo13 v_td (.ref h_nam) (.ref h_trm) (.ref h_lit) (.ref h_fst)))), (h_nam, .inl (cy_nam, 300, .inr (.inl f_nam))), (h_trm, .inl (cy_trm, 300, .inl f_trm)), (h_lit, .inl (cy_lit, 16, .inl f_lit)), (h_fst, .inl (cy_fst, 96, .inl f_fst))]) (va_A [(h_td, .inr (5, (mo13 v_td (.ref h_nam) (.ref h_trm) (.ref h_lit) (.ref h_fst)))), (h_nam, .inl (cy_nam, 300, .inr (.inl f_nam))), (h_trm, .inl (cy_trm, 300, .inl f_trm)), (h_lit, .inl (cy_lit, 16, .inl f_lit)), (h_fst, .inl (cy_fst, 96, .inl f_fst))] sz)) 0 0 (va_A [(h_td, .inr (5, (mo13 v_td (.ref h_nam) (.ref h_trm) (.ref h_lit) (.ref h_fst)))), (h_nam, .inl (cy_nam, 300, .inr (.inl f_nam))), (h_trm, .inl (cy_trm, 300, .inl f_trm)), (h_lit, .inl (cy_lit, 16, .inl f_lit)), (h_fst, .inl (cy_fst, 96, .inl f_fst))] sz) := by
  refine Met.ofW (cc := cX8_isNewName) (maxL := 7) (ret := (some .boolean)) (by decide) rfl ?_
  intro p e s m args below meth c s₁ B hml hv
  obtain ⟨rfl, hsz, hP, hK, hD0, hN⟩ := hv
  have hx := B.exec
  have hb := B.bytes
  have hr := B.returns
  have hts := atoms_spec (ws := Ws yX8_isNewName cX8_isNewName 7 (some .boolean)) B.pre
  have hT : ∀ w ∈ WALL, w ∈ Ws yX8_isNewName cX8_isNewName 7 (some .boolean) := fun w h => List.mem_cons_of_mem _ h
  have hw := fun w (h : w ∈ WALL) => hts w (hT w h)
  have hown : s.vm.findClass RX8 = some m.cls := findClass_of_methodNamed B.named
  have hlocks := B.notSynchronized
  subst hsz
  have hD := hD0.self (sz := s.heap.size)
  generalize hAe : va_A [(h_td, .inr (5, (mo13 v_td (.ref h_nam) (.ref h_trm) (.ref h_lit) (.ref h_fst)))), (h_nam, .inl (cy_nam, 300, .inr (.inl f_nam))), (h_trm, .inl (cy_trm, 300, .inl f_trm)), (h_lit, .inl (cy_lit, 16, .inl f_lit)), (h_fst, .inl (cy_fst, 96, .inl f_fst))] s.heap.size = A at hD ⊢
  have hA : ∀ q : Nat, s.heap.size ≤ q → A q := fun q h => by rw [← hAe]; exact Or.inr h
  have hS : va_S A s.heap s.heap [] := va_S.rf
  have hl := lv_entry ([.ref h_td, .int p1, .int p2]) (n := 7) (Nat.le_of_ble_eq_true rfl)
  rw [lg_entry_eq]
  generalize (lg_sl ([.ref h_td, .int p1, .int p2]) ++ List.replicate (7 - (lg_sl ([.ref h_td, .int p1, .int p2])).length) Slot.unset).toArray = ls at hl ⊢
  have hl : lv_has ls 7 [(0, .ref h_td), (1, .int p1), (2, .int p2)] := hl
  refine lv_aload_n hx hb dX8_isNewName_0 rfl (lv_at hl 0 rfl) ?_
  refine lv_iload_n hx hb dX8_isNewName_1 rfl (lv_at hl 1 rfl) ?_
  refine lv_iload_n hx hb dX8_isNewName_2 rfl (lv_at hl 2 rfl) ?_
  obtain ⟨vq1, evq1⟩ := mq13_3 v_td (.ref h_nam) (.ref h_trm) (.ref h_lit)
  replace hP : va_P (dC, dI) cls [(h_td, .inr (5, (mo3 vq1 (.ref h_fst)))), (h_nam, .inl (cy_nam, 300, .inr (.inl f_nam))), (h_trm, .inl (cy_trm, 300, .inl f_trm)), (h_lit, .inl (cy_lit, 16, .inl f_lit)), (h_fst, .inl (cy_fst, 96, .inl f_fst))] s.heap := by rw [evq1]; exact hP
  replace hD : va_D A [(h_td, .inr (5, (mo3 vq1 (.ref h_fst)))), (h_nam, .inl (cy_nam, 300, .inr (.inl f_nam))), (h_trm, .inl (cy_trm, 300, .inl f_trm)), (h_lit, .inl (cy_lit, 16, .inl f_lit)), (h_fst, .inl (cy_fst, 96, .inl f_fst))] := by rw [evq1]; exact hD
  have hPc := hP.sub (ws' := [(h_td, .inr (5, (mo3 vq1 (.ref h_fst)))), (h_fst, .inl (cy_fst, 96, .inl f_fst))]) [0, 4] rfl
  have hDc := hD.sub (ws' := [(h_td, .inr (5, (mo3 vq1 (.ref h_fst)))), (h_fst, .inl (cy_fst, 96, .inl f_fst))]) [0, 4] (by decide) rfl
  have hKc := hK.sub (tys' := [(cy_fst, .int)]) [3] rfl
  have hFc := va_free (wc := [(h_td, .inr (5, (mo3 vq1 (.ref h_fst)))), (h_fst, .inl (cy_fst, 96, .inl f_fst))]) hD hS hA [0, 4] rfl
  refine va_calli (va_runV (As := [.int p1, .int p2]) (rest := []) ⟨hx, hb, hml, hown, hts⟩ (c_X8_part l dC dI s.heap.size h_td h_fst vq1 cy_fst f_fst p1 p2 hf_fst (by first | exact q0 | omega) (by first | exact q1 | omega)) (cwV 2 hts (gv hT w_m_X8_58 w_instanceMethod_X8_part ws_sel_X8_part w_ini_X8 w_code_X8_part) rfl rfl rfl (by decide +kernel) ⟨(Nat.le_of_ble_eq_true rfl), (Nat.le_of_ble_eq_true rfl)⟩) ⟨pre_blind, va_recv hK hP (ci := 5) (q0 := 0) rfl rfl, pre_of hPc hKc hDc hN⟩ rfl rfl hl.1 rfl (lv_room (Nat.le_of_ble_eq_true rfl)) dX8_isNewName_3 ⟨(Nat.le_of_ble_eq_true rfl), (Nat.le_of_ble_eq_true rfl)⟩) hS (fun q _ h => hFc q h) hFc (fun r2 u t H locs ht hvm hq hB hz1 hk1 hS9 => ?_)
  obtain ⟨hP1, hD1⟩ := hB
  rw [ht] at hP1
  obtain ⟨hP9, hD9⟩ := va_join (wr := [(h_nam, .inl (cy_nam, 300, .inr (.inl f_nam))), (h_trm, .inl (cy_trm, 300, .inl f_trm)), (h_lit, .inl (cy_lit, 16, .inl f_lit))]) (w1 := [(h_td, .inr (5, (mo3 vq1 (.ref h_fst)))), (h_fst, .inl (cy_fst, 96, .inl f_fst))]) hP hD [0, 4] [1, 2, 3] rfl rfl (by decide) (by decide) hk1 hFc hP1 hD1
  clear hP hD hS hPc hDc hKc hFc hP1 hD1 hk1 hz1 ht hvm
  have hP : va_P (dC, dI) cls [(h_nam, .inl (cy_nam, 300, .inr (.inl f_nam))), (h_trm, .inl (cy_trm, 300, .inl f_trm)), (h_lit, .inl (cy_lit, 16, .inl f_lit)), (h_td, .inr (5, (mo3 vq1 (.ref h_fst)))), (h_fst, .inl (cy_fst, 96, .inl f_fst))] H := hP9
  have hD : va_D A [(h_nam, .inl (cy_nam, 300, .inr (.inl f_nam))), (h_trm, .inl (cy_trm, 300, .inl f_trm)), (h_lit, .inl (cy_lit, 16, .inl f_lit)), (h_td, .inr (5, (mo3 vq1 (.ref h_fst)))), (h_fst, .inl (cy_fst, 96, .inl f_fst))] := hD9
  have hS := hS9
  clear hP9 hD9 hS9
  rw [evq1] at hP hD
  replace hP : va_P (dC, dI) cls [(h_nam, .inl (cy_nam, 300, .inr (.inl f_nam))), (h_trm, .inl (cy_trm, 300, .inl f_trm)), (h_lit, .inl (cy_lit, 16, .inl f_lit)), (h_td, .inr (5, (mo13 v_td (.ref h_nam) (.ref h_trm) (.ref h_lit) (.ref h_fst)))), (h_fst, .inl (cy_fst, 96, .inl f_fst))] H := hP
  replace hD : va_D A [(h_nam, .inl (cy_nam, 300, .inr (.inl f_nam))), (h_trm, .inl (cy_trm, 300, .inl f_trm)), (h_lit, .inl (cy_lit, 16, .inl f_lit)), (h_td, .inr (5, (mo13 v_td (.ref h_nam) (.ref h_trm) (.ref h_lit) (.ref h_fst)))), (h_fst, .inl (cy_fst, 96, .inl f_fst))] := hD
  clear evq1 
  obtain ⟨k3, k4⟩ := hq
  replace k3 : 0 ≤ (r2).toInt ∧ (r2).toInt ≤ 299 := k3
  replace k4 : (r2) = f_fst (6 * ((p1)).toInt.toNat + ((p2)).toInt.toNat) := k4
  refine lv_istore_n (lv' := [(3, .int r2), (0, .ref h_td), (1, .int p1), (2, .int p2)]) hx hb dX8_isNewName_6 rfl hl (by decide) rfl (fun ls hl => ?_)
  refine lv_iconst (v := 0) hx hb dX8_isNewName_7 (by decide) ?_
  refine lv_istore (lv' := [(4, .int 0), (3, .int r2), (0, .ref h_td), (1, .int p1), (2, .int p2)]) hx hb dX8_isNewName_8 hl (by decide) rfl (fun ls hl => ?_)
  have lp6 : ∀ (n : Nat) (x5 : Int32) (H : Heap) (locs : List Loc) (ls : Array Slot), (0 ≤ (x5).toInt ∧ (x5).toInt ≤ 16) → (16 - (x5).toInt).toNat + 1 ≤ n → va_P (dC, dI) cls [(h_nam, .inl (cy_nam, 300, .inr (.inl f_nam))), (h_trm, .inl (cy_trm, 300, .inl f_trm)), (h_lit, .inl (cy_lit, 16, .inl f_lit)), (h_td, .inr (5, (mo13 v_td (.ref h_nam) (.ref h_trm) (.ref h_lit) (.ref h_fst)))), (h_fst, .inl (cy_fst, 96, .inl f_fst))] H → va_D A [(h_nam, .inl (cy_nam, 300, .inr (.inl f_nam))), (h_trm, .inl (cy_trm, 300, .inl f_trm)), (h_lit, .inl (cy_lit, 16, .inl f_lit)), (h_td, .inr (5, (mo13 v_td (.ref h_nam) (.ref h_trm) (.ref h_lit) (.ref h_fst)))), (h_fst, .inl (cy_fst, 96, .inl f_fst))] → va_S A s.heap H locs → lv_has ls 7 [(0, .ref h_td), (1, .int p1), (2, .int p2), (3, .int r2), (4, .int x5)] → W p l e ({ frames := 1, cells := 0, slots := 0, locals := 22 } : Room) s m ([.ref h_td, .int p1, .int p2] : List Value).toArray below meth c H locs 0 0 (MQ below (va_Qi (fun (r : Int32) (_ : Unit) => (0 ≤ r.toInt ∧ r.toInt ≤ 1)) (fun (_ : Unit) (t : State) => va_P (dC, dI) cls [(h_td, .inr (5, (mo13 v_td (.ref h_nam) (.ref h_trm) (.ref h_lit) (.ref h_fst)))), (h_nam, .inl (cy_nam, 300, .inr (.inl f_nam))), (h_trm, .inl (cy_trm, 300, .inl f_trm)), (h_lit, .inl (cy_lit, 16, .inl f_lit)), (h_fst, .inl (cy_fst, 96, .inl f_fst))] t.heap ∧ va_D A [(h_td, .inr (5, (mo13 v_td (.ref h_nam) (.ref h_trm) (.ref h_lit) (.ref h_fst)))), (h_nam, .inl (cy_nam, 300, .inr (.inl f_nam))), (h_trm, .inl (cy_trm, 300, .inl f_trm)), (h_lit, .inl (cy_lit, 16, .inl f_lit)), (h_fst, .inl (cy_fst, 96, .inl f_fst))]) A) ([.ref h_td, .int p1, .int p2] : List Value).toArray s 0 0 A) (F0 m 10 ls []) := by
    clear hP hD hS hl
    intro n
    induction n with
    | zero => intro x5 H locs ls klp6_0 hm hP hD hS hl; exact False.elim (by omega)
    | succ n ih => 
      intro x5 H locs ls klp6_0 hm hP hD hS hl
      have ih7 := ih
      clear ih
      refine lv_iload hx hb dX8_isNewName_10 (lv_at hl 4 rfl) ?_
      refine lv_iload_n hx hb dX8_isNewName_12 rfl (lv_at hl 1 rfl) ?_
      refine lv_icmp_gt (tgt := 75) hx hb dX8_isNewName_13 (by decide) (fun c8 => ?_) (fun c8 => ?_)
      · have kc8 := (cv_lt (rfl : (p1).toInt = (p1).toInt) (rfl : (x5).toInt = (x5).toInt)).mp c8
        refine lv_iconst (v := 1) hx hb dX8_isNewName_75 (by decide) ?_
        replace hP : va_P (dC, dI) cls [(h_td, .inr (5, (mo13 v_td (.ref h_nam) (.ref h_trm) (.ref h_lit) (.ref h_fst)))), (h_nam, .inl (cy_nam, 300, .inr (.inl f_nam))), (h_trm, .inl (cy_trm, 300, .inl f_trm)), (h_lit, .inl (cy_lit, 16, .inl f_lit)), (h_fst, .inl (cy_fst, 96, .inl f_fst))] H := hP.sub [3, 0, 1, 2, 4] rfl
        replace hD : va_D A [(h_td, .inr (5, (mo13 v_td (.ref h_nam) (.ref h_trm) (.ref h_lit) (.ref h_fst)))), (h_nam, .inl (cy_nam, 300, .inr (.inl f_nam))), (h_trm, .inl (cy_trm, 300, .inl f_trm)), (h_lit, .inl (cy_lit, 16, .inl f_lit)), (h_fst, .inl (cy_fst, 96, .inl f_fst))] := hD.sub [3, 0, 1, 2, 4] (by decide) rfl
        refine W.widen (k := 0) (n := 0) (Nat.le_of_ble_eq_true rfl) (Nat.le_of_ble_eq_true rfl) ?_
        have cst1 : (1 : Int32).toInt = 1 := by decide
        have w9 : 0 ≤ (1 : Int32).toInt ∧ (1 : Int32).toInt ≤ 1 := by omega
        exact W.zret (v := 1) (ty := .boolean) hx hb hr (by decide) (fun t ht hW => ⟨⟨1, (), rfl, w9, by rw [ht]; exact hP, hD⟩, hS.F ht⟩) hS.2.2 dX8_isNewName_76
      · have kc8 := (not_congr (cv_lt (rfl : (p1).toInt = (p1).toInt) (rfl : (x5).toInt = (x5).toInt))).mp c8
        refine lv_iload hx hb dX8_isNewName_16 (lv_at hl 4 rfl) ?_
        refine lv_iload_n hx hb dX8_isNewName_18 rfl (lv_at hl 1 rfl) ?_
        refine lv_icmp_ne (tgt := 26) hx hb dX8_isNewName_19 (by decide) (fun c10 => ?_) (fun c10 => ?_)
        · have kc10 := (not_congr (cv_eq (rfl : (x5).toInt = (x5).toInt) (rfl : (p1).toInt = (p1).toInt))).mp c10
          refine lv_aload_n hx hb dX8_isNewName_26 rfl (lv_at hl 0 rfl) ?_
          refine va_get (D := (dC, dI)) (ci := 5) (v := .ref h_lit) (C := RX8) (T := TX8) (N := 10) hx hb hw iwX8 hown hK hP 3 rfl rfl 5 (by decide) (hw _ w_f_X8_25) (fun _ h9 => h9) rfl dX8_isNewName_27 ?_
          refine lv_iload hx hb dX8_isNewName_30 (lv_at hl 4 rfl) ?_
          refine va_iald hx hb hK hP 2 2 rfl rfl (i := x5) (vp_in_iff.mpr (by omega)) dX8_isNewName_32 ?_
          refine lv_topi (fun z11 ez11 => ?_)
          have rz11 : 0 ≤ (z11).toInt ∧ (z11).toInt ≤ 6 := by rw [ez11]; exact hf_lit _
          refine lv_istore (lv' := [(5, .int z11), (0, .ref h_td), (1, .int p1), (2, .int p2), (3, .int r2), (4, .int x5)]) hx hb dX8_isNewName_33 hl (by decide) rfl (fun ls hl => ?_)
          refine lv_iconst (v := 0) hx hb dX8_isNewName_35 (by decide) ?_
          refine lv_istore (lv' := [(6, .int 0), (5, .int z11), (0, .ref h_td), (1, .int p1), (2, .int p2), (3, .int r2), (4, .int x5)]) hx hb dX8_isNewName_36 hl (by decide) rfl (fun ls hl => ?_)
          have lp13 : ∀ (n : Nat) (x12 : Int32) (H : Heap) (locs : List Loc) (ls : Array Slot), (0 ≤ (x12).toInt ∧ (x12).toInt ≤ 6) → (6 - (x12).toInt).toNat + 1 ≤ n → va_P (dC, dI) cls [(h_nam, .inl (cy_nam, 300, .inr (.inl f_nam))), (h_trm, .inl (cy_trm, 300, .inl f_trm)), (h_lit, .inl (cy_lit, 16, .inl f_lit)), (h_td, .inr (5, (mo13 v_td (.ref h_nam) (.ref h_trm) (.ref h_lit) (.ref h_fst)))), (h_fst, .inl (cy_fst, 96, .inl f_fst))] H → va_D A [(h_nam, .inl (cy_nam, 300, .inr (.inl f_nam))), (h_trm, .inl (cy_trm, 300, .inl f_trm)), (h_lit, .inl (cy_lit, 16, .inl f_lit)), (h_td, .inr (5, (mo13 v_td (.ref h_nam) (.ref h_trm) (.ref h_lit) (.ref h_fst)))), (h_fst, .inl (cy_fst, 96, .inl f_fst))] → va_S A s.heap H locs → lv_has ls 7 [(0, .ref h_td), (1, .int p1), (2, .int p2), (3, .int r2), (4, .int x5), (5, .int z11), (6, .int x12)] → W p l e ({ frames := 1, cells := 0, slots := 0, locals := 22 } : Room) s m ([.ref h_td, .int p1, .int p2] : List Value).toArray below meth c H locs 0 0 (MQ below (va_Qi (fun (r : Int32) (_ : Unit) => (0 ≤ r.toInt ∧ r.toInt ≤ 1)) (fun (_ : Unit) (t : State) => va_P (dC, dI) cls [(h_td, .inr (5, (mo13 v_td (.ref h_nam) (.ref h_trm) (.ref h_lit) (.ref h_fst)))), (h_nam, .inl (cy_nam, 300, .inr (.inl f_nam))), (h_trm, .inl (cy_trm, 300, .inl f_trm)), (h_lit, .inl (cy_lit, 16, .inl f_lit)), (h_fst, .inl (cy_fst, 96, .inl f_fst))] t.heap ∧ va_D A [(h_td, .inr (5, (mo13 v_td (.ref h_nam) (.ref h_trm) (.ref h_lit) (.ref h_fst)))), (h_nam, .inl (cy_nam, 300, .inr (.inl f_nam))), (h_trm, .inl (cy_trm, 300, .inl f_trm)), (h_lit, .inl (cy_lit, 16, .inl f_lit)), (h_fst, .inl (cy_fst, 96, .inl f_fst))]) A) ([.ref h_td, .int p1, .int p2] : List Value).toArray s 0 0 A) (F0 m 38 ls []) := by
            clear hP hD hS hl
            intro n
            induction n with
            | zero => intro x12 H locs ls klp13_0 hm hP hD hS hl; exact False.elim (by omega)
            | succ n ih => 
              intro x12 H locs ls klp13_0 hm hP hD hS hl
              have ih14 := ih
              clear ih
              refine lv_iload hx hb dX8_isNewName_38 (lv_at hl 6 rfl) ?_
              refine lv_iload hx hb dX8_isNewName_40 (lv_at hl 5 rfl) ?_
              refine lv_icmp_ge (tgt := 69) hx hb dX8_isNewName_42 (by decide) (fun c15 => ?_) (fun c15 => ?_)
              · have kc15 := (cv_le (rfl : (z11).toInt = (z11).toInt) (rfl : (x12).toInt = (x12).toInt)).mp c15
                obtain ⟨z16, ez16⟩ : ∃ y : Int32, y = x5 + 1 := ⟨_, rfl⟩
                have tz16 : (z16).toInt = (x5).toInt + 1 := by rw [ez16]; exact i_add rfl (by decide) (by omega)
                refine lv_iinc (v := z16) (lv' := [(4, .int z16), (0, .ref h_td), (1, .int p1), (2, .int p2), (3, .int r2), (5, .int z11), (6, .int x12)]) hx hb dX8_isNewName_69 hl (k := 4) rfl (by rw [ez16]; rfl) (by decide) rfl (fun ls hl => ?_)
                refine lv_goto (tgt := 10) hx hb dX8_isNewName_72 (by decide) ?_
                exact ih7 (z16) _ _ _ (by omega) (by omega) hP hD hS (lv_sub hl [1, 2, 3, 4, 0] rfl)
              · have kc15 := (not_congr (cv_le (rfl : (z11).toInt = (z11).toInt) (rfl : (x12).toInt = (x12).toInt))).mp c15
                refine lv_aload_n hx hb dX8_isNewName_45 rfl (lv_at hl 0 rfl) ?_
                refine lv_iload_n hx hb dX8_isNewName_46 rfl (lv_at hl 3 rfl) ?_
                refine lv_aload_n hx hb dX8_isNewName_47 rfl (lv_at hl 0 rfl) ?_
                refine lv_iload hx hb dX8_isNewName_48 (lv_at hl 4 rfl) ?_
                refine lv_iload hx hb dX8_isNewName_50 (lv_at hl 6 rfl) ?_
                obtain ⟨vq17, evq17⟩ := mq13_3 v_td (.ref h_nam) (.ref h_trm) (.ref h_lit)
                replace hP : va_P (dC, dI) cls [(h_nam, .inl (cy_nam, 300, .inr (.inl f_nam))), (h_trm, .inl (cy_trm, 300, .inl f_trm)), (h_lit, .inl (cy_lit, 16, .inl f_lit)), (h_td, .inr (5, (mo3 vq17 (.ref h_fst)))), (h_fst, .inl (cy_fst, 96, .inl f_fst))] H := by rw [evq17]; exact hP
                replace hD : va_D A [(h_nam, .inl (cy_nam, 300, .inr (.inl f_nam))), (h_trm, .inl (cy_trm, 300, .inl f_trm)), (h_lit, .inl (cy_lit, 16, .inl f_lit)), (h_td, .inr (5, (mo3 vq17 (.ref h_fst)))), (h_fst, .inl (cy_fst, 96, .inl f_fst))] := by rw [evq17]; exact hD
                have hPc := hP.sub (ws' := [(h_td, .inr (5, (mo3 vq17 (.ref h_fst)))), (h_fst, .inl (cy_fst, 96, .inl f_fst))]) [3, 4] rfl
                have hDc := hD.sub (ws' := [(h_td, .inr (5, (mo3 vq17 (.ref h_fst)))), (h_fst, .inl (cy_fst, 96, .inl f_fst))]) [3, 4] (by decide) rfl
                have hKc := hK.sub (tys' := [(cy_fst, .int)]) [3] rfl
                have hFc := va_free (wc := [(h_td, .inr (5, (mo3 vq17 (.ref h_fst)))), (h_fst, .inl (cy_fst, 96, .inl f_fst))]) hD hS hA [3, 4] rfl
                refine va_calli (va_runV (As := [.int x5, .int x12]) (rest := [.int r2, .ref h_td]) ⟨hx, hb, hml, hown, hts⟩ (c_X8_part l dC dI H.size h_td h_fst vq17 cy_fst f_fst x5 x12 hf_fst (by omega) (by omega)) (cwV 2 hts (gv hT w_m_X8_58 w_instanceMethod_X8_part ws_sel_X8_part w_ini_X8 w_code_X8_part) rfl rfl rfl (by decide +kernel) ⟨(Nat.le_of_ble_eq_true rfl), (Nat.le_of_ble_eq_true rfl)⟩) ⟨pre_blind, va_recv hK hP (ci := 5) (q0 := 3) rfl rfl, pre_of hPc hKc hDc hN⟩ rfl rfl hl.1 rfl (lv_room (Nat.le_of_ble_eq_true rfl)) dX8_isNewName_52 ⟨(Nat.le_of_ble_eq_true rfl), (Nat.le_of_ble_eq_true rfl)⟩) hS (fun q _ h => hFc q h) hFc (fun r18 u t H locs ht hvm hq hB hz1 hk1 hS9 => ?_)
                obtain ⟨hP1, hD1⟩ := hB
                rw [ht] at hP1
                obtain ⟨hP9, hD9⟩ := va_join (wr := [(h_nam, .inl (cy_nam, 300, .inr (.inl f_nam))), (h_trm, .inl (cy_trm, 300, .inl f_trm)), (h_lit, .inl (cy_lit, 16, .inl f_lit))]) (w1 := [(h_td, .inr (5, (mo3 vq17 (.ref h_fst)))), (h_fst, .inl (cy_fst, 96, .inl f_fst))]) hP hD [3, 4] [0, 1, 2] rfl rfl (by decide) (by decide) hk1 hFc hP1 hD1
                clear hP hD hS hPc hDc hKc hFc hP1 hD1 hk1 hz1 ht hvm
                have hP : va_P (dC, dI) cls [(h_nam, .inl (cy_nam, 300, .inr (.inl f_nam))), (h_trm, .inl (cy_trm, 300, .inl f_trm)), (h_lit, .inl (cy_lit, 16, .inl f_lit)), (h_td, .inr (5, (mo3 vq17 (.ref h_fst)))), (h_fst, .inl (cy_fst, 96, .inl f_fst))] H := hP9
                have hD : va_D A [(h_nam, .inl (cy_nam, 300, .inr (.inl f_nam))), (h_trm, .inl (cy_trm, 300, .inl f_trm)), (h_lit, .inl (cy_lit, 16, .inl f_lit)), (h_td, .inr (5, (mo3 vq17 (.ref h_fst)))), (h_fst, .inl (cy_fst, 96, .inl f_fst))] := hD9
                have hS := hS9
                clear hP9 hD9 hS9
                rw [evq17] at hP hD
                replace hP : va_P (dC, dI) cls [(h_nam, .inl (cy_nam, 300, .inr (.inl f_nam))), (h_trm, .inl (cy_trm, 300, .inl f_trm)), (h_lit, .inl (cy_lit, 16, .inl f_lit)), (h_td, .inr (5, (mo13 v_td (.ref h_nam) (.ref h_trm) (.ref h_lit) (.ref h_fst)))), (h_fst, .inl (cy_fst, 96, .inl f_fst))] H := hP
                replace hD : va_D A [(h_nam, .inl (cy_nam, 300, .inr (.inl f_nam))), (h_trm, .inl (cy_trm, 300, .inl f_trm)), (h_lit, .inl (cy_lit, 16, .inl f_lit)), (h_td, .inr (5, (mo13 v_td (.ref h_nam) (.ref h_trm) (.ref h_lit) (.ref h_fst)))), (h_fst, .inl (cy_fst, 96, .inl f_fst))] := hD
                clear evq17 
                obtain ⟨k19, k20⟩ := hq
                replace k19 : 0 ≤ (r18).toInt ∧ (r18).toInt ≤ 299 := k19
                replace k20 : (r18) = f_fst (6 * ((x5)).toInt.toNat + ((x12)).toInt.toNat) := k20
                obtain ⟨vq21, evq21⟩ := mq13_4 v_td (.ref h_lit) (.ref h_fst)
                replace hP : va_P (dC, dI) cls [(h_nam, .inl (cy_nam, 300, .inr (.inl f_nam))), (h_trm, .inl (cy_trm, 300, .inl f_trm)), (h_lit, .inl (cy_lit, 16, .inl f_lit)), (h_td, .inr (5, (mo4 vq21 (.ref h_nam) (.ref h_trm)))), (h_fst, .inl (cy_fst, 96, .inl f_fst))] H := by rw [evq21]; exact hP
                replace hD : va_D A [(h_nam, .inl (cy_nam, 300, .inr (.inl f_nam))), (h_trm, .inl (cy_trm, 300, .inl f_trm)), (h_lit, .inl (cy_lit, 16, .inl f_lit)), (h_td, .inr (5, (mo4 vq21 (.ref h_nam) (.ref h_trm)))), (h_fst, .inl (cy_fst, 96, .inl f_fst))] := by rw [evq21]; exact hD
                have hPc := hP.sub (ws' := [(h_td, .inr (5, (mo4 vq21 (.ref h_nam) (.ref h_trm)))), (h_nam, .inl (cy_nam, 300, .inr (.inl f_nam))), (h_trm, .inl (cy_trm, 300, .inl f_trm))]) [3, 0, 1] rfl
                have hDc := hD.sub (ws' := [(h_td, .inr (5, (mo4 vq21 (.ref h_nam) (.ref h_trm)))), (h_nam, .inl (cy_nam, 300, .inr (.inl f_nam))), (h_trm, .inl (cy_trm, 300, .inl f_trm))]) [3, 0, 1] (by decide) rfl
                have hKc := hK.sub (tys' := [(cy_nam, .long), (cy_trm, .int)]) [0, 1] rfl
                have hFc := va_free (wc := [(h_td, .inr (5, (mo4 vq21 (.ref h_nam) (.ref h_trm)))), (h_nam, .inl (cy_nam, 300, .inr (.inl f_nam))), (h_trm, .inl (cy_trm, 300, .inl f_trm))]) hD hS hA [3, 0, 1] rfl
                refine va_calli (va_runV (As := [.int r2, .int r18]) (rest := []) ⟨hx, hb, hml, hown, hts⟩ (c_X8_haveLikeNames l dC dI H.size h_td h_nam h_trm vq21 cy_nam f_nam cy_trm f_trm r2 r18 hf_trm (by first | exact k3 | omega) (by first | exact k19 | omega)) (cwV 2 hts (gv hT w_m_X8_61 w_instanceMethod_X8_haveLikeNames ws_sel_X8_haveLikeNames w_ini_X8 w_code_X8_haveLikeNames) rfl rfl rfl (by decide +kernel) ⟨(Nat.le_of_ble_eq_true rfl), (Nat.le_of_ble_eq_true rfl)⟩) ⟨pre_blind, va_recv hK hP (ci := 5) (q0 := 3) rfl rfl, pre_of hPc hKc hDc hN⟩ rfl rfl hl.1 rfl (lv_room (Nat.le_of_ble_eq_true rfl)) dX8_isNewName_55 ⟨(Nat.le_of_ble_eq_true rfl), (Nat.le_of_ble_eq_true rfl)⟩) hS (fun q _ h => hFc q h) hFc (fun r22 u t H locs ht hvm hq hB hz1 hk1 hS9 => ?_)
                obtain ⟨hP1, hD1⟩ := hB
                rw [ht] at hP1
                obtain ⟨hP9, hD9⟩ := va_join (wr := [(h_lit, .inl (cy_lit, 16, .inl f_lit)), (h_fst, .inl (cy_fst, 96, .inl f_fst))]) (w1 := [(h_td, .inr (5, (mo4 vq21 (.ref h_nam) (.ref h_trm)))), (h_nam, .inl (cy_nam, 300, .inr (.inl f_nam))), (h_trm, .inl (cy_trm, 300, .inl f_trm))]) hP hD [3, 0, 1] [2, 4] rfl rfl (by decide) (by decide) hk1 hFc hP1 hD1
                clear hP hD hS hPc hDc hKc hFc hP1 hD1 hk1 hz1 ht hvm
                have hP : va_P (dC, dI) cls [(h_lit, .inl (cy_lit, 16, .inl f_lit)), (h_fst, .inl (cy_fst, 96, .inl f_fst)), (h_td, .inr (5, (mo4 vq21 (.ref h_nam) (.ref h_trm)))), (h_nam, .inl (cy_nam, 300, .inr (.inl f_nam))), (h_trm, .inl (cy_trm, 300, .inl f_trm))] H := hP9
                have hD : va_D A [(h_lit, .inl (cy_lit, 16, .inl f_lit)), (h_fst, .inl (cy_fst, 96, .inl f_fst)), (h_td, .inr (5, (mo4 vq21 (.ref h_nam) (.ref h_trm)))), (h_nam, .inl (cy_nam, 300, .inr (.inl f_nam))), (h_trm, .inl (cy_trm, 300, .inl f_trm))] := hD9
                have hS := hS9
                clear hP9 hD9 hS9
                rw [evq21] at hP hD
                replace hP : va_P (dC, dI) cls [(h_lit, .inl (cy_lit, 16, .inl f_lit)), (h_fst, .inl (cy_fst, 96, .inl f_fst)), (h_td, .inr (5, (mo13 v_td (.ref h_nam) (.ref h_trm) (.ref h_lit) (.ref h_fst)))), (h_nam, .inl (cy_nam, 300, .inr (.inl f_nam))), (h_trm, .inl (cy_trm, 300, .inl f_trm))] H := hP
                replace hD : va_D A [(h_lit, .inl (cy_lit, 16, .inl f_lit)), (h_fst, .inl (cy_fst, 96, .inl f_fst)), (h_td, .inr (5, (mo13 v_td (.ref h_nam) (.ref h_trm) (.ref h_lit) (.ref h_fst)))), (h_nam, .inl (cy_nam, 300, .inr (.inl f_nam))), (h_trm, .inl (cy_trm, 300, .inl f_trm))] := hD
                clear evq21 
                have k23 : 0 ≤ (r22).toInt ∧ (r22).toInt ≤ 1 := hq
                clear hq
                refine lv_if_eq (tgt := 63) hx hb dX8_isNewName_58 (by decide) (fun c24 => ?_) (fun c24 => ?_)
                · have kc24 := (cv_eq (rfl : (r22).toInt = (r22).toInt) (by decide : (0 : Int32).toInt = 0)).mp c24
                  obtain ⟨z25, ez25⟩ : ∃ y : Int32, y = x12 + 1 := ⟨_, rfl⟩
                  have tz25 : (z25).toInt = (x12).toInt + 1 := by rw [ez25]; exact i_add rfl (by decide) (by omega)
                  refine lv_iinc (v := z25) (lv' := [(6, .int z25), (0, .ref h_td), (1, .int p1), (2, .int p2), (3, .int r2), (4, .int x5), (5, .int z11)]) hx hb dX8_isNewName_63 hl (k := 6) rfl (by rw [ez25]; rfl) (by decide) rfl (fun ls hl => ?_)
                  refine lv_goto (tgt := 38) hx hb dX8_isNewName_66 (by decide) ?_
                  replace hP : va_P (dC, dI) cls [(h_nam, .inl (cy_nam, 300, .inr (.inl f_nam))), (h_trm, .inl (cy_trm, 300, .inl f_trm)), (h_lit, .inl (cy_lit, 16, .inl f_lit)), (h_td, .inr (5, (mo13 v_td (.ref h_nam) (.ref h_trm) (.ref h_lit) (.ref h_fst)))), (h_fst, .inl (cy_fst, 96, .inl f_fst))] H := hP.sub [3, 4, 0, 2, 1] rfl
                  replace hD : va_D A [(h_nam, .inl (cy_nam, 300, .inr (.inl f_nam))), (h_trm, .inl (cy_trm, 300, .inl f_trm)), (h_lit, .inl (cy_lit, 16, .inl f_lit)), (h_td, .inr (5, (mo13 v_td (.ref h_nam) (.ref h_trm) (.ref h_lit) (.ref h_fst)))), (h_fst, .inl (cy_fst, 96, .inl f_fst))] := hD.sub [3, 4, 0, 2, 1] (by decide) rfl
                  exact ih14 (z25) _ _ _ (by omega) (by omega) hP hD hS (lv_sub hl [1, 2, 3, 4, 5, 6, 0] rfl)
                · have kc24 := (not_congr (cv_eq (rfl : (r22).toInt = (r22).toInt) (by decide : (0 : Int32).toInt = 0))).mp c24
                  refine lv_iconst (v := 0) hx hb dX8_isNewName_61 (by decide) ?_
                  replace hP : va_P (dC, dI) cls [(h_td, .inr (5, (mo13 v_td (.ref h_nam) (.ref h_trm) (.ref h_lit) (.ref h_fst)))), (h_nam, .inl (cy_nam, 300, .inr (.inl f_nam))), (h_trm, .inl (cy_trm, 300, .inl f_trm)), (h_lit, .inl (cy_lit, 16, .inl f_lit)), (h_fst, .inl (cy_fst, 96, .inl f_fst))] H := hP.sub [2, 3, 4, 0, 1] rfl
                  replace hD : va_D A [(h_td, .inr (5, (mo13 v_td (.ref h_nam) (.ref h_trm) (.ref h_lit) (.ref h_fst)))), (h_nam, .inl (cy_nam, 300, .inr (.inl f_nam))), (h_trm, .inl (cy_trm, 300, .inl f_trm)), (h_lit, .inl (cy_lit, 16, .inl f_lit)), (h_fst, .inl (cy_fst, 96, .inl f_fst))] := hD.sub [2, 3, 4, 0, 1] (by decide) rfl
                  refine W.widen (k := 0) (n := 0) (Nat.le_of_ble_eq_true rfl) (Nat.le_of_ble_eq_true rfl) ?_
                  have cst0 : (0 : Int32).toInt = 0 := by decide
                  have w26 : 0 ≤ (0 : Int32).toInt ∧ (0 : Int32).toInt ≤ 1 := by omega
                  exact W.zret (v := 0) (ty := .boolean) hx hb hr (by decide) (fun t ht hW => ⟨⟨0, (), rfl, w26, by rw [ht]; exact hP, hD⟩, hS.F ht⟩) hS.2.2 dX8_isNewName_62
          have cst0 : (0 : Int32).toInt = 0 := by decide
          exact lp13 _ (0) _ _ _ (by decide) (Nat.le_refl _) hP hD hS (lv_sub hl [2, 3, 4, 5, 6, 1, 0] rfl)
        · have kc10 := (cv_eq (rfl : (x5).toInt = (x5).toInt) (rfl : (p1).toInt = (p1).toInt)).mp c10
          refine lv_iload_n hx hb dX8_isNewName_22 rfl (lv_at hl 2 rfl) ?_
          refine lv_goto (tgt := 33) hx hb dX8_isNewName_23 (by decide) ?_
          refine lv_istore (lv' := [(5, .int p2), (0, .ref h_td), (1, .int p1), (2, .int p2), (3, .int r2), (4, .int x5)]) hx hb dX8_isNewName_33 hl (by decide) rfl (fun ls hl => ?_)
          refine lv_iconst (v := 0) hx hb dX8_isNewName_35 (by decide) ?_
          refine lv_istore (lv' := [(6, .int 0), (5, .int p2), (0, .ref h_td), (1, .int p1), (2, .int p2), (3, .int r2), (4, .int x5)]) hx hb dX8_isNewName_36 hl (by decide) rfl (fun ls hl => ?_)
          have lp28 : ∀ (n : Nat) (x27 : Int32) (H : Heap) (locs : List Loc) (ls : Array Slot), (0 ≤ (x27).toInt ∧ (x27).toInt ≤ 6) → (6 - (x27).toInt).toNat + 1 ≤ n → va_P (dC, dI) cls [(h_nam, .inl (cy_nam, 300, .inr (.inl f_nam))), (h_trm, .inl (cy_trm, 300, .inl f_trm)), (h_lit, .inl (cy_lit, 16, .inl f_lit)), (h_td, .inr (5, (mo13 v_td (.ref h_nam) (.ref h_trm) (.ref h_lit) (.ref h_fst)))), (h_fst, .inl (cy_fst, 96, .inl f_fst))] H → va_D A [(h_nam, .inl (cy_nam, 300, .inr (.inl f_nam))), (h_trm, .inl (cy_trm, 300, .inl f_trm)), (h_lit, .inl (cy_lit, 16, .inl f_lit)), (h_td, .inr (5, (mo13 v_td (.ref h_nam) (.ref h_trm) (.ref h_lit) (.ref h_fst)))), (h_fst, .inl (cy_fst, 96, .inl f_fst))] → va_S A s.heap H locs → lv_has ls 7 [(0, .ref h_td), (1, .int p1), (2, .int p2), (3, .int r2), (4, .int x5), (5, .int p2), (6, .int x27)] → W p l e ({ frames := 1, cells := 0, slots := 0, locals := 22 } : Room) s m ([.ref h_td, .int p1, .int p2] : List Value).toArray below meth c H locs 0 0 (MQ below (va_Qi (fun (r : Int32) (_ : Unit) => (0 ≤ r.toInt ∧ r.toInt ≤ 1)) (fun (_ : Unit) (t : State) => va_P (dC, dI) cls [(h_td, .inr (5, (mo13 v_td (.ref h_nam) (.ref h_trm) (.ref h_lit) (.ref h_fst)))), (h_nam, .inl (cy_nam, 300, .inr (.inl f_nam))), (h_trm, .inl (cy_trm, 300, .inl f_trm)), (h_lit, .inl (cy_lit, 16, .inl f_lit)), (h_fst, .inl (cy_fst, 96, .inl f_fst))] t.heap ∧ va_D A [(h_td, .inr (5, (mo13 v_td (.ref h_nam) (.ref h_trm) (.ref h_lit) (.ref h_fst)))), (h_nam, .inl (cy_nam, 300, .inr (.inl f_nam))), (h_trm, .inl (cy_trm, 300, .inl f_trm)), (h_lit, .inl (cy_lit, 16, .inl f_lit)), (h_fst, .inl (cy_fst, 96, .inl f_fst))]) A) ([.ref h_td, .int p1, .int p2] : List Value).toArray s 0 0 A) (F0 m 38 ls []) := by
            clear hP hD hS hl
            intro n
            induction n with
            | zero => intro x27 H locs ls klp28_0 hm hP hD hS hl; exact False.elim (by omega)
            | succ n ih => 
              intro x27 H locs ls klp28_0 hm hP hD hS hl
              have ih29 := ih
              clear ih
              refine lv_iload hx hb dX8_isNewName_38 (lv_at hl 6 rfl) ?_
              refine lv_iload hx hb dX8_isNewName_40 (lv_at hl 5 rfl) ?_
              refine lv_icmp_ge (tgt := 69) hx hb dX8_isNewName_42 (by decide) (fun c30 => ?_) (fun c30 => ?_)
              · have kc30 := (cv_le (rfl : (p2).toInt = (p2).toInt) (rfl : (x27).toInt = (x27).toInt)).mp c30
                obtain ⟨z31, ez31⟩ : ∃ y : Int32, y = x5 + 1 := ⟨_, rfl⟩
                have tz31 : (z31).toInt = (x5).toInt + 1 := by rw [ez31]; exact i_add rfl (by decide) (by omega)
                refine lv_iinc (v := z31) (lv' := [(4, .int z31), (0, .ref h_td), (1, .int p1), (2, .int p2), (3, .int r2), (5, .int p2), (6, .int x27)]) hx hb dX8_isNewName_69 hl (k := 4) rfl (by rw [ez31]; rfl) (by decide) rfl (fun ls hl => ?_)
                refine lv_goto (tgt := 10) hx hb dX8_isNewName_72 (by decide) ?_
                exact ih7 (z31) _ _ _ (by omega) (by omega) hP hD hS (lv_sub hl [1, 2, 3, 4, 0] rfl)
              · have kc30 := (not_congr (cv_le (rfl : (p2).toInt = (p2).toInt) (rfl : (x27).toInt = (x27).toInt))).mp c30
                refine lv_aload_n hx hb dX8_isNewName_45 rfl (lv_at hl 0 rfl) ?_
                refine lv_iload_n hx hb dX8_isNewName_46 rfl (lv_at hl 3 rfl) ?_
                refine lv_aload_n hx hb dX8_isNewName_47 rfl (lv_at hl 0 rfl) ?_
                refine lv_iload hx hb dX8_isNewName_48 (lv_at hl 4 rfl) ?_
                refine lv_iload hx hb dX8_isNewName_50 (lv_at hl 6 rfl) ?_
                obtain ⟨vq32, evq32⟩ := mq13_3 v_td (.ref h_nam) (.ref h_trm) (.ref h_lit)
                replace hP : va_P (dC, dI) cls [(h_nam, .inl (cy_nam, 300, .inr (.inl f_nam))), (h_trm, .inl (cy_trm, 300, .inl f_trm)), (h_lit, .inl (cy_lit, 16, .inl f_lit)), (h_td, .inr (5, (mo3 vq32 (.ref h_fst)))), (h_fst, .inl (cy_fst, 96, .inl f_fst))] H := by rw [evq32]; exact hP
                replace hD : va_D A [(h_nam, .inl (cy_nam, 300, .inr (.inl f_nam))), (h_trm, .inl (cy_trm, 300, .inl f_trm)), (h_lit, .inl (cy_lit, 16, .inl f_lit)), (h_td, .inr (5, (mo3 vq32 (.ref h_fst)))), (h_fst, .inl (cy_fst, 96, .inl f_fst))] := by rw [evq32]; exact hD
                have hPc := hP.sub (ws' := [(h_td, .inr (5, (mo3 vq32 (.ref h_fst)))), (h_fst, .inl (cy_fst, 96, .inl f_fst))]) [3, 4] rfl
                have hDc := hD.sub (ws' := [(h_td, .inr (5, (mo3 vq32 (.ref h_fst)))), (h_fst, .inl (cy_fst, 96, .inl f_fst))]) [3, 4] (by decide) rfl
                have hKc := hK.sub (tys' := [(cy_fst, .int)]) [3] rfl
                have hFc := va_free (wc := [(h_td, .inr (5, (mo3 vq32 (.ref h_fst)))), (h_fst, .inl (cy_fst, 96, .inl f_fst))]) hD hS hA [3, 4] rfl
                refine va_calli (va_runV (As := [.int x5, .int x27]) (rest := [.int r2, .ref h_td]) ⟨hx, hb, hml, hown, hts⟩ (c_X8_part l dC dI H.size h_td h_fst vq32 cy_fst f_fst x5 x27 hf_fst (by omega) (by omega)) (cwV 2 hts (gv hT w_m_X8_58 w_instanceMethod_X8_part ws_sel_X8_part w_ini_X8 w_code_X8_part) rfl rfl rfl (by decide +kernel) ⟨(Nat.le_of_ble_eq_true rfl), (Nat.le_of_ble_eq_true rfl)⟩) ⟨pre_blind, va_recv hK hP (ci := 5) (q0 := 3) rfl rfl, pre_of hPc hKc hDc hN⟩ rfl rfl hl.1 rfl (lv_room (Nat.le_of_ble_eq_true rfl)) dX8_isNewName_52 ⟨(Nat.le_of_ble_eq_true rfl), (Nat.le_of_ble_eq_true rfl)⟩) hS (fun q _ h => hFc q h) hFc (fun r33 u t H locs ht hvm hq hB hz1 hk1 hS9 => ?_)
                obtain ⟨hP1, hD1⟩ := hB
                rw [ht] at hP1
                obtain ⟨hP9, hD9⟩ := va_join (wr := [(h_nam, .inl (cy_nam, 300, .inr (.inl f_nam))), (h_trm, .inl (cy_trm, 300, .inl f_trm)), (h_lit, .inl (cy_lit, 16, .inl f_lit))]) (w1 := [(h_td, .inr (5, (mo3 vq32 (.ref h_fst)))), (h_fst, .inl (cy_fst, 96, .inl f_fst))]) hP hD [3, 4] [0, 1, 2] rfl rfl (by decide) (by decide) hk1 hFc hP1 hD1
                clear hP hD hS hPc hDc hKc hFc hP1 hD1 hk1 hz1 ht hvm
                have hP : va_P (dC, dI) cls [(h_nam, .inl (cy_nam, 300, .inr (.inl f_nam))), (h_trm, .inl (cy_trm, 300, .inl f_trm)), (h_lit, .inl (cy_lit, 16, .inl f_lit)), (h_td, .inr (5, (mo3 vq32 (.ref h_fst)))), (h_fst, .inl (cy_fst, 96, .inl f_fst))] H := hP9
                have hD : va_D A [(h_nam, .inl (cy_nam, 300, .inr (.inl f_nam))), (h_trm, .inl (cy_trm, 300, .inl f_trm)), (h_lit, .inl (cy_lit, 16, .inl f_lit)), (h_td, .inr (5, (mo3 vq32 (.ref h_fst)))), (h_fst, .inl (cy_fst, 96, .inl f_fst))] := hD9
                have hS := hS9
                clear hP9 hD9 hS9
                rw [evq32] at hP hD
                replace hP : va_P (dC, dI) cls [(h_nam, .inl (cy_nam, 300, .inr (.inl f_nam))), (h_trm, .inl (cy_trm, 300, .inl f_trm)), (h_lit, .inl (cy_lit, 16, .inl f_lit)), (h_td, .inr (5, (mo13 v_td (.ref h_nam) (.ref h_trm) (.ref h_lit) (.ref h_fst)))), (h_fst, .inl (cy_fst, 96, .inl f_fst))] H := hP
                replace hD : va_D A [(h_nam, .inl (cy_nam, 300, .inr (.inl f_nam))), (h_trm, .inl (cy_trm, 300, .inl f_trm)), (h_lit, .inl (cy_lit, 16, .inl f_lit)), (h_td, .inr (5, (mo13 v_td (.ref h_nam) (.ref h_trm) (.ref h_lit) (.ref h_fst)))), (h_fst, .inl (cy_fst, 96, .inl f_fst))] := hD
                clear evq32 
                obtain ⟨k34, k35⟩ := hq
                replace k34 : 0 ≤ (r33).toInt ∧ (r33).toInt ≤ 299 := k34
                replace k35 : (r33) = f_fst (6 * ((x5)).toInt.toNat + ((x27)).toInt.toNat) := k35
                obtain ⟨vq36, evq36⟩ := mq13_4 v_td (.ref h_lit) (.ref h_fst)
                replace hP : va_P (dC, dI) cls [(h_nam, .inl (cy_nam, 300, .inr (.inl f_nam))), (h_trm, .inl (cy_trm, 300, .inl f_trm)), (h_lit, .inl (cy_lit, 16, .inl f_lit)), (h_td, .inr (5, (mo4 vq36 (.ref h_nam) (.ref h_trm)))), (h_fst, .inl (cy_fst, 96, .inl f_fst))] H := by rw [evq36]; exact hP
                replace hD : va_D A [(h_nam, .inl (cy_nam, 300, .inr (.inl f_nam))), (h_trm, .inl (cy_trm, 300, .inl f_trm)), (h_lit, .inl (cy_lit, 16, .inl f_lit)), (h_td, .inr (5, (mo4 vq36 (.ref h_nam) (.ref h_trm)))), (h_fst, .inl (cy_fst, 96, .inl f_fst))] := by rw [evq36]; exact hD
                have hPc := hP.sub (ws' := [(h_td, .inr (5, (mo4 vq36 (.ref h_nam) (.ref h_trm)))), (h_nam, .inl (cy_nam, 300, .inr (.inl f_nam))), (h_trm, .inl (cy_trm, 300, .inl f_trm))]) [3, 0, 1] rfl
                have hDc := hD.sub (ws' := [(h_td, .inr (5, (mo4 vq36 (.ref h_nam) (.ref h_trm)))), (h_nam, .inl (cy_nam, 300, .inr (.inl f_nam))), (h_trm, .inl (cy_trm, 300, .inl f_trm))]) [3, 0, 1] (by decide) rfl
                have hKc := hK.sub (tys' := [(cy_nam, .long), (cy_trm, .int)]) [0, 1] rfl
                have hFc := va_free (wc := [(h_td, .inr (5, (mo4 vq36 (.ref h_nam) (.ref h_trm)))), (h_nam, .inl (cy_nam, 300, .inr (.inl f_nam))), (h_trm, .inl (cy_trm, 300, .inl f_trm))]) hD hS hA [3, 0, 1] rfl
                refine va_calli (va_runV (As := [.int r2, .int r33]) (rest := []) ⟨hx, hb, hml, hown, hts⟩ (c_X8_haveLikeNames l dC dI H.size h_td h_nam h_trm vq36 cy_nam f_nam cy_trm f_trm r2 r33 hf_trm (by first | exact k3 | omega) (by first | exact k34 | omega)) (cwV 2 hts (gv hT w_m_X8_61 w_instanceMethod_X8_haveLikeNames ws_sel_X8_haveLikeNames w_ini_X8 w_code_X8_haveLikeNames) rfl rfl rfl (by decide +kernel) ⟨(Nat.le_of_ble_eq_true rfl), (Nat.le_of_ble_eq_true rfl)⟩) ⟨pre_blind, va_recv hK hP (ci := 5) (q0 := 3) rfl rfl, pre_of hPc hKc hDc hN⟩ rfl rfl hl.1 rfl (lv_room (Nat.le_of_ble_eq_true rfl)) dX8_isNewName_55 ⟨(Nat.le_of_ble_eq_true rfl), (Nat.le_of_ble_eq_true rfl)⟩) hS (fun q _ h => hFc q h) hFc (fun r37 u t H locs ht hvm hq hB hz1 hk1 hS9 => ?_)
                obtain ⟨hP1, hD1⟩ := hB
                rw [ht] at hP1
                obtain ⟨hP9, hD9⟩ := va_join (wr := [(h_lit, .inl (cy_lit, 16, .inl f_lit)), (h_fst, .inl (cy_fst, 96, .inl f_fst))]) (w1 := [(h_td, .inr (5, (mo4 vq36 (.ref h_nam) (.ref h_trm)))), (h_nam, .inl (cy_nam, 300, .inr (.inl f_nam))), (h_trm, .inl (cy_trm, 300, .inl f_trm))]) hP hD [3, 0, 1] [2, 4] rfl rfl (by decide) (by decide) hk1 hFc hP1 hD1
                clear hP hD hS hPc hDc hKc hFc hP1 hD1 hk1 hz1 ht hvm
                have hP : va_P (dC, dI) cls [(h_lit, .inl (cy_lit, 16, .inl f_lit)), (h_fst, .inl (cy_fst, 96, .inl f_fst)), (h_td, .inr (5, (mo4 vq36 (.ref h_nam) (.ref h_trm)))), (h_nam, .inl (cy_nam, 300, .inr (.inl f_nam))), (h_trm, .inl (cy_trm, 300, .inl f_trm))] H := hP9
                have hD : va_D A [(h_lit, .inl (cy_lit, 16, .inl f_lit)), (h_fst, .inl (cy_fst, 96, .inl f_fst)), (h_td, .inr (5, (mo4 vq36 (.ref h_nam) (.ref h_trm)))), (h_nam, .inl (cy_nam, 300, .inr (.inl f_nam))), (h_trm, .inl (cy_trm, 300, .inl f_trm))] := hD9
                have hS := hS9
                clear hP9 hD9 hS9
                rw [evq36] at hP hD
                replace hP : va_P (dC, dI) cls [(h_lit, .inl (cy_lit, 16, .inl f_lit)), (h_fst, .inl (cy_fst, 96, .inl f_fst)), (h_td, .inr (5, (mo13 v_td (.ref h_nam) (.ref h_trm) (.ref h_lit) (.ref h_fst)))), (h_nam, .inl (cy_nam, 300, .inr (.inl f_nam))), (h_trm, .inl (cy_trm, 300, .inl f_trm))] H := hP
                replace hD : va_D A [(h_lit, .inl (cy_lit, 16, .inl f_lit)), (h_fst, .inl (cy_fst, 96, .inl f_fst)), (h_td, .inr (5, (mo13 v_td (.ref h_nam) (.ref h_trm) (.ref h_lit) (.ref h_fst)))), (h_nam, .inl (cy_nam, 300, .inr (.inl f_nam))), (h_trm, .inl (cy_trm, 300, .inl f_trm))] := hD
                clear evq36 
                have k38 : 0 ≤ (r37).toInt ∧ (r37).toInt ≤ 1 := hq
                clear hq
                refine lv_if_eq (tgt := 63) hx hb dX8_isNewName_58 (by decide) (fun c39 => ?_) (fun c39 => ?_)
                · have kc39 := (cv_eq (rfl : (r37).toInt = (r37).toInt) (by decide : (0 : Int32).toInt = 0)).mp c39
                  obtain ⟨z40, ez40⟩ : ∃ y : Int32, y = x27 + 1 := ⟨_, rfl⟩
                  have tz40 : (z40).toInt = (x27).toInt + 1 := by rw [ez40]; exact i_add rfl (by decide) (by omega)
                  refine lv_iinc (v := z40) (lv' := [(6, .int z40), (0, .ref h_td), (1, .int p1), (2, .int p2), (3, .int r2), (4, .int x5), (5, .int p2)]) hx hb dX8_isNewName_63 hl (k := 6) rfl (by rw [ez40]; rfl) (by decide) rfl (fun ls hl => ?_)
                  refine lv_goto (tgt := 38) hx hb dX8_isNewName_66 (by decide) ?_
                  replace hP : va_P (dC, dI) cls [(h_nam, .inl (cy_nam, 300, .inr (.inl f_nam))), (h_trm, .inl (cy_trm, 300, .inl f_trm)), (h_lit, .inl (cy_lit, 16, .inl f_lit)), (h_td, .inr (5, (mo13 v_td (.ref h_nam) (.ref h_trm) (.ref h_lit) (.ref h_fst)))), (h_fst, .inl (cy_fst, 96, .inl f_fst))] H := hP.sub [3, 4, 0, 2, 1] rfl
                  replace hD : va_D A [(h_nam, .inl (cy_nam, 300, .inr (.inl f_nam))), (h_trm, .inl (cy_trm, 300, .inl f_trm)), (h_lit, .inl (cy_lit, 16, .inl f_lit)), (h_td, .inr (5, (mo13 v_td (.ref h_nam) (.ref h_trm) (.ref h_lit) (.ref h_fst)))), (h_fst, .inl (cy_fst, 96, .inl f_fst))] := hD.sub [3, 4, 0, 2, 1] (by decide) rfl
                  exact ih29 (z40) _ _ _ (by omega) (by omega) hP hD hS (lv_sub hl [1, 2, 3, 4, 5, 6, 0] rfl)
                · have kc39 := (not_congr (cv_eq (rfl : (r37).toInt = (r37).toInt) (by decide : (0 : Int32).toInt = 0))).mp c39
                  refine lv_iconst (v := 0) hx hb dX8_isNewName_61 (by decide) ?_
                  replace hP : va_P (dC, dI) cls [(h_td, .inr (5, (mo13 v_td (.ref h_nam) (.ref h_trm) (.ref h_lit) (.ref h_fst)))), (h_nam, .inl (cy_nam, 300, .inr (.inl f_nam))), (h_trm, .inl (cy_trm, 300, .inl f_trm)), (h_lit, .inl (cy_lit, 16, .inl f_lit)), (h_fst, .inl (cy_fst, 96, .inl f_fst))] H := hP.sub [2, 3, 4, 0, 1] rfl
                  replace hD : va_D A [(h_td, .inr (5, (mo13 v_td (.ref h_nam) (.ref h_trm) (.ref h_lit) (.ref h_fst)))), (h_nam, .inl (cy_nam, 300, .inr (.inl f_nam))), (h_trm, .inl (cy_trm, 300, .inl f_trm)), (h_lit, .inl (cy_lit, 16, .inl f_lit)), (h_fst, .inl (cy_fst, 96, .inl f_fst))] := hD.sub [2, 3, 4, 0, 1] (by decide) rfl
                  refine W.widen (k := 0) (n := 0) (Nat.le_of_ble_eq_true rfl) (Nat.le_of_ble_eq_true rfl) ?_
                  have cst0 : (0 : Int32).toInt = 0 := by decide
                  have w41 : 0 ≤ (0 : Int32).toInt ∧ (0 : Int32).toInt ≤ 1 := by omega
                  exact W.zret (v := 0) (ty := .boolean) hx hb hr (by decide) (fun t ht hW => ⟨⟨0, (), rfl, w41, by rw [ht]; exact hP, hD⟩, hS.F ht⟩) hS.2.2 dX8_isNewName_62
          have cst0 : (0 : Int32).toInt = 0 := by decide
          exact lp28 _ (0) _ _ _ (by decide) (Nat.le_refl _) hP hD hS (lv_sub hl [2, 3, 4, 5, 6, 1, 0] rfl)
  have cst0 : (0 : Int32).toInt = 0 := by decide
  exact lp6 _ (0) _ _ _ (by decide) (Nat.le_refl _) hP hD hS (lv_sub hl [2, 3, 4, 1, 0] rfl)

set_option maxHeartbeats 8000000 in
set_option maxRecDepth 100000 in
theorem c_X8_countNames (l : Launch) (dC : Nat → ClassId) (dI : Nat → Nat → Nat) (sz : Nat) (h_td : Nat) (h_nam : Nat) (h_trm : Nat) (h_lit : Nat) (h_fst : Nat) (v_td : Nat → Value) (x_td_clauses : Int32) (cy_nam : ClassId) (f_nam : Nat → Int64) (cy_trm : ClassId) (f_trm : Nat → Int32) (cy_lit : ClassId) (f_lit : Nat → Int32) (cy_fst : ClassId) (f_fst : Nat → Int32) (hx_td_clauses : 0 ≤ (x_td_clauses).toInt ∧ (x_td_clauses).toInt ≤ 16) (hf_trm : Rg 0 3 f_trm) (hf_lit : Rg 0 6 f_lit) (hf_fst : Rg 0 299 f_fst) : Met l yX8_countNames (Ws yX8_countNames cX8_countNames 4 (some .int)) (({ frames := 2, cells := 0, slots := 0, locals := 48 } : Room)) (PRE (dC, dI) cls [(cy_nam, .long), (cy_trm, .int), (cy_lit, .int), (cy_fst, .int)] [(h_td, .inr (5, (mo14 v_td (.ref h_nam) (.ref h_trm) (.ref h_lit) (.ref h_fst) (.int x_td_clauses)))), (h_nam, .inl (cy_nam, 300, .inr (.inl f_nam))), (h_trm, .inl (cy_trm, 300, .inl f_trm)), (h_lit, .inl (cy_lit, 16, .inl f_lit)), (h_fst, .inl (cy_fst, 96, .inl f_fst))] sz [.ref h_td]) (va_Qi (fun (r : Int32) (_ : Unit) => True) (fun (_ : Unit) (t : State) => va_P (dC, dI) cls [(h_td, .inr (5, (mo14 v_td (.ref h_nam) (.ref h_trm) (.ref h_lit) (.ref h_fst) (.int x_td_clauses)))), (h_nam, .inl (cy_nam, 300, .inr (.inl f_nam))), (h_trm, .inl (cy_trm, 300, .inl f_trm)), (h_lit, .inl (cy_lit, 16, .inl f_lit)), (h_fst, .inl (cy_fst, 96, .inl f_fst))] t.heap ∧ va_D (va_A [(h_td, .inr (5, (mo14 v_td (.ref h_nam) (.ref h_trm) (.ref h_lit) (.ref h_fst) (.int x_td_clauses)))), (h_nam, .inl (cy_nam, 300, .inr (.inl f_nam))), (h_trm, .inl (cy_trm, 300, .inl f_trm)), (h_lit, .inl (cy_lit, 16, .inl f_lit)), (h_fst, .inl (cy_fst, 96, .inl f_fst))] sz) [(h_td, .inr (5, (mo14 v_td (.ref h_nam) (.ref h_trm) (.ref h_lit) (.ref h_fst) (.int x_td_clauses)))), (h_nam, .inl (cy_nam, 300, .inr (.inl f_nam))), (h_trm, .inl (cy_trm, 300, .inl f_trm)), (h_lit, .inl (cy_lit, 16, .inl f_lit)), (h_fst, .inl (cy_fst, 96, .inl f_fst))]) (va_A [(h_td, .inr (5, (mo14 v_td (.ref h_nam) (.ref h_trm) (.ref h_lit) (.ref h_fst) (.int x_td_clauses)))), (h_nam, .inl (cy_nam, 300, .inr (.inl f_nam))), (h_trm, .inl (cy_trm, 300, .inl f_trm)), (h_lit, .inl (cy_lit, 16, .inl f_lit)), (h_fst, .inl (cy_fst, 96, .inl f_fst))] sz)) 0 0 (va_A [(h_td, .inr (5, (mo14 v_td (.ref h_nam) (.ref h_trm) (.ref h_lit) (.ref h_fst) (.int x_td_clauses)))), (h_nam, .inl (cy_nam, 300, .inr (.inl f_nam))), (h_trm, .inl (cy_trm, 300, .inl f_trm)), (h_lit, .inl (cy_lit, 16, .inl f_lit)), (h_fst, .inl (cy_fst, 96, .inl f_fst))] sz) := by
  refine Met.ofW (cc := cX8_countNames) (maxL := 4) (ret := (some .int)) (by decide) rfl ?_
  intro p e s m args below meth c s₁ B hml hv
  obtain ⟨rfl, hsz, hP, hK, hD0, hN⟩ := hv
  have hx := B.exec
  have hb := B.bytes
  have hr := B.returns
  have hts := atoms_spec (ws := Ws yX8_countNames cX8_countNames 4 (some .int)) B.pre
  have hT : ∀ w ∈ WALL, w ∈ Ws yX8_countNames cX8_countNames 4 (some .int) := fun w h => List.mem_cons_of_mem _ h
  have hw := fun w (h : w ∈ WALL) => hts w (hT w h)
  have hown : s.vm.findClass RX8 = some m.cls := findClass_of_methodNamed B.named
  have hlocks := B.notSynchronized
  subst hsz
  have hD := hD0.self (sz := s.heap.size)
  generalize hAe : va_A [(h_td, .inr (5, (mo14 v_td (.ref h_nam) (.ref h_trm) (.ref h_lit) (.ref h_fst) (.int x_td_clauses)))), (h_nam, .inl (cy_nam, 300, .inr (.inl f_nam))), (h_trm, .inl (cy_trm, 300, .inl f_trm)), (h_lit, .inl (cy_lit, 16, .inl f_lit)), (h_fst, .inl (cy_fst, 96, .inl f_fst))] s.heap.size = A at hD ⊢
  have hA : ∀ q : Nat, s.heap.size ≤ q → A q := fun q h => by rw [← hAe]; exact Or.inr h
  have hS : va_S A s.heap s.heap [] := va_S.rf
  have hl := lv_entry ([.ref h_td]) (n := 4) (Nat.le_of_ble_eq_true rfl)
  rw [lg_entry_eq]
  generalize (lg_sl ([.ref h_td]) ++ List.replicate (4 - (lg_sl ([.ref h_td])).length) Slot.unset).toArray = ls at hl ⊢
  have hl : lv_has ls 4 [(0, .ref h_td)] := hl
  refine lv_iconst (v := 0) hx hb dX8_countNames_0 (by decide) ?_
  refine lv_istore_n (lv' := [(1, .int 0), (0, .ref h_td)]) hx hb dX8_countNames_1 rfl hl (by decide) rfl (fun ls hl => ?_)
  refine lv_iconst (v := 0) hx hb dX8_countNames_2 (by decide) ?_
  refine lv_istore_n (lv' := [(2, .int 0), (1, .int 0), (0, .ref h_td)]) hx hb dX8_countNames_3 rfl hl (by decide) rfl (fun ls hl => ?_)
  have lp3 : ∀ (n : Nat) (x1 : Int32) (x2 : Int32) (H : Heap) (locs : List Loc) (ls : Array Slot), (0 ≤ (x2).toInt ∧ (x2).toInt ≤ 16) → (16 - (x2).toInt).toNat + 1 ≤ n → va_P (dC, dI) cls [(h_td, .inr (5, (mo14 v_td (.ref h_nam) (.ref h_trm) (.ref h_lit) (.ref h_fst) (.int x_td_clauses)))), (h_nam, .inl (cy_nam, 300, .inr (.inl f_nam))), (h_trm, .inl (cy_trm, 300, .inl f_trm)), (h_lit, .inl (cy_lit, 16, .inl f_lit)), (h_fst, .inl (cy_fst, 96, .inl f_fst))] H → va_D A [(h_td, .inr (5, (mo14 v_td (.ref h_nam) (.ref h_trm) (.ref h_lit) (.ref h_fst) (.int x_td_clauses)))), (h_nam, .inl (cy_nam, 300, .inr (.inl f_nam))), (h_trm, .inl (cy_trm, 300, .inl f_trm)), (h_lit, .inl (cy_lit, 16, .inl f_lit)), (h_fst, .inl (cy_fst, 96, .inl f_fst))] → va_S A s.heap H locs → lv_has ls 4 [(0, .ref h_td), (1, .int x1), (2, .int x2)] → W p l e ({ frames := 2, cells := 0, slots := 0, locals := 48 } : Room) s m ([.ref h_td] : List Value).toArray below meth c H locs 0 0 (MQ below (va_Qi (fun (r : Int32) (_ : Unit) => True) (fun (_ : Unit) (t : State) => va_P (dC, dI) cls [(h_td, .inr (5, (mo14 v_td (.ref h_nam) (.ref h_trm) (.ref h_lit) (.ref h_fst) (.int x_td_clauses)))), (h_nam, .inl (cy_nam, 300, .inr (.inl f_nam))), (h_trm, .inl (cy_trm, 300, .inl f_trm)), (h_lit, .inl (cy_lit, 16, .inl f_lit)), (h_fst, .inl (cy_fst, 96, .inl f_fst))] t.heap ∧ va_D A [(h_td, .inr (5, (mo14 v_td (.ref h_nam) (.ref h_trm) (.ref h_lit) (.ref h_fst) (.int x_td_clauses)))), (h_nam, .inl (cy_nam, 300, .inr (.inl f_nam))), (h_trm, .inl (cy_trm, 300, .inl f_trm)), (h_lit, .inl (cy_lit, 16, .inl f_lit)), (h_fst, .inl (cy_fst, 96, .inl f_fst))]) A) ([.ref h_td] : List Value).toArray s 0 0 A) (F0 m 4 ls []) := by
    clear hP hD hS hl
    intro n
    induction n with
    | zero => intro x1 x2 H locs ls klp3_0 hm hP hD hS hl; exact False.elim (by omega)
    | succ n ih => 
      intro x1 x2 H locs ls klp3_0 hm hP hD hS hl
      have ih4 := ih
      clear ih
      refine lv_iload_n hx hb dX8_countNames_4 rfl (lv_at hl 2 rfl) ?_
      refine lv_aload_n hx hb dX8_countNames_5 rfl (lv_at hl 0 rfl) ?_
      refine va_get (D := (dC, dI)) (ci := 5) (v := .int x_td_clauses) (C := RX8) (T := TX8) (N := 10) hx hb hw iwX8 hown hK hP 0 rfl rfl 9 (by decide) (hw _ w_f_X8_41) (fun _ h9 => h9) rfl dX8_countNames_6 ?_
      refine lv_icmp_ge (tgt := 53) hx hb dX8_countNames_9 (by decide) (fun c5 => ?_) (fun c5 => ?_)
      · have kc5 := (cv_le (rfl : (x_td_clauses).toInt = (x_td_clauses).toInt) (rfl : (x2).toInt = (x2).toInt)).mp c5
        refine lv_iload_n hx hb dX8_countNames_53 rfl (lv_at hl 1 rfl) ?_
        refine W.widen (k := 0) (n := 0) (Nat.le_of_ble_eq_true rfl) (Nat.le_of_ble_eq_true rfl) ?_
        exact W.iret (v := x1) hx hb hr (fun t ht hW => ⟨⟨x1, (), rfl, trivial, by rw [ht]; exact hP, hD⟩, hS.F ht⟩) hS.2.2 dX8_countNames_54
      · have kc5 := (not_congr (cv_le (rfl : (x_td_clauses).toInt = (x_td_clauses).toInt) (rfl : (x2).toInt = (x2).toInt))).mp c5
        refine lv_iconst (v := 0) hx hb dX8_countNames_12 (by decide) ?_
        refine lv_istore_n (lv' := [(3, .int 0), (0, .ref h_td), (1, .int x1), (2, .int x2)]) hx hb dX8_countNames_13 rfl hl (by decide) rfl (fun ls hl => ?_)
        have lp8 : ∀ (n : Nat) (x6 : Int32) (x7 : Int32) (H : Heap) (locs : List Loc) (ls : Array Slot), (0 ≤ (x7).toInt ∧ (x7).toInt ≤ 6) → (6 - (x7).toInt).toNat + 1 ≤ n → va_P (dC, dI) cls [(h_td, .inr (5, (mo14 v_td (.ref h_nam) (.ref h_trm) (.ref h_lit) (.ref h_fst) (.int x_td_clauses)))), (h_nam, .inl (cy_nam, 300, .inr (.inl f_nam))), (h_trm, .inl (cy_trm, 300, .inl f_trm)), (h_lit, .inl (cy_lit, 16, .inl f_lit)), (h_fst, .inl (cy_fst, 96, .inl f_fst))] H → va_D A [(h_td, .inr (5, (mo14 v_td (.ref h_nam) (.ref h_trm) (.ref h_lit) (.ref h_fst) (.int x_td_clauses)))), (h_nam, .inl (cy_nam, 300, .inr (.inl f_nam))), (h_trm, .inl (cy_trm, 300, .inl f_trm)), (h_lit, .inl (cy_lit, 16, .inl f_lit)), (h_fst, .inl (cy_fst, 96, .inl f_fst))] → va_S A s.heap H locs → lv_has ls 4 [(0, .ref h_td), (1, .int x6), (2, .int x2), (3, .int x7)] → W p l e ({ frames := 2, cells := 0, slots := 0, locals := 48 } : Room) s m ([.ref h_td] : List Value).toArray below meth c H locs 0 0 (MQ below (va_Qi (fun (r : Int32) (_ : Unit) => True) (fun (_ : Unit) (t : State) => va_P (dC, dI) cls [(h_td, .inr (5, (mo14 v_td (.ref h_nam) (.ref h_trm) (.ref h_lit) (.ref h_fst) (.int x_td_clauses)))), (h_nam, .inl (cy_nam, 300, .inr (.inl f_nam))), (h_trm, .inl (cy_trm, 300, .inl f_trm)), (h_lit, .inl (cy_lit, 16, .inl f_lit)), (h_fst, .inl (cy_fst, 96, .inl f_fst))] t.heap ∧ va_D A [(h_td, .inr (5, (mo14 v_td (.ref h_nam) (.ref h_trm) (.ref h_lit) (.ref h_fst) (.int x_td_clauses)))), (h_nam, .inl (cy_nam, 300, .inr (.inl f_nam))), (h_trm, .inl (cy_trm, 300, .inl f_trm)), (h_lit, .inl (cy_lit, 16, .inl f_lit)), (h_fst, .inl (cy_fst, 96, .inl f_fst))]) A) ([.ref h_td] : List Value).toArray s 0 0 A) (F0 m 14 ls []) := by
          clear hP hD hS hl
          intro n
          induction n with
          | zero => intro x6 x7 H locs ls klp8_0 hm hP hD hS hl; exact False.elim (by omega)
          | succ n ih => 
            intro x6 x7 H locs ls klp8_0 hm hP hD hS hl
            have ih9 := ih
            clear ih
            refine lv_iload_n hx hb dX8_countNames_14 rfl (lv_at hl 3 rfl) ?_
            refine lv_aload_n hx hb dX8_countNames_15 rfl (lv_at hl 0 rfl) ?_
            refine va_get (D := (dC, dI)) (ci := 5) (v := .ref h_lit) (C := RX8) (T := TX8) (N := 10) hx hb hw iwX8 hown hK hP 0 rfl rfl 5 (by decide) (hw _ w_f_X8_25) (fun _ h9 => h9) rfl dX8_countNames_16 ?_
            refine lv_iload_n hx hb dX8_countNames_19 rfl (lv_at hl 2 rfl) ?_
            refine va_iald hx hb hK hP 3 2 rfl rfl (i := x2) (vp_in_iff.mpr (by omega)) dX8_countNames_20 ?_
            refine lv_topi (fun z10 ez10 => ?_)
            have rz10 : 0 ≤ (z10).toInt ∧ (z10).toInt ≤ 6 := by rw [ez10]; exact hf_lit _
            refine lv_icmp_ge (tgt := 47) hx hb dX8_countNames_21 (by decide) (fun c11 => ?_) (fun c11 => ?_)
            · have kc11 := (cv_le (rfl : (z10).toInt = (z10).toInt) (rfl : (x7).toInt = (x7).toInt)).mp c11
              obtain ⟨z12, ez12⟩ : ∃ y : Int32, y = x2 + 1 := ⟨_, rfl⟩
              have tz12 : (z12).toInt = (x2).toInt + 1 := by rw [ez12]; exact i_add rfl (by decide) (by omega)
              refine lv_iinc (v := z12) (lv' := [(2, .int z12), (0, .ref h_td), (1, .int x6), (3, .int x7)]) hx hb dX8_countNames_47 hl (k := 2) rfl (by rw [ez12]; rfl) (by decide) rfl (fun ls hl => ?_)
              refine lv_goto (tgt := 4) hx hb dX8_countNames_50 (by decide) ?_
              exact ih4 (x6) (z12) _ _ _ (by omega) (by omega) hP hD hS (lv_sub hl [1, 2, 0] rfl)
            · have kc11 := (not_congr (cv_le (rfl : (z10).toInt = (z10).toInt) (rfl : (x7).toInt = (x7).toInt))).mp c11
              refine lv_iload_n hx hb dX8_countNames_24 rfl (lv_at hl 1 rfl) ?_
              refine lv_aload_n hx hb dX8_countNames_25 rfl (lv_at hl 0 rfl) ?_
              refine lv_iload_n hx hb dX8_countNames_26 rfl (lv_at hl 2 rfl) ?_
              refine lv_iload_n hx hb dX8_countNames_27 rfl (lv_at hl 3 rfl) ?_
              obtain ⟨vq13, evq13⟩ := mq14_13 v_td (.int x_td_clauses)
              replace hP : va_P (dC, dI) cls [(h_td, .inr (5, (mo13 vq13 (.ref h_nam) (.ref h_trm) (.ref h_lit) (.ref h_fst)))), (h_nam, .inl (cy_nam, 300, .inr (.inl f_nam))), (h_trm, .inl (cy_trm, 300, .inl f_trm)), (h_lit, .inl (cy_lit, 16, .inl f_lit)), (h_fst, .inl (cy_fst, 96, .inl f_fst))] H := by rw [evq13]; exact hP
              replace hD : va_D A [(h_td, .inr (5, (mo13 vq13 (.ref h_nam) (.ref h_trm) (.ref h_lit) (.ref h_fst)))), (h_nam, .inl (cy_nam, 300, .inr (.inl f_nam))), (h_trm, .inl (cy_trm, 300, .inl f_trm)), (h_lit, .inl (cy_lit, 16, .inl f_lit)), (h_fst, .inl (cy_fst, 96, .inl f_fst))] := by rw [evq13]; exact hD
              have hPc := hP.sub (ws' := [(h_td, .inr (5, (mo13 vq13 (.ref h_nam) (.ref h_trm) (.ref h_lit) (.ref h_fst)))), (h_nam, .inl (cy_nam, 300, .inr (.inl f_nam))), (h_trm, .inl (cy_trm, 300, .inl f_trm)), (h_lit, .inl (cy_lit, 16, .inl f_lit)), (h_fst, .inl (cy_fst, 96, .inl f_fst))]) [0, 1, 2, 3, 4] rfl
              have hDc := hD.sub (ws' := [(h_td, .inr (5, (mo13 vq13 (.ref h_nam) (.ref h_trm) (.ref h_lit) (.ref h_fst)))), (h_nam, .inl (cy_nam, 300, .inr (.inl f_nam))), (h_trm, .inl (cy_trm, 300, .inl f_trm)), (h_lit, .inl (cy_lit, 16, .inl f_lit)), (h_fst, .inl (cy_fst, 96, .inl f_fst))]) [0, 1, 2, 3, 4] (by decide) rfl
              have hKc := hK.sub (tys' := [(cy_nam, .long), (cy_trm, .int), (cy_lit, .int), (cy_fst, .int)]) [0, 1, 2, 3] rfl
              have hFc := va_free (wc := [(h_td, .inr (5, (mo13 vq13 (.ref h_nam) (.ref h_trm) (.ref h_lit) (.ref h_fst)))), (h_nam, .inl (cy_nam, 300, .inr (.inl f_nam))), (h_trm, .inl (cy_trm, 300, .inl f_trm)), (h_lit, .inl (cy_lit, 16, .inl f_lit)), (h_fst, .inl (cy_fst, 96, .inl f_fst))]) hD hS hA [0, 1, 2, 3, 4] rfl
              refine va_calli (va_runV (As := [.int x2, .int x7]) (rest := [.int x6]) ⟨hx, hb, hml, hown, hts⟩ (c_X8_isNewName l dC dI H.size h_td h_nam h_trm h_lit h_fst vq13 cy_nam f_nam cy_trm f_trm cy_lit f_lit cy_fst f_fst x2 x7 hf_trm hf_lit hf_fst (by omega) (by omega)) (cwV 2 hts (gv hT w_m_X8_70 w_instanceMethod_X8_isNewName ws_sel_X8_isNewName w_ini_X8 w_code_X8_isNewName) rfl rfl rfl (by decide +kernel) ⟨(Nat.le_of_ble_eq_true rfl), (Nat.le_of_ble_eq_true rfl)⟩) ⟨pre_blind, va_recv hK hP (ci := 5) (q0 := 0) rfl rfl, pre_of hPc hKc hDc hN⟩ rfl rfl hl.1 rfl (lv_room (Nat.le_of_ble_eq_true rfl)) dX8_countNames_28 ⟨(Nat.le_of_ble_eq_true rfl), (Nat.le_of_ble_eq_true rfl)⟩) hS (fun q _ h => hFc q h) hFc (fun r14 u t H locs ht hvm hq hB hz1 hk1 hS9 => ?_)
              obtain ⟨hP1, hD1⟩ := hB
              rw [ht] at hP1
              obtain ⟨hP9, hD9⟩ := va_join (wr := []) (w1 := [(h_td, .inr (5, (mo13 vq13 (.ref h_nam) (.ref h_trm) (.ref h_lit) (.ref h_fst)))), (h_nam, .inl (cy_nam, 300, .inr (.inl f_nam))), (h_trm, .inl (cy_trm, 300, .inl f_trm)), (h_lit, .inl (cy_lit, 16, .inl f_lit)), (h_fst, .inl (cy_fst, 96, .inl f_fst))]) hP hD [0, 1, 2, 3, 4] [] rfl rfl (by decide) (by decide) hk1 hFc hP1 hD1
              clear hP hD hS hPc hDc hKc hFc hP1 hD1 hk1 hz1 ht hvm
              have hP : va_P (dC, dI) cls [(h_td, .inr (5, (mo13 vq13 (.ref h_nam) (.ref h_trm) (.ref h_lit) (.ref h_fst)))), (h_nam, .inl (cy_nam, 300, .inr (.inl f_nam))), (h_trm, .inl (cy_trm, 300, .inl f_trm)), (h_lit, .inl (cy_lit, 16, .inl f_lit)), (h_fst, .inl (cy_fst, 96, .inl f_fst))] H := hP9
              have hD : va_D A [(h_td, .inr (5, (mo13 vq13 (.ref h_nam) (.ref h_trm) (.ref h_lit) (.ref h_fst)))), (h_nam, .inl (cy_nam, 300, .inr (.inl f_nam))), (h_trm, .inl (cy_trm, 300, .inl f_trm)), (h_lit, .inl (cy_lit, 16, .inl f_lit)), (h_fst, .inl (cy_fst, 96, .inl f_fst))] := hD9
              have hS := hS9
              clear hP9 hD9 hS9
              rw [evq13] at hP hD
              replace hP : va_P (dC, dI) cls [(h_td, .inr (5, (mo14 v_td (.ref h_nam) (.ref h_trm) (.ref h_lit) (.ref h_fst) (.int x_td_clauses)))), (h_nam, .inl (cy_nam, 300, .inr (.inl f_nam))), (h_trm, .inl (cy_trm, 300, .inl f_trm)), (h_lit, .inl (cy_lit, 16, .inl f_lit)), (h_fst, .inl (cy_fst, 96, .inl f_fst))] H := hP
              replace hD : va_D A [(h_td, .inr (5, (mo14 v_td (.ref h_nam) (.ref h_trm) (.ref h_lit) (.ref h_fst) (.int x_td_clauses)))), (h_nam, .inl (cy_nam, 300, .inr (.inl f_nam))), (h_trm, .inl (cy_trm, 300, .inl f_trm)), (h_lit, .inl (cy_lit, 16, .inl f_lit)), (h_fst, .inl (cy_fst, 96, .inl f_fst))] := hD
              clear evq13 
              have k15 : 0 ≤ (r14).toInt ∧ (r14).toInt ≤ 1 := hq
              clear hq
              refine lv_if_eq (tgt := 38) hx hb dX8_countNames_31 (by decide) (fun c16 => ?_) (fun c16 => ?_)
              · have kc16 := (cv_eq (rfl : (r14).toInt = (r14).toInt) (by decide : (0 : Int32).toInt = 0)).mp c16
                refine lv_iconst (v := 0) hx hb dX8_countNames_38 (by decide) ?_
                refine lv_iadd hx hb dX8_countNames_39 ?_
                refine lv_topi (fun z17 ez17 => ?_)
                refine lv_istore_n (lv' := [(1, .int z17), (0, .ref h_td), (2, .int x2), (3, .int x7)]) hx hb dX8_countNames_40 rfl hl (by decide) rfl (fun ls hl => ?_)
                obtain ⟨z18, ez18⟩ : ∃ y : Int32, y = x7 + 1 := ⟨_, rfl⟩
                have tz18 : (z18).toInt = (x7).toInt + 1 := by rw [ez18]; exact i_add rfl (by decide) (by omega)
                refine lv_iinc (v := z18) (lv' := [(3, .int z18), (1, .int z17), (0, .ref h_td), (2, .int x2)]) hx hb dX8_countNames_41 hl (k := 3) rfl (by rw [ez18]; rfl) (by decide) rfl (fun ls hl => ?_)
                refine lv_goto (tgt := 14) hx hb dX8_countNames_44 (by decide) ?_
                exact ih9 (z17) (z18) _ _ _ (by omega) (by omega) hP hD hS (lv_sub hl [2, 1, 3, 0] rfl)
              · have kc16 := (not_congr (cv_eq (rfl : (r14).toInt = (r14).toInt) (by decide : (0 : Int32).toInt = 0))).mp c16
                refine lv_iconst (v := 1) hx hb dX8_countNames_34 (by decide) ?_
                refine lv_goto (tgt := 39) hx hb dX8_countNames_35 (by decide) ?_
                refine lv_iadd hx hb dX8_countNames_39 ?_
                refine lv_topi (fun z19 ez19 => ?_)
                refine lv_istore_n (lv' := [(1, .int z19), (0, .ref h_td), (2, .int x2), (3, .int x7)]) hx hb dX8_countNames_40 rfl hl (by decide) rfl (fun ls hl => ?_)
                obtain ⟨z20, ez20⟩ : ∃ y : Int32, y = x7 + 1 := ⟨_, rfl⟩
                have tz20 : (z20).toInt = (x7).toInt + 1 := by rw [ez20]; exact i_add rfl (by decide) (by omega)
                refine lv_iinc (v := z20) (lv' := [(3, .int z20), (1, .int z19), (0, .ref h_td), (2, .int x2)]) hx hb dX8_countNames_41 hl (k := 3) rfl (by rw [ez20]; rfl) (by decide) rfl (fun ls hl => ?_)
                refine lv_goto (tgt := 14) hx hb dX8_countNames_44 (by decide) ?_
                exact ih9 (z19) (z20) _ _ _ (by omega) (by omega) hP hD hS (lv_sub hl [2, 1, 3, 0] rfl)
        have cst0 : (0 : Int32).toInt = 0 := by decide
        exact lp8 _ (x1) (0) _ _ _ (by decide) (Nat.le_refl _) hP hD hS (lv_sub hl [1, 2, 3, 0] rfl)
  have cst0 : (0 : Int32).toInt = 0 := by decide
  exact lp3 _ (0) (0) _ _ _ (by decide) (Nat.le_refl _) hP hD hS (lv_sub hl [2, 1, 0] rfl)

