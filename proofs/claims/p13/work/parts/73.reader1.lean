theorem w_acn : Cond.native arraycopyName ∈ WALL := wall_t (tb_3 1 (by decide +kernel)) rfl
theorem w_acs : Cond.static arraycopyName ∈ WALL := wall_t (tb_3 0 (by decide +kernel)) rfl
theorem w_code_X5_blame : Cond.code yX5_blame prog_7_method_4_code 2 none ∈ WALL := wall_t (tb_2 195 (by decide +kernel)) rfl
theorem w_code_X5_isGreat : Cond.code yX5_isGreat prog_7_method_13_code 1 (some .boolean) ∈ WALL := wall_t (tb_2 179 (by decide +kernel)) rfl
theorem w_code_X5_isSmall : Cond.code yX5_isSmall prog_7_method_12_code 1 (some .boolean) ∈ WALL := wall_t (tb_2 176 (by decide +kernel)) rfl
theorem w_code_X5_nextToken : Cond.code yX5_nextToken prog_7_method_10_code 1 none ∈ WALL := wall_t (tb_2 173 (by decide +kernel)) rfl
theorem w_code_X5_readClause : Cond.code yX5_readClause prog_7_method_6_code 3 none ∈ WALL := wall_t (tb_2 187 (by decide +kernel)) rfl
theorem w_code_X5_readLetters : Cond.code yX5_readLetters prog_7_method_11_code 3 none ∈ WALL := wall_t (tb_2 183 (by decide +kernel)) rfl
theorem w_code_X5_readLiteral : Cond.code yX5_readLiteral prog_7_method_7_code 3 none ∈ WALL := wall_t (tb_2 199 (by decide +kernel)) rfl
theorem w_code_X5_readPart : Cond.code yX5_readPart prog_7_method_8_code 5 (some .int) ∈ WALL := wall_t (tb_2 203 (by decide +kernel)) rfl
theorem w_code_X5_startsLiteral : Cond.code yX5_startsLiteral prog_7_method_5_code 1 (some .boolean) ∈ WALL := wall_t (tb_2 191 (by decide +kernel)) rfl
theorem w_code_X5_variablePart : Cond.code yX5_variablePart prog_7_method_9_code 2 (some .int) ∈ WALL := wall_t (tb_2 214 (by decide +kernel)) rfl
theorem w_code_X8_add : Cond.code yX8_add prog_10_method_3_code 5 (some .int) ∈ WALL := wall_t (tb_2 207 (by decide +kernel)) rfl
theorem w_code_X8_clear : Cond.code yX8_clear prog_10_method_2_code 1 none ∈ WALL := wall_t (tb_2 169 (by decide +kernel)) rfl
theorem w_f_X5_15 : Cond.fieldLink "OppositePairs$Reader" 15 "OppositePairs$Reader" "place" "I" ∈ WALL := wall_t (tb_1 35 (by decide +kernel)) rfl
theorem w_f_X5_19 : Cond.fieldLink "OppositePairs$Reader" 19 "OppositePairs$Reader" "known" "[I" ∈ WALL := wall_t (tb_1 38 (by decide +kernel)) rfl
theorem w_f_X5_22 : Cond.fieldLink "OppositePairs$Reader" 22 "OppositePairs$Reader" "length" "I" ∈ WALL := wall_t (tb_1 32 (by decide +kernel)) rfl
theorem w_f_X5_25 : Cond.fieldLink "OppositePairs$Reader" 25 "OppositePairs$Reader" "into" "LOppositePairs$Told;" ∈ WALL := wall_t (tb_1 37 (by decide +kernel)) rfl
theorem w_f_X5_34 : Cond.fieldLink "OppositePairs$Reader" 34 "OppositePairs$Reader" "fault" "I" ∈ WALL := wall_t (tb_1 33 (by decide +kernel)) rfl
theorem w_f_X5_37 : Cond.fieldLink "OppositePairs$Reader" 37 "OppositePairs$Reader" "behind" "I" ∈ WALL := wall_t (tb_1 41 (by decide +kernel)) rfl
theorem w_f_X5_43 : Cond.fieldLink "OppositePairs$Reader" 43 "OppositePairs$Reader" "token" "I" ∈ WALL := wall_t (tb_1 42 (by decide +kernel)) rfl
theorem w_f_X5_49 : Cond.fieldLink "OppositePairs$Reader" 49 "OppositePairs$Reader" "at" "I" ∈ WALL := wall_t (tb_1 40 (by decide +kernel)) rfl
theorem w_f_X5_66 : Cond.fieldLink "OppositePairs$Reader" 66 "OppositePairs$Reader" "variables" "I" ∈ WALL := wall_t (tb_1 39 (by decide +kernel)) rfl
theorem w_f_X5_85 : Cond.fieldLink "OppositePairs$Reader" 85 "OppositePairs$Reader" "letters" "J" ∈ WALL := wall_t (tb_1 43 (by decide +kernel)) rfl
theorem w_f_X5_9 : Cond.fieldLink "OppositePairs$Reader" 9 "OppositePairs$Reader" "bytes" "[I" ∈ WALL := wall_t (tb_1 30 (by decide +kernel)) rfl
theorem w_f_X8_15 : Cond.fieldLink "OppositePairs$Told" 15 "OppositePairs$Told" "variable" "[I" ∈ WALL := wall_t (tb_1 77 (by decide +kernel)) rfl
theorem w_f_X8_28 : Cond.fieldLink "OppositePairs$Told" 28 "OppositePairs$Told" "variables" "[I" ∈ WALL := wall_t (tb_1 94 (by decide +kernel)) rfl
theorem w_ini_Math : Cond.initialized "java/lang/Math" ∈ WALL := wall_t (tb_1 10 (by decide +kernel)) rfl
theorem w_ini_System : Cond.initialized "java/lang/System" ∈ WALL := wall_t (tb_1 11 (by decide +kernel)) rfl
theorem w_ini_X5 : Cond.initialized "OppositePairs$Reader" ∈ WALL := wall_t (tb_1 2 (by decide +kernel)) rfl
theorem w_instanceMethod_X5_blame : Cond.instanceMethod yX5_blame ∈ WALL := wall_t (tb_2 194 (by decide +kernel)) rfl
theorem w_instanceMethod_X5_nextToken : Cond.instanceMethod yX5_nextToken ∈ WALL := wall_t (tb_2 172 (by decide +kernel)) rfl
theorem w_instanceMethod_X5_readClause : Cond.instanceMethod yX5_readClause ∈ WALL := wall_t (tb_2 186 (by decide +kernel)) rfl
theorem w_instanceMethod_X5_readLetters : Cond.instanceMethod yX5_readLetters ∈ WALL := wall_t (tb_2 182 (by decide +kernel)) rfl
theorem w_instanceMethod_X5_readLiteral : Cond.instanceMethod yX5_readLiteral ∈ WALL := wall_t (tb_2 198 (by decide +kernel)) rfl
theorem w_instanceMethod_X5_readPart : Cond.instanceMethod yX5_readPart ∈ WALL := wall_t (tb_2 202 (by decide +kernel)) rfl
theorem w_instanceMethod_X5_startsLiteral : Cond.instanceMethod yX5_startsLiteral ∈ WALL := wall_t (tb_2 190 (by decide +kernel)) rfl
theorem w_instanceMethod_X5_variablePart : Cond.instanceMethod yX5_variablePart ∈ WALL := wall_t (tb_2 213 (by decide +kernel)) rfl
theorem w_instanceMethod_X8_add : Cond.instanceMethod yX8_add ∈ WALL := wall_t (tb_2 206 (by decide +kernel)) rfl
theorem w_instanceMethod_X8_clear : Cond.instanceMethod yX8_clear ∈ WALL := wall_t (tb_2 168 (by decide +kernel)) rfl
theorem w_m_X5_107 : Cond.methodLink "OppositePairs$Reader" 107 yX5_isSmall ∈ WALL := wall_t (tb_2 174 (by decide +kernel)) rfl
theorem w_m_X5_111 : Cond.methodLink "OppositePairs$Reader" 111 yX5_isGreat ∈ WALL := wall_t (tb_2 177 (by decide +kernel)) rfl
theorem w_m_X5_114 : Cond.methodLink "OppositePairs$Reader" 114 yX5_readLetters ∈ WALL := wall_t (tb_2 180 (by decide +kernel)) rfl
theorem w_m_X5_40 : Cond.methodLink "OppositePairs$Reader" 40 yX5_nextToken ∈ WALL := wall_t (tb_2 170 (by decide +kernel)) rfl
theorem w_m_X5_46 : Cond.methodLink "OppositePairs$Reader" 46 yX5_readClause ∈ WALL := wall_t (tb_2 184 (by decide +kernel)) rfl
theorem w_m_X5_52 : Cond.methodLink "OppositePairs$Reader" 52 yX5_startsLiteral ∈ WALL := wall_t (tb_2 188 (by decide +kernel)) rfl
theorem w_m_X5_56 : Cond.methodLink "OppositePairs$Reader" 56 yX5_blame ∈ WALL := wall_t (tb_2 192 (by decide +kernel)) rfl
theorem w_m_X5_69 : Cond.methodLink "OppositePairs$Reader" 69 yX5_readLiteral ∈ WALL := wall_t (tb_2 196 (by decide +kernel)) rfl
theorem w_m_X5_81 : Cond.methodLink "OppositePairs$Reader" 81 yX5_readPart ∈ WALL := wall_t (tb_2 200 (by decide +kernel)) rfl
theorem w_m_X5_93 : Cond.methodLink "OppositePairs$Reader" 93 yX5_variablePart ∈ WALL := wall_t (tb_2 211 (by decide +kernel)) rfl
theorem w_m_X8_44 : Cond.methodLink "OppositePairs$Told" 44 Lib.Math.min.name ∈ WALL := wall_t (tb_2 208 (by decide +kernel)) rfl
theorem w_m_X8_64 : Cond.methodLink "OppositePairs$Told" 64 arraycopyName ∈ WALL := wall_t (tb_2 239 (by decide +kernel)) rfl
theorem w_mcd_min : Cond.code Lib.Math.min.name Lib.Math.min.code 2 (some .int) ∈ WALL := wall_t (tb_2 210 (by decide +kernel)) rfl
theorem w_mst_min : Cond.static Lib.Math.min.name ∈ WALL := wall_t (tb_2 209 (by decide +kernel)) rfl
theorem w_static_X5_isGreat : Cond.static yX5_isGreat ∈ WALL := wall_t (tb_2 178 (by decide +kernel)) rfl
theorem w_static_X5_isSmall : Cond.static yX5_isSmall ∈ WALL := wall_t (tb_2 175 (by decide +kernel)) rfl
theorem ws_sel_X5_blame : Cond.selects "OppositePairs$Reader" yX5_blame yX5_blame ∈ WALL := wall_s 7 (by decide +kernel) rfl
theorem ws_sel_X5_nextToken : Cond.selects "OppositePairs$Reader" yX5_nextToken yX5_nextToken ∈ WALL := wall_s 3 (by decide +kernel) rfl
theorem ws_sel_X5_readClause : Cond.selects "OppositePairs$Reader" yX5_readClause yX5_readClause ∈ WALL := wall_s 5 (by decide +kernel) rfl
theorem ws_sel_X5_readLetters : Cond.selects "OppositePairs$Reader" yX5_readLetters yX5_readLetters ∈ WALL := wall_s 4 (by decide +kernel) rfl
theorem ws_sel_X5_readLiteral : Cond.selects "OppositePairs$Reader" yX5_readLiteral yX5_readLiteral ∈ WALL := wall_s 8 (by decide +kernel) rfl
theorem ws_sel_X5_readPart : Cond.selects "OppositePairs$Reader" yX5_readPart yX5_readPart ∈ WALL := wall_s 9 (by decide +kernel) rfl
theorem ws_sel_X5_startsLiteral : Cond.selects "OppositePairs$Reader" yX5_startsLiteral yX5_startsLiteral ∈ WALL := wall_s 6 (by decide +kernel) rfl
theorem ws_sel_X5_variablePart : Cond.selects "OppositePairs$Reader" yX5_variablePart yX5_variablePart ∈ WALL := wall_s 11 (by decide +kernel) rfl
theorem ws_sel_X8_add : Cond.selects "OppositePairs$Told" yX8_add yX8_add ∈ WALL := wall_s 10 (by decide +kernel) rfl
theorem ws_sel_X8_clear : Cond.selects "OppositePairs$Told" yX8_clear yX8_clear ∈ WALL := wall_s 2 (by decide +kernel) rfl
theorem n_f_X5_100 : Cond.fieldLinkNest "OppositePairs$Reader" 100 "OppositePairs$Told" "terms" "[I" "OppositePairs" ∈ NWL := nwl_t (tb_1 84 (by decide +kernel)) rfl
theorem n_f_X5_103 : Cond.fieldLinkNest "OppositePairs$Reader" 103 "OppositePairs$Told" "name" "[J" "OppositePairs" ∈ NWL := nwl_t (tb_1 76 (by decide +kernel)) rfl
theorem n_f_X5_60 : Cond.fieldLinkNest "OppositePairs$Reader" 60 "OppositePairs$Told" "clauses" "I" "OppositePairs" ∈ NWL := nwl_t (tb_1 104 (by decide +kernel)) rfl
theorem n_f_X5_63 : Cond.fieldLinkNest "OppositePairs$Reader" 63 "OppositePairs$Told" "plus" "[I" "OppositePairs" ∈ NWL := nwl_t (tb_1 98 (by decide +kernel)) rfl
theorem n_f_X5_73 : Cond.fieldLinkNest "OppositePairs$Reader" 73 "OppositePairs$Told" "literals" "[I" "OppositePairs" ∈ NWL := nwl_t (tb_1 91 (by decide +kernel)) rfl
theorem n_f_X5_76 : Cond.fieldLinkNest "OppositePairs$Reader" 76 "OppositePairs$Told" "variables" "[I" "OppositePairs" ∈ NWL := nwl_t (tb_1 95 (by decide +kernel)) rfl
theorem n_f_X5_78 : Cond.fieldLinkNest "OppositePairs$Reader" 78 "OppositePairs$Told" "first" "[I" "OppositePairs" ∈ NWL := nwl_t (tb_1 101 (by decide +kernel)) rfl
theorem n_f_X5_97 : Cond.fieldLinkNest "OppositePairs$Reader" 97 "OppositePairs$Told" "term" "[I" "OppositePairs" ∈ NWL := nwl_t (tb_1 88 (by decide +kernel)) rfl
theorem n_m_X5_29 : Cond.methodLinkNest "OppositePairs$Reader" 29 yX8_clear "OppositePairs" ∈ NWL := nwl_t (tb_2 166 (by decide +kernel)) rfl
theorem n_m_X5_89 : Cond.methodLinkNest "OppositePairs$Reader" 89 yX8_add "OppositePairs" ∈ NWL := nwl_t (tb_2 204 (by decide +kernel)) rfl
theorem dX5_blame_0 : decode cX5_blame 0 = .ok (.aload_n 0, 1) := by decide +kernel
theorem dX5_blame_1 : decode cX5_blame 1 = .ok (.iload_n 1, 1) := by decide +kernel
theorem dX5_blame_10 : decode cX5_blame 10 = .ok (.putfield 15, 3) := by decide +kernel
theorem dX5_blame_13 : decode cX5_blame 13 = .ok (.return_, 1) := by decide +kernel
theorem dX5_blame_2 : decode cX5_blame 2 = .ok (.putfield 34, 3) := by decide +kernel
theorem dX5_blame_5 : decode cX5_blame 5 = .ok (.aload_n 0, 1) := by decide +kernel
theorem dX5_blame_6 : decode cX5_blame 6 = .ok (.aload_n 0, 1) := by decide +kernel
theorem dX5_blame_7 : decode cX5_blame 7 = .ok (.getfield 49, 3) := by decide +kernel
theorem dX5_isGreat_0 : decode cX5_isGreat 0 = .ok (.iload_n 0, 1) := by decide +kernel
theorem dX5_isGreat_1 : decode cX5_isGreat 1 = .ok (.bipush 65, 2) := by decide +kernel
theorem dX5_isGreat_12 : decode cX5_isGreat 12 = .ok (.iconst 1, 1) := by decide +kernel
theorem dX5_isGreat_13 : decode cX5_isGreat 13 = .ok (.goto 4, 3) := by decide +kernel
theorem dX5_isGreat_16 : decode cX5_isGreat 16 = .ok (.iconst 0, 1) := by decide +kernel
theorem dX5_isGreat_17 : decode cX5_isGreat 17 = .ok (.ireturn, 1) := by decide +kernel
theorem dX5_isGreat_3 : decode cX5_isGreat 3 = .ok (.if_icmp .lt 13, 3) := by decide +kernel
theorem dX5_isGreat_6 : decode cX5_isGreat 6 = .ok (.iload_n 0, 1) := by decide +kernel
theorem dX5_isGreat_7 : decode cX5_isGreat 7 = .ok (.bipush 90, 2) := by decide +kernel
theorem dX5_isGreat_9 : decode cX5_isGreat 9 = .ok (.if_icmp .gt 7, 3) := by decide +kernel
theorem dX5_isSmall_0 : decode cX5_isSmall 0 = .ok (.iload_n 0, 1) := by decide +kernel
theorem dX5_isSmall_1 : decode cX5_isSmall 1 = .ok (.bipush 97, 2) := by decide +kernel
theorem dX5_isSmall_12 : decode cX5_isSmall 12 = .ok (.iconst 1, 1) := by decide +kernel
theorem dX5_isSmall_13 : decode cX5_isSmall 13 = .ok (.goto 4, 3) := by decide +kernel
theorem dX5_isSmall_16 : decode cX5_isSmall 16 = .ok (.iconst 0, 1) := by decide +kernel
theorem dX5_isSmall_17 : decode cX5_isSmall 17 = .ok (.ireturn, 1) := by decide +kernel
theorem dX5_isSmall_3 : decode cX5_isSmall 3 = .ok (.if_icmp .lt 13, 3) := by decide +kernel
theorem dX5_isSmall_6 : decode cX5_isSmall 6 = .ok (.iload_n 0, 1) := by decide +kernel
theorem dX5_isSmall_7 : decode cX5_isSmall 7 = .ok (.bipush 122, 2) := by decide +kernel
theorem dX5_isSmall_9 : decode cX5_isSmall 9 = .ok (.if_icmp .gt 7, 3) := by decide +kernel
theorem dX5_nextToken_0 : decode cX5_nextToken 0 = .ok (.aload_n 0, 1) := by decide +kernel
theorem dX5_nextToken_1 : decode cX5_nextToken 1 = .ok (.aload_n 0, 1) := by decide +kernel
theorem dX5_nextToken_102 : decode cX5_nextToken 102 = .ok (.iaload, 1) := by decide +kernel
theorem dX5_nextToken_103 : decode cX5_nextToken 103 = .ok (.invokestatic 111, 3) := by decide +kernel
theorem dX5_nextToken_106 : decode cX5_nextToken 106 = .ok (.ifCond .eq 10, 3) := by decide +kernel
theorem dX5_nextToken_109 : decode cX5_nextToken 109 = .ok (.aload_n 0, 1) := by decide +kernel
theorem dX5_nextToken_110 : decode cX5_nextToken 110 = .ok (.invokevirtual 114, 3) := by decide +kernel
theorem dX5_nextToken_113 : decode cX5_nextToken 113 = .ok (.goto 26, 3) := by decide +kernel
theorem dX5_nextToken_116 : decode cX5_nextToken 116 = .ok (.aload_n 0, 1) := by decide +kernel
theorem dX5_nextToken_117 : decode cX5_nextToken 117 = .ok (.aload_n 0, 1) := by decide +kernel
theorem dX5_nextToken_118 : decode cX5_nextToken 118 = .ok (.getfield 9, 3) := by decide +kernel
theorem dX5_nextToken_12 : decode cX5_nextToken 12 = .ok (.aload_n 0, 1) := by decide +kernel
theorem dX5_nextToken_121 : decode cX5_nextToken 121 = .ok (.aload_n 0, 1) := by decide +kernel
theorem dX5_nextToken_122 : decode cX5_nextToken 122 = .ok (.getfield 49, 3) := by decide +kernel
theorem dX5_nextToken_125 : decode cX5_nextToken 125 = .ok (.iaload, 1) := by decide +kernel
theorem dX5_nextToken_126 : decode cX5_nextToken 126 = .ok (.putfield 43, 3) := by decide +kernel
theorem dX5_nextToken_129 : decode cX5_nextToken 129 = .ok (.aload_n 0, 1) := by decide +kernel
theorem dX5_nextToken_13 : decode cX5_nextToken 13 = .ok (.getfield 22, 3) := by decide +kernel
theorem dX5_nextToken_130 : decode cX5_nextToken 130 = .ok (.aload_n 0, 1) := by decide +kernel
theorem dX5_nextToken_131 : decode cX5_nextToken 131 = .ok (.getfield 49, 3) := by decide +kernel
theorem dX5_nextToken_134 : decode cX5_nextToken 134 = .ok (.iconst 1, 1) := by decide +kernel
theorem dX5_nextToken_135 : decode cX5_nextToken 135 = .ok (.iadd, 1) := by decide +kernel
theorem dX5_nextToken_136 : decode cX5_nextToken 136 = .ok (.putfield 37, 3) := by decide +kernel
theorem dX5_nextToken_139 : decode cX5_nextToken 139 = .ok (.return_, 1) := by decide +kernel
theorem dX5_nextToken_16 : decode cX5_nextToken 16 = .ok (.if_icmp .ge 44, 3) := by decide +kernel
theorem dX5_nextToken_19 : decode cX5_nextToken 19 = .ok (.aload_n 0, 1) := by decide +kernel
theorem dX5_nextToken_2 : decode cX5_nextToken 2 = .ok (.getfield 37, 3) := by decide +kernel
theorem dX5_nextToken_20 : decode cX5_nextToken 20 = .ok (.getfield 9, 3) := by decide +kernel
theorem dX5_nextToken_23 : decode cX5_nextToken 23 = .ok (.aload_n 0, 1) := by decide +kernel
theorem dX5_nextToken_24 : decode cX5_nextToken 24 = .ok (.getfield 49, 3) := by decide +kernel
theorem dX5_nextToken_27 : decode cX5_nextToken 27 = .ok (.iaload, 1) := by decide +kernel
theorem dX5_nextToken_28 : decode cX5_nextToken 28 = .ok (.bipush 32, 2) := by decide +kernel
theorem dX5_nextToken_30 : decode cX5_nextToken 30 = .ok (.if_icmp .eq 17, 3) := by decide +kernel
theorem dX5_nextToken_33 : decode cX5_nextToken 33 = .ok (.aload_n 0, 1) := by decide +kernel
theorem dX5_nextToken_34 : decode cX5_nextToken 34 = .ok (.getfield 9, 3) := by decide +kernel
theorem dX5_nextToken_37 : decode cX5_nextToken 37 = .ok (.aload_n 0, 1) := by decide +kernel
theorem dX5_nextToken_38 : decode cX5_nextToken 38 = .ok (.getfield 49, 3) := by decide +kernel
theorem dX5_nextToken_41 : decode cX5_nextToken 41 = .ok (.iaload, 1) := by decide +kernel
theorem dX5_nextToken_42 : decode cX5_nextToken 42 = .ok (.bipush 10, 2) := by decide +kernel
theorem dX5_nextToken_44 : decode cX5_nextToken 44 = .ok (.if_icmp .ne 16, 3) := by decide +kernel
theorem dX5_nextToken_47 : decode cX5_nextToken 47 = .ok (.aload_n 0, 1) := by decide +kernel
theorem dX5_nextToken_48 : decode cX5_nextToken 48 = .ok (.dup, 1) := by decide +kernel
theorem dX5_nextToken_49 : decode cX5_nextToken 49 = .ok (.getfield 49, 3) := by decide +kernel
theorem dX5_nextToken_5 : decode cX5_nextToken 5 = .ok (.putfield 49, 3) := by decide +kernel
theorem dX5_nextToken_52 : decode cX5_nextToken 52 = .ok (.iconst 1, 1) := by decide +kernel
theorem dX5_nextToken_53 : decode cX5_nextToken 53 = .ok (.iadd, 1) := by decide +kernel
theorem dX5_nextToken_54 : decode cX5_nextToken 54 = .ok (.putfield 49, 3) := by decide +kernel
theorem dX5_nextToken_57 : decode cX5_nextToken 57 = .ok (.goto (-49), 3) := by decide +kernel
theorem dX5_nextToken_60 : decode cX5_nextToken 60 = .ok (.aload_n 0, 1) := by decide +kernel
theorem dX5_nextToken_61 : decode cX5_nextToken 61 = .ok (.getfield 49, 3) := by decide +kernel
theorem dX5_nextToken_64 : decode cX5_nextToken 64 = .ok (.aload_n 0, 1) := by decide +kernel
theorem dX5_nextToken_65 : decode cX5_nextToken 65 = .ok (.getfield 22, 3) := by decide +kernel
theorem dX5_nextToken_68 : decode cX5_nextToken 68 = .ok (.if_icmp .lt 11, 3) := by decide +kernel
theorem dX5_nextToken_71 : decode cX5_nextToken 71 = .ok (.aload_n 0, 1) := by decide +kernel
theorem dX5_nextToken_72 : decode cX5_nextToken 72 = .ok (.iconst (-1), 1) := by decide +kernel
theorem dX5_nextToken_73 : decode cX5_nextToken 73 = .ok (.putfield 43, 3) := by decide +kernel
theorem dX5_nextToken_76 : decode cX5_nextToken 76 = .ok (.goto 63, 3) := by decide +kernel
theorem dX5_nextToken_79 : decode cX5_nextToken 79 = .ok (.aload_n 0, 1) := by decide +kernel
theorem dX5_nextToken_8 : decode cX5_nextToken 8 = .ok (.aload_n 0, 1) := by decide +kernel
theorem dX5_nextToken_80 : decode cX5_nextToken 80 = .ok (.getfield 9, 3) := by decide +kernel
theorem dX5_nextToken_83 : decode cX5_nextToken 83 = .ok (.aload_n 0, 1) := by decide +kernel
theorem dX5_nextToken_84 : decode cX5_nextToken 84 = .ok (.getfield 49, 3) := by decide +kernel
theorem dX5_nextToken_87 : decode cX5_nextToken 87 = .ok (.iaload, 1) := by decide +kernel
theorem dX5_nextToken_88 : decode cX5_nextToken 88 = .ok (.invokestatic 107, 3) := by decide +kernel
theorem dX5_nextToken_9 : decode cX5_nextToken 9 = .ok (.getfield 49, 3) := by decide +kernel
theorem dX5_nextToken_91 : decode cX5_nextToken 91 = .ok (.ifCond .ne 18, 3) := by decide +kernel
theorem dX5_nextToken_94 : decode cX5_nextToken 94 = .ok (.aload_n 0, 1) := by decide +kernel
theorem dX5_nextToken_95 : decode cX5_nextToken 95 = .ok (.getfield 9, 3) := by decide +kernel
theorem dX5_nextToken_98 : decode cX5_nextToken 98 = .ok (.aload_n 0, 1) := by decide +kernel
theorem dX5_nextToken_99 : decode cX5_nextToken 99 = .ok (.getfield 49, 3) := by decide +kernel
theorem dX5_readClause_0 : decode cX5_readClause 0 = .ok (.aload_n 0, 1) := by decide +kernel
theorem dX5_readClause_1 : decode cX5_readClause 1 = .ok (.invokevirtual 52, 3) := by decide +kernel
theorem dX5_readClause_100 : decode cX5_readClause 100 = .ok (.aload_n 0, 1) := by decide +kernel
theorem dX5_readClause_101 : decode cX5_readClause 101 = .ok (.invokevirtual 40, 3) := by decide +kernel
theorem dX5_readClause_104 : decode cX5_readClause 104 = .ok (.iinc 2 1, 3) := by decide +kernel
theorem dX5_readClause_107 : decode cX5_readClause 107 = .ok (.goto (-51), 3) := by decide +kernel
theorem dX5_readClause_110 : decode cX5_readClause 110 = .ok (.aload_n 0, 1) := by decide +kernel
theorem dX5_readClause_111 : decode cX5_readClause 111 = .ok (.getfield 43, 3) := by decide +kernel
theorem dX5_readClause_114 : decode cX5_readClause 114 = .ok (.bipush 46, 2) := by decide +kernel
theorem dX5_readClause_116 : decode cX5_readClause 116 = .ok (.if_icmp .eq 9, 3) := by decide +kernel
theorem dX5_readClause_119 : decode cX5_readClause 119 = .ok (.aload_n 0, 1) := by decide +kernel
theorem dX5_readClause_12 : decode cX5_readClause 12 = .ok (.return_, 1) := by decide +kernel
theorem dX5_readClause_120 : decode cX5_readClause 120 = .ok (.iconst 1, 1) := by decide +kernel
theorem dX5_readClause_121 : decode cX5_readClause 121 = .ok (.invokevirtual 56, 3) := by decide +kernel
theorem dX5_readClause_124 : decode cX5_readClause 124 = .ok (.return_, 1) := by decide +kernel
theorem dX5_readClause_125 : decode cX5_readClause 125 = .ok (.aload_n 0, 1) := by decide +kernel
theorem dX5_readClause_126 : decode cX5_readClause 126 = .ok (.getfield 25, 3) := by decide +kernel
theorem dX5_readClause_129 : decode cX5_readClause 129 = .ok (.getfield 76, 3) := by decide +kernel
theorem dX5_readClause_13 : decode cX5_readClause 13 = .ok (.aload_n 0, 1) := by decide +kernel
theorem dX5_readClause_132 : decode cX5_readClause 132 = .ok (.iload_n 1, 1) := by decide +kernel
theorem dX5_readClause_133 : decode cX5_readClause 133 = .ok (.aload_n 0, 1) := by decide +kernel
theorem dX5_readClause_134 : decode cX5_readClause 134 = .ok (.getfield 66, 3) := by decide +kernel
theorem dX5_readClause_137 : decode cX5_readClause 137 = .ok (.iastore, 1) := by decide +kernel
theorem dX5_readClause_138 : decode cX5_readClause 138 = .ok (.aload_n 0, 1) := by decide +kernel
theorem dX5_readClause_139 : decode cX5_readClause 139 = .ok (.getfield 25, 3) := by decide +kernel
theorem dX5_readClause_14 : decode cX5_readClause 14 = .ok (.getfield 25, 3) := by decide +kernel
theorem dX5_readClause_142 : decode cX5_readClause 142 = .ok (.dup, 1) := by decide +kernel
theorem dX5_readClause_143 : decode cX5_readClause 143 = .ok (.getfield 60, 3) := by decide +kernel
theorem dX5_readClause_146 : decode cX5_readClause 146 = .ok (.iconst 1, 1) := by decide +kernel
theorem dX5_readClause_147 : decode cX5_readClause 147 = .ok (.iadd, 1) := by decide +kernel
theorem dX5_readClause_148 : decode cX5_readClause 148 = .ok (.putfield 60, 3) := by decide +kernel
theorem dX5_readClause_151 : decode cX5_readClause 151 = .ok (.aload_n 0, 1) := by decide +kernel
theorem dX5_readClause_152 : decode cX5_readClause 152 = .ok (.invokevirtual 40, 3) := by decide +kernel
theorem dX5_readClause_155 : decode cX5_readClause 155 = .ok (.return_, 1) := by decide +kernel
theorem dX5_readClause_17 : decode cX5_readClause 17 = .ok (.getfield 60, 3) := by decide +kernel
theorem dX5_readClause_20 : decode cX5_readClause 20 = .ok (.bipush 16, 2) := by decide +kernel
theorem dX5_readClause_22 : decode cX5_readClause 22 = .ok (.if_icmp .ne 9, 3) := by decide +kernel
theorem dX5_readClause_25 : decode cX5_readClause 25 = .ok (.aload_n 0, 1) := by decide +kernel
theorem dX5_readClause_26 : decode cX5_readClause 26 = .ok (.iconst 2, 1) := by decide +kernel
theorem dX5_readClause_27 : decode cX5_readClause 27 = .ok (.invokevirtual 56, 3) := by decide +kernel
theorem dX5_readClause_30 : decode cX5_readClause 30 = .ok (.return_, 1) := by decide +kernel
theorem dX5_readClause_31 : decode cX5_readClause 31 = .ok (.aload_n 0, 1) := by decide +kernel
theorem dX5_readClause_32 : decode cX5_readClause 32 = .ok (.getfield 25, 3) := by decide +kernel
theorem dX5_readClause_35 : decode cX5_readClause 35 = .ok (.getfield 60, 3) := by decide +kernel
theorem dX5_readClause_38 : decode cX5_readClause 38 = .ok (.istore_n 1, 1) := by decide +kernel
theorem dX5_readClause_39 : decode cX5_readClause 39 = .ok (.aload_n 0, 1) := by decide +kernel
theorem dX5_readClause_4 : decode cX5_readClause 4 = .ok (.ifCond .ne 9, 3) := by decide +kernel
theorem dX5_readClause_40 : decode cX5_readClause 40 = .ok (.getfield 25, 3) := by decide +kernel
theorem dX5_readClause_43 : decode cX5_readClause 43 = .ok (.getfield 63, 3) := by decide +kernel
theorem dX5_readClause_46 : decode cX5_readClause 46 = .ok (.iload_n 1, 1) := by decide +kernel
theorem dX5_readClause_47 : decode cX5_readClause 47 = .ok (.iconst 0, 1) := by decide +kernel
theorem dX5_readClause_48 : decode cX5_readClause 48 = .ok (.iastore, 1) := by decide +kernel
theorem dX5_readClause_49 : decode cX5_readClause 49 = .ok (.aload_n 0, 1) := by decide +kernel
theorem dX5_readClause_50 : decode cX5_readClause 50 = .ok (.iconst 0, 1) := by decide +kernel
theorem dX5_readClause_51 : decode cX5_readClause 51 = .ok (.putfield 66, 3) := by decide +kernel
theorem dX5_readClause_54 : decode cX5_readClause 54 = .ok (.iconst 0, 1) := by decide +kernel
theorem dX5_readClause_55 : decode cX5_readClause 55 = .ok (.istore_n 2, 1) := by decide +kernel
theorem dX5_readClause_56 : decode cX5_readClause 56 = .ok (.iload_n 2, 1) := by decide +kernel
theorem dX5_readClause_57 : decode cX5_readClause 57 = .ok (.bipush 6, 2) := by decide +kernel
theorem dX5_readClause_59 : decode cX5_readClause 59 = .ok (.if_icmp .gt 51, 3) := by decide +kernel
theorem dX5_readClause_62 : decode cX5_readClause 62 = .ok (.aload_n 0, 1) := by decide +kernel
theorem dX5_readClause_63 : decode cX5_readClause 63 = .ok (.iload_n 1, 1) := by decide +kernel
theorem dX5_readClause_64 : decode cX5_readClause 64 = .ok (.iload_n 2, 1) := by decide +kernel
theorem dX5_readClause_65 : decode cX5_readClause 65 = .ok (.invokevirtual 69, 3) := by decide +kernel
theorem dX5_readClause_68 : decode cX5_readClause 68 = .ok (.aload_n 0, 1) := by decide +kernel
theorem dX5_readClause_69 : decode cX5_readClause 69 = .ok (.getfield 34, 3) := by decide +kernel
theorem dX5_readClause_7 : decode cX5_readClause 7 = .ok (.aload_n 0, 1) := by decide +kernel
theorem dX5_readClause_72 : decode cX5_readClause 72 = .ok (.ifCond .eq 4, 3) := by decide +kernel
theorem dX5_readClause_75 : decode cX5_readClause 75 = .ok (.return_, 1) := by decide +kernel
theorem dX5_readClause_76 : decode cX5_readClause 76 = .ok (.aload_n 0, 1) := by decide +kernel
theorem dX5_readClause_77 : decode cX5_readClause 77 = .ok (.getfield 25, 3) := by decide +kernel
theorem dX5_readClause_8 : decode cX5_readClause 8 = .ok (.iconst 1, 1) := by decide +kernel
theorem dX5_readClause_80 : decode cX5_readClause 80 = .ok (.getfield 73, 3) := by decide +kernel
theorem dX5_readClause_83 : decode cX5_readClause 83 = .ok (.iload_n 1, 1) := by decide +kernel
theorem dX5_readClause_84 : decode cX5_readClause 84 = .ok (.iload_n 2, 1) := by decide +kernel
theorem dX5_readClause_85 : decode cX5_readClause 85 = .ok (.iconst 1, 1) := by decide +kernel
theorem dX5_readClause_86 : decode cX5_readClause 86 = .ok (.iadd, 1) := by decide +kernel
theorem dX5_readClause_87 : decode cX5_readClause 87 = .ok (.iastore, 1) := by decide +kernel
theorem dX5_readClause_88 : decode cX5_readClause 88 = .ok (.aload_n 0, 1) := by decide +kernel
theorem dX5_readClause_89 : decode cX5_readClause 89 = .ok (.getfield 43, 3) := by decide +kernel
theorem dX5_readClause_9 : decode cX5_readClause 9 = .ok (.invokevirtual 56, 3) := by decide +kernel
theorem dX5_readClause_92 : decode cX5_readClause 92 = .ok (.bipush 124, 2) := by decide +kernel
theorem dX5_readClause_94 : decode cX5_readClause 94 = .ok (.if_icmp .eq 6, 3) := by decide +kernel
theorem dX5_readClause_97 : decode cX5_readClause 97 = .ok (.goto 13, 3) := by decide +kernel
theorem dX5_readLetters_0 : decode cX5_readLetters 0 = .ok (.iconst 0, 1) := by decide +kernel
theorem dX5_readLetters_1 : decode cX5_readLetters 1 = .ok (.istore_n 1, 1) := by decide +kernel
theorem dX5_readLetters_10 : decode cX5_readLetters 10 = .ok (.aload_n 0, 1) := by decide +kernel
theorem dX5_readLetters_102 : decode cX5_readLetters 102 = .ok (.goto 20, 3) := by decide +kernel
theorem dX5_readLetters_105 : decode cX5_readLetters 105 = .ok (.iinc 2 1, 3) := by decide +kernel
theorem dX5_readLetters_108 : decode cX5_readLetters 108 = .ok (.aload_n 0, 1) := by decide +kernel
theorem dX5_readLetters_109 : decode cX5_readLetters 109 = .ok (.aload_n 0, 1) := by decide +kernel
theorem dX5_readLetters_11 : decode cX5_readLetters 11 = .ok (.getfield 49, 3) := by decide +kernel
theorem dX5_readLetters_110 : decode cX5_readLetters 110 = .ok (.getfield 9, 3) := by decide +kernel
theorem dX5_readLetters_113 : decode cX5_readLetters 113 = .ok (.aload_n 0, 1) := by decide +kernel
theorem dX5_readLetters_114 : decode cX5_readLetters 114 = .ok (.getfield 37, 3) := by decide +kernel
theorem dX5_readLetters_117 : decode cX5_readLetters 117 = .ok (.iaload, 1) := by decide +kernel
theorem dX5_readLetters_118 : decode cX5_readLetters 118 = .ok (.i2l, 1) := by decide +kernel
theorem dX5_readLetters_119 : decode cX5_readLetters 119 = .ok (.putfield 85, 3) := by decide +kernel
theorem dX5_readLetters_122 : decode cX5_readLetters 122 = .ok (.aload_n 0, 1) := by decide +kernel
theorem dX5_readLetters_123 : decode cX5_readLetters 123 = .ok (.dup, 1) := by decide +kernel
theorem dX5_readLetters_124 : decode cX5_readLetters 124 = .ok (.getfield 37, 3) := by decide +kernel
theorem dX5_readLetters_127 : decode cX5_readLetters 127 = .ok (.iconst 1, 1) := by decide +kernel
theorem dX5_readLetters_128 : decode cX5_readLetters 128 = .ok (.iadd, 1) := by decide +kernel
theorem dX5_readLetters_129 : decode cX5_readLetters 129 = .ok (.putfield 37, 3) := by decide +kernel
theorem dX5_readLetters_132 : decode cX5_readLetters 132 = .ok (.goto (-115), 3) := by decide +kernel
theorem dX5_readLetters_135 : decode cX5_readLetters 135 = .ok (.iload_n 2, 1) := by decide +kernel
theorem dX5_readLetters_136 : decode cX5_readLetters 136 = .ok (.ifCond .ne 19, 3) := by decide +kernel
theorem dX5_readLetters_139 : decode cX5_readLetters 139 = .ok (.iload_n 1, 1) := by decide +kernel
theorem dX5_readLetters_14 : decode cX5_readLetters 14 = .ok (.putfield 37, 3) := by decide +kernel
theorem dX5_readLetters_140 : decode cX5_readLetters 140 = .ok (.bipush 8, 2) := by decide +kernel
theorem dX5_readLetters_142 : decode cX5_readLetters 142 = .ok (.if_icmp .gt 13, 3) := by decide +kernel
theorem dX5_readLetters_145 : decode cX5_readLetters 145 = .ok (.aload_n 0, 1) := by decide +kernel
theorem dX5_readLetters_146 : decode cX5_readLetters 146 = .ok (.sipush 256, 3) := by decide +kernel
theorem dX5_readLetters_149 : decode cX5_readLetters 149 = .ok (.putfield 43, 3) := by decide +kernel
theorem dX5_readLetters_152 : decode cX5_readLetters 152 = .ok (.goto 25, 3) := by decide +kernel
theorem dX5_readLetters_155 : decode cX5_readLetters 155 = .ok (.aload_n 0, 1) := by decide +kernel
theorem dX5_readLetters_156 : decode cX5_readLetters 156 = .ok (.iload_n 2, 1) := by decide +kernel
theorem dX5_readLetters_157 : decode cX5_readLetters 157 = .ok (.iconst 1, 1) := by decide +kernel
theorem dX5_readLetters_158 : decode cX5_readLetters 158 = .ok (.if_icmp .ne 13, 3) := by decide +kernel
theorem dX5_readLetters_161 : decode cX5_readLetters 161 = .ok (.iload_n 1, 1) := by decide +kernel
theorem dX5_readLetters_162 : decode cX5_readLetters 162 = .ok (.ifCond .ne 9, 3) := by decide +kernel
theorem dX5_readLetters_165 : decode cX5_readLetters 165 = .ok (.sipush 257, 3) := by decide +kernel
theorem dX5_readLetters_168 : decode cX5_readLetters 168 = .ok (.goto 6, 3) := by decide +kernel
theorem dX5_readLetters_17 : decode cX5_readLetters 17 = .ok (.aload_n 0, 1) := by decide +kernel
theorem dX5_readLetters_171 : decode cX5_readLetters 171 = .ok (.sipush 258, 3) := by decide +kernel
theorem dX5_readLetters_174 : decode cX5_readLetters 174 = .ok (.putfield 43, 3) := by decide +kernel
theorem dX5_readLetters_177 : decode cX5_readLetters 177 = .ok (.return_, 1) := by decide +kernel
theorem dX5_readLetters_18 : decode cX5_readLetters 18 = .ok (.getfield 37, 3) := by decide +kernel
theorem dX5_readLetters_2 : decode cX5_readLetters 2 = .ok (.iconst 0, 1) := by decide +kernel
theorem dX5_readLetters_21 : decode cX5_readLetters 21 = .ok (.aload_n 0, 1) := by decide +kernel
theorem dX5_readLetters_22 : decode cX5_readLetters 22 = .ok (.getfield 22, 3) := by decide +kernel
theorem dX5_readLetters_25 : decode cX5_readLetters 25 = .ok (.if_icmp .ge 110, 3) := by decide +kernel
theorem dX5_readLetters_28 : decode cX5_readLetters 28 = .ok (.aload_n 0, 1) := by decide +kernel
theorem dX5_readLetters_29 : decode cX5_readLetters 29 = .ok (.getfield 9, 3) := by decide +kernel
theorem dX5_readLetters_3 : decode cX5_readLetters 3 = .ok (.istore_n 2, 1) := by decide +kernel
theorem dX5_readLetters_32 : decode cX5_readLetters 32 = .ok (.aload_n 0, 1) := by decide +kernel
theorem dX5_readLetters_33 : decode cX5_readLetters 33 = .ok (.getfield 37, 3) := by decide +kernel
theorem dX5_readLetters_36 : decode cX5_readLetters 36 = .ok (.iaload, 1) := by decide +kernel
theorem dX5_readLetters_37 : decode cX5_readLetters 37 = .ok (.invokestatic 107, 3) := by decide +kernel
theorem dX5_readLetters_4 : decode cX5_readLetters 4 = .ok (.aload_n 0, 1) := by decide +kernel
theorem dX5_readLetters_40 : decode cX5_readLetters 40 = .ok (.ifCond .ne 18, 3) := by decide +kernel
theorem dX5_readLetters_43 : decode cX5_readLetters 43 = .ok (.aload_n 0, 1) := by decide +kernel
theorem dX5_readLetters_44 : decode cX5_readLetters 44 = .ok (.getfield 9, 3) := by decide +kernel
theorem dX5_readLetters_47 : decode cX5_readLetters 47 = .ok (.aload_n 0, 1) := by decide +kernel
theorem dX5_readLetters_48 : decode cX5_readLetters 48 = .ok (.getfield 37, 3) := by decide +kernel
theorem dX5_readLetters_5 : decode cX5_readLetters 5 = .ok (.lconst 0, 1) := by decide +kernel
theorem dX5_readLetters_51 : decode cX5_readLetters 51 = .ok (.iaload, 1) := by decide +kernel
theorem dX5_readLetters_52 : decode cX5_readLetters 52 = .ok (.invokestatic 111, 3) := by decide +kernel
theorem dX5_readLetters_55 : decode cX5_readLetters 55 = .ok (.ifCond .eq 80, 3) := by decide +kernel
theorem dX5_readLetters_58 : decode cX5_readLetters 58 = .ok (.aload_n 0, 1) := by decide +kernel
theorem dX5_readLetters_59 : decode cX5_readLetters 59 = .ok (.getfield 9, 3) := by decide +kernel
theorem dX5_readLetters_6 : decode cX5_readLetters 6 = .ok (.putfield 85, 3) := by decide +kernel
theorem dX5_readLetters_62 : decode cX5_readLetters 62 = .ok (.aload_n 0, 1) := by decide +kernel
theorem dX5_readLetters_63 : decode cX5_readLetters 63 = .ok (.getfield 37, 3) := by decide +kernel
theorem dX5_readLetters_66 : decode cX5_readLetters 66 = .ok (.iaload, 1) := by decide +kernel
theorem dX5_readLetters_67 : decode cX5_readLetters 67 = .ok (.invokestatic 107, 3) := by decide +kernel
theorem dX5_readLetters_70 : decode cX5_readLetters 70 = .ok (.ifCond .eq 35, 3) := by decide +kernel
theorem dX5_readLetters_73 : decode cX5_readLetters 73 = .ok (.iinc 1 1, 3) := by decide +kernel
theorem dX5_readLetters_76 : decode cX5_readLetters 76 = .ok (.aload_n 0, 1) := by decide +kernel
theorem dX5_readLetters_77 : decode cX5_readLetters 77 = .ok (.aload_n 0, 1) := by decide +kernel
theorem dX5_readLetters_78 : decode cX5_readLetters 78 = .ok (.getfield 85, 3) := by decide +kernel
theorem dX5_readLetters_81 : decode cX5_readLetters 81 = .ok (.iconst 5, 1) := by decide +kernel
theorem dX5_readLetters_82 : decode cX5_readLetters 82 = .ok (.lshl, 1) := by decide +kernel
theorem dX5_readLetters_83 : decode cX5_readLetters 83 = .ok (.aload_n 0, 1) := by decide +kernel
theorem dX5_readLetters_84 : decode cX5_readLetters 84 = .ok (.getfield 9, 3) := by decide +kernel
theorem dX5_readLetters_87 : decode cX5_readLetters 87 = .ok (.aload_n 0, 1) := by decide +kernel
theorem dX5_readLetters_88 : decode cX5_readLetters 88 = .ok (.getfield 37, 3) := by decide +kernel
theorem dX5_readLetters_9 : decode cX5_readLetters 9 = .ok (.aload_n 0, 1) := by decide +kernel
theorem dX5_readLetters_91 : decode cX5_readLetters 91 = .ok (.iaload, 1) := by decide +kernel
theorem dX5_readLetters_92 : decode cX5_readLetters 92 = .ok (.bipush 97, 2) := by decide +kernel
theorem dX5_readLetters_94 : decode cX5_readLetters 94 = .ok (.isub, 1) := by decide +kernel
theorem dX5_readLetters_95 : decode cX5_readLetters 95 = .ok (.iconst 1, 1) := by decide +kernel
theorem dX5_readLetters_96 : decode cX5_readLetters 96 = .ok (.iadd, 1) := by decide +kernel
theorem dX5_readLetters_97 : decode cX5_readLetters 97 = .ok (.i2l, 1) := by decide +kernel
theorem dX5_readLetters_98 : decode cX5_readLetters 98 = .ok (.lor, 1) := by decide +kernel
theorem dX5_readLetters_99 : decode cX5_readLetters 99 = .ok (.putfield 85, 3) := by decide +kernel
theorem dX5_readLiteral_0 : decode cX5_readLiteral 0 = .ok (.aload_n 0, 1) := by decide +kernel
theorem dX5_readLiteral_1 : decode cX5_readLiteral 1 = .ok (.invokevirtual 52, 3) := by decide +kernel
theorem dX5_readLiteral_12 : decode cX5_readLiteral 12 = .ok (.return_, 1) := by decide +kernel
theorem dX5_readLiteral_13 : decode cX5_readLiteral 13 = .ok (.iload_n 2, 1) := by decide +kernel
theorem dX5_readLiteral_14 : decode cX5_readLiteral 14 = .ok (.bipush 6, 2) := by decide +kernel
theorem dX5_readLiteral_16 : decode cX5_readLiteral 16 = .ok (.if_icmp .ne 9, 3) := by decide +kernel
theorem dX5_readLiteral_19 : decode cX5_readLiteral 19 = .ok (.aload_n 0, 1) := by decide +kernel
theorem dX5_readLiteral_20 : decode cX5_readLiteral 20 = .ok (.iconst 2, 1) := by decide +kernel
theorem dX5_readLiteral_21 : decode cX5_readLiteral 21 = .ok (.invokevirtual 56, 3) := by decide +kernel
theorem dX5_readLiteral_24 : decode cX5_readLiteral 24 = .ok (.return_, 1) := by decide +kernel
theorem dX5_readLiteral_25 : decode cX5_readLiteral 25 = .ok (.aload_n 0, 1) := by decide +kernel
theorem dX5_readLiteral_26 : decode cX5_readLiteral 26 = .ok (.getfield 43, 3) := by decide +kernel
theorem dX5_readLiteral_29 : decode cX5_readLiteral 29 = .ok (.bipush 45, 2) := by decide +kernel
theorem dX5_readLiteral_31 : decode cX5_readLiteral 31 = .ok (.if_icmp .ne 10, 3) := by decide +kernel
theorem dX5_readLiteral_34 : decode cX5_readLiteral 34 = .ok (.aload_n 0, 1) := by decide +kernel
theorem dX5_readLiteral_35 : decode cX5_readLiteral 35 = .ok (.invokevirtual 40, 3) := by decide +kernel
theorem dX5_readLiteral_38 : decode cX5_readLiteral 38 = .ok (.goto 18, 3) := by decide +kernel
theorem dX5_readLiteral_4 : decode cX5_readLiteral 4 = .ok (.ifCond .ne 9, 3) := by decide +kernel
theorem dX5_readLiteral_41 : decode cX5_readLiteral 41 = .ok (.aload_n 0, 1) := by decide +kernel
theorem dX5_readLiteral_42 : decode cX5_readLiteral 42 = .ok (.getfield 25, 3) := by decide +kernel
theorem dX5_readLiteral_45 : decode cX5_readLiteral 45 = .ok (.getfield 63, 3) := by decide +kernel
theorem dX5_readLiteral_48 : decode cX5_readLiteral 48 = .ok (.iload_n 1, 1) := by decide +kernel
theorem dX5_readLiteral_49 : decode cX5_readLiteral 49 = .ok (.dup2, 1) := by decide +kernel
theorem dX5_readLiteral_50 : decode cX5_readLiteral 50 = .ok (.iaload, 1) := by decide +kernel
theorem dX5_readLiteral_51 : decode cX5_readLiteral 51 = .ok (.iconst 1, 1) := by decide +kernel
theorem dX5_readLiteral_52 : decode cX5_readLiteral 52 = .ok (.iload_n 2, 1) := by decide +kernel
theorem dX5_readLiteral_53 : decode cX5_readLiteral 53 = .ok (.ishl, 1) := by decide +kernel
theorem dX5_readLiteral_54 : decode cX5_readLiteral 54 = .ok (.ior, 1) := by decide +kernel
theorem dX5_readLiteral_55 : decode cX5_readLiteral 55 = .ok (.iastore, 1) := by decide +kernel
theorem dX5_readLiteral_56 : decode cX5_readLiteral 56 = .ok (.aload_n 0, 1) := by decide +kernel
theorem dX5_readLiteral_57 : decode cX5_readLiteral 57 = .ok (.getfield 43, 3) := by decide +kernel
theorem dX5_readLiteral_60 : decode cX5_readLiteral 60 = .ok (.sipush 256, 3) := by decide +kernel
theorem dX5_readLiteral_63 : decode cX5_readLiteral 63 = .ok (.if_icmp .eq 9, 3) := by decide +kernel
theorem dX5_readLiteral_66 : decode cX5_readLiteral 66 = .ok (.aload_n 0, 1) := by decide +kernel
theorem dX5_readLiteral_67 : decode cX5_readLiteral 67 = .ok (.iconst 1, 1) := by decide +kernel
theorem dX5_readLiteral_68 : decode cX5_readLiteral 68 = .ok (.invokevirtual 56, 3) := by decide +kernel
theorem dX5_readLiteral_7 : decode cX5_readLiteral 7 = .ok (.aload_n 0, 1) := by decide +kernel
theorem dX5_readLiteral_71 : decode cX5_readLiteral 71 = .ok (.return_, 1) := by decide +kernel
theorem dX5_readLiteral_72 : decode cX5_readLiteral 72 = .ok (.aload_n 0, 1) := by decide +kernel
theorem dX5_readLiteral_73 : decode cX5_readLiteral 73 = .ok (.getfield 25, 3) := by decide +kernel
theorem dX5_readLiteral_76 : decode cX5_readLiteral 76 = .ok (.getfield 78, 3) := by decide +kernel
theorem dX5_readLiteral_79 : decode cX5_readLiteral 79 = .ok (.iload_n 1, 1) := by decide +kernel
theorem dX5_readLiteral_8 : decode cX5_readLiteral 8 = .ok (.iconst 1, 1) := by decide +kernel
theorem dX5_readLiteral_80 : decode cX5_readLiteral 80 = .ok (.bipush 6, 2) := by decide +kernel
theorem dX5_readLiteral_82 : decode cX5_readLiteral 82 = .ok (.imul, 1) := by decide +kernel
theorem dX5_readLiteral_83 : decode cX5_readLiteral 83 = .ok (.iload_n 2, 1) := by decide +kernel
theorem dX5_readLiteral_84 : decode cX5_readLiteral 84 = .ok (.iadd, 1) := by decide +kernel
theorem dX5_readLiteral_85 : decode cX5_readLiteral 85 = .ok (.aload_n 0, 1) := by decide +kernel
theorem dX5_readLiteral_86 : decode cX5_readLiteral 86 = .ok (.iconst 0, 1) := by decide +kernel
theorem dX5_readLiteral_87 : decode cX5_readLiteral 87 = .ok (.invokevirtual 81, 3) := by decide +kernel
theorem dX5_readLiteral_9 : decode cX5_readLiteral 9 = .ok (.invokevirtual 56, 3) := by decide +kernel
theorem dX5_readLiteral_90 : decode cX5_readLiteral 90 = .ok (.iastore, 1) := by decide +kernel
theorem dX5_readLiteral_91 : decode cX5_readLiteral 91 = .ok (.return_, 1) := by decide +kernel
theorem dX5_readPart_0 : decode cX5_readPart 0 = .ok (.aload_n 0, 1) := by decide +kernel
theorem dX5_readPart_1 : decode cX5_readPart 1 = .ok (.getfield 43, 3) := by decide +kernel
theorem dX5_readPart_10 : decode cX5_readPart 10 = .ok (.iconst 1, 1) := by decide +kernel
theorem dX5_readPart_101 : decode cX5_readPart 101 = .ok (.if_icmp .eq 21, 3) := by decide +kernel
theorem dX5_readPart_104 : decode cX5_readPart 104 = .ok (.aload_n 0, 1) := by decide +kernel
theorem dX5_readPart_105 : decode cX5_readPart 105 = .ok (.getfield 43, 3) := by decide +kernel
theorem dX5_readPart_108 : decode cX5_readPart 108 = .ok (.sipush 257, 3) := by decide +kernel
theorem dX5_readPart_11 : decode cX5_readPart 11 = .ok (.goto 4, 3) := by decide +kernel
theorem dX5_readPart_111 : decode cX5_readPart 111 = .ok (.if_icmp .eq 11, 3) := by decide +kernel
theorem dX5_readPart_114 : decode cX5_readPart 114 = .ok (.aload_n 0, 1) := by decide +kernel
theorem dX5_readPart_115 : decode cX5_readPart 115 = .ok (.iconst 1, 1) := by decide +kernel
theorem dX5_readPart_116 : decode cX5_readPart 116 = .ok (.invokevirtual 56, 3) := by decide +kernel
theorem dX5_readPart_119 : decode cX5_readPart 119 = .ok (.goto 51, 3) := by decide +kernel
theorem dX5_readPart_122 : decode cX5_readPart 122 = .ok (.iload 4, 2) := by decide +kernel
theorem dX5_readPart_124 : decode cX5_readPart 124 = .ok (.iconst 3, 1) := by decide +kernel
theorem dX5_readPart_125 : decode cX5_readPart 125 = .ok (.if_icmp .ne 11, 3) := by decide +kernel
theorem dX5_readPart_128 : decode cX5_readPart 128 = .ok (.aload_n 0, 1) := by decide +kernel
theorem dX5_readPart_129 : decode cX5_readPart 129 = .ok (.iconst 2, 1) := by decide +kernel
theorem dX5_readPart_130 : decode cX5_readPart 130 = .ok (.invokevirtual 56, 3) := by decide +kernel
theorem dX5_readPart_133 : decode cX5_readPart 133 = .ok (.goto 37, 3) := by decide +kernel
theorem dX5_readPart_136 : decode cX5_readPart 136 = .ok (.aload_n 0, 1) := by decide +kernel
theorem dX5_readPart_137 : decode cX5_readPart 137 = .ok (.getfield 25, 3) := by decide +kernel
theorem dX5_readPart_14 : decode cX5_readPart 14 = .ok (.iconst 0, 1) := by decide +kernel
theorem dX5_readPart_140 : decode cX5_readPart 140 = .ok (.getfield 97, 3) := by decide +kernel
theorem dX5_readPart_143 : decode cX5_readPart 143 = .ok (.iload_n 3, 1) := by decide +kernel
theorem dX5_readPart_144 : decode cX5_readPart 144 = .ok (.iconst 3, 1) := by decide +kernel
theorem dX5_readPart_145 : decode cX5_readPart 145 = .ok (.imul, 1) := by decide +kernel
theorem dX5_readPart_146 : decode cX5_readPart 146 = .ok (.iload 4, 2) := by decide +kernel
theorem dX5_readPart_148 : decode cX5_readPart 148 = .ok (.iadd, 1) := by decide +kernel
theorem dX5_readPart_149 : decode cX5_readPart 149 = .ok (.aload_n 0, 1) := by decide +kernel
theorem dX5_readPart_15 : decode cX5_readPart 15 = .ok (.istore_n 2, 1) := by decide +kernel
theorem dX5_readPart_150 : decode cX5_readPart 150 = .ok (.iload_n 1, 1) := by decide +kernel
theorem dX5_readPart_151 : decode cX5_readPart 151 = .ok (.iconst 1, 1) := by decide +kernel
theorem dX5_readPart_152 : decode cX5_readPart 152 = .ok (.iadd, 1) := by decide +kernel
theorem dX5_readPart_153 : decode cX5_readPart 153 = .ok (.invokevirtual 81, 3) := by decide +kernel
theorem dX5_readPart_156 : decode cX5_readPart 156 = .ok (.iastore, 1) := by decide +kernel
theorem dX5_readPart_157 : decode cX5_readPart 157 = .ok (.aload_n 0, 1) := by decide +kernel
theorem dX5_readPart_158 : decode cX5_readPart 158 = .ok (.getfield 25, 3) := by decide +kernel
theorem dX5_readPart_16 : decode cX5_readPart 16 = .ok (.iload_n 2, 1) := by decide +kernel
theorem dX5_readPart_161 : decode cX5_readPart 161 = .ok (.getfield 100, 3) := by decide +kernel
theorem dX5_readPart_164 : decode cX5_readPart 164 = .ok (.iload_n 3, 1) := by decide +kernel
theorem dX5_readPart_165 : decode cX5_readPart 165 = .ok (.iload 4, 2) := by decide +kernel
theorem dX5_readPart_167 : decode cX5_readPart 167 = .ok (.iconst 1, 1) := by decide +kernel
theorem dX5_readPart_168 : decode cX5_readPart 168 = .ok (.iadd, 1) := by decide +kernel
theorem dX5_readPart_169 : decode cX5_readPart 169 = .ok (.iastore, 1) := by decide +kernel
theorem dX5_readPart_17 : decode cX5_readPart 17 = .ok (.ifCond .eq 18, 3) := by decide +kernel
theorem dX5_readPart_170 : decode cX5_readPart 170 = .ok (.aload_n 0, 1) := by decide +kernel
theorem dX5_readPart_171 : decode cX5_readPart 171 = .ok (.getfield 34, 3) := by decide +kernel
theorem dX5_readPart_174 : decode cX5_readPart 174 = .ok (.ifCond .eq 5, 3) := by decide +kernel
theorem dX5_readPart_177 : decode cX5_readPart 177 = .ok (.iload_n 3, 1) := by decide +kernel
theorem dX5_readPart_178 : decode cX5_readPart 178 = .ok (.ireturn, 1) := by decide +kernel
theorem dX5_readPart_179 : decode cX5_readPart 179 = .ok (.aload_n 0, 1) := by decide +kernel
theorem dX5_readPart_180 : decode cX5_readPart 180 = .ok (.getfield 43, 3) := by decide +kernel
theorem dX5_readPart_183 : decode cX5_readPart 183 = .ok (.bipush 44, 2) := by decide +kernel
theorem dX5_readPart_185 : decode cX5_readPart 185 = .ok (.if_icmp .eq 6, 3) := by decide +kernel
theorem dX5_readPart_188 : decode cX5_readPart 188 = .ok (.goto 9, 3) := by decide +kernel
theorem dX5_readPart_191 : decode cX5_readPart 191 = .ok (.iinc 4 1, 3) := by decide +kernel
theorem dX5_readPart_194 : decode cX5_readPart 194 = .ok (.goto (-110), 3) := by decide +kernel
theorem dX5_readPart_197 : decode cX5_readPart 197 = .ok (.aload_n 0, 1) := by decide +kernel
theorem dX5_readPart_198 : decode cX5_readPart 198 = .ok (.getfield 43, 3) := by decide +kernel
theorem dX5_readPart_20 : decode cX5_readPart 20 = .ok (.aload_n 0, 1) := by decide +kernel
theorem dX5_readPart_201 : decode cX5_readPart 201 = .ok (.bipush 41, 2) := by decide +kernel
theorem dX5_readPart_203 : decode cX5_readPart 203 = .ok (.if_icmp .ne 10, 3) := by decide +kernel
theorem dX5_readPart_206 : decode cX5_readPart 206 = .ok (.aload_n 0, 1) := by decide +kernel
theorem dX5_readPart_207 : decode cX5_readPart 207 = .ok (.invokevirtual 40, 3) := by decide +kernel
theorem dX5_readPart_21 : decode cX5_readPart 21 = .ok (.getfield 25, 3) := by decide +kernel
theorem dX5_readPart_210 : decode cX5_readPart 210 = .ok (.goto 8, 3) := by decide +kernel
theorem dX5_readPart_213 : decode cX5_readPart 213 = .ok (.aload_n 0, 1) := by decide +kernel
theorem dX5_readPart_214 : decode cX5_readPart 214 = .ok (.iconst 1, 1) := by decide +kernel
theorem dX5_readPart_215 : decode cX5_readPart 215 = .ok (.invokevirtual 56, 3) := by decide +kernel
theorem dX5_readPart_218 : decode cX5_readPart 218 = .ok (.iload_n 3, 1) := by decide +kernel
theorem dX5_readPart_219 : decode cX5_readPart 219 = .ok (.ireturn, 1) := by decide +kernel
theorem dX5_readPart_24 : decode cX5_readPart 24 = .ok (.aload_n 0, 1) := by decide +kernel
theorem dX5_readPart_25 : decode cX5_readPart 25 = .ok (.getfield 85, 3) := by decide +kernel
theorem dX5_readPart_28 : decode cX5_readPart 28 = .ok (.iconst (-1), 1) := by decide +kernel
theorem dX5_readPart_29 : decode cX5_readPart 29 = .ok (.invokevirtual 89, 3) := by decide +kernel
theorem dX5_readPart_32 : decode cX5_readPart 32 = .ok (.goto 7, 3) := by decide +kernel
theorem dX5_readPart_35 : decode cX5_readPart 35 = .ok (.aload_n 0, 1) := by decide +kernel
theorem dX5_readPart_36 : decode cX5_readPart 36 = .ok (.invokevirtual 93, 3) := by decide +kernel
theorem dX5_readPart_39 : decode cX5_readPart 39 = .ok (.istore_n 3, 1) := by decide +kernel
theorem dX5_readPart_4 : decode cX5_readPart 4 = .ok (.sipush 256, 3) := by decide +kernel
theorem dX5_readPart_40 : decode cX5_readPart 40 = .ok (.aload_n 0, 1) := by decide +kernel
theorem dX5_readPart_41 : decode cX5_readPart 41 = .ok (.getfield 34, 3) := by decide +kernel
theorem dX5_readPart_44 : decode cX5_readPart 44 = .ok (.ifCond .eq 5, 3) := by decide +kernel
theorem dX5_readPart_47 : decode cX5_readPart 47 = .ok (.iload_n 3, 1) := by decide +kernel
theorem dX5_readPart_48 : decode cX5_readPart 48 = .ok (.ireturn, 1) := by decide +kernel
theorem dX5_readPart_49 : decode cX5_readPart 49 = .ok (.aload_n 0, 1) := by decide +kernel
theorem dX5_readPart_50 : decode cX5_readPart 50 = .ok (.invokevirtual 40, 3) := by decide +kernel
theorem dX5_readPart_53 : decode cX5_readPart 53 = .ok (.iload_n 2, 1) := by decide +kernel
theorem dX5_readPart_54 : decode cX5_readPart 54 = .ok (.ifCond .eq 12, 3) := by decide +kernel
theorem dX5_readPart_57 : decode cX5_readPart 57 = .ok (.aload_n 0, 1) := by decide +kernel
theorem dX5_readPart_58 : decode cX5_readPart 58 = .ok (.getfield 43, 3) := by decide +kernel
theorem dX5_readPart_61 : decode cX5_readPart 61 = .ok (.bipush 40, 2) := by decide +kernel
theorem dX5_readPart_63 : decode cX5_readPart 63 = .ok (.if_icmp .eq 5, 3) := by decide +kernel
theorem dX5_readPart_66 : decode cX5_readPart 66 = .ok (.iload_n 3, 1) := by decide +kernel
theorem dX5_readPart_67 : decode cX5_readPart 67 = .ok (.ireturn, 1) := by decide +kernel
theorem dX5_readPart_68 : decode cX5_readPart 68 = .ok (.iload_n 1, 1) := by decide +kernel
theorem dX5_readPart_69 : decode cX5_readPart 69 = .ok (.bipush 6, 2) := by decide +kernel
theorem dX5_readPart_7 : decode cX5_readPart 7 = .ok (.if_icmp .ne 7, 3) := by decide +kernel
theorem dX5_readPart_71 : decode cX5_readPart 71 = .ok (.if_icmp .lt 10, 3) := by decide +kernel
theorem dX5_readPart_74 : decode cX5_readPart 74 = .ok (.aload_n 0, 1) := by decide +kernel
theorem dX5_readPart_75 : decode cX5_readPart 75 = .ok (.iconst 2, 1) := by decide +kernel
theorem dX5_readPart_76 : decode cX5_readPart 76 = .ok (.invokevirtual 56, 3) := by decide +kernel
theorem dX5_readPart_79 : decode cX5_readPart 79 = .ok (.iload_n 3, 1) := by decide +kernel
theorem dX5_readPart_80 : decode cX5_readPart 80 = .ok (.ireturn, 1) := by decide +kernel
theorem dX5_readPart_81 : decode cX5_readPart 81 = .ok (.iconst 0, 1) := by decide +kernel
theorem dX5_readPart_82 : decode cX5_readPart 82 = .ok (.istore 4, 2) := by decide +kernel
theorem dX5_readPart_84 : decode cX5_readPart 84 = .ok (.iload 4, 2) := by decide +kernel
theorem dX5_readPart_86 : decode cX5_readPart 86 = .ok (.iconst 3, 1) := by decide +kernel
theorem dX5_readPart_87 : decode cX5_readPart 87 = .ok (.if_icmp .gt 110, 3) := by decide +kernel
theorem dX5_readPart_90 : decode cX5_readPart 90 = .ok (.aload_n 0, 1) := by decide +kernel
theorem dX5_readPart_91 : decode cX5_readPart 91 = .ok (.invokevirtual 40, 3) := by decide +kernel
theorem dX5_readPart_94 : decode cX5_readPart 94 = .ok (.aload_n 0, 1) := by decide +kernel
theorem dX5_readPart_95 : decode cX5_readPart 95 = .ok (.getfield 43, 3) := by decide +kernel
theorem dX5_readPart_98 : decode cX5_readPart 98 = .ok (.sipush 256, 3) := by decide +kernel
theorem dX5_read_0 : decode cX5_read 0 = .ok (.aload_n 0, 1) := by decide +kernel
theorem dX5_read_1 : decode cX5_read 1 = .ok (.aload_n 1, 1) := by decide +kernel
theorem dX5_read_12 : decode cX5_read 12 = .ok (.aload_n 0, 1) := by decide +kernel
theorem dX5_read_13 : decode cX5_read 13 = .ok (.iconst 0, 1) := by decide +kernel
theorem dX5_read_14 : decode cX5_read 14 = .ok (.putfield 34, 3) := by decide +kernel
theorem dX5_read_17 : decode cX5_read 17 = .ok (.aload_n 0, 1) := by decide +kernel
theorem dX5_read_18 : decode cX5_read 18 = .ok (.iconst (-1), 1) := by decide +kernel
theorem dX5_read_19 : decode cX5_read 19 = .ok (.putfield 15, 3) := by decide +kernel
theorem dX5_read_2 : decode cX5_read 2 = .ok (.putfield 25, 3) := by decide +kernel
theorem dX5_read_22 : decode cX5_read 22 = .ok (.aload_n 0, 1) := by decide +kernel
theorem dX5_read_23 : decode cX5_read 23 = .ok (.iconst 0, 1) := by decide +kernel
theorem dX5_read_24 : decode cX5_read 24 = .ok (.putfield 37, 3) := by decide +kernel
theorem dX5_read_27 : decode cX5_read 27 = .ok (.aload_n 0, 1) := by decide +kernel
theorem dX5_read_28 : decode cX5_read 28 = .ok (.invokevirtual 40, 3) := by decide +kernel
theorem dX5_read_31 : decode cX5_read 31 = .ok (.iconst 0, 1) := by decide +kernel
theorem dX5_read_32 : decode cX5_read 32 = .ok (.istore_n 2, 1) := by decide +kernel
theorem dX5_read_33 : decode cX5_read 33 = .ok (.iload_n 2, 1) := by decide +kernel
theorem dX5_read_34 : decode cX5_read 34 = .ok (.sipush 600, 3) := by decide +kernel
theorem dX5_read_37 : decode cX5_read 37 = .ok (.if_icmp .ge 28, 3) := by decide +kernel
theorem dX5_read_40 : decode cX5_read 40 = .ok (.aload_n 0, 1) := by decide +kernel
theorem dX5_read_41 : decode cX5_read 41 = .ok (.getfield 34, 3) := by decide +kernel
theorem dX5_read_44 : decode cX5_read 44 = .ok (.ifCond .ne 21, 3) := by decide +kernel
theorem dX5_read_47 : decode cX5_read 47 = .ok (.aload_n 0, 1) := by decide +kernel
theorem dX5_read_48 : decode cX5_read 48 = .ok (.getfield 43, 3) := by decide +kernel
theorem dX5_read_5 : decode cX5_read 5 = .ok (.aload_n 0, 1) := by decide +kernel
theorem dX5_read_51 : decode cX5_read 51 = .ok (.iconst (-1), 1) := by decide +kernel
theorem dX5_read_52 : decode cX5_read 52 = .ok (.if_icmp .eq 13, 3) := by decide +kernel
theorem dX5_read_55 : decode cX5_read 55 = .ok (.aload_n 0, 1) := by decide +kernel
theorem dX5_read_56 : decode cX5_read 56 = .ok (.invokevirtual 46, 3) := by decide +kernel
theorem dX5_read_59 : decode cX5_read 59 = .ok (.iinc 2 1, 3) := by decide +kernel
theorem dX5_read_6 : decode cX5_read 6 = .ok (.getfield 25, 3) := by decide +kernel
theorem dX5_read_62 : decode cX5_read 62 = .ok (.goto (-29), 3) := by decide +kernel
theorem dX5_read_65 : decode cX5_read 65 = .ok (.return_, 1) := by decide +kernel
theorem dX5_read_9 : decode cX5_read 9 = .ok (.invokevirtual 29, 3) := by decide +kernel
theorem dX5_startsLiteral_0 : decode cX5_startsLiteral 0 = .ok (.aload_n 0, 1) := by decide +kernel
theorem dX5_startsLiteral_1 : decode cX5_startsLiteral 1 = .ok (.getfield 43, 3) := by decide +kernel
theorem dX5_startsLiteral_10 : decode cX5_startsLiteral 10 = .ok (.getfield 43, 3) := by decide +kernel
theorem dX5_startsLiteral_13 : decode cX5_startsLiteral 13 = .ok (.sipush 256, 3) := by decide +kernel
theorem dX5_startsLiteral_16 : decode cX5_startsLiteral 16 = .ok (.if_icmp .ne 7, 3) := by decide +kernel
theorem dX5_startsLiteral_19 : decode cX5_startsLiteral 19 = .ok (.iconst 1, 1) := by decide +kernel
theorem dX5_startsLiteral_20 : decode cX5_startsLiteral 20 = .ok (.goto 4, 3) := by decide +kernel
theorem dX5_startsLiteral_23 : decode cX5_startsLiteral 23 = .ok (.iconst 0, 1) := by decide +kernel
theorem dX5_startsLiteral_24 : decode cX5_startsLiteral 24 = .ok (.ireturn, 1) := by decide +kernel
theorem dX5_startsLiteral_4 : decode cX5_startsLiteral 4 = .ok (.bipush 45, 2) := by decide +kernel
theorem dX5_startsLiteral_6 : decode cX5_startsLiteral 6 = .ok (.if_icmp .eq 13, 3) := by decide +kernel
theorem dX5_startsLiteral_9 : decode cX5_startsLiteral 9 = .ok (.aload_n 0, 1) := by decide +kernel
theorem dX5_take_0 : decode cX5_take 0 = .ok (.bipush 24, 2) := by decide +kernel
theorem dX5_take_11 : decode cX5_take 11 = .ok (.sipush 600, 3) := by decide +kernel
theorem dX5_take_14 : decode cX5_take 14 = .ok (.if_icmp .ge 32, 3) := by decide +kernel
theorem dX5_take_17 : decode cX5_take 17 = .ok (.aload_n 0, 1) := by decide +kernel
theorem dX5_take_18 : decode cX5_take 18 = .ok (.getfield 9, 3) := by decide +kernel
theorem dX5_take_2 : decode cX5_take 2 = .ok (.istore_n 2, 1) := by decide +kernel
theorem dX5_take_21 : decode cX5_take 21 = .ok (.aload_n 0, 1) := by decide +kernel
theorem dX5_take_22 : decode cX5_take 22 = .ok (.dup, 1) := by decide +kernel
theorem dX5_take_23 : decode cX5_take 23 = .ok (.getfield 22, 3) := by decide +kernel
theorem dX5_take_26 : decode cX5_take 26 = .ok (.dup_x1, 1) := by decide +kernel
theorem dX5_take_27 : decode cX5_take 27 = .ok (.iconst 1, 1) := by decide +kernel
theorem dX5_take_28 : decode cX5_take 28 = .ok (.iadd, 1) := by decide +kernel
theorem dX5_take_29 : decode cX5_take 29 = .ok (.putfield 22, 3) := by decide +kernel
theorem dX5_take_3 : decode cX5_take 3 = .ok (.iload_n 2, 1) := by decide +kernel
theorem dX5_take_32 : decode cX5_take 32 = .ok (.iload_n 1, 1) := by decide +kernel
theorem dX5_take_33 : decode cX5_take 33 = .ok (.iload_n 2, 1) := by decide +kernel
theorem dX5_take_34 : decode cX5_take 34 = .ok (.ishr, 1) := by decide +kernel
theorem dX5_take_35 : decode cX5_take 35 = .ok (.sipush 255, 3) := by decide +kernel
theorem dX5_take_38 : decode cX5_take 38 = .ok (.iand, 1) := by decide +kernel
theorem dX5_take_39 : decode cX5_take 39 = .ok (.iastore, 1) := by decide +kernel
theorem dX5_take_4 : decode cX5_take 4 = .ok (.ifCond .lt 42, 3) := by decide +kernel
theorem dX5_take_40 : decode cX5_take 40 = .ok (.iinc 2 (-8), 3) := by decide +kernel
theorem dX5_take_43 : decode cX5_take 43 = .ok (.goto (-40), 3) := by decide +kernel
theorem dX5_take_46 : decode cX5_take 46 = .ok (.return_, 1) := by decide +kernel
theorem dX5_take_7 : decode cX5_take 7 = .ok (.aload_n 0, 1) := by decide +kernel
theorem dX5_take_8 : decode cX5_take 8 = .ok (.getfield 22, 3) := by decide +kernel
theorem dX5_variablePart_0 : decode cX5_variablePart 0 = .ok (.iconst 0, 1) := by decide +kernel
theorem dX5_variablePart_1 : decode cX5_variablePart 1 = .ok (.istore_n 1, 1) := by decide +kernel
theorem dX5_variablePart_10 : decode cX5_variablePart 10 = .ok (.aload_n 0, 1) := by decide +kernel
theorem dX5_variablePart_11 : decode cX5_variablePart 11 = .ok (.getfield 25, 3) := by decide +kernel
theorem dX5_variablePart_14 : decode cX5_variablePart 14 = .ok (.getfield 103, 3) := by decide +kernel
theorem dX5_variablePart_17 : decode cX5_variablePart 17 = .ok (.aload_n 0, 1) := by decide +kernel
theorem dX5_variablePart_18 : decode cX5_variablePart 18 = .ok (.getfield 19, 3) := by decide +kernel
theorem dX5_variablePart_2 : decode cX5_variablePart 2 = .ok (.iload_n 1, 1) := by decide +kernel
theorem dX5_variablePart_21 : decode cX5_variablePart 21 = .ok (.iload_n 1, 1) := by decide +kernel
theorem dX5_variablePart_22 : decode cX5_variablePart 22 = .ok (.iaload, 1) := by decide +kernel
theorem dX5_variablePart_23 : decode cX5_variablePart 23 = .ok (.laload, 1) := by decide +kernel
theorem dX5_variablePart_24 : decode cX5_variablePart 24 = .ok (.aload_n 0, 1) := by decide +kernel
theorem dX5_variablePart_25 : decode cX5_variablePart 25 = .ok (.getfield 85, 3) := by decide +kernel
theorem dX5_variablePart_28 : decode cX5_variablePart 28 = .ok (.lcmp, 1) := by decide +kernel
theorem dX5_variablePart_29 : decode cX5_variablePart 29 = .ok (.ifCond .ne 10, 3) := by decide +kernel
theorem dX5_variablePart_3 : decode cX5_variablePart 3 = .ok (.aload_n 0, 1) := by decide +kernel
theorem dX5_variablePart_32 : decode cX5_variablePart 32 = .ok (.aload_n 0, 1) := by decide +kernel
theorem dX5_variablePart_33 : decode cX5_variablePart 33 = .ok (.getfield 19, 3) := by decide +kernel
theorem dX5_variablePart_36 : decode cX5_variablePart 36 = .ok (.iload_n 1, 1) := by decide +kernel
theorem dX5_variablePart_37 : decode cX5_variablePart 37 = .ok (.iaload, 1) := by decide +kernel
theorem dX5_variablePart_38 : decode cX5_variablePart 38 = .ok (.ireturn, 1) := by decide +kernel
theorem dX5_variablePart_39 : decode cX5_variablePart 39 = .ok (.iinc 1 1, 3) := by decide +kernel
theorem dX5_variablePart_4 : decode cX5_variablePart 4 = .ok (.getfield 66, 3) := by decide +kernel
theorem dX5_variablePart_42 : decode cX5_variablePart 42 = .ok (.goto (-40), 3) := by decide +kernel
theorem dX5_variablePart_45 : decode cX5_variablePart 45 = .ok (.aload_n 0, 1) := by decide +kernel
theorem dX5_variablePart_46 : decode cX5_variablePart 46 = .ok (.getfield 66, 3) := by decide +kernel
theorem dX5_variablePart_49 : decode cX5_variablePart 49 = .ok (.bipush 8, 2) := by decide +kernel
theorem dX5_variablePart_51 : decode cX5_variablePart 51 = .ok (.if_icmp .ne 10, 3) := by decide +kernel
theorem dX5_variablePart_54 : decode cX5_variablePart 54 = .ok (.aload_n 0, 1) := by decide +kernel
theorem dX5_variablePart_55 : decode cX5_variablePart 55 = .ok (.iconst 2, 1) := by decide +kernel
theorem dX5_variablePart_56 : decode cX5_variablePart 56 = .ok (.invokevirtual 56, 3) := by decide +kernel
theorem dX5_variablePart_59 : decode cX5_variablePart 59 = .ok (.iconst 0, 1) := by decide +kernel
theorem dX5_variablePart_60 : decode cX5_variablePart 60 = .ok (.ireturn, 1) := by decide +kernel
theorem dX5_variablePart_61 : decode cX5_variablePart 61 = .ok (.aload_n 0, 1) := by decide +kernel
theorem dX5_variablePart_62 : decode cX5_variablePart 62 = .ok (.getfield 25, 3) := by decide +kernel
theorem dX5_variablePart_65 : decode cX5_variablePart 65 = .ok (.aload_n 0, 1) := by decide +kernel
theorem dX5_variablePart_66 : decode cX5_variablePart 66 = .ok (.getfield 85, 3) := by decide +kernel
theorem dX5_variablePart_69 : decode cX5_variablePart 69 = .ok (.aload_n 0, 1) := by decide +kernel
theorem dX5_variablePart_7 : decode cX5_variablePart 7 = .ok (.if_icmp .ge 38, 3) := by decide +kernel
theorem dX5_variablePart_70 : decode cX5_variablePart 70 = .ok (.getfield 66, 3) := by decide +kernel
theorem dX5_variablePart_73 : decode cX5_variablePart 73 = .ok (.invokevirtual 89, 3) := by decide +kernel
theorem dX5_variablePart_76 : decode cX5_variablePart 76 = .ok (.istore_n 1, 1) := by decide +kernel
theorem dX5_variablePart_77 : decode cX5_variablePart 77 = .ok (.aload_n 0, 1) := by decide +kernel
theorem dX5_variablePart_78 : decode cX5_variablePart 78 = .ok (.getfield 19, 3) := by decide +kernel
theorem dX5_variablePart_81 : decode cX5_variablePart 81 = .ok (.aload_n 0, 1) := by decide +kernel
theorem dX5_variablePart_82 : decode cX5_variablePart 82 = .ok (.dup, 1) := by decide +kernel
theorem dX5_variablePart_83 : decode cX5_variablePart 83 = .ok (.getfield 66, 3) := by decide +kernel
theorem dX5_variablePart_86 : decode cX5_variablePart 86 = .ok (.dup_x1, 1) := by decide +kernel
theorem dX5_variablePart_87 : decode cX5_variablePart 87 = .ok (.iconst 1, 1) := by decide +kernel
theorem dX5_variablePart_88 : decode cX5_variablePart 88 = .ok (.iadd, 1) := by decide +kernel
theorem dX5_variablePart_89 : decode cX5_variablePart 89 = .ok (.putfield 66, 3) := by decide +kernel
theorem dX5_variablePart_92 : decode cX5_variablePart 92 = .ok (.iload_n 1, 1) := by decide +kernel
theorem dX5_variablePart_93 : decode cX5_variablePart 93 = .ok (.iastore, 1) := by decide +kernel
theorem dX5_variablePart_94 : decode cX5_variablePart 94 = .ok (.iload_n 1, 1) := by decide +kernel
theorem dX5_variablePart_95 : decode cX5_variablePart 95 = .ok (.ireturn, 1) := by decide +kernel
theorem dX8_add_0 : decode cX8_add 0 = .ok (.aload_n 0, 1) := by decide +kernel
theorem dX8_add_1 : decode cX8_add 1 = .ok (.getfield 37, 3) := by decide +kernel
theorem dX8_add_10 : decode cX8_add 10 = .ok (.istore 4, 2) := by decide +kernel
theorem dX8_add_12 : decode cX8_add 12 = .ok (.aload_n 0, 1) := by decide +kernel
theorem dX8_add_13 : decode cX8_add 13 = .ok (.getfield 9, 3) := by decide +kernel
theorem dX8_add_16 : decode cX8_add 16 = .ok (.iload 4, 2) := by decide +kernel
theorem dX8_add_18 : decode cX8_add 18 = .ok (.lload_n 1, 1) := by decide +kernel
theorem dX8_add_19 : decode cX8_add 19 = .ok (.lastore, 1) := by decide +kernel
theorem dX8_add_20 : decode cX8_add 20 = .ok (.aload_n 0, 1) := by decide +kernel
theorem dX8_add_21 : decode cX8_add 21 = .ok (.getfield 15, 3) := by decide +kernel
theorem dX8_add_24 : decode cX8_add 24 = .ok (.iload 4, 2) := by decide +kernel
theorem dX8_add_26 : decode cX8_add 26 = .ok (.iload_n 3, 1) := by decide +kernel
theorem dX8_add_27 : decode cX8_add 27 = .ok (.iastore, 1) := by decide +kernel
theorem dX8_add_28 : decode cX8_add 28 = .ok (.aload_n 0, 1) := by decide +kernel
theorem dX8_add_29 : decode cX8_add 29 = .ok (.getfield 19, 3) := by decide +kernel
theorem dX8_add_32 : decode cX8_add 32 = .ok (.iload 4, 2) := by decide +kernel
theorem dX8_add_34 : decode cX8_add 34 = .ok (.iconst 0, 1) := by decide +kernel
theorem dX8_add_35 : decode cX8_add 35 = .ok (.iastore, 1) := by decide +kernel
theorem dX8_add_36 : decode cX8_add 36 = .ok (.aload_n 0, 1) := by decide +kernel
theorem dX8_add_37 : decode cX8_add 37 = .ok (.iload 4, 2) := by decide +kernel
theorem dX8_add_39 : decode cX8_add 39 = .ok (.iconst 1, 1) := by decide +kernel
theorem dX8_add_4 : decode cX8_add 4 = .ok (.sipush 299, 3) := by decide +kernel
theorem dX8_add_40 : decode cX8_add 40 = .ok (.iadd, 1) := by decide +kernel
theorem dX8_add_41 : decode cX8_add 41 = .ok (.putfield 37, 3) := by decide +kernel
theorem dX8_add_44 : decode cX8_add 44 = .ok (.iload 4, 2) := by decide +kernel
theorem dX8_add_46 : decode cX8_add 46 = .ok (.ireturn, 1) := by decide +kernel
theorem dX8_add_7 : decode cX8_add 7 = .ok (.invokestatic 44, 3) := by decide +kernel
theorem dX8_remove_0 : decode cX8_remove 0 = .ok (.iload_n 1, 1) := by decide +kernel
theorem dX8_remove_1 : decode cX8_remove 1 = .ok (.istore_n 2, 1) := by decide +kernel
theorem dX8_remove_12 : decode cX8_remove 12 = .ok (.aload_n 0, 1) := by decide +kernel
theorem dX8_remove_13 : decode cX8_remove 13 = .ok (.getfield 25, 3) := by decide +kernel
theorem dX8_remove_16 : decode cX8_remove 16 = .ok (.iload_n 2, 1) := by decide +kernel
theorem dX8_remove_17 : decode cX8_remove 17 = .ok (.aload_n 0, 1) := by decide +kernel
theorem dX8_remove_18 : decode cX8_remove 18 = .ok (.getfield 25, 3) := by decide +kernel
theorem dX8_remove_2 : decode cX8_remove 2 = .ok (.iload_n 2, 1) := by decide +kernel
theorem dX8_remove_21 : decode cX8_remove 21 = .ok (.iload_n 2, 1) := by decide +kernel
theorem dX8_remove_22 : decode cX8_remove 22 = .ok (.iconst 1, 1) := by decide +kernel
theorem dX8_remove_23 : decode cX8_remove 23 = .ok (.iadd, 1) := by decide +kernel
theorem dX8_remove_24 : decode cX8_remove 24 = .ok (.iaload, 1) := by decide +kernel
theorem dX8_remove_25 : decode cX8_remove 25 = .ok (.iastore, 1) := by decide +kernel
theorem dX8_remove_26 : decode cX8_remove 26 = .ok (.aload_n 0, 1) := by decide +kernel
theorem dX8_remove_27 : decode cX8_remove 27 = .ok (.getfield 28, 3) := by decide +kernel
theorem dX8_remove_3 : decode cX8_remove 3 = .ok (.iconst 1, 1) := by decide +kernel
theorem dX8_remove_30 : decode cX8_remove 30 = .ok (.iload_n 2, 1) := by decide +kernel
theorem dX8_remove_31 : decode cX8_remove 31 = .ok (.aload_n 0, 1) := by decide +kernel
theorem dX8_remove_32 : decode cX8_remove 32 = .ok (.getfield 28, 3) := by decide +kernel
theorem dX8_remove_35 : decode cX8_remove 35 = .ok (.iload_n 2, 1) := by decide +kernel
theorem dX8_remove_36 : decode cX8_remove 36 = .ok (.iconst 1, 1) := by decide +kernel
theorem dX8_remove_37 : decode cX8_remove 37 = .ok (.iadd, 1) := by decide +kernel
theorem dX8_remove_38 : decode cX8_remove 38 = .ok (.iaload, 1) := by decide +kernel
theorem dX8_remove_39 : decode cX8_remove 39 = .ok (.iastore, 1) := by decide +kernel
theorem dX8_remove_4 : decode cX8_remove 4 = .ok (.iadd, 1) := by decide +kernel
theorem dX8_remove_40 : decode cX8_remove 40 = .ok (.aload_n 0, 1) := by decide +kernel
theorem dX8_remove_41 : decode cX8_remove 41 = .ok (.getfield 31, 3) := by decide +kernel
theorem dX8_remove_44 : decode cX8_remove 44 = .ok (.iload_n 2, 1) := by decide +kernel
theorem dX8_remove_45 : decode cX8_remove 45 = .ok (.aload_n 0, 1) := by decide +kernel
theorem dX8_remove_46 : decode cX8_remove 46 = .ok (.getfield 31, 3) := by decide +kernel
theorem dX8_remove_49 : decode cX8_remove 49 = .ok (.iload_n 2, 1) := by decide +kernel
theorem dX8_remove_5 : decode cX8_remove 5 = .ok (.aload_n 0, 1) := by decide +kernel
theorem dX8_remove_50 : decode cX8_remove 50 = .ok (.iconst 1, 1) := by decide +kernel
theorem dX8_remove_51 : decode cX8_remove 51 = .ok (.iadd, 1) := by decide +kernel
theorem dX8_remove_52 : decode cX8_remove 52 = .ok (.iaload, 1) := by decide +kernel
theorem dX8_remove_53 : decode cX8_remove 53 = .ok (.iastore, 1) := by decide +kernel
theorem dX8_remove_54 : decode cX8_remove 54 = .ok (.aload_n 0, 1) := by decide +kernel
theorem dX8_remove_55 : decode cX8_remove 55 = .ok (.getfield 34, 3) := by decide +kernel
theorem dX8_remove_58 : decode cX8_remove 58 = .ok (.iload_n 2, 1) := by decide +kernel
theorem dX8_remove_59 : decode cX8_remove 59 = .ok (.iconst 1, 1) := by decide +kernel
theorem dX8_remove_6 : decode cX8_remove 6 = .ok (.getfield 41, 3) := by decide +kernel
theorem dX8_remove_60 : decode cX8_remove 60 = .ok (.iadd, 1) := by decide +kernel
theorem dX8_remove_61 : decode cX8_remove 61 = .ok (.bipush 6, 2) := by decide +kernel
theorem dX8_remove_63 : decode cX8_remove 63 = .ok (.imul, 1) := by decide +kernel
theorem dX8_remove_64 : decode cX8_remove 64 = .ok (.aload_n 0, 1) := by decide +kernel
theorem dX8_remove_65 : decode cX8_remove 65 = .ok (.getfield 34, 3) := by decide +kernel
theorem dX8_remove_68 : decode cX8_remove 68 = .ok (.iload_n 2, 1) := by decide +kernel
theorem dX8_remove_69 : decode cX8_remove 69 = .ok (.bipush 6, 2) := by decide +kernel
theorem dX8_remove_71 : decode cX8_remove 71 = .ok (.imul, 1) := by decide +kernel
theorem dX8_remove_72 : decode cX8_remove 72 = .ok (.bipush 6, 2) := by decide +kernel
theorem dX8_remove_74 : decode cX8_remove 74 = .ok (.invokestatic 64, 3) := by decide +kernel
theorem dX8_remove_77 : decode cX8_remove 77 = .ok (.iinc 2 1, 3) := by decide +kernel
theorem dX8_remove_80 : decode cX8_remove 80 = .ok (.goto (-78), 3) := by decide +kernel
theorem dX8_remove_83 : decode cX8_remove 83 = .ok (.aload_n 0, 1) := by decide +kernel
theorem dX8_remove_84 : decode cX8_remove 84 = .ok (.dup, 1) := by decide +kernel
theorem dX8_remove_85 : decode cX8_remove 85 = .ok (.getfield 41, 3) := by decide +kernel
theorem dX8_remove_88 : decode cX8_remove 88 = .ok (.iconst 1, 1) := by decide +kernel
theorem dX8_remove_89 : decode cX8_remove 89 = .ok (.isub, 1) := by decide +kernel
theorem dX8_remove_9 : decode cX8_remove 9 = .ok (.if_icmp .ge 74, 3) := by decide +kernel
theorem dX8_remove_90 : decode cX8_remove 90 = .ok (.putfield 41, 3) := by decide +kernel
theorem dX8_remove_93 : decode cX8_remove 93 = .ok (.return_, 1) := by decide +kernel
abbrev mo24 (v : Nat → Value) (a0 a1 a2 a4 : Value) : List Value := [a0, a1, a2, (v 3), a4, (v 5), (v 6), (v 7), (v 8), (v 9)]
abbrev mo25 (v : Nat → Value) (a5 a6 a7 a8 a9 : Value) : List Value := [(v 0), (v 1), (v 2), (v 3), (v 4), a5, a6, a7, a8, a9]
abbrev mo26 (v : Nat → Value) (a0 a1 : Value) : List Value := [a0, a1, (v 2), (v 3), (v 4), (v 5), (v 6), (v 7), (v 8), (v 9), (v 10)]
abbrev mo27 (v : Nat → Value) (a2 a3 a7 : Value) : List Value := [(v 0), (v 1), a2, a3, (v 4), (v 5), (v 6), a7, (v 8), (v 9), (v 10)]
abbrev mo28 (v : Nat → Value) (a9 : Value) : List Value := [(v 0), (v 1), (v 2), (v 3), (v 4), (v 5), (v 6), (v 7), (v 8), a9, (v 10)]
abbrev mo29 (v : Nat → Value) (a0 a1 a7 a8 a9 a10 : Value) : List Value := [a0, a1, (v 2), (v 3), (v 4), (v 5), (v 6), a7, a8, a9, a10]
abbrev mo30 (v : Nat → Value) (a1 a2 a3 a4 a5 a6 a7 a10 : Value) : List Value := [(v 0), a1, a2, a3, a4, a5, a6, a7, (v 8), (v 9), a10]
abbrev mo31 (a0 a1 a2 a3 a4 a5 a6 a7 a8 a9 a10 : Value) : List Value := [a0, a1, a2, a3, a4, a5, a6, a7, a8, a9, a10]
abbrev mo32 (v : Nat → Value) (a0 a1 a2 a3 a4 : Value) : List Value := [a0, a1, a2, a3, a4, (v 5), (v 6), (v 7), (v 8), (v 9)]
abbrev mo33 (v : Nat → Value) (a0 a1 a2 a3 a4 a7 a8 : Value) : List Value := [a0, a1, a2, a3, a4, (v 5), (v 6), a7, a8, (v 9)]
abbrev mo34 (a0 a1 a2 a3 a4 a5 a6 a7 a8 a9 : Value) : List Value := [a0, a1, a2, a3, a4, a5, a6, a7, a8, a9]
abbrev mo35 (v : Nat → Value) (a0 a1 a2 a3 a5 a6 a7 a8 a9 a10 : Value) : List Value := [a0, a1, a2, a3, (v 4), a5, a6, a7, a8, a9, a10]
set_option maxRecDepth 100000 in
theorem mq30_27 (v : Nat → Value) (b1 b4 b5 b6 b10 : Value) : ∃ w : Nat → Value, ∀ (a2 a3 a7 : Value), mo27 w a2 a3 a7 = (mo30 v b1 a2 a3 b4 b5 b6 a7 b10) := ⟨fun k => List.getD (mo30 v b1 .null .null b4 b5 b6 .null b10) k .null, fun _ _ _ => rfl⟩
set_option maxRecDepth 100000 in
theorem mq31_30 (b0 b8 b9 : Value) : ∃ w : Nat → Value, ∀ (a1 a2 a3 a4 a5 a6 a7 a10 : Value), mo30 w a1 a2 a3 a4 a5 a6 a7 a10 = (mo31 b0 a1 a2 a3 a4 a5 a6 a7 b8 b9 a10) := ⟨fun k => List.getD (mo31 b0 .null .null .null .null .null .null .null b8 b9 .null) k .null, fun _ _ _ _ _ _ _ _ => rfl⟩
set_option maxRecDepth 100000 in
theorem mq32_24 (v : Nat → Value) (b3 : Value) : ∃ w : Nat → Value, ∀ (a0 a1 a2 a4 : Value), mo24 w a0 a1 a2 a4 = (mo32 v a0 a1 a2 b3 a4) := ⟨fun k => List.getD (mo32 v .null .null .null b3 .null) k .null, fun _ _ _ _ => rfl⟩
set_option maxRecDepth 100000 in
theorem mq31_29 (b2 b3 b4 b5 b6 : Value) : ∃ w : Nat → Value, ∀ (a0 a1 a7 a8 a9 a10 : Value), mo29 w a0 a1 a7 a8 a9 a10 = (mo31 a0 a1 b2 b3 b4 b5 b6 a7 a8 a9 a10) := ⟨fun k => List.getD (mo31 .null .null b2 b3 b4 b5 b6 .null .null .null .null) k .null, fun _ _ _ _ _ _ => rfl⟩
set_option maxRecDepth 100000 in
theorem mq31_27 (b0 b1 b4 b5 b6 b8 b9 b10 : Value) : ∃ w : Nat → Value, ∀ (a2 a3 a7 : Value), mo27 w a2 a3 a7 = (mo31 b0 b1 a2 a3 b4 b5 b6 a7 b8 b9 b10) := ⟨fun k => List.getD (mo31 b0 b1 .null .null b4 b5 b6 .null b8 b9 b10) k .null, fun _ _ _ => rfl⟩
set_option maxRecDepth 100000 in
theorem mq31_28 (b0 b1 b2 b3 b4 b5 b6 b7 b8 b10 : Value) : ∃ w : Nat → Value, ∀ (a9 : Value), mo28 w a9 = (mo31 b0 b1 b2 b3 b4 b5 b6 b7 b8 a9 b10) := ⟨fun k => List.getD (mo31 b0 b1 b2 b3 b4 b5 b6 b7 b8 .null b10) k .null, fun _ => rfl⟩
set_option maxRecDepth 100000 in
theorem mq33_32 (v : Nat → Value) (b7 b8 : Value) : ∃ w : Nat → Value, ∀ (a0 a1 a2 a3 a4 : Value), mo32 w a0 a1 a2 a3 a4 = (mo33 v a0 a1 a2 a3 a4 b7 b8) := ⟨fun k => List.getD (mo33 v .null .null .null .null .null b7 b8) k .null, fun _ _ _ _ _ => rfl⟩
set_option maxRecDepth 100000 in
theorem mq34_33 (b5 b6 b9 : Value) : ∃ w : Nat → Value, ∀ (a0 a1 a2 a3 a4 a7 a8 : Value), mo33 w a0 a1 a2 a3 a4 a7 a8 = (mo34 a0 a1 a2 a3 a4 b5 b6 a7 a8 b9) := ⟨fun k => List.getD (mo34 .null .null .null .null .null b5 b6 .null .null b9) k .null, fun _ _ _ _ _ _ _ => rfl⟩
set_option maxRecDepth 100000 in
theorem mq34_6 (b0 b1 b2 b3 b5 b6 b7 b8 : Value) : ∃ w : Nat → Value, ∀ (a4 a9 : Value), mo6 w a4 a9 = (mo34 b0 b1 b2 b3 a4 b5 b6 b7 b8 a9) := ⟨fun k => List.getD (mo34 b0 b1 b2 b3 .null b5 b6 b7 b8 .null) k .null, fun _ _ => rfl⟩
set_option maxHeartbeats 8000000 in
set_option maxRecDepth 100000 in
theorem c_X8_add (l : Launch) (dC : Nat → ClassId) (dI : Nat → Nat → Nat) (sz : Nat) (h_td : Nat) (h_nam : Nat) (h_var : Nat) (h_trm : Nat) (v_td : Nat → Value) (x_td_parts : Int32) (cy_nam : ClassId) (f_nam : Nat → Int64) (cy_var : ClassId) (f_var : Nat → Int32) (cy_trm : ClassId) (f_trm : Nat → Int32) (p1 : Int64) (p2 : Int32) (hx_td_parts : 0 ≤ (x_td_parts).toInt ∧ (x_td_parts).toInt ≤ 300) (hf_var : Rg (-1) 7 f_var) (hf_trm : Rg 0 3 f_trm) (q0 : -1 ≤ (p2).toInt ∧ (p2).toInt ≤ 7) (q1 : (x_td_parts).toInt ≤ 299) : Met l yX8_add (Ws yX8_add cX8_add 5 (some .int)) (({ frames := 1, cells := 0, slots := 0, locals := 80 } : Room)) (PRE (dC, dI) cls [(cy_nam, .long), (cy_var, .int), (cy_trm, .int)] [(h_td, .inr (5, (mo24 v_td (.ref h_nam) (.ref h_var) (.ref h_trm) (.int x_td_parts)))), (h_nam, .inl (cy_nam, 300, .inr (.inl f_nam))), (h_var, .inl (cy_var, 300, .inl f_var)), (h_trm, .inl (cy_trm, 300, .inl f_trm))] sz [.ref h_td, .long p1, .int p2]) (va_Qi (fun (r : Int32) (u : (Int32) × (Nat → Int64) × (Nat → Int32) × (Nat → Int32)) => (0 ≤ (u.1).toInt ∧ (u.1).toInt ≤ 300) ∧ (Rg (-1) 7 u.2.2.1) ∧ (Rg 0 3 u.2.2.2) ∧ (0 ≤ r.toInt ∧ r.toInt ≤ 299) ∧ ((r).toInt = (x_td_parts).toInt) ∧ ((u.1).toInt = (x_td_parts).toInt + 1) ∧ (u.2.1 = vp_updL f_nam (Int32.toNatClampNeg r) p1) ∧ (u.2.2.1 = upd f_var (Int32.toNatClampNeg r) p2) ∧ (u.2.2.2 = upd f_trm (Int32.toNatClampNeg r) 0)) (fun (u : (Int32) × (Nat → Int64) × (Nat → Int32) × (Nat → Int32)) (t : State) => va_P (dC, dI) cls [(h_td, .inr (5, (mo24 v_td (.ref h_nam) (.ref h_var) (.ref h_trm) (.int u.1)))), (h_nam, .inl (cy_nam, 300, .inr (.inl u.2.1))), (h_var, .inl (cy_var, 300, .inl u.2.2.1)), (h_trm, .inl (cy_trm, 300, .inl u.2.2.2))] t.heap ∧ va_D (va_A [(h_td, .inr (5, (mo24 v_td (.ref h_nam) (.ref h_var) (.ref h_trm) (.int x_td_parts)))), (h_nam, .inl (cy_nam, 300, .inr (.inl f_nam))), (h_var, .inl (cy_var, 300, .inl f_var)), (h_trm, .inl (cy_trm, 300, .inl f_trm))] sz) [(h_td, .inr (5, (mo24 v_td (.ref h_nam) (.ref h_var) (.ref h_trm) (.int u.1)))), (h_nam, .inl (cy_nam, 300, .inr (.inl u.2.1))), (h_var, .inl (cy_var, 300, .inl u.2.2.1)), (h_trm, .inl (cy_trm, 300, .inl u.2.2.2))]) (va_A [(h_td, .inr (5, (mo24 v_td (.ref h_nam) (.ref h_var) (.ref h_trm) (.int x_td_parts)))), (h_nam, .inl (cy_nam, 300, .inr (.inl f_nam))), (h_var, .inl (cy_var, 300, .inl f_var)), (h_trm, .inl (cy_trm, 300, .inl f_trm))] sz)) 0 0 (va_A [(h_td, .inr (5, (mo24 v_td (.ref h_nam) (.ref h_var) (.ref h_trm) (.int x_td_parts)))), (h_nam, .inl (cy_nam, 300, .inr (.inl f_nam))), (h_var, .inl (cy_var, 300, .inl f_var)), (h_trm, .inl (cy_trm, 300, .inl f_trm))] sz) := by
  refine Met.ofW (cc := cX8_add) (maxL := 5) (ret := (some .int)) (by decide) rfl ?_
  intro p e s m args below meth c s₁ B hml hv
  obtain ⟨rfl, hsz, hP, hK, hD0, hN⟩ := hv
  have hx := B.exec
  have hb := B.bytes
  have hr := B.returns
  have hts := atoms_spec (ws := Ws yX8_add cX8_add 5 (some .int)) B.pre
  have hT : ∀ w ∈ WALL, w ∈ Ws yX8_add cX8_add 5 (some .int) := fun w h => List.mem_cons_of_mem _ h
  have hw := fun w (h : w ∈ WALL) => hts w (hT w h)
  have hown : s.vm.findClass RX8 = some m.cls := findClass_of_methodNamed B.named
  have hlocks := B.notSynchronized
  subst hsz
  have hD := hD0.self (sz := s.heap.size)
  generalize hAe : va_A [(h_td, .inr (5, (mo24 v_td (.ref h_nam) (.ref h_var) (.ref h_trm) (.int x_td_parts)))), (h_nam, .inl (cy_nam, 300, .inr (.inl f_nam))), (h_var, .inl (cy_var, 300, .inl f_var)), (h_trm, .inl (cy_trm, 300, .inl f_trm))] s.heap.size = A at hD ⊢
  have hA : ∀ q : Nat, s.heap.size ≤ q → A q := fun q h => by rw [← hAe]; exact Or.inr h
  have hS : va_S A s.heap s.heap [] := va_S.rf
  have hl := lv_entry ([.ref h_td, .long p1, .int p2]) (n := 5) (Nat.le_of_ble_eq_true rfl)
  rw [lg_entry_eq]
  generalize (lg_sl ([.ref h_td, .long p1, .int p2]) ++ List.replicate (5 - (lg_sl ([.ref h_td, .long p1, .int p2])).length) Slot.unset).toArray = ls at hl ⊢
  have hl : lv_has ls 5 [(0, .ref h_td), (1, .long p1), (3, .int p2)] := hl
  refine lv_aload_n hx hb dX8_add_0 rfl (lv_at hl 0 rfl) ?_
  refine va_get (D := (dC, dI)) (ci := 5) (v := .int x_td_parts) (C := RX8) (T := TX8) (N := 10) hx hb hw iwX8 hown hK hP 0 rfl rfl 4 (by decide) (hw _ w_f_X8_37) (fun _ h9 => h9) rfl dX8_add_1 ?_
  refine lv_sipush (v := 299) hx hb dX8_add_4 (by decide) ?_
  refine va_mmin hx hb (hml.trans hl.1.symm) hown (hw _ w_m_X8_44) (hw _ w_mst_min) (hw _ w_ini_Math) (hw _ w_mcd_min) (Nat.le_of_ble_eq_true rfl) (Nat.le_of_ble_eq_true rfl) (Nat.le_of_ble_eq_true rfl) (Nat.le_of_ble_eq_true rfl) dX8_add_7 ?_
  refine lv_topi (fun z1 ez1 => ?_)
  have tz1 := i_min (x := x_td_parts) (y := 299) (rfl : (x_td_parts).toInt = (x_td_parts).toInt) (by decide : (299 : Int32).toInt = 299)
  rw [← ez1] at tz1
  refine lv_istore (lv' := [(4, .int z1), (0, .ref h_td), (1, .long p1), (3, .int p2)]) hx hb dX8_add_10 hl (by decide) rfl (fun ls hl => ?_)
  refine lv_aload_n hx hb dX8_add_12 rfl (lv_at hl 1 rfl) ?_
  refine va_get (D := (dC, dI)) (ci := 5) (v := .ref h_nam) (C := RX8) (T := TX8) (N := 10) hx hb hw iwX8 hown hK hP 0 rfl rfl 0 (by decide) (hw _ w_f_X8_9) (fun _ h9 => h9) rfl dX8_add_13 ?_
  refine lv_iload hx hb dX8_add_16 (lv_at hl 0 rfl) ?_
  refine lv_lload_n hx hb dX8_add_18 rfl (lv_at hl 2 rfl) ?_
  refine va_last hx hb hK hP hD hS 1 0 rfl rfl (i := z1) (x := p1) (vp_in_iff.mpr (by omega)) dX8_add_19 (fun H locs hP9 hD9 hS9 => ?_)
  obtain ⟨f2, ef2⟩ : ∃ g : Nat → Int64, g = vp_updL f_nam (Int32.toNatClampNeg z1) p1 := ⟨_, rfl⟩
  clear hP hD hS
  have hP : va_P (dC, dI) cls [(h_td, .inr (5, (mo24 v_td (.ref h_nam) (.ref h_var) (.ref h_trm) (.int x_td_parts)))), (h_nam, .inl (cy_nam, 300, .inr (.inl f2))), (h_var, .inl (cy_var, 300, .inl f_var)), (h_trm, .inl (cy_trm, 300, .inl f_trm))] H := by rw [ef2]; exact hP9
  have hD : va_D A [(h_td, .inr (5, (mo24 v_td (.ref h_nam) (.ref h_var) (.ref h_trm) (.int x_td_parts)))), (h_nam, .inl (cy_nam, 300, .inr (.inl f2))), (h_var, .inl (cy_var, 300, .inl f_var)), (h_trm, .inl (cy_trm, 300, .inl f_trm))] := by rw [ef2]; exact hD9
  have hS := hS9
  clear hP9 hD9 hS9
  refine lv_aload_n hx hb dX8_add_20 rfl (lv_at hl 1 rfl) ?_
  refine va_get (D := (dC, dI)) (ci := 5) (v := .ref h_var) (C := RX8) (T := TX8) (N := 10) hx hb hw iwX8 hown hK hP 0 rfl rfl 1 (by decide) (hw _ w_f_X8_15) (fun _ h9 => h9) rfl dX8_add_21 ?_
  refine lv_iload hx hb dX8_add_24 (lv_at hl 0 rfl) ?_
  refine lv_iload_n hx hb dX8_add_26 rfl (lv_at hl 3 rfl) ?_
  refine va_iast hx hb hK hP hD hS 2 1 rfl rfl (i := z1) (x := p2) (vp_in_iff.mpr (by omega)) dX8_add_27 (fun H locs hP9 hD9 hS9 => ?_)
  obtain ⟨f3, ef3⟩ : ∃ g : Nat → Int32, g = upd f_var (Int32.toNatClampNeg z1) p2 := ⟨_, rfl⟩
  clear hP hD hS
  have hP : va_P (dC, dI) cls [(h_td, .inr (5, (mo24 v_td (.ref h_nam) (.ref h_var) (.ref h_trm) (.int x_td_parts)))), (h_nam, .inl (cy_nam, 300, .inr (.inl f2))), (h_var, .inl (cy_var, 300, .inl f3)), (h_trm, .inl (cy_trm, 300, .inl f_trm))] H := by rw [ef3]; exact hP9
  have hD : va_D A [(h_td, .inr (5, (mo24 v_td (.ref h_nam) (.ref h_var) (.ref h_trm) (.int x_td_parts)))), (h_nam, .inl (cy_nam, 300, .inr (.inl f2))), (h_var, .inl (cy_var, 300, .inl f3)), (h_trm, .inl (cy_trm, 300, .inl f_trm))] := by rw [ef3]; exact hD9
  have hS := hS9
  clear hP9 hD9 hS9
  have hf3 : Rg (-1) 7 f3 := by rw [ef3]; exact rg_upd hf_var (by omega)
  refine lv_aload_n hx hb dX8_add_28 rfl (lv_at hl 1 rfl) ?_
  refine va_get (D := (dC, dI)) (ci := 5) (v := .ref h_trm) (C := RX8) (T := TX8) (N := 10) hx hb hw iwX8 hown hK hP 0 rfl rfl 2 (by decide) (hw _ w_f_X8_19) (fun _ h9 => h9) rfl dX8_add_29 ?_
  refine lv_iload hx hb dX8_add_32 (lv_at hl 0 rfl) ?_
  refine lv_iconst (v := 0) hx hb dX8_add_34 (by decide) ?_
  refine va_iast hx hb hK hP hD hS 3 2 rfl rfl (i := z1) (x := 0) (vp_in_iff.mpr (by omega)) dX8_add_35 (fun H locs hP9 hD9 hS9 => ?_)
  obtain ⟨f4, ef4⟩ : ∃ g : Nat → Int32, g = upd f_trm (Int32.toNatClampNeg z1) 0 := ⟨_, rfl⟩
  clear hP hD hS
  have hP : va_P (dC, dI) cls [(h_td, .inr (5, (mo24 v_td (.ref h_nam) (.ref h_var) (.ref h_trm) (.int x_td_parts)))), (h_nam, .inl (cy_nam, 300, .inr (.inl f2))), (h_var, .inl (cy_var, 300, .inl f3)), (h_trm, .inl (cy_trm, 300, .inl f4))] H := by rw [ef4]; exact hP9
  have hD : va_D A [(h_td, .inr (5, (mo24 v_td (.ref h_nam) (.ref h_var) (.ref h_trm) (.int x_td_parts)))), (h_nam, .inl (cy_nam, 300, .inr (.inl f2))), (h_var, .inl (cy_var, 300, .inl f3)), (h_trm, .inl (cy_trm, 300, .inl f4))] := by rw [ef4]; exact hD9
  have hS := hS9
  clear hP9 hD9 hS9
  have hf4 : Rg 0 3 f4 := by rw [ef4]; exact rg_upd hf_trm (by decide)
  refine lv_aload_n hx hb dX8_add_36 rfl (lv_at hl 1 rfl) ?_
  refine lv_iload hx hb dX8_add_37 (lv_at hl 0 rfl) ?_
  refine lv_iconst (v := 1) hx hb dX8_add_39 (by decide) ?_
  refine lv_iadd hx hb dX8_add_40 ?_
  refine lv_topi (fun z5 ez5 => ?_)
  have tz5 : (z5).toInt = (z1).toInt + 1 := by rw [ez5]; exact i_add rfl (by decide) (by omega)
  refine va_put (D := (dC, dI)) (ci := 5) (v := .int z5) (ty := tyX8 4) (C := RX8) (T := TX8) (N := 10) hx hb hw iwX8 tyX8 tyX8_ok nmX8 hown hK hP hD hS 0 rfl rfl 4 (by decide) (hw _ w_f_X8_37) (fun _ h9 => h9) rfl (tyX8_ok 4 (by decide)) rfl rfl (Nat.le_of_ble_eq_true rfl) dX8_add_41 (fun H locs hP9 hD9 hS9 => ?_)
  clear hP hD hS
  have hP : va_P (dC, dI) cls [(h_td, .inr (5, (mo24 v_td (.ref h_nam) (.ref h_var) (.ref h_trm) (.int z5)))), (h_nam, .inl (cy_nam, 300, .inr (.inl f2))), (h_var, .inl (cy_var, 300, .inl f3)), (h_trm, .inl (cy_trm, 300, .inl f4))] H := hP9
  have hD : va_D A [(h_td, .inr (5, (mo24 v_td (.ref h_nam) (.ref h_var) (.ref h_trm) (.int z5)))), (h_nam, .inl (cy_nam, 300, .inr (.inl f2))), (h_var, .inl (cy_var, 300, .inl f3)), (h_trm, .inl (cy_trm, 300, .inl f4))] := hD9
  have hS := hS9
  clear hP9 hD9 hS9
  refine lv_iload hx hb dX8_add_44 (lv_at hl 0 rfl) ?_
  refine W.widen (k := 0) (n := 0) (Nat.le_of_ble_eq_true rfl) (Nat.le_of_ble_eq_true rfl) ?_
  have w6 : 0 ≤ ((z5)).toInt ∧ ((z5)).toInt ≤ 300 := by omega
  have w7 : 0 ≤ (z1 : Int32).toInt ∧ (z1 : Int32).toInt ≤ 299 := by omega
  have w8 : ((z1 : Int32)).toInt = (x_td_parts).toInt := by omega
  have w9 : ((z5)).toInt = (x_td_parts).toInt + 1 := by omega
  have w10 : (f2) = vp_updL f_nam (Int32.toNatClampNeg (z1 : Int32)) p1 := ef2
  have w11 : (f3) = upd f_var (Int32.toNatClampNeg (z1 : Int32)) p2 := ef3
  have w12 : (f4) = upd f_trm (Int32.toNatClampNeg (z1 : Int32)) 0 := ef4
  exact W.iret (v := z1) hx hb hr (fun t ht hW => ⟨⟨z1, (z5, f2, f3, f4), rfl, ⟨w6, hf3, hf4, w7, w8, w9, w10, w11, w12⟩, by rw [ht]; exact hP, hD⟩, hS.F ht⟩) hS.2.2 dX8_add_46

set_option maxHeartbeats 8000000 in
set_option maxRecDepth 100000 in
theorem c_X8_remove (l : Launch) (dC : Nat → ClassId) (dI : Nat → Nat → Nat) (sz : Nat) (h_td : Nat) (h_lit : Nat) (h_vas : Nat) (h_pls : Nat) (h_fst : Nat) (v_td : Nat → Value) (x_td_clauses : Int32) (cy_lit : ClassId) (f_lit : Nat → Int32) (cy_vas : ClassId) (f_vas : Nat → Int32) (cy_pls : ClassId) (f_pls : Nat → Int32) (cy_fst : ClassId) (f_fst : Nat → Int32) (p1 : Int32) (hx_td_clauses : 0 ≤ (x_td_clauses).toInt ∧ (x_td_clauses).toInt ≤ 16) (hf_lit : Rg 0 6 f_lit) (hf_fst : Rg 0 299 f_fst) (q0 : 0 ≤ (p1).toInt) (q1 : (p1).toInt < (x_td_clauses).toInt) : Met l yX8_remove (Ws yX8_remove cX8_remove 3 none) (({ frames := 1, cells := 0, slots := 0, locals := 80 } : Room)) (PRE (dC, dI) cls [(cy_lit, .int), (cy_vas, .int), (cy_pls, .int), (cy_fst, .int)] [(h_td, .inr (5, (mo25 v_td (.ref h_lit) (.ref h_vas) (.ref h_pls) (.ref h_fst) (.int x_td_clauses)))), (h_lit, .inl (cy_lit, 16, .inl f_lit)), (h_vas, .inl (cy_vas, 16, .inl f_vas)), (h_pls, .inl (cy_pls, 16, .inl f_pls)), (h_fst, .inl (cy_fst, 96, .inl f_fst))] sz [.ref h_td, .int p1]) (va_Qv (fun (u : (Int32) × (Nat → Int32) × (Nat → Int32) × (Nat → Int32) × (Nat → Int32)) => (0 ≤ (u.1).toInt ∧ (u.1).toInt ≤ 16) ∧ (Rg 0 6 u.2.1) ∧ (Rg 0 299 u.2.2.2.2) ∧ ((u.1).toInt = (x_td_clauses).toInt - 1) ∧ (RMC (p1).toInt (u.1).toInt f_lit u.2.1 f_vas u.2.2.1 f_pls u.2.2.2.1 f_fst u.2.2.2.2)) (fun (u : (Int32) × (Nat → Int32) × (Nat → Int32) × (Nat → Int32) × (Nat → Int32)) (t : State) => va_P (dC, dI) cls [(h_td, .inr (5, (mo25 v_td (.ref h_lit) (.ref h_vas) (.ref h_pls) (.ref h_fst) (.int u.1)))), (h_lit, .inl (cy_lit, 16, .inl u.2.1)), (h_vas, .inl (cy_vas, 16, .inl u.2.2.1)), (h_pls, .inl (cy_pls, 16, .inl u.2.2.2.1)), (h_fst, .inl (cy_fst, 96, .inl u.2.2.2.2))] t.heap ∧ va_D (va_A [(h_td, .inr (5, (mo25 v_td (.ref h_lit) (.ref h_vas) (.ref h_pls) (.ref h_fst) (.int x_td_clauses)))), (h_lit, .inl (cy_lit, 16, .inl f_lit)), (h_vas, .inl (cy_vas, 16, .inl f_vas)), (h_pls, .inl (cy_pls, 16, .inl f_pls)), (h_fst, .inl (cy_fst, 96, .inl f_fst))] sz) [(h_td, .inr (5, (mo25 v_td (.ref h_lit) (.ref h_vas) (.ref h_pls) (.ref h_fst) (.int u.1)))), (h_lit, .inl (cy_lit, 16, .inl u.2.1)), (h_vas, .inl (cy_vas, 16, .inl u.2.2.1)), (h_pls, .inl (cy_pls, 16, .inl u.2.2.2.1)), (h_fst, .inl (cy_fst, 96, .inl u.2.2.2.2))]) (va_A [(h_td, .inr (5, (mo25 v_td (.ref h_lit) (.ref h_vas) (.ref h_pls) (.ref h_fst) (.int x_td_clauses)))), (h_lit, .inl (cy_lit, 16, .inl f_lit)), (h_vas, .inl (cy_vas, 16, .inl f_vas)), (h_pls, .inl (cy_pls, 16, .inl f_pls)), (h_fst, .inl (cy_fst, 96, .inl f_fst))] sz)) 0 0 (va_A [(h_td, .inr (5, (mo25 v_td (.ref h_lit) (.ref h_vas) (.ref h_pls) (.ref h_fst) (.int x_td_clauses)))), (h_lit, .inl (cy_lit, 16, .inl f_lit)), (h_vas, .inl (cy_vas, 16, .inl f_vas)), (h_pls, .inl (cy_pls, 16, .inl f_pls)), (h_fst, .inl (cy_fst, 96, .inl f_fst))] sz) := by
  refine Met.ofW (cc := cX8_remove) (maxL := 3) (ret := none) (by decide) rfl ?_
  intro p e s m args below meth c s₁ B hml hv
  obtain ⟨rfl, hsz, hP, hK, hD0, hN⟩ := hv
  have hx := B.exec
  have hb := B.bytes
  have hr := B.returns
  have hts := atoms_spec (ws := Ws yX8_remove cX8_remove 3 none) B.pre
  have hT : ∀ w ∈ WALL, w ∈ Ws yX8_remove cX8_remove 3 none := fun w h => List.mem_cons_of_mem _ h
  have hw := fun w (h : w ∈ WALL) => hts w (hT w h)
  have hown : s.vm.findClass RX8 = some m.cls := findClass_of_methodNamed B.named
  have hlocks := B.notSynchronized
  subst hsz
  have hD := hD0.self (sz := s.heap.size)
  generalize hAe : va_A [(h_td, .inr (5, (mo25 v_td (.ref h_lit) (.ref h_vas) (.ref h_pls) (.ref h_fst) (.int x_td_clauses)))), (h_lit, .inl (cy_lit, 16, .inl f_lit)), (h_vas, .inl (cy_vas, 16, .inl f_vas)), (h_pls, .inl (cy_pls, 16, .inl f_pls)), (h_fst, .inl (cy_fst, 96, .inl f_fst))] s.heap.size = A at hD ⊢
  have hA : ∀ q : Nat, s.heap.size ≤ q → A q := fun q h => by rw [← hAe]; exact Or.inr h
  have hS : va_S A s.heap s.heap [] := va_S.rf
  have hl := lv_entry ([.ref h_td, .int p1]) (n := 3) (Nat.le_of_ble_eq_true rfl)
  rw [lg_entry_eq]
  generalize (lg_sl ([.ref h_td, .int p1]) ++ List.replicate (3 - (lg_sl ([.ref h_td, .int p1])).length) Slot.unset).toArray = ls at hl ⊢
  have hl : lv_has ls 3 [(0, .ref h_td), (1, .int p1)] := hl
  refine lv_iload_n hx hb dX8_remove_0 rfl (lv_at hl 1 rfl) ?_
  refine lv_istore_n (lv' := [(2, .int p1), (0, .ref h_td), (1, .int p1)]) hx hb dX8_remove_1 rfl hl (by decide) rfl (fun ls hl => ?_)
  have lp6 : ∀ (n : Nat) (x1 : Int32) (f2 : Nat → Int32) (f3 : Nat → Int32) (f4 : Nat → Int32) (f5 : Nat → Int32) (H : Heap) (locs : List Loc) (ls : Array Slot), (0 ≤ (x1).toInt ∧ (x1).toInt ≤ 15) → (Rg 0 6 f2) → (Rg 0 299 f5) → ((x1).toInt < (x_td_clauses).toInt) → ((p1).toInt ≤ (x1).toInt) → (RMC (p1).toInt (x1).toInt f_lit f2 f_vas f3 f_pls f4 f_fst f5) → (16 - (x1).toInt).toNat + 1 ≤ n → va_P (dC, dI) cls [(h_td, .inr (5, (mo25 v_td (.ref h_lit) (.ref h_vas) (.ref h_pls) (.ref h_fst) (.int x_td_clauses)))), (h_lit, .inl (cy_lit, 16, .inl f2)), (h_vas, .inl (cy_vas, 16, .inl f3)), (h_pls, .inl (cy_pls, 16, .inl f4)), (h_fst, .inl (cy_fst, 96, .inl f5))] H → va_D A [(h_td, .inr (5, (mo25 v_td (.ref h_lit) (.ref h_vas) (.ref h_pls) (.ref h_fst) (.int x_td_clauses)))), (h_lit, .inl (cy_lit, 16, .inl f2)), (h_vas, .inl (cy_vas, 16, .inl f3)), (h_pls, .inl (cy_pls, 16, .inl f4)), (h_fst, .inl (cy_fst, 96, .inl f5))] → va_S A s.heap H locs → lv_has ls 3 [(0, .ref h_td), (1, .int p1), (2, .int x1)] → W p l e ({ frames := 1, cells := 0, slots := 0, locals := 80 } : Room) s m ([.ref h_td, .int p1] : List Value).toArray below meth c H locs 0 0 (MQ below (va_Qv (fun (u : (Int32) × (Nat → Int32) × (Nat → Int32) × (Nat → Int32) × (Nat → Int32)) => (0 ≤ (u.1).toInt ∧ (u.1).toInt ≤ 16) ∧ (Rg 0 6 u.2.1) ∧ (Rg 0 299 u.2.2.2.2) ∧ ((u.1).toInt = (x_td_clauses).toInt - 1) ∧ (RMC (p1).toInt (u.1).toInt f_lit u.2.1 f_vas u.2.2.1 f_pls u.2.2.2.1 f_fst u.2.2.2.2)) (fun (u : (Int32) × (Nat → Int32) × (Nat → Int32) × (Nat → Int32) × (Nat → Int32)) (t : State) => va_P (dC, dI) cls [(h_td, .inr (5, (mo25 v_td (.ref h_lit) (.ref h_vas) (.ref h_pls) (.ref h_fst) (.int u.1)))), (h_lit, .inl (cy_lit, 16, .inl u.2.1)), (h_vas, .inl (cy_vas, 16, .inl u.2.2.1)), (h_pls, .inl (cy_pls, 16, .inl u.2.2.2.1)), (h_fst, .inl (cy_fst, 96, .inl u.2.2.2.2))] t.heap ∧ va_D A [(h_td, .inr (5, (mo25 v_td (.ref h_lit) (.ref h_vas) (.ref h_pls) (.ref h_fst) (.int u.1)))), (h_lit, .inl (cy_lit, 16, .inl u.2.1)), (h_vas, .inl (cy_vas, 16, .inl u.2.2.1)), (h_pls, .inl (cy_pls, 16, .inl u.2.2.2.1)), (h_fst, .inl (cy_fst, 96, .inl u.2.2.2.2))]) A) ([.ref h_td, .int p1] : List Value).toArray s 0 0 A) (F0 m 2 ls []) := by
    clear hP hD hS hl
    intro n
    induction n with
    | zero => intro x1 f2 f3 f4 f5 H locs ls klp6_0 hf2 hf5 klp6_3 klp6_4 klp6_5 hm hP hD hS hl; exact False.elim (by omega)
    | succ n ih => 
      intro x1 f2 f3 f4 f5 H locs ls klp6_0 hf2 hf5 klp6_3 klp6_4 klp6_5 hm hP hD hS hl
      have ih7 := ih
      clear ih
      refine lv_iload_n hx hb dX8_remove_2 rfl (lv_at hl 2 rfl) ?_
      refine lv_iconst (v := 1) hx hb dX8_remove_3 (by decide) ?_
      refine lv_iadd hx hb dX8_remove_4 ?_
      refine lv_topi (fun z8 ez8 => ?_)
      have tz8 : (z8).toInt = (x1).toInt + 1 := by rw [ez8]; exact i_add rfl (by decide) (by omega)
      refine lv_aload_n hx hb dX8_remove_5 rfl (lv_at hl 0 rfl) ?_
      refine va_get (D := (dC, dI)) (ci := 5) (v := .int x_td_clauses) (C := RX8) (T := TX8) (N := 10) hx hb hw iwX8 hown hK hP 0 rfl rfl 9 (by decide) (hw _ w_f_X8_41) (fun _ h9 => h9) rfl dX8_remove_6 ?_
      refine lv_icmp_ge (tgt := 83) hx hb dX8_remove_9 (by decide) (fun c9 => ?_) (fun c9 => ?_)
      · have kc9 := (cv_le (rfl : (x_td_clauses).toInt = (x_td_clauses).toInt) (rfl : (z8).toInt = (z8).toInt)).mp c9
        refine lv_aload_n hx hb dX8_remove_83 rfl (lv_at hl 0 rfl) ?_
        refine lv_dup hx hb dX8_remove_84 rfl ?_
        refine va_get (D := (dC, dI)) (ci := 5) (v := .int x_td_clauses) (C := RX8) (T := TX8) (N := 10) hx hb hw iwX8 hown hK hP 0 rfl rfl 9 (by decide) (hw _ w_f_X8_41) (fun _ h9 => h9) rfl dX8_remove_85 ?_
        refine lv_iconst (v := 1) hx hb dX8_remove_88 (by decide) ?_
        refine lv_isub hx hb dX8_remove_89 ?_
        refine lv_topi (fun z10 ez10 => ?_)
        have tz10 : (z10).toInt = (x_td_clauses).toInt - 1 := by rw [ez10]; exact i_sub rfl (by decide) (by omega)
        refine va_put (D := (dC, dI)) (ci := 5) (v := .int z10) (ty := tyX8 9) (C := RX8) (T := TX8) (N := 10) hx hb hw iwX8 tyX8 tyX8_ok nmX8 hown hK hP hD hS 0 rfl rfl 9 (by decide) (hw _ w_f_X8_41) (fun _ h9 => h9) rfl (tyX8_ok 9 (by decide)) rfl rfl (Nat.le_of_ble_eq_true rfl) dX8_remove_90 (fun H locs hP9 hD9 hS9 => ?_)
        clear hP hD hS
        have hP : va_P (dC, dI) cls [(h_td, .inr (5, (mo25 v_td (.ref h_lit) (.ref h_vas) (.ref h_pls) (.ref h_fst) (.int z10)))), (h_lit, .inl (cy_lit, 16, .inl f2)), (h_vas, .inl (cy_vas, 16, .inl f3)), (h_pls, .inl (cy_pls, 16, .inl f4)), (h_fst, .inl (cy_fst, 96, .inl f5))] H := hP9
        have hD : va_D A [(h_td, .inr (5, (mo25 v_td (.ref h_lit) (.ref h_vas) (.ref h_pls) (.ref h_fst) (.int z10)))), (h_lit, .inl (cy_lit, 16, .inl f2)), (h_vas, .inl (cy_vas, 16, .inl f3)), (h_pls, .inl (cy_pls, 16, .inl f4)), (h_fst, .inl (cy_fst, 96, .inl f5))] := hD9
        have hS := hS9
        clear hP9 hD9 hS9
        refine W.widen (k := 0) (n := 0) (Nat.le_of_ble_eq_true rfl) (Nat.le_of_ble_eq_true rfl) ?_
        have w11 : 0 ≤ ((z10)).toInt ∧ ((z10)).toInt ≤ 16 := by omega
        have w12 : ((z10)).toInt = (x_td_clauses).toInt - 1 := by omega
        have w13 : RMC (p1).toInt ((z10)).toInt f_lit (f2) f_vas (f3) f_pls (f4) f_fst (f5) := (rmc_cast klp6_5 (by omega))
        exact W.vret hx hb hr (fun t ht hW => ⟨⟨(z10, f2, f3, f4, f5), rfl, ⟨w11, hf2, hf5, w12, w13⟩, by rw [ht]; exact hP, hD⟩, hS.F ht⟩) hS.2.2 dX8_remove_93
      · have kc9 := (not_congr (cv_le (rfl : (x_td_clauses).toInt = (x_td_clauses).toInt) (rfl : (z8).toInt = (z8).toInt))).mp c9
        refine lv_aload_n hx hb dX8_remove_12 rfl (lv_at hl 0 rfl) ?_
        refine va_get (D := (dC, dI)) (ci := 5) (v := .ref h_lit) (C := RX8) (T := TX8) (N := 10) hx hb hw iwX8 hown hK hP 0 rfl rfl 5 (by decide) (hw _ w_f_X8_25) (fun _ h9 => h9) rfl dX8_remove_13 ?_
        refine lv_iload_n hx hb dX8_remove_16 rfl (lv_at hl 2 rfl) ?_
        refine lv_aload_n hx hb dX8_remove_17 rfl (lv_at hl 0 rfl) ?_
        refine va_get (D := (dC, dI)) (ci := 5) (v := .ref h_lit) (C := RX8) (T := TX8) (N := 10) hx hb hw iwX8 hown hK hP 0 rfl rfl 5 (by decide) (hw _ w_f_X8_25) (fun _ h9 => h9) rfl dX8_remove_18 ?_
        refine lv_iload_n hx hb dX8_remove_21 rfl (lv_at hl 2 rfl) ?_
        refine lv_iconst (v := 1) hx hb dX8_remove_22 (by decide) ?_
        refine lv_iadd hx hb dX8_remove_23 ?_
        refine lv_topi (fun z14 ez14 => ?_)
        have qz14 : (z14).toInt = (z8).toInt := by rw [ez14, ez8]
        have tz14 : (z14).toInt = (x1).toInt + 1 := by rw [ez14]; exact i_add rfl (by decide) (by omega)
        refine va_iald hx hb hK hP 1 0 rfl rfl (i := z14) (vp_in_iff.mpr (by omega)) dX8_remove_24 ?_
        refine lv_topi (fun z15 ez15 => ?_)
        have rz15 : 0 ≤ (z15).toInt ∧ (z15).toInt ≤ 6 := by rw [ez15]; exact hf2 _
        refine va_iast hx hb hK hP hD hS 1 0 rfl rfl (i := x1) (x := z15) (vp_in_iff.mpr (by omega)) dX8_remove_25 (fun H locs hP9 hD9 hS9 => ?_)
        obtain ⟨f16, ef16⟩ : ∃ g : Nat → Int32, g = upd f2 (Int32.toNatClampNeg x1) z15 := ⟨_, rfl⟩
        clear hP hD hS
        have hP : va_P (dC, dI) cls [(h_td, .inr (5, (mo25 v_td (.ref h_lit) (.ref h_vas) (.ref h_pls) (.ref h_fst) (.int x_td_clauses)))), (h_lit, .inl (cy_lit, 16, .inl f16)), (h_vas, .inl (cy_vas, 16, .inl f3)), (h_pls, .inl (cy_pls, 16, .inl f4)), (h_fst, .inl (cy_fst, 96, .inl f5))] H := by rw [ef16]; exact hP9
        have hD : va_D A [(h_td, .inr (5, (mo25 v_td (.ref h_lit) (.ref h_vas) (.ref h_pls) (.ref h_fst) (.int x_td_clauses)))), (h_lit, .inl (cy_lit, 16, .inl f16)), (h_vas, .inl (cy_vas, 16, .inl f3)), (h_pls, .inl (cy_pls, 16, .inl f4)), (h_fst, .inl (cy_fst, 96, .inl f5))] := by rw [ef16]; exact hD9
        have hS := hS9
        clear hP9 hD9 hS9
        have hf16 : Rg 0 6 f16 := by rw [ef16]; exact rg_upd hf2 (by omega)
        have rr17 : f16 = upd f2 (Int32.toNatClampNeg x1) (f2 (Int32.toNatClampNeg z14)) := by rw [ef16, ez15]
        refine lv_aload_n hx hb dX8_remove_26 rfl (lv_at hl 0 rfl) ?_
        refine va_get (D := (dC, dI)) (ci := 5) (v := .ref h_vas) (C := RX8) (T := TX8) (N := 10) hx hb hw iwX8 hown hK hP 0 rfl rfl 6 (by decide) (hw _ w_f_X8_28) (fun _ h9 => h9) rfl dX8_remove_27 ?_
        refine lv_iload_n hx hb dX8_remove_30 rfl (lv_at hl 2 rfl) ?_
        refine lv_aload_n hx hb dX8_remove_31 rfl (lv_at hl 0 rfl) ?_
        refine va_get (D := (dC, dI)) (ci := 5) (v := .ref h_vas) (C := RX8) (T := TX8) (N := 10) hx hb hw iwX8 hown hK hP 0 rfl rfl 6 (by decide) (hw _ w_f_X8_28) (fun _ h9 => h9) rfl dX8_remove_32 ?_
        refine lv_iload_n hx hb dX8_remove_35 rfl (lv_at hl 2 rfl) ?_
        refine lv_iconst (v := 1) hx hb dX8_remove_36 (by decide) ?_
        refine lv_iadd hx hb dX8_remove_37 ?_
        refine lv_topi (fun z18 ez18 => ?_)
        have qz18 : (z18).toInt = (z8).toInt := by rw [ez18, ez8]
        have tz18 : (z18).toInt = (x1).toInt + 1 := by rw [ez18]; exact i_add rfl (by decide) (by omega)
        refine va_iald hx hb hK hP 2 1 rfl rfl (i := z18) (vp_in_iff.mpr (by omega)) dX8_remove_38 ?_
        refine lv_topi (fun z19 ez19 => ?_)
        refine va_iast hx hb hK hP hD hS 2 1 rfl rfl (i := x1) (x := z19) (vp_in_iff.mpr (by omega)) dX8_remove_39 (fun H locs hP9 hD9 hS9 => ?_)
        obtain ⟨f20, ef20⟩ : ∃ g : Nat → Int32, g = upd f3 (Int32.toNatClampNeg x1) z19 := ⟨_, rfl⟩
        clear hP hD hS
        have hP : va_P (dC, dI) cls [(h_td, .inr (5, (mo25 v_td (.ref h_lit) (.ref h_vas) (.ref h_pls) (.ref h_fst) (.int x_td_clauses)))), (h_lit, .inl (cy_lit, 16, .inl f16)), (h_vas, .inl (cy_vas, 16, .inl f20)), (h_pls, .inl (cy_pls, 16, .inl f4)), (h_fst, .inl (cy_fst, 96, .inl f5))] H := by rw [ef20]; exact hP9
        have hD : va_D A [(h_td, .inr (5, (mo25 v_td (.ref h_lit) (.ref h_vas) (.ref h_pls) (.ref h_fst) (.int x_td_clauses)))), (h_lit, .inl (cy_lit, 16, .inl f16)), (h_vas, .inl (cy_vas, 16, .inl f20)), (h_pls, .inl (cy_pls, 16, .inl f4)), (h_fst, .inl (cy_fst, 96, .inl f5))] := by rw [ef20]; exact hD9
        have hS := hS9
        clear hP9 hD9 hS9
        have rr21 : f20 = upd f3 (Int32.toNatClampNeg x1) (f3 (Int32.toNatClampNeg z18)) := by rw [ef20, ez19]
        refine lv_aload_n hx hb dX8_remove_40 rfl (lv_at hl 0 rfl) ?_
        refine va_get (D := (dC, dI)) (ci := 5) (v := .ref h_pls) (C := RX8) (T := TX8) (N := 10) hx hb hw iwX8 hown hK hP 0 rfl rfl 7 (by decide) (hw _ w_f_X8_31) (fun _ h9 => h9) rfl dX8_remove_41 ?_
        refine lv_iload_n hx hb dX8_remove_44 rfl (lv_at hl 2 rfl) ?_
        refine lv_aload_n hx hb dX8_remove_45 rfl (lv_at hl 0 rfl) ?_
        refine va_get (D := (dC, dI)) (ci := 5) (v := .ref h_pls) (C := RX8) (T := TX8) (N := 10) hx hb hw iwX8 hown hK hP 0 rfl rfl 7 (by decide) (hw _ w_f_X8_31) (fun _ h9 => h9) rfl dX8_remove_46 ?_
        refine lv_iload_n hx hb dX8_remove_49 rfl (lv_at hl 2 rfl) ?_
        refine lv_iconst (v := 1) hx hb dX8_remove_50 (by decide) ?_
        refine lv_iadd hx hb dX8_remove_51 ?_
        refine lv_topi (fun z22 ez22 => ?_)
        have qz22 : (z22).toInt = (z8).toInt := by rw [ez22, ez8]
        have tz22 : (z22).toInt = (x1).toInt + 1 := by rw [ez22]; exact i_add rfl (by decide) (by omega)
        refine va_iald hx hb hK hP 3 2 rfl rfl (i := z22) (vp_in_iff.mpr (by omega)) dX8_remove_52 ?_
        refine lv_topi (fun z23 ez23 => ?_)
        refine va_iast hx hb hK hP hD hS 3 2 rfl rfl (i := x1) (x := z23) (vp_in_iff.mpr (by omega)) dX8_remove_53 (fun H locs hP9 hD9 hS9 => ?_)
        obtain ⟨f24, ef24⟩ : ∃ g : Nat → Int32, g = upd f4 (Int32.toNatClampNeg x1) z23 := ⟨_, rfl⟩
        clear hP hD hS
        have hP : va_P (dC, dI) cls [(h_td, .inr (5, (mo25 v_td (.ref h_lit) (.ref h_vas) (.ref h_pls) (.ref h_fst) (.int x_td_clauses)))), (h_lit, .inl (cy_lit, 16, .inl f16)), (h_vas, .inl (cy_vas, 16, .inl f20)), (h_pls, .inl (cy_pls, 16, .inl f24)), (h_fst, .inl (cy_fst, 96, .inl f5))] H := by rw [ef24]; exact hP9
        have hD : va_D A [(h_td, .inr (5, (mo25 v_td (.ref h_lit) (.ref h_vas) (.ref h_pls) (.ref h_fst) (.int x_td_clauses)))), (h_lit, .inl (cy_lit, 16, .inl f16)), (h_vas, .inl (cy_vas, 16, .inl f20)), (h_pls, .inl (cy_pls, 16, .inl f24)), (h_fst, .inl (cy_fst, 96, .inl f5))] := by rw [ef24]; exact hD9
        have hS := hS9
        clear hP9 hD9 hS9
        have rr25 : f24 = upd f4 (Int32.toNatClampNeg x1) (f4 (Int32.toNatClampNeg z22)) := by rw [ef24, ez23]
        refine lv_aload_n hx hb dX8_remove_54 rfl (lv_at hl 0 rfl) ?_
        refine va_get (D := (dC, dI)) (ci := 5) (v := .ref h_fst) (C := RX8) (T := TX8) (N := 10) hx hb hw iwX8 hown hK hP 0 rfl rfl 8 (by decide) (hw _ w_f_X8_34) (fun _ h9 => h9) rfl dX8_remove_55 ?_
        refine lv_iload_n hx hb dX8_remove_58 rfl (lv_at hl 2 rfl) ?_
        refine lv_iconst (v := 1) hx hb dX8_remove_59 (by decide) ?_
        refine lv_iadd hx hb dX8_remove_60 ?_
        refine lv_topi (fun z26 ez26 => ?_)
        have qz26 : (z26).toInt = (z8).toInt := by rw [ez26, ez8]
        have tz26 : (z26).toInt = (x1).toInt + 1 := by rw [ez26]; exact i_add rfl (by decide) (by omega)
        refine lv_bipush (v := 6) hx hb dX8_remove_61 (by decide) ?_
        refine lv_imul hx hb dX8_remove_63 ?_
        refine lv_topi (fun z27 ez27 => ?_)
        have tz27 : (z27).toInt = (z26).toInt * 6 := by rw [ez27]; exact i_mul rfl (by decide) (by omega)
        refine lv_aload_n hx hb dX8_remove_64 rfl (lv_at hl 0 rfl) ?_
        refine va_get (D := (dC, dI)) (ci := 5) (v := .ref h_fst) (C := RX8) (T := TX8) (N := 10) hx hb hw iwX8 hown hK hP 0 rfl rfl 8 (by decide) (hw _ w_f_X8_34) (fun _ h9 => h9) rfl dX8_remove_65 ?_
        refine lv_iload_n hx hb dX8_remove_68 rfl (lv_at hl 2 rfl) ?_
        refine lv_bipush (v := 6) hx hb dX8_remove_69 (by decide) ?_
        refine lv_imul hx hb dX8_remove_71 ?_
        refine lv_topi (fun z28 ez28 => ?_)
        have tz28 : (z28).toInt = (x1).toInt * 6 := by rw [ez28]; exact i_mul rfl (by decide) (by omega)
        refine lv_bipush (v := 6) hx hb dX8_remove_72 (by decide) ?_
        refine va_copyi hx hb (hml.trans hl.1.symm) hown (hw _ w_m_X8_64) (hw _ w_acn) (hw _ w_acs) (hw _ w_ini_System) hK hP hD hS 4 4 3 3 (sp := z27) (dp := z28) (n := 6) rfl rfl rfl rfl rfl (fun q => by have := (cv_lt (rfl : (z27).toInt = (z27).toInt) (by decide : (0 : Int32).toInt = 0)).mp q; omega) (fun q => by have := (cv_lt (rfl : (z28).toInt = (z28).toInt) (by decide : (0 : Int32).toInt = 0)).mp q; omega) (by decide) (by have := clamp_toInt (i := z27) (by omega); have : (6 : Int32).toNatClampNeg = 6 := (by decide); omega) (by have := clamp_toInt (i := z28) (by omega); have : (6 : Int32).toNatClampNeg = 6 := (by decide); omega) (fun _ _ => rfl) (Nat.le_of_ble_eq_true rfl) (Nat.le_of_ble_eq_true rfl) dX8_remove_74 (fun H locs hP hD hS => ?_)
        obtain ⟨f29, ef29⟩ : ∃ g : Nat → Int32, g = va_cpy f5 f5 (Int32.toNatClampNeg z27) (Int32.toNatClampNeg z28) (Int32.toNatClampNeg 6) := ⟨_, rfl⟩
        have hP : va_P (dC, dI) cls [(h_td, .inr (5, (mo25 v_td (.ref h_lit) (.ref h_vas) (.ref h_pls) (.ref h_fst) (.int x_td_clauses)))), (h_lit, .inl (cy_lit, 16, .inl f16)), (h_vas, .inl (cy_vas, 16, .inl f20)), (h_pls, .inl (cy_pls, 16, .inl f24)), (h_fst, .inl (cy_fst, 96, .inl f29))] H := by rw [ef29]; exact hP
        have hD : va_D A [(h_td, .inr (5, (mo25 v_td (.ref h_lit) (.ref h_vas) (.ref h_pls) (.ref h_fst) (.int x_td_clauses)))), (h_lit, .inl (cy_lit, 16, .inl f16)), (h_vas, .inl (cy_vas, 16, .inl f20)), (h_pls, .inl (cy_pls, 16, .inl f24)), (h_fst, .inl (cy_fst, 96, .inl f29))] := by rw [ef29]; exact hD
        have hf29 : Rg 0 299 f29 := by rw [ef29]; exact rg_cpy hf5 hf5
        have rm30 : RMC (p1).toInt ((x1).toInt + 1) f_lit f16 f_vas f20 f_pls f24 f_fst f29 := rmc_step (j1 := 0) (j2 := 0) (i := x1) klp6_5 (by omega) rfl (by omega) (by omega) (by omega) rr17 rr21 rr25 (z := z27) (w := z28) (by omega) (by omega) ef29 rfl
        clear ef29
        obtain ⟨z31, ez31⟩ : ∃ y : Int32, y = x1 + 1 := ⟨_, rfl⟩
        have tz31 : (z31).toInt = (x1).toInt + 1 := by rw [ez31]; exact i_add rfl (by decide) (by omega)
        refine lv_iinc (v := z31) (lv' := [(2, .int z31), (0, .ref h_td), (1, .int p1)]) hx hb dX8_remove_77 hl (k := 2) rfl (by rw [ez31]; rfl) (by decide) rfl (fun ls hl => ?_)
        refine lv_goto (tgt := 2) hx hb dX8_remove_80 (by decide) ?_
        exact ih7 (z31) (f16) (f20) (f24) (f29) _ _ _ (by omega) hf16 hf29 (by omega) (by omega) (rmc_cast rm30 (by omega)) (by omega) hP hD hS (lv_sub hl [1, 2, 0] rfl)
  exact lp6 _ (p1) (f_lit) (f_vas) (f_pls) (f_fst) _ _ _ (by omega) hf_lit hf_fst (by first | exact q1 | omega) (by omega) (rmc_cast (rmc_zero rfl) (by omega)) (Nat.le_refl _) hP hD hS (lv_sub hl [1, 2, 0] rfl)

set_option maxHeartbeats 8000000 in
set_option maxRecDepth 100000 in
theorem c_X5_take (l : Launch) (dC : Nat → ClassId) (dI : Nat → Nat → Nat) (sz : Nat) (h_rd : Nat) (h_by : Nat) (v_rd : Nat → Value) (x_rd_length : Int32) (cy_by : ClassId) (f_by : Nat → Int32) (p1 : Int32) (hx_rd_length : 0 ≤ (x_rd_length).toInt ∧ (x_rd_length).toInt ≤ 600) (hf_by : Rg 0 255 f_by) (q0 : (x_rd_length).toInt ≤ 596) : Met l yX5_take (Ws yX5_take cX5_take 3 none) (({ frames := 0, cells := 0, slots := 0, locals := 0 } : Room)) (PRE (dC, dI) cls [(cy_by, .int)] [(h_rd, .inr (4, (mo26 v_rd (.ref h_by) (.int x_rd_length)))), (h_by, .inl (cy_by, 600, .inl f_by))] sz [.ref h_rd, .int p1]) (va_Qv (fun (u : (Int32) × (Nat → Int32)) => (0 ≤ (u.1).toInt ∧ (u.1).toInt ≤ 600) ∧ (Rg 0 255 u.2) ∧ ((u.1).toInt = (x_rd_length).toInt + 4) ∧ (TKF (x_rd_length).toInt p1 4 f_by u.2)) (fun (u : (Int32) × (Nat → Int32)) (t : State) => va_P (dC, dI) cls [(h_rd, .inr (4, (mo26 v_rd (.ref h_by) (.int u.1)))), (h_by, .inl (cy_by, 600, .inl u.2))] t.heap ∧ va_D (va_A [(h_rd, .inr (4, (mo26 v_rd (.ref h_by) (.int x_rd_length)))), (h_by, .inl (cy_by, 600, .inl f_by))] sz) [(h_rd, .inr (4, (mo26 v_rd (.ref h_by) (.int u.1)))), (h_by, .inl (cy_by, 600, .inl u.2))]) (va_A [(h_rd, .inr (4, (mo26 v_rd (.ref h_by) (.int x_rd_length)))), (h_by, .inl (cy_by, 600, .inl f_by))] sz)) 0 0 (va_A [(h_rd, .inr (4, (mo26 v_rd (.ref h_by) (.int x_rd_length)))), (h_by, .inl (cy_by, 600, .inl f_by))] sz) := by
  refine Met.ofW (cc := cX5_take) (maxL := 3) (ret := none) (by decide) rfl ?_
  intro p e s m args below meth c s₁ B hml hv
  obtain ⟨rfl, hsz, hP, hK, hD0, hN⟩ := hv
  have hx := B.exec
  have hb := B.bytes
  have hr := B.returns
  have hts := atoms_spec (ws := Ws yX5_take cX5_take 3 none) B.pre
  have hT : ∀ w ∈ WALL, w ∈ Ws yX5_take cX5_take 3 none := fun w h => List.mem_cons_of_mem _ h
  have hw := fun w (h : w ∈ WALL) => hts w (hT w h)
  have hown : s.vm.findClass RX5 = some m.cls := findClass_of_methodNamed B.named
  have hlocks := B.notSynchronized
  subst hsz
  have hD := hD0.self (sz := s.heap.size)
  generalize hAe : va_A [(h_rd, .inr (4, (mo26 v_rd (.ref h_by) (.int x_rd_length)))), (h_by, .inl (cy_by, 600, .inl f_by))] s.heap.size = A at hD ⊢
  have hA : ∀ q : Nat, s.heap.size ≤ q → A q := fun q h => by rw [← hAe]; exact Or.inr h
  have hS : va_S A s.heap s.heap [] := va_S.rf
  have hl := lv_entry ([.ref h_rd, .int p1]) (n := 3) (Nat.le_of_ble_eq_true rfl)
  rw [lg_entry_eq]
  generalize (lg_sl ([.ref h_rd, .int p1]) ++ List.replicate (3 - (lg_sl ([.ref h_rd, .int p1])).length) Slot.unset).toArray = ls at hl ⊢
  have hl : lv_has ls 3 [(0, .ref h_rd), (1, .int p1)] := hl
  refine lv_bipush (v := 24) hx hb dX5_take_0 (by decide) ?_
  refine lv_istore_n (lv' := [(2, .int 24), (0, .ref h_rd), (1, .int p1)]) hx hb dX5_take_2 rfl hl (by decide) rfl (fun ls hl => ?_)
  have lp4 : ∀ (n : Nat) (x1 : Int32) (x2 : Int32) (f3 : Nat → Int32) (H : Heap) (locs : List Loc) (ls : Array Slot), (-8 ≤ (x1).toInt ∧ (x1).toInt ≤ 24) → (0 ≤ (x2).toInt ∧ (x2).toInt ≤ 600) → (Rg 0 255 f3) → (((x2).toInt) * 8 = (x_rd_length).toInt * 8 + 24 - (x1).toInt) → ((x1).toInt % 8 = 0) → (TKF (x_rd_length).toInt p1 ((x2).toInt - (x_rd_length).toInt) f_by f3) → ((x1).toInt + 8).toNat + 1 ≤ n → va_P (dC, dI) cls [(h_rd, .inr (4, (mo26 v_rd (.ref h_by) (.int x2)))), (h_by, .inl (cy_by, 600, .inl f3))] H → va_D A [(h_rd, .inr (4, (mo26 v_rd (.ref h_by) (.int x2)))), (h_by, .inl (cy_by, 600, .inl f3))] → va_S A s.heap H locs → lv_has ls 3 [(0, .ref h_rd), (1, .int p1), (2, .int x1)] → W p l e ({ frames := 0, cells := 0, slots := 0, locals := 0 } : Room) s m ([.ref h_rd, .int p1] : List Value).toArray below meth c H locs 0 0 (MQ below (va_Qv (fun (u : (Int32) × (Nat → Int32)) => (0 ≤ (u.1).toInt ∧ (u.1).toInt ≤ 600) ∧ (Rg 0 255 u.2) ∧ ((u.1).toInt = (x_rd_length).toInt + 4) ∧ (TKF (x_rd_length).toInt p1 4 f_by u.2)) (fun (u : (Int32) × (Nat → Int32)) (t : State) => va_P (dC, dI) cls [(h_rd, .inr (4, (mo26 v_rd (.ref h_by) (.int u.1)))), (h_by, .inl (cy_by, 600, .inl u.2))] t.heap ∧ va_D A [(h_rd, .inr (4, (mo26 v_rd (.ref h_by) (.int u.1)))), (h_by, .inl (cy_by, 600, .inl u.2))]) A) ([.ref h_rd, .int p1] : List Value).toArray s 0 0 A) (F0 m 3 ls []) := by
    clear hP hD hS hl
    intro n
    induction n with
    | zero => intro x1 x2 f3 H locs ls klp4_0 klp4_1 hf3 klp4_3 klp4_4 klp4_5 hm hP hD hS hl; exact False.elim (by omega)
    | succ n ih => 
      intro x1 x2 f3 H locs ls klp4_0 klp4_1 hf3 klp4_3 klp4_4 klp4_5 hm hP hD hS hl
      have ih5 := ih
      clear ih
      refine lv_iload_n hx hb dX5_take_3 rfl (lv_at hl 2 rfl) ?_
      refine lv_if_lt (tgt := 46) hx hb dX5_take_4 (by decide) (fun c6 => ?_) (fun c6 => ?_)
      · have kc6 := (cv_lt (rfl : (x1).toInt = (x1).toInt) (by decide : (0 : Int32).toInt = 0)).mp c6
        refine W.widen (k := 0) (n := 0) (Nat.le_of_ble_eq_true rfl) (Nat.le_of_ble_eq_true rfl) ?_
        have w7 : 0 ≤ ((x2)).toInt ∧ ((x2)).toInt ≤ 600 := by first | exact klp4_1 | omega
        have w8 : ((x2)).toInt = (x_rd_length).toInt + 4 := by omega
        have w9 : TKF (x_rd_length).toInt p1 4 f_by (f3) := (tkf_cast klp4_5 (by omega))
        exact W.vret hx hb hr (fun t ht hW => ⟨⟨(x2, f3), rfl, ⟨w7, hf3, w8, w9⟩, by rw [ht]; exact hP, hD⟩, hS.F ht⟩) hS.2.2 dX5_take_46
      · have kc6 := (not_congr (cv_lt (rfl : (x1).toInt = (x1).toInt) (by decide : (0 : Int32).toInt = 0))).mp c6
        refine lv_aload_n hx hb dX5_take_7 rfl (lv_at hl 0 rfl) ?_
        refine va_get (D := (dC, dI)) (ci := 4) (v := .int x2) (C := RX5) (T := TX5) (N := 11) hx hb hw iwX5 hown hK hP 0 rfl rfl 1 (by decide) (hw _ w_f_X5_22) (fun _ h9 => h9) rfl dX5_take_8 ?_
        refine lv_sipush (v := 600) hx hb dX5_take_11 (by decide) ?_
        refine lv_icmp_ge (tgt := 46) hx hb dX5_take_14 (by decide) (fun c10 => ?_) (fun c10 => ?_)
        · have kc10 := (cv_le (by decide : (600 : Int32).toInt = 600) (rfl : (x2).toInt = (x2).toInt)).mp c10
          refine W.widen (k := 0) (n := 0) (Nat.le_of_ble_eq_true rfl) (Nat.le_of_ble_eq_true rfl) ?_
          have w11 : 0 ≤ ((x2)).toInt ∧ ((x2)).toInt ≤ 600 := by first | exact klp4_1 | omega
          have w12 : ((x2)).toInt = (x_rd_length).toInt + 4 := by omega
          have w13 : TKF (x_rd_length).toInt p1 4 f_by (f3) := (tkf_cast klp4_5 (by omega))
          exact W.vret hx hb hr (fun t ht hW => ⟨⟨(x2, f3), rfl, ⟨w11, hf3, w12, w13⟩, by rw [ht]; exact hP, hD⟩, hS.F ht⟩) hS.2.2 dX5_take_46
        · have kc10 := (not_congr (cv_le (by decide : (600 : Int32).toInt = 600) (rfl : (x2).toInt = (x2).toInt))).mp c10
          refine lv_aload_n hx hb dX5_take_17 rfl (lv_at hl 0 rfl) ?_
          refine va_get (D := (dC, dI)) (ci := 4) (v := .ref h_by) (C := RX5) (T := TX5) (N := 11) hx hb hw iwX5 hown hK hP 0 rfl rfl 0 (by decide) (hw _ w_f_X5_9) (fun _ h9 => h9) rfl dX5_take_18 ?_
          refine lv_aload_n hx hb dX5_take_21 rfl (lv_at hl 0 rfl) ?_
          refine lv_dup hx hb dX5_take_22 rfl ?_
          refine va_get (D := (dC, dI)) (ci := 4) (v := .int x2) (C := RX5) (T := TX5) (N := 11) hx hb hw iwX5 hown hK hP 0 rfl rfl 1 (by decide) (hw _ w_f_X5_22) (fun _ h9 => h9) rfl dX5_take_23 ?_
          refine lv_dup_x1 hx hb dX5_take_26 rfl rfl ?_
          refine lv_iconst (v := 1) hx hb dX5_take_27 (by decide) ?_
          refine lv_iadd hx hb dX5_take_28 ?_
          refine lv_topi (fun z14 ez14 => ?_)
          have tz14 : (z14).toInt = (x2).toInt + 1 := by rw [ez14]; exact i_add rfl (by decide) (by omega)
          refine va_put (D := (dC, dI)) (ci := 4) (v := .int z14) (ty := tyX5 1) (C := RX5) (T := TX5) (N := 11) hx hb hw iwX5 tyX5 tyX5_ok nmX5 hown hK hP hD hS 0 rfl rfl 1 (by decide) (hw _ w_f_X5_22) (fun _ h9 => h9) rfl (tyX5_ok 1 (by decide)) rfl rfl (Nat.le_of_ble_eq_true rfl) dX5_take_29 (fun H locs hP9 hD9 hS9 => ?_)
          clear hP hD hS
          have hP : va_P (dC, dI) cls [(h_rd, .inr (4, (mo26 v_rd (.ref h_by) (.int z14)))), (h_by, .inl (cy_by, 600, .inl f3))] H := hP9
          have hD : va_D A [(h_rd, .inr (4, (mo26 v_rd (.ref h_by) (.int z14)))), (h_by, .inl (cy_by, 600, .inl f3))] := hD9
          have hS := hS9
          clear hP9 hD9 hS9
          refine lv_iload_n hx hb dX5_take_32 rfl (lv_at hl 1 rfl) ?_
          refine lv_iload_n hx hb dX5_take_33 rfl (lv_at hl 2 rfl) ?_
          refine lv_ishr hx hb dX5_take_34 ?_
          refine lv_topi (fun z15 ez15 => ?_)
          refine lv_sipush (v := 255) hx hb dX5_take_35 (by decide) ?_
          refine lv_iand hx hb dX5_take_38 ?_
          refine lv_topi (fun z16 ez16 => ?_)
          have tz16 : 0 ≤ (z16).toInt ∧ (z16).toInt ≤ 255 := by rw [ez16]; exact i_andr 8 (by decide) (by decide) (by decide)
          refine va_iast hx hb hK hP hD hS 1 0 rfl rfl (i := x2) (x := z16) (vp_in_iff.mpr (by omega)) dX5_take_39 (fun H locs hP9 hD9 hS9 => ?_)
          obtain ⟨f17, ef17⟩ : ∃ g : Nat → Int32, g = upd f3 (Int32.toNatClampNeg x2) z16 := ⟨_, rfl⟩
          clear hP hD hS
          have hP : va_P (dC, dI) cls [(h_rd, .inr (4, (mo26 v_rd (.ref h_by) (.int z14)))), (h_by, .inl (cy_by, 600, .inl f17))] H := by rw [ef17]; exact hP9
          have hD : va_D A [(h_rd, .inr (4, (mo26 v_rd (.ref h_by) (.int z14)))), (h_by, .inl (cy_by, 600, .inl f17))] := by rw [ef17]; exact hD9
          have hS := hS9
          clear hP9 hD9 hS9
          have hf17 : Rg 0 255 f17 := by rw [ef17]; exact rg_upd hf3 (by omega)
          have tf18 : TKF (x_rd_length).toInt p1 ((z14).toInt - (x_rd_length).toInt) f_by f17 := tkf_step (s := x1) klp4_5 (by omega) (by omega) (by omega) (by omega) (by rw [ez16, ez15]) ef17 (by omega)
          obtain ⟨z19, ez19⟩ : ∃ y : Int32, y = x1 + (-8) := ⟨_, rfl⟩
          have tz19 : (z19).toInt = (x1).toInt + -8 := by rw [ez19]; exact i_add rfl (by decide) (by omega)
          refine lv_iinc (v := z19) (lv' := [(2, .int z19), (0, .ref h_rd), (1, .int p1)]) hx hb dX5_take_40 hl (k := 2) rfl (by rw [ez19]; rfl) (by decide) rfl (fun ls hl => ?_)
          refine lv_goto (tgt := 3) hx hb dX5_take_43 (by decide) ?_
          exact ih5 (z19) (z14) (f17) _ _ _ (by omega) (by omega) hf17 (by omega) (by omega) tf18 (by omega) hP hD hS (lv_sub hl [1, 2, 0] rfl)
  have cst24 : (24 : Int32).toInt = 24 := by decide
  exact lp4 _ (24) (x_rd_length) (f_by) _ _ _ (by decide) (by first | exact hx_rd_length | omega) hf_by (by omega) (by omega) (tkf_zero (by omega)) (Nat.le_refl _) hP hD hS (lv_sub hl [1, 2, 0] rfl)

set_option maxHeartbeats 8000000 in
set_option maxRecDepth 100000 in
theorem c_X5_isSmall (l : Launch) (dC : Nat → ClassId) (dI : Nat → Nat → Nat) (sz : Nat) (p1 : Int32)  : Met l yX5_isSmall (Ws yX5_isSmall cX5_isSmall 1 (some .boolean)) (({ frames := 0, cells := 0, slots := 0, locals := 0 } : Room)) (PRE (dC, dI) cls [] [] sz [.int p1]) (va_Qi (fun (r : Int32) (_ : Unit) => (0 ≤ r.toInt ∧ r.toInt ≤ 1) ∧ (((r).toInt = 1 ∧ 97 ≤ (p1).toInt ∧ (p1).toInt ≤ 122) ∨ ((r).toInt = 0 ∧ ¬ (97 ≤ (p1).toInt ∧ (p1).toInt ≤ 122)))) (fun (_ : Unit) (t : State) => va_P (dC, dI) cls [] t.heap ∧ va_D (va_A [] sz) []) (va_A [] sz)) 0 0 (va_A [] sz) := by
  refine Met.ofW (cc := cX5_isSmall) (maxL := 1) (ret := (some .boolean)) (by decide) rfl ?_
  intro p e s m args below meth c s₁ B hml hv
  obtain ⟨rfl, hsz, hP, hK, hD0, hN⟩ := hv
  have hx := B.exec
  have hb := B.bytes
  have hr := B.returns
  have hts := atoms_spec (ws := Ws yX5_isSmall cX5_isSmall 1 (some .boolean)) B.pre
  have hT : ∀ w ∈ WALL, w ∈ Ws yX5_isSmall cX5_isSmall 1 (some .boolean) := fun w h => List.mem_cons_of_mem _ h
  have hw := fun w (h : w ∈ WALL) => hts w (hT w h)
  have hown : s.vm.findClass RX5 = some m.cls := findClass_of_methodNamed B.named
  have hlocks := B.notSynchronized
  subst hsz
  have hD := hD0.self (sz := s.heap.size)
  generalize hAe : va_A [] s.heap.size = A at hD ⊢
  have hA : ∀ q : Nat, s.heap.size ≤ q → A q := fun q h => by rw [← hAe]; exact Or.inr h
  have hS : va_S A s.heap s.heap [] := va_S.rf
  have hl := lv_entry ([.int p1]) (n := 1) (Nat.le_of_ble_eq_true rfl)
  rw [lg_entry_eq]
  generalize (lg_sl ([.int p1]) ++ List.replicate (1 - (lg_sl ([.int p1])).length) Slot.unset).toArray = ls at hl ⊢
  have hl : lv_has ls 1 [(0, .int p1)] := hl
  refine lv_iload_n hx hb dX5_isSmall_0 rfl (lv_at hl 0 rfl) ?_
  refine lv_bipush (v := 97) hx hb dX5_isSmall_1 (by decide) ?_
  refine lv_icmp_lt (tgt := 16) hx hb dX5_isSmall_3 (by decide) (fun c1 => ?_) (fun c1 => ?_)
  · have kc1 := (cv_lt (rfl : (p1).toInt = (p1).toInt) (by decide : (97 : Int32).toInt = 97)).mp c1
    refine lv_iconst (v := 0) hx hb dX5_isSmall_16 (by decide) ?_
    refine W.widen (k := 0) (n := 0) (Nat.le_of_ble_eq_true rfl) (Nat.le_of_ble_eq_true rfl) ?_
    have cst0 : (0 : Int32).toInt = 0 := by decide
    have w2 : 0 ≤ (0 : Int32).toInt ∧ (0 : Int32).toInt ≤ 1 := by omega
    have w3 : (((0 : Int32)).toInt = 1 ∧ 97 ≤ (p1).toInt ∧ (p1).toInt ≤ 122) ∨ (((0 : Int32)).toInt = 0 ∧ ¬ (97 ≤ (p1).toInt ∧ (p1).toInt ≤ 122)) := by omega
    exact W.zret (v := 0) (ty := .boolean) hx hb hr (by decide) (fun t ht hW => ⟨⟨0, (), rfl, ⟨w2, w3⟩, by rw [ht]; exact hP, hD⟩, hS.F ht⟩) hS.2.2 dX5_isSmall_17
  · have kc1 := (not_congr (cv_lt (rfl : (p1).toInt = (p1).toInt) (by decide : (97 : Int32).toInt = 97))).mp c1
    refine lv_iload_n hx hb dX5_isSmall_6 rfl (lv_at hl 0 rfl) ?_
    refine lv_bipush (v := 122) hx hb dX5_isSmall_7 (by decide) ?_
    refine lv_icmp_gt (tgt := 16) hx hb dX5_isSmall_9 (by decide) (fun c4 => ?_) (fun c4 => ?_)
    · have kc4 := (cv_lt (by decide : (122 : Int32).toInt = 122) (rfl : (p1).toInt = (p1).toInt)).mp c4
      refine lv_iconst (v := 0) hx hb dX5_isSmall_16 (by decide) ?_
      refine W.widen (k := 0) (n := 0) (Nat.le_of_ble_eq_true rfl) (Nat.le_of_ble_eq_true rfl) ?_
      have cst0 : (0 : Int32).toInt = 0 := by decide
      have w5 : 0 ≤ (0 : Int32).toInt ∧ (0 : Int32).toInt ≤ 1 := by omega
      have w6 : (((0 : Int32)).toInt = 1 ∧ 97 ≤ (p1).toInt ∧ (p1).toInt ≤ 122) ∨ (((0 : Int32)).toInt = 0 ∧ ¬ (97 ≤ (p1).toInt ∧ (p1).toInt ≤ 122)) := by omega
      exact W.zret (v := 0) (ty := .boolean) hx hb hr (by decide) (fun t ht hW => ⟨⟨0, (), rfl, ⟨w5, w6⟩, by rw [ht]; exact hP, hD⟩, hS.F ht⟩) hS.2.2 dX5_isSmall_17
    · have kc4 := (not_congr (cv_lt (by decide : (122 : Int32).toInt = 122) (rfl : (p1).toInt = (p1).toInt))).mp c4
      refine lv_iconst (v := 1) hx hb dX5_isSmall_12 (by decide) ?_
      refine lv_goto (tgt := 17) hx hb dX5_isSmall_13 (by decide) ?_
      refine W.widen (k := 0) (n := 0) (Nat.le_of_ble_eq_true rfl) (Nat.le_of_ble_eq_true rfl) ?_
      have cst1 : (1 : Int32).toInt = 1 := by decide
      have w7 : 0 ≤ (1 : Int32).toInt ∧ (1 : Int32).toInt ≤ 1 := by omega
      have w8 : (((1 : Int32)).toInt = 1 ∧ 97 ≤ (p1).toInt ∧ (p1).toInt ≤ 122) ∨ (((1 : Int32)).toInt = 0 ∧ ¬ (97 ≤ (p1).toInt ∧ (p1).toInt ≤ 122)) := by omega
      exact W.zret (v := 1) (ty := .boolean) hx hb hr (by decide) (fun t ht hW => ⟨⟨1, (), rfl, ⟨w7, w8⟩, by rw [ht]; exact hP, hD⟩, hS.F ht⟩) hS.2.2 dX5_isSmall_17

set_option maxHeartbeats 8000000 in
set_option maxRecDepth 100000 in
theorem c_X5_isGreat (l : Launch) (dC : Nat → ClassId) (dI : Nat → Nat → Nat) (sz : Nat) (p1 : Int32)  : Met l yX5_isGreat (Ws yX5_isGreat cX5_isGreat 1 (some .boolean)) (({ frames := 0, cells := 0, slots := 0, locals := 0 } : Room)) (PRE (dC, dI) cls [] [] sz [.int p1]) (va_Qi (fun (r : Int32) (_ : Unit) => (0 ≤ r.toInt ∧ r.toInt ≤ 1) ∧ (((r).toInt = 1 ∧ 65 ≤ (p1).toInt ∧ (p1).toInt ≤ 90) ∨ ((r).toInt = 0 ∧ ¬ (65 ≤ (p1).toInt ∧ (p1).toInt ≤ 90)))) (fun (_ : Unit) (t : State) => va_P (dC, dI) cls [] t.heap ∧ va_D (va_A [] sz) []) (va_A [] sz)) 0 0 (va_A [] sz) := by
  refine Met.ofW (cc := cX5_isGreat) (maxL := 1) (ret := (some .boolean)) (by decide) rfl ?_
  intro p e s m args below meth c s₁ B hml hv
  obtain ⟨rfl, hsz, hP, hK, hD0, hN⟩ := hv
  have hx := B.exec
  have hb := B.bytes
  have hr := B.returns
  have hts := atoms_spec (ws := Ws yX5_isGreat cX5_isGreat 1 (some .boolean)) B.pre
  have hT : ∀ w ∈ WALL, w ∈ Ws yX5_isGreat cX5_isGreat 1 (some .boolean) := fun w h => List.mem_cons_of_mem _ h
  have hw := fun w (h : w ∈ WALL) => hts w (hT w h)
  have hown : s.vm.findClass RX5 = some m.cls := findClass_of_methodNamed B.named
  have hlocks := B.notSynchronized
  subst hsz
  have hD := hD0.self (sz := s.heap.size)
  generalize hAe : va_A [] s.heap.size = A at hD ⊢
  have hA : ∀ q : Nat, s.heap.size ≤ q → A q := fun q h => by rw [← hAe]; exact Or.inr h
  have hS : va_S A s.heap s.heap [] := va_S.rf
  have hl := lv_entry ([.int p1]) (n := 1) (Nat.le_of_ble_eq_true rfl)
  rw [lg_entry_eq]
  generalize (lg_sl ([.int p1]) ++ List.replicate (1 - (lg_sl ([.int p1])).length) Slot.unset).toArray = ls at hl ⊢
  have hl : lv_has ls 1 [(0, .int p1)] := hl
  refine lv_iload_n hx hb dX5_isGreat_0 rfl (lv_at hl 0 rfl) ?_
  refine lv_bipush (v := 65) hx hb dX5_isGreat_1 (by decide) ?_
  refine lv_icmp_lt (tgt := 16) hx hb dX5_isGreat_3 (by decide) (fun c1 => ?_) (fun c1 => ?_)
  · have kc1 := (cv_lt (rfl : (p1).toInt = (p1).toInt) (by decide : (65 : Int32).toInt = 65)).mp c1
    refine lv_iconst (v := 0) hx hb dX5_isGreat_16 (by decide) ?_
    refine W.widen (k := 0) (n := 0) (Nat.le_of_ble_eq_true rfl) (Nat.le_of_ble_eq_true rfl) ?_
    have cst0 : (0 : Int32).toInt = 0 := by decide
    have w2 : 0 ≤ (0 : Int32).toInt ∧ (0 : Int32).toInt ≤ 1 := by omega
    have w3 : (((0 : Int32)).toInt = 1 ∧ 65 ≤ (p1).toInt ∧ (p1).toInt ≤ 90) ∨ (((0 : Int32)).toInt = 0 ∧ ¬ (65 ≤ (p1).toInt ∧ (p1).toInt ≤ 90)) := by omega
    exact W.zret (v := 0) (ty := .boolean) hx hb hr (by decide) (fun t ht hW => ⟨⟨0, (), rfl, ⟨w2, w3⟩, by rw [ht]; exact hP, hD⟩, hS.F ht⟩) hS.2.2 dX5_isGreat_17
  · have kc1 := (not_congr (cv_lt (rfl : (p1).toInt = (p1).toInt) (by decide : (65 : Int32).toInt = 65))).mp c1
    refine lv_iload_n hx hb dX5_isGreat_6 rfl (lv_at hl 0 rfl) ?_
    refine lv_bipush (v := 90) hx hb dX5_isGreat_7 (by decide) ?_
    refine lv_icmp_gt (tgt := 16) hx hb dX5_isGreat_9 (by decide) (fun c4 => ?_) (fun c4 => ?_)
    · have kc4 := (cv_lt (by decide : (90 : Int32).toInt = 90) (rfl : (p1).toInt = (p1).toInt)).mp c4
      refine lv_iconst (v := 0) hx hb dX5_isGreat_16 (by decide) ?_
      refine W.widen (k := 0) (n := 0) (Nat.le_of_ble_eq_true rfl) (Nat.le_of_ble_eq_true rfl) ?_
      have cst0 : (0 : Int32).toInt = 0 := by decide
      have w5 : 0 ≤ (0 : Int32).toInt ∧ (0 : Int32).toInt ≤ 1 := by omega
      have w6 : (((0 : Int32)).toInt = 1 ∧ 65 ≤ (p1).toInt ∧ (p1).toInt ≤ 90) ∨ (((0 : Int32)).toInt = 0 ∧ ¬ (65 ≤ (p1).toInt ∧ (p1).toInt ≤ 90)) := by omega
      exact W.zret (v := 0) (ty := .boolean) hx hb hr (by decide) (fun t ht hW => ⟨⟨0, (), rfl, ⟨w5, w6⟩, by rw [ht]; exact hP, hD⟩, hS.F ht⟩) hS.2.2 dX5_isGreat_17
    · have kc4 := (not_congr (cv_lt (by decide : (90 : Int32).toInt = 90) (rfl : (p1).toInt = (p1).toInt))).mp c4
      refine lv_iconst (v := 1) hx hb dX5_isGreat_12 (by decide) ?_
      refine lv_goto (tgt := 17) hx hb dX5_isGreat_13 (by decide) ?_
      refine W.widen (k := 0) (n := 0) (Nat.le_of_ble_eq_true rfl) (Nat.le_of_ble_eq_true rfl) ?_
      have cst1 : (1 : Int32).toInt = 1 := by decide
      have w7 : 0 ≤ (1 : Int32).toInt ∧ (1 : Int32).toInt ≤ 1 := by omega
      have w8 : (((1 : Int32)).toInt = 1 ∧ 65 ≤ (p1).toInt ∧ (p1).toInt ≤ 90) ∨ (((1 : Int32)).toInt = 0 ∧ ¬ (65 ≤ (p1).toInt ∧ (p1).toInt ≤ 90)) := by omega
      exact W.zret (v := 1) (ty := .boolean) hx hb hr (by decide) (fun t ht hW => ⟨⟨1, (), rfl, ⟨w7, w8⟩, by rw [ht]; exact hP, hD⟩, hS.F ht⟩) hS.2.2 dX5_isGreat_17

set_option maxHeartbeats 8000000 in
set_option maxRecDepth 100000 in
theorem c_X5_blame (l : Launch) (dC : Nat → ClassId) (dI : Nat → Nat → Nat) (sz : Nat) (h_rd : Nat) (v_rd : Nat → Value) (x_rd_fault : Int32) (x_rd_place : Int32) (x_rd_at : Int32) (p1 : Int32) (hx_rd_at : 0 ≤ (x_rd_at).toInt ∧ (x_rd_at).toInt ≤ 600) : Met l yX5_blame (Ws yX5_blame cX5_blame 2 none) (({ frames := 0, cells := 0, slots := 0, locals := 0 } : Room)) (PRE (dC, dI) cls [] [(h_rd, .inr (4, (mo27 v_rd (.int x_rd_fault) (.int x_rd_place) (.int x_rd_at))))] sz [.ref h_rd, .int p1]) (va_Qv (fun (u : (Int32) × (Int32)) => ((u.1).toInt = (p1).toInt) ∧ ((u.2).toInt = (x_rd_at).toInt)) (fun (u : (Int32) × (Int32)) (t : State) => va_P (dC, dI) cls [(h_rd, .inr (4, (mo27 v_rd (.int u.1) (.int u.2) (.int x_rd_at))))] t.heap ∧ va_D (va_A [(h_rd, .inr (4, (mo27 v_rd (.int x_rd_fault) (.int x_rd_place) (.int x_rd_at))))] sz) [(h_rd, .inr (4, (mo27 v_rd (.int u.1) (.int u.2) (.int x_rd_at))))]) (va_A [(h_rd, .inr (4, (mo27 v_rd (.int x_rd_fault) (.int x_rd_place) (.int x_rd_at))))] sz)) 0 0 (va_A [(h_rd, .inr (4, (mo27 v_rd (.int x_rd_fault) (.int x_rd_place) (.int x_rd_at))))] sz) := by
  refine Met.ofW (cc := cX5_blame) (maxL := 2) (ret := none) (by decide) rfl ?_
  intro p e s m args below meth c s₁ B hml hv
  obtain ⟨rfl, hsz, hP, hK, hD0, hN⟩ := hv
  have hx := B.exec
  have hb := B.bytes
  have hr := B.returns
  have hts := atoms_spec (ws := Ws yX5_blame cX5_blame 2 none) B.pre
  have hT : ∀ w ∈ WALL, w ∈ Ws yX5_blame cX5_blame 2 none := fun w h => List.mem_cons_of_mem _ h
  have hw := fun w (h : w ∈ WALL) => hts w (hT w h)
  have hown : s.vm.findClass RX5 = some m.cls := findClass_of_methodNamed B.named
  have hlocks := B.notSynchronized
  subst hsz
  have hD := hD0.self (sz := s.heap.size)
  generalize hAe : va_A [(h_rd, .inr (4, (mo27 v_rd (.int x_rd_fault) (.int x_rd_place) (.int x_rd_at))))] s.heap.size = A at hD ⊢
  have hA : ∀ q : Nat, s.heap.size ≤ q → A q := fun q h => by rw [← hAe]; exact Or.inr h
  have hS : va_S A s.heap s.heap [] := va_S.rf
  have hl := lv_entry ([.ref h_rd, .int p1]) (n := 2) (Nat.le_of_ble_eq_true rfl)
  rw [lg_entry_eq]
  generalize (lg_sl ([.ref h_rd, .int p1]) ++ List.replicate (2 - (lg_sl ([.ref h_rd, .int p1])).length) Slot.unset).toArray = ls at hl ⊢
  have hl : lv_has ls 2 [(0, .ref h_rd), (1, .int p1)] := hl
  refine lv_aload_n hx hb dX5_blame_0 rfl (lv_at hl 0 rfl) ?_
  refine lv_iload_n hx hb dX5_blame_1 rfl (lv_at hl 1 rfl) ?_
  refine va_put (D := (dC, dI)) (ci := 4) (v := .int p1) (ty := tyX5 2) (C := RX5) (T := TX5) (N := 11) hx hb hw iwX5 tyX5 tyX5_ok nmX5 hown hK hP hD hS 0 rfl rfl 2 (by decide) (hw _ w_f_X5_34) (fun _ h9 => h9) rfl (tyX5_ok 2 (by decide)) rfl rfl (Nat.le_of_ble_eq_true rfl) dX5_blame_2 (fun H locs hP9 hD9 hS9 => ?_)
  clear hP hD hS
  have hP : va_P (dC, dI) cls [(h_rd, .inr (4, (mo27 v_rd (.int p1) (.int x_rd_place) (.int x_rd_at))))] H := hP9
  have hD : va_D A [(h_rd, .inr (4, (mo27 v_rd (.int p1) (.int x_rd_place) (.int x_rd_at))))] := hD9
  have hS := hS9
  clear hP9 hD9 hS9
  refine lv_aload_n hx hb dX5_blame_5 rfl (lv_at hl 0 rfl) ?_
  refine lv_aload_n hx hb dX5_blame_6 rfl (lv_at hl 0 rfl) ?_
  refine va_get (D := (dC, dI)) (ci := 4) (v := .int x_rd_at) (C := RX5) (T := TX5) (N := 11) hx hb hw iwX5 hown hK hP 0 rfl rfl 7 (by decide) (hw _ w_f_X5_49) (fun _ h9 => h9) rfl dX5_blame_7 ?_
  refine va_put (D := (dC, dI)) (ci := 4) (v := .int x_rd_at) (ty := tyX5 3) (C := RX5) (T := TX5) (N := 11) hx hb hw iwX5 tyX5 tyX5_ok nmX5 hown hK hP hD hS 0 rfl rfl 3 (by decide) (hw _ w_f_X5_15) (fun _ h9 => h9) rfl (tyX5_ok 3 (by decide)) rfl rfl (Nat.le_of_ble_eq_true rfl) dX5_blame_10 (fun H locs hP9 hD9 hS9 => ?_)
  clear hP hD hS
  have hP : va_P (dC, dI) cls [(h_rd, .inr (4, (mo27 v_rd (.int p1) (.int x_rd_at) (.int x_rd_at))))] H := hP9
  have hD : va_D A [(h_rd, .inr (4, (mo27 v_rd (.int p1) (.int x_rd_at) (.int x_rd_at))))] := hD9
  have hS := hS9
  clear hP9 hD9 hS9
  refine W.widen (k := 0) (n := 0) (Nat.le_of_ble_eq_true rfl) (Nat.le_of_ble_eq_true rfl) ?_
  have w1 : ((p1)).toInt = (p1).toInt := by omega
  have w2 : ((x_rd_at)).toInt = (x_rd_at).toInt := by omega
  exact W.vret hx hb hr (fun t ht hW => ⟨⟨(p1, x_rd_at), rfl, ⟨w1, w2⟩, by rw [ht]; exact hP, hD⟩, hS.F ht⟩) hS.2.2 dX5_blame_13

set_option maxHeartbeats 8000000 in
set_option maxRecDepth 100000 in
theorem c_X5_startsLiteral (l : Launch) (dC : Nat → ClassId) (dI : Nat → Nat → Nat) (sz : Nat) (h_rd : Nat) (v_rd : Nat → Value) (x_rd_token : Int32)  : Met l yX5_startsLiteral (Ws yX5_startsLiteral cX5_startsLiteral 1 (some .boolean)) (({ frames := 0, cells := 0, slots := 0, locals := 0 } : Room)) (PRE (dC, dI) cls [] [(h_rd, .inr (4, (mo28 v_rd (.int x_rd_token))))] sz [.ref h_rd]) (va_Qi (fun (r : Int32) (_ : Unit) => (0 ≤ r.toInt ∧ r.toInt ≤ 1) ∧ (((r).toInt = 1 ∧ ((x_rd_token).toInt = 45 ∨ (x_rd_token).toInt = 256)) ∨ ((r).toInt = 0 ∧ ¬ (x_rd_token).toInt = 45 ∧ ¬ (x_rd_token).toInt = 256))) (fun (_ : Unit) (t : State) => va_P (dC, dI) cls [(h_rd, .inr (4, (mo28 v_rd (.int x_rd_token))))] t.heap ∧ va_D (va_A [(h_rd, .inr (4, (mo28 v_rd (.int x_rd_token))))] sz) [(h_rd, .inr (4, (mo28 v_rd (.int x_rd_token))))]) (va_A [(h_rd, .inr (4, (mo28 v_rd (.int x_rd_token))))] sz)) 0 0 (va_A [(h_rd, .inr (4, (mo28 v_rd (.int x_rd_token))))] sz) := by
  refine Met.ofW (cc := cX5_startsLiteral) (maxL := 1) (ret := (some .boolean)) (by decide) rfl ?_
  intro p e s m args below meth c s₁ B hml hv
  obtain ⟨rfl, hsz, hP, hK, hD0, hN⟩ := hv
  have hx := B.exec
  have hb := B.bytes
  have hr := B.returns
  have hts := atoms_spec (ws := Ws yX5_startsLiteral cX5_startsLiteral 1 (some .boolean)) B.pre
  have hT : ∀ w ∈ WALL, w ∈ Ws yX5_startsLiteral cX5_startsLiteral 1 (some .boolean) := fun w h => List.mem_cons_of_mem _ h
  have hw := fun w (h : w ∈ WALL) => hts w (hT w h)
  have hown : s.vm.findClass RX5 = some m.cls := findClass_of_methodNamed B.named
  have hlocks := B.notSynchronized
  subst hsz
  have hD := hD0.self (sz := s.heap.size)
  generalize hAe : va_A [(h_rd, .inr (4, (mo28 v_rd (.int x_rd_token))))] s.heap.size = A at hD ⊢
  have hA : ∀ q : Nat, s.heap.size ≤ q → A q := fun q h => by rw [← hAe]; exact Or.inr h
  have hS : va_S A s.heap s.heap [] := va_S.rf
  have hl := lv_entry ([.ref h_rd]) (n := 1) (Nat.le_of_ble_eq_true rfl)
  rw [lg_entry_eq]
  generalize (lg_sl ([.ref h_rd]) ++ List.replicate (1 - (lg_sl ([.ref h_rd])).length) Slot.unset).toArray = ls at hl ⊢
  have hl : lv_has ls 1 [(0, .ref h_rd)] := hl
  refine lv_aload_n hx hb dX5_startsLiteral_0 rfl (lv_at hl 0 rfl) ?_
  refine va_get (D := (dC, dI)) (ci := 4) (v := .int x_rd_token) (C := RX5) (T := TX5) (N := 11) hx hb hw iwX5 hown hK hP 0 rfl rfl 9 (by decide) (hw _ w_f_X5_43) (fun _ h9 => h9) rfl dX5_startsLiteral_1 ?_
  refine lv_bipush (v := 45) hx hb dX5_startsLiteral_4 (by decide) ?_
  refine lv_icmp_eq (tgt := 19) hx hb dX5_startsLiteral_6 (by decide) (fun c1 => ?_) (fun c1 => ?_)
  · have kc1 := (cv_eq (rfl : (x_rd_token).toInt = (x_rd_token).toInt) (by decide : (45 : Int32).toInt = 45)).mp c1
    refine lv_iconst (v := 1) hx hb dX5_startsLiteral_19 (by decide) ?_
    refine lv_goto (tgt := 24) hx hb dX5_startsLiteral_20 (by decide) ?_
    refine W.widen (k := 0) (n := 0) (Nat.le_of_ble_eq_true rfl) (Nat.le_of_ble_eq_true rfl) ?_
    have cst1 : (1 : Int32).toInt = 1 := by decide
    have w2 : 0 ≤ (1 : Int32).toInt ∧ (1 : Int32).toInt ≤ 1 := by omega
    have w3 : (((1 : Int32)).toInt = 1 ∧ ((x_rd_token).toInt = 45 ∨ (x_rd_token).toInt = 256)) ∨ (((1 : Int32)).toInt = 0 ∧ ¬ (x_rd_token).toInt = 45 ∧ ¬ (x_rd_token).toInt = 256) := by omega
    exact W.zret (v := 1) (ty := .boolean) hx hb hr (by decide) (fun t ht hW => ⟨⟨1, (), rfl, ⟨w2, w3⟩, by rw [ht]; exact hP, hD⟩, hS.F ht⟩) hS.2.2 dX5_startsLiteral_24
  · have kc1 := (not_congr (cv_eq (rfl : (x_rd_token).toInt = (x_rd_token).toInt) (by decide : (45 : Int32).toInt = 45))).mp c1
    refine lv_aload_n hx hb dX5_startsLiteral_9 rfl (lv_at hl 0 rfl) ?_
    refine va_get (D := (dC, dI)) (ci := 4) (v := .int x_rd_token) (C := RX5) (T := TX5) (N := 11) hx hb hw iwX5 hown hK hP 0 rfl rfl 9 (by decide) (hw _ w_f_X5_43) (fun _ h9 => h9) rfl dX5_startsLiteral_10 ?_
    refine lv_sipush (v := 256) hx hb dX5_startsLiteral_13 (by decide) ?_
    refine lv_icmp_ne (tgt := 23) hx hb dX5_startsLiteral_16 (by decide) (fun c4 => ?_) (fun c4 => ?_)
    · have kc4 := (not_congr (cv_eq (rfl : (x_rd_token).toInt = (x_rd_token).toInt) (by decide : (256 : Int32).toInt = 256))).mp c4
      refine lv_iconst (v := 0) hx hb dX5_startsLiteral_23 (by decide) ?_
      refine W.widen (k := 0) (n := 0) (Nat.le_of_ble_eq_true rfl) (Nat.le_of_ble_eq_true rfl) ?_
      have cst0 : (0 : Int32).toInt = 0 := by decide
      have w5 : 0 ≤ (0 : Int32).toInt ∧ (0 : Int32).toInt ≤ 1 := by omega
      have w6 : (((0 : Int32)).toInt = 1 ∧ ((x_rd_token).toInt = 45 ∨ (x_rd_token).toInt = 256)) ∨ (((0 : Int32)).toInt = 0 ∧ ¬ (x_rd_token).toInt = 45 ∧ ¬ (x_rd_token).toInt = 256) := by omega
      exact W.zret (v := 0) (ty := .boolean) hx hb hr (by decide) (fun t ht hW => ⟨⟨0, (), rfl, ⟨w5, w6⟩, by rw [ht]; exact hP, hD⟩, hS.F ht⟩) hS.2.2 dX5_startsLiteral_24
    · have kc4 := (cv_eq (rfl : (x_rd_token).toInt = (x_rd_token).toInt) (by decide : (256 : Int32).toInt = 256)).mp c4
      refine lv_iconst (v := 1) hx hb dX5_startsLiteral_19 (by decide) ?_
      refine lv_goto (tgt := 24) hx hb dX5_startsLiteral_20 (by decide) ?_
      refine W.widen (k := 0) (n := 0) (Nat.le_of_ble_eq_true rfl) (Nat.le_of_ble_eq_true rfl) ?_
      have cst1 : (1 : Int32).toInt = 1 := by decide
      have w7 : 0 ≤ (1 : Int32).toInt ∧ (1 : Int32).toInt ≤ 1 := by omega
      have w8 : (((1 : Int32)).toInt = 1 ∧ ((x_rd_token).toInt = 45 ∨ (x_rd_token).toInt = 256)) ∨ (((1 : Int32)).toInt = 0 ∧ ¬ (x_rd_token).toInt = 45 ∧ ¬ (x_rd_token).toInt = 256) := by omega
      exact W.zret (v := 1) (ty := .boolean) hx hb hr (by decide) (fun t ht hW => ⟨⟨1, (), rfl, ⟨w7, w8⟩, by rw [ht]; exact hP, hD⟩, hS.F ht⟩) hS.2.2 dX5_startsLiteral_24

set_option maxHeartbeats 8000000 in
set_option maxRecDepth 100000 in
theorem c_X5_readLetters (l : Launch) (dC : Nat → ClassId) (dI : Nat → Nat → Nat) (sz : Nat) (h_rd : Nat) (h_by : Nat) (v_rd : Nat → Value) (x_rd_length : Int32) (x_rd_at : Int32) (x_rd_behind : Int32) (x_rd_token : Int32) (x_rd_letters : Int64) (cy_by : ClassId) (f_by : Nat → Int32) (G : Int → Int) (hx_rd_length : 0 ≤ (x_rd_length).toInt ∧ (x_rd_length).toInt ≤ 600) (hx_rd_at : 0 ≤ (x_rd_at).toInt ∧ (x_rd_at).toInt ≤ 600) (hx_rd_behind : 0 ≤ (x_rd_behind).toInt ∧ (x_rd_behind).toInt ≤ 600) (hf_by : Rg 0 255 f_by) (q0 : (x_rd_at).toInt < (x_rd_length).toInt) (q1 : (97 ≤ G (x_rd_at).toInt ∧ G (x_rd_at).toInt ≤ 122) ∨ (65 ≤ G (x_rd_at).toInt ∧ G (x_rd_at).toInt ≤ 90)) (hn_byt : BYT G (x_rd_length).toInt f_by) : Met l yX5_readLetters (Ws yX5_readLetters cX5_readLetters 3 none) (({ frames := 1, cells := 0, slots := 0, locals := 20 } : Room)) (PRE (dC, dI) cls [(cy_by, .int)] [(h_rd, .inr (4, (mo29 v_rd (.ref h_by) (.int x_rd_length) (.int x_rd_at) (.int x_rd_behind) (.int x_rd_token) (.long x_rd_letters)))), (h_by, .inl (cy_by, 600, .inl f_by))] sz [.ref h_rd]) (va_Qv (fun (u : (Int32) × (Int32) × (Int64)) => (0 ≤ (u.1).toInt ∧ (u.1).toInt ≤ 600) ∧ ((u.2.1).toInt = tkT G (x_rd_length).toInt (x_rd_at).toInt) ∧ ((u.1).toInt = tkX G (x_rd_length).toInt (x_rd_at).toInt) ∧ (¬ (u.2.1).toInt = 257 ∨ (u.2.2).toInt = G (x_rd_at).toInt) ∧ (256 ≤ (u.2.1).toInt ∧ (u.2.1).toInt ≤ 258) ∧ ((x_rd_at).toInt + 1 ≤ (u.1).toInt ∧ (u.1).toInt ≤ (x_rd_length).toInt) ∧ (NMT (u.2.1).toInt (u.2.2).toInt (NMI 32 G (x_rd_length).toInt (x_rd_at).toInt))) (fun (u : (Int32) × (Int32) × (Int64)) (t : State) => va_P (dC, dI) cls [(h_rd, .inr (4, (mo29 v_rd (.ref h_by) (.int x_rd_length) (.int x_rd_at) (.int u.1) (.int u.2.1) (.long u.2.2)))), (h_by, .inl (cy_by, 600, .inl f_by))] t.heap ∧ va_D (va_A [(h_rd, .inr (4, (mo29 v_rd (.ref h_by) (.int x_rd_length) (.int x_rd_at) (.int x_rd_behind) (.int x_rd_token) (.long x_rd_letters)))), (h_by, .inl (cy_by, 600, .inl f_by))] sz) [(h_rd, .inr (4, (mo29 v_rd (.ref h_by) (.int x_rd_length) (.int x_rd_at) (.int u.1) (.int u.2.1) (.long u.2.2)))), (h_by, .inl (cy_by, 600, .inl f_by))]) (va_A [(h_rd, .inr (4, (mo29 v_rd (.ref h_by) (.int x_rd_length) (.int x_rd_at) (.int x_rd_behind) (.int x_rd_token) (.long x_rd_letters)))), (h_by, .inl (cy_by, 600, .inl f_by))] sz)) 0 0 (va_A [(h_rd, .inr (4, (mo29 v_rd (.ref h_by) (.int x_rd_length) (.int x_rd_at) (.int x_rd_behind) (.int x_rd_token) (.long x_rd_letters)))), (h_by, .inl (cy_by, 600, .inl f_by))] sz) := by
  refine Met.ofW (cc := cX5_readLetters) (maxL := 3) (ret := none) (by decide) rfl ?_
  intro p e s m args below meth c s₁ B hml hv
  obtain ⟨rfl, hsz, hP, hK, hD0, hN⟩ := hv
  have hx := B.exec
  have hb := B.bytes
  have hr := B.returns
  have hts := atoms_spec (ws := Ws yX5_readLetters cX5_readLetters 3 none) B.pre
  have hT : ∀ w ∈ WALL, w ∈ Ws yX5_readLetters cX5_readLetters 3 none := fun w h => List.mem_cons_of_mem _ h
  have hw := fun w (h : w ∈ WALL) => hts w (hT w h)
  have hown : s.vm.findClass RX5 = some m.cls := findClass_of_methodNamed B.named
  have hlocks := B.notSynchronized
  subst hsz
  have hD := hD0.self (sz := s.heap.size)
  generalize hAe : va_A [(h_rd, .inr (4, (mo29 v_rd (.ref h_by) (.int x_rd_length) (.int x_rd_at) (.int x_rd_behind) (.int x_rd_token) (.long x_rd_letters)))), (h_by, .inl (cy_by, 600, .inl f_by))] s.heap.size = A at hD ⊢
  have hA : ∀ q : Nat, s.heap.size ≤ q → A q := fun q h => by rw [← hAe]; exact Or.inr h
  have hS : va_S A s.heap s.heap [] := va_S.rf
  have hl := lv_entry ([.ref h_rd]) (n := 3) (Nat.le_of_ble_eq_true rfl)
  rw [lg_entry_eq]
  generalize (lg_sl ([.ref h_rd]) ++ List.replicate (3 - (lg_sl ([.ref h_rd])).length) Slot.unset).toArray = ls at hl ⊢
  have hl : lv_has ls 3 [(0, .ref h_rd)] := hl
  refine lv_iconst (v := 0) hx hb dX5_readLetters_0 (by decide) ?_
  refine lv_istore_n (lv' := [(1, .int 0), (0, .ref h_rd)]) hx hb dX5_readLetters_1 rfl hl (by decide) rfl (fun ls hl => ?_)
  refine lv_iconst (v := 0) hx hb dX5_readLetters_2 (by decide) ?_
  refine lv_istore_n (lv' := [(2, .int 0), (1, .int 0), (0, .ref h_rd)]) hx hb dX5_readLetters_3 rfl hl (by decide) rfl (fun ls hl => ?_)
  refine lv_aload_n hx hb dX5_readLetters_4 rfl (lv_at hl 2 rfl) ?_
  refine lv_lconst (v := 0) hx hb dX5_readLetters_5 (by decide) ?_
  refine va_put (D := (dC, dI)) (ci := 4) (v := .long 0) (ty := tyX5 10) (C := RX5) (T := TX5) (N := 11) hx hb hw iwX5 tyX5 tyX5_ok nmX5 hown hK hP hD hS 0 rfl rfl 10 (by decide) (hw _ w_f_X5_85) (fun _ h9 => h9) rfl (tyX5_ok 10 (by decide)) rfl rfl (Nat.le_of_ble_eq_true rfl) dX5_readLetters_6 (fun H locs hP9 hD9 hS9 => ?_)
  clear hP hD hS
  have hP : va_P (dC, dI) cls [(h_rd, .inr (4, (mo29 v_rd (.ref h_by) (.int x_rd_length) (.int x_rd_at) (.int x_rd_behind) (.int x_rd_token) (.long 0)))), (h_by, .inl (cy_by, 600, .inl f_by))] H := hP9
  have hD : va_D A [(h_rd, .inr (4, (mo29 v_rd (.ref h_by) (.int x_rd_length) (.int x_rd_at) (.int x_rd_behind) (.int x_rd_token) (.long 0)))), (h_by, .inl (cy_by, 600, .inl f_by))] := hD9
  have hS := hS9
  clear hP9 hD9 hS9
  refine lv_aload_n hx hb dX5_readLetters_9 rfl (lv_at hl 2 rfl) ?_
  refine lv_aload_n hx hb dX5_readLetters_10 rfl (lv_at hl 2 rfl) ?_
  refine va_get (D := (dC, dI)) (ci := 4) (v := .int x_rd_at) (C := RX5) (T := TX5) (N := 11) hx hb hw iwX5 hown hK hP 0 rfl rfl 7 (by decide) (hw _ w_f_X5_49) (fun _ h9 => h9) rfl dX5_readLetters_11 ?_
  refine va_put (D := (dC, dI)) (ci := 4) (v := .int x_rd_at) (ty := tyX5 8) (C := RX5) (T := TX5) (N := 11) hx hb hw iwX5 tyX5 tyX5_ok nmX5 hown hK hP hD hS 0 rfl rfl 8 (by decide) (hw _ w_f_X5_37) (fun _ h9 => h9) rfl (tyX5_ok 8 (by decide)) rfl rfl (Nat.le_of_ble_eq_true rfl) dX5_readLetters_14 (fun H locs hP9 hD9 hS9 => ?_)
  clear hP hD hS
  have hP : va_P (dC, dI) cls [(h_rd, .inr (4, (mo29 v_rd (.ref h_by) (.int x_rd_length) (.int x_rd_at) (.int x_rd_at) (.int x_rd_token) (.long 0)))), (h_by, .inl (cy_by, 600, .inl f_by))] H := hP9
  have hD : va_D A [(h_rd, .inr (4, (mo29 v_rd (.ref h_by) (.int x_rd_length) (.int x_rd_at) (.int x_rd_at) (.int x_rd_token) (.long 0)))), (h_by, .inl (cy_by, 600, .inl f_by))] := hD9
  have hS := hS9
  clear hP9 hD9 hS9
  have lp5 : ∀ (n : Nat) (x1 : Int32) (x2 : Int32) (x3 : Int32) (x4 : Int64) (H : Heap) (locs : List Loc) (ls : Array Slot), (0 ≤ (x1).toInt ∧ (x1).toInt ≤ 600) → (0 ≤ (x2).toInt ∧ (x2).toInt ≤ 600) → (0 ≤ (x3).toInt ∧ (x3).toInt ≤ 600) → ((x3).toInt = (x_rd_at).toInt + (x1).toInt + (x2).toInt) → ((x3).toInt ≤ (x_rd_length).toInt) → (tkE G (x_rd_length).toInt (x3).toInt = tkE G (x_rd_length).toInt (x_rd_at).toInt) → (tkG G (x_rd_length).toInt (x_rd_at).toInt = (x2).toInt + tkG G (x_rd_length).toInt (x3).toInt) → ((x3).toInt = (x_rd_at).toInt ∨ 1 ≤ (x1).toInt ∨ 2 ≤ (x2).toInt ∨ (x4).toInt = G (x_rd_at).toInt) → (NML G (x_rd_at).toInt (x1).toInt (x2).toInt (x4).toInt) → (600 - (x3).toInt).toNat + 1 ≤ n → va_P (dC, dI) cls [(h_rd, .inr (4, (mo29 v_rd (.ref h_by) (.int x_rd_length) (.int x_rd_at) (.int x3) (.int x_rd_token) (.long x4)))), (h_by, .inl (cy_by, 600, .inl f_by))] H → va_D A [(h_rd, .inr (4, (mo29 v_rd (.ref h_by) (.int x_rd_length) (.int x_rd_at) (.int x3) (.int x_rd_token) (.long x4)))), (h_by, .inl (cy_by, 600, .inl f_by))] → va_S A s.heap H locs → lv_has ls 3 [(0, .ref h_rd), (1, .int x1), (2, .int x2)] → W p l e ({ frames := 1, cells := 0, slots := 0, locals := 20 } : Room) s m ([.ref h_rd] : List Value).toArray below meth c H locs 0 0 (MQ below (va_Qv (fun (u : (Int32) × (Int32) × (Int64)) => (0 ≤ (u.1).toInt ∧ (u.1).toInt ≤ 600) ∧ ((u.2.1).toInt = tkT G (x_rd_length).toInt (x_rd_at).toInt) ∧ ((u.1).toInt = tkX G (x_rd_length).toInt (x_rd_at).toInt) ∧ (¬ (u.2.1).toInt = 257 ∨ (u.2.2).toInt = G (x_rd_at).toInt) ∧ (256 ≤ (u.2.1).toInt ∧ (u.2.1).toInt ≤ 258) ∧ ((x_rd_at).toInt + 1 ≤ (u.1).toInt ∧ (u.1).toInt ≤ (x_rd_length).toInt) ∧ (NMT (u.2.1).toInt (u.2.2).toInt (NMI 32 G (x_rd_length).toInt (x_rd_at).toInt))) (fun (u : (Int32) × (Int32) × (Int64)) (t : State) => va_P (dC, dI) cls [(h_rd, .inr (4, (mo29 v_rd (.ref h_by) (.int x_rd_length) (.int x_rd_at) (.int u.1) (.int u.2.1) (.long u.2.2)))), (h_by, .inl (cy_by, 600, .inl f_by))] t.heap ∧ va_D A [(h_rd, .inr (4, (mo29 v_rd (.ref h_by) (.int x_rd_length) (.int x_rd_at) (.int u.1) (.int u.2.1) (.long u.2.2)))), (h_by, .inl (cy_by, 600, .inl f_by))]) A) ([.ref h_rd] : List Value).toArray s 0 0 A) (F0 m 17 ls []) := by
    clear hP hD hS hl
    intro n
    induction n with
    | zero => intro x1 x2 x3 x4 H locs ls klp5_0 klp5_1 klp5_2 klp5_3 klp5_4 klp5_5 klp5_6 klp5_7 klp5_8 hm hP hD hS hl; exact False.elim (by omega)
    | succ n ih => 
      intro x1 x2 x3 x4 H locs ls klp5_0 klp5_1 klp5_2 klp5_3 klp5_4 klp5_5 klp5_6 klp5_7 klp5_8 hm hP hD hS hl
      have ih6 := ih
      clear ih
      refine lv_aload_n hx hb dX5_readLetters_17 rfl (lv_at hl 0 rfl) ?_
      refine va_get (D := (dC, dI)) (ci := 4) (v := .int x3) (C := RX5) (T := TX5) (N := 11) hx hb hw iwX5 hown hK hP 0 rfl rfl 8 (by decide) (hw _ w_f_X5_37) (fun _ h9 => h9) rfl dX5_readLetters_18 ?_
      refine lv_aload_n hx hb dX5_readLetters_21 rfl (lv_at hl 0 rfl) ?_
      refine va_get (D := (dC, dI)) (ci := 4) (v := .int x_rd_length) (C := RX5) (T := TX5) (N := 11) hx hb hw iwX5 hown hK hP 0 rfl rfl 1 (by decide) (hw _ w_f_X5_22) (fun _ h9 => h9) rfl dX5_readLetters_22 ?_
      refine lv_icmp_ge (tgt := 135) hx hb dX5_readLetters_25 (by decide) (fun c7 => ?_) (fun c7 => ?_)
      · have kc7 := (cv_le (rfl : (x_rd_length).toInt = (x_rd_length).toInt) (rfl : (x3).toInt = (x3).toInt)).mp c7
        have xo1 := tkE_off (G := G) (n := (x_rd_length).toInt) (a := (x3).toInt) (fun q9 => by omega)
        have xo2 := tkG_off (G := G) (n := (x_rd_length).toInt) (a := (x3).toInt) (fun q9 => by omega)
        have xo3 := tkX_let (G := G) (n := (x_rd_length).toInt) (a := (x_rd_at).toInt) (by omega)
        have xo4 := tkX_gt (G := G) (n := (x_rd_length).toInt) (a := (x_rd_at).toInt) (by omega) (by omega) (by omega)
        refine lv_iload_n hx hb dX5_readLetters_135 rfl (lv_at hl 2 rfl) ?_
        refine lv_if_ne (tgt := 155) hx hb dX5_readLetters_136 (by decide) (fun c8 => ?_) (fun c8 => ?_)
        · have kc8 := (not_congr (cv_eq (rfl : (x2).toInt = (x2).toInt) (by decide : (0 : Int32).toInt = 0))).mp c8
          refine lv_aload_n hx hb dX5_readLetters_155 rfl (lv_at hl 0 rfl) ?_
          refine lv_iload_n hx hb dX5_readLetters_156 rfl (lv_at hl 2 rfl) ?_
          refine lv_iconst (v := 1) hx hb dX5_readLetters_157 (by decide) ?_
          refine lv_icmp_ne (tgt := 171) hx hb dX5_readLetters_158 (by decide) (fun c9 => ?_) (fun c9 => ?_)
          · have kc9 := (not_congr (cv_eq (rfl : (x2).toInt = (x2).toInt) (by decide : (1 : Int32).toInt = 1))).mp c9
            have tt9 := tkT_bad (G := G) (n := (x_rd_length).toInt) (a := (x_rd_at).toInt) (by omega) (by omega) (by omega) (by omega)
            refine lv_sipush (v := 258) hx hb dX5_readLetters_171 (by decide) ?_
            refine va_put (D := (dC, dI)) (ci := 4) (v := .int 258) (ty := tyX5 9) (C := RX5) (T := TX5) (N := 11) hx hb hw iwX5 tyX5 tyX5_ok nmX5 hown hK hP hD hS 0 rfl rfl 9 (by decide) (hw _ w_f_X5_43) (fun _ h9 => h9) rfl (tyX5_ok 9 (by decide)) rfl rfl (Nat.le_of_ble_eq_true rfl) dX5_readLetters_174 (fun H locs hP9 hD9 hS9 => ?_)
            clear hP hD hS
            have hP : va_P (dC, dI) cls [(h_rd, .inr (4, (mo29 v_rd (.ref h_by) (.int x_rd_length) (.int x_rd_at) (.int x3) (.int 258) (.long x4)))), (h_by, .inl (cy_by, 600, .inl f_by))] H := hP9
            have hD : va_D A [(h_rd, .inr (4, (mo29 v_rd (.ref h_by) (.int x_rd_length) (.int x_rd_at) (.int x3) (.int 258) (.long x4)))), (h_by, .inl (cy_by, 600, .inl f_by))] := hD9
            have hS := hS9
            clear hP9 hD9 hS9
            refine W.widen (k := 0) (n := 0) (Nat.le_of_ble_eq_true rfl) (Nat.le_of_ble_eq_true rfl) ?_
            have cst258 : (258 : Int32).toInt = 258 := by decide
            have w10 : 0 ≤ ((x3)).toInt ∧ ((x3)).toInt ≤ 600 := by first | exact klp5_2 | omega
            have w11 : ((258 : Int32)).toInt = tkT G (x_rd_length).toInt (x_rd_at).toInt := by omega
            have w12 : ((x3)).toInt = tkX G (x_rd_length).toInt (x_rd_at).toInt := by omega
            have w13 : ¬ ((258 : Int32)).toInt = 257 ∨ ((x4)).toInt = G (x_rd_at).toInt := by omega
            have w14 : 256 ≤ ((258 : Int32)).toInt ∧ ((258 : Int32)).toInt ≤ 258 := by omega
            have w15 : (x_rd_at).toInt + 1 ≤ ((x3)).toInt ∧ ((x3)).toInt ≤ (x_rd_length).toInt := by omega
            have w16 : NMT ((258 : Int32)).toInt ((x4)).toInt (NMI 32 G (x_rd_length).toInt (x_rd_at).toInt) := (nmt_no (by decide))
            exact W.vret hx hb hr (fun t ht hW => ⟨⟨(x3, 258, x4), rfl, ⟨w10, w11, w12, w13, w14, w15, w16⟩, by rw [ht]; exact hP, hD⟩, hS.F ht⟩) hS.2.2 dX5_readLetters_177
          · have kc9 := (cv_eq (rfl : (x2).toInt = (x2).toInt) (by decide : (1 : Int32).toInt = 1)).mp c9
            refine lv_iload_n hx hb dX5_readLetters_161 rfl (lv_at hl 1 rfl) ?_
            refine lv_if_ne (tgt := 171) hx hb dX5_readLetters_162 (by decide) (fun c17 => ?_) (fun c17 => ?_)
            · have kc17 := (not_congr (cv_eq (rfl : (x1).toInt = (x1).toInt) (by decide : (0 : Int32).toInt = 0))).mp c17
              have tt9 := tkT_bad (G := G) (n := (x_rd_length).toInt) (a := (x_rd_at).toInt) (by omega) (by omega) (by omega) (by omega)
              refine lv_sipush (v := 258) hx hb dX5_readLetters_171 (by decide) ?_
              refine va_put (D := (dC, dI)) (ci := 4) (v := .int 258) (ty := tyX5 9) (C := RX5) (T := TX5) (N := 11) hx hb hw iwX5 tyX5 tyX5_ok nmX5 hown hK hP hD hS 0 rfl rfl 9 (by decide) (hw _ w_f_X5_43) (fun _ h9 => h9) rfl (tyX5_ok 9 (by decide)) rfl rfl (Nat.le_of_ble_eq_true rfl) dX5_readLetters_174 (fun H locs hP9 hD9 hS9 => ?_)
              clear hP hD hS
              have hP : va_P (dC, dI) cls [(h_rd, .inr (4, (mo29 v_rd (.ref h_by) (.int x_rd_length) (.int x_rd_at) (.int x3) (.int 258) (.long x4)))), (h_by, .inl (cy_by, 600, .inl f_by))] H := hP9
              have hD : va_D A [(h_rd, .inr (4, (mo29 v_rd (.ref h_by) (.int x_rd_length) (.int x_rd_at) (.int x3) (.int 258) (.long x4)))), (h_by, .inl (cy_by, 600, .inl f_by))] := hD9
              have hS := hS9
              clear hP9 hD9 hS9
              refine W.widen (k := 0) (n := 0) (Nat.le_of_ble_eq_true rfl) (Nat.le_of_ble_eq_true rfl) ?_
              have cst258 : (258 : Int32).toInt = 258 := by decide
              have w18 : 0 ≤ ((x3)).toInt ∧ ((x3)).toInt ≤ 600 := by first | exact klp5_2 | omega
              have w19 : ((258 : Int32)).toInt = tkT G (x_rd_length).toInt (x_rd_at).toInt := by omega
              have w20 : ((x3)).toInt = tkX G (x_rd_length).toInt (x_rd_at).toInt := by omega
              have w21 : ¬ ((258 : Int32)).toInt = 257 ∨ ((x4)).toInt = G (x_rd_at).toInt := by omega
              have w22 : 256 ≤ ((258 : Int32)).toInt ∧ ((258 : Int32)).toInt ≤ 258 := by omega
              have w23 : (x_rd_at).toInt + 1 ≤ ((x3)).toInt ∧ ((x3)).toInt ≤ (x_rd_length).toInt := by omega
              have w24 : NMT ((258 : Int32)).toInt ((x4)).toInt (NMI 32 G (x_rd_length).toInt (x_rd_at).toInt) := (nmt_no (by decide))
              exact W.vret hx hb hr (fun t ht hW => ⟨⟨(x3, 258, x4), rfl, ⟨w18, w19, w20, w21, w22, w23, w24⟩, by rw [ht]; exact hP, hD⟩, hS.F ht⟩) hS.2.2 dX5_readLetters_177
            · have kc17 := (cv_eq (rfl : (x1).toInt = (x1).toInt) (by decide : (0 : Int32).toInt = 0)).mp c17
              have tt9 := tkT_var (G := G) (n := (x_rd_length).toInt) (a := (x_rd_at).toInt) (by omega) (by omega) (by omega) (by omega)
              refine lv_sipush (v := 257) hx hb dX5_readLetters_165 (by decide) ?_
              refine lv_goto (tgt := 174) hx hb dX5_readLetters_168 (by decide) ?_
              refine va_put (D := (dC, dI)) (ci := 4) (v := .int 257) (ty := tyX5 9) (C := RX5) (T := TX5) (N := 11) hx hb hw iwX5 tyX5 tyX5_ok nmX5 hown hK hP hD hS 0 rfl rfl 9 (by decide) (hw _ w_f_X5_43) (fun _ h9 => h9) rfl (tyX5_ok 9 (by decide)) rfl rfl (Nat.le_of_ble_eq_true rfl) dX5_readLetters_174 (fun H locs hP9 hD9 hS9 => ?_)
              clear hP hD hS
              have hP : va_P (dC, dI) cls [(h_rd, .inr (4, (mo29 v_rd (.ref h_by) (.int x_rd_length) (.int x_rd_at) (.int x3) (.int 257) (.long x4)))), (h_by, .inl (cy_by, 600, .inl f_by))] H := hP9
              have hD : va_D A [(h_rd, .inr (4, (mo29 v_rd (.ref h_by) (.int x_rd_length) (.int x_rd_at) (.int x3) (.int 257) (.long x4)))), (h_by, .inl (cy_by, 600, .inl f_by))] := hD9
              have hS := hS9
              clear hP9 hD9 hS9
              refine W.widen (k := 0) (n := 0) (Nat.le_of_ble_eq_true rfl) (Nat.le_of_ble_eq_true rfl) ?_
              have cst257 : (257 : Int32).toInt = 257 := by decide
              have w25 : 0 ≤ ((x3)).toInt ∧ ((x3)).toInt ≤ 600 := by first | exact klp5_2 | omega
              have w26 : ((257 : Int32)).toInt = tkT G (x_rd_length).toInt (x_rd_at).toInt := by omega
              have w27 : ((x3)).toInt = tkX G (x_rd_length).toInt (x_rd_at).toInt := by omega
              have w28 : ¬ ((257 : Int32)).toInt = 257 ∨ ((x4)).toInt = G (x_rd_at).toInt := by omega
              have w29 : 256 ≤ ((257 : Int32)).toInt ∧ ((257 : Int32)).toInt ≤ 258 := by omega
              have w30 : (x_rd_at).toInt + 1 ≤ ((x3)).toInt ∧ ((x3)).toInt ≤ (x_rd_length).toInt := by omega
              have w31 : NMT ((257 : Int32)).toInt ((x4)).toInt (NMI 32 G (x_rd_length).toInt (x_rd_at).toInt) := (nmt_no (by decide))
              exact W.vret hx hb hr (fun t ht hW => ⟨⟨(x3, 257, x4), rfl, ⟨w25, w26, w27, w28, w29, w30, w31⟩, by rw [ht]; exact hP, hD⟩, hS.F ht⟩) hS.2.2 dX5_readLetters_177
        · have kc8 := (cv_eq (rfl : (x2).toInt = (x2).toInt) (by decide : (0 : Int32).toInt = 0)).mp c8
          refine lv_iload_n hx hb dX5_readLetters_139 rfl (lv_at hl 1 rfl) ?_
          refine lv_bipush (v := 8) hx hb dX5_readLetters_140 (by decide) ?_
          refine lv_icmp_gt (tgt := 155) hx hb dX5_readLetters_142 (by decide) (fun c32 => ?_) (fun c32 => ?_)
          · have kc32 := (cv_lt (by decide : (8 : Int32).toInt = 8) (rfl : (x1).toInt = (x1).toInt)).mp c32
            refine lv_aload_n hx hb dX5_readLetters_155 rfl (lv_at hl 0 rfl) ?_
            refine lv_iload_n hx hb dX5_readLetters_156 rfl (lv_at hl 2 rfl) ?_
            refine lv_iconst (v := 1) hx hb dX5_readLetters_157 (by decide) ?_
            refine lv_icmp_ne (tgt := 171) hx hb dX5_readLetters_158 (by decide) (fun _ => ?_) (fun c33 => False.elim (by have kc33 := (cv_eq (rfl : (x2).toInt = (x2).toInt) (by decide : (1 : Int32).toInt = 1)).mp c33; omega))
            have tt9 := tkT_bad (G := G) (n := (x_rd_length).toInt) (a := (x_rd_at).toInt) (by omega) (by omega) (by omega) (by omega)
            refine lv_sipush (v := 258) hx hb dX5_readLetters_171 (by decide) ?_
            refine va_put (D := (dC, dI)) (ci := 4) (v := .int 258) (ty := tyX5 9) (C := RX5) (T := TX5) (N := 11) hx hb hw iwX5 tyX5 tyX5_ok nmX5 hown hK hP hD hS 0 rfl rfl 9 (by decide) (hw _ w_f_X5_43) (fun _ h9 => h9) rfl (tyX5_ok 9 (by decide)) rfl rfl (Nat.le_of_ble_eq_true rfl) dX5_readLetters_174 (fun H locs hP9 hD9 hS9 => ?_)
            clear hP hD hS
            have hP : va_P (dC, dI) cls [(h_rd, .inr (4, (mo29 v_rd (.ref h_by) (.int x_rd_length) (.int x_rd_at) (.int x3) (.int 258) (.long x4)))), (h_by, .inl (cy_by, 600, .inl f_by))] H := hP9
            have hD : va_D A [(h_rd, .inr (4, (mo29 v_rd (.ref h_by) (.int x_rd_length) (.int x_rd_at) (.int x3) (.int 258) (.long x4)))), (h_by, .inl (cy_by, 600, .inl f_by))] := hD9
            have hS := hS9
            clear hP9 hD9 hS9
            refine W.widen (k := 0) (n := 0) (Nat.le_of_ble_eq_true rfl) (Nat.le_of_ble_eq_true rfl) ?_
            have cst258 : (258 : Int32).toInt = 258 := by decide
            have w34 : 0 ≤ ((x3)).toInt ∧ ((x3)).toInt ≤ 600 := by first | exact klp5_2 | omega
            have w35 : ((258 : Int32)).toInt = tkT G (x_rd_length).toInt (x_rd_at).toInt := by omega
            have w36 : ((x3)).toInt = tkX G (x_rd_length).toInt (x_rd_at).toInt := by omega
            have w37 : ¬ ((258 : Int32)).toInt = 257 ∨ ((x4)).toInt = G (x_rd_at).toInt := by omega
            have w38 : 256 ≤ ((258 : Int32)).toInt ∧ ((258 : Int32)).toInt ≤ 258 := by omega
            have w39 : (x_rd_at).toInt + 1 ≤ ((x3)).toInt ∧ ((x3)).toInt ≤ (x_rd_length).toInt := by omega
            have w40 : NMT ((258 : Int32)).toInt ((x4)).toInt (NMI 32 G (x_rd_length).toInt (x_rd_at).toInt) := (nmt_no (by decide))
            exact W.vret hx hb hr (fun t ht hW => ⟨⟨(x3, 258, x4), rfl, ⟨w34, w35, w36, w37, w38, w39, w40⟩, by rw [ht]; exact hP, hD⟩, hS.F ht⟩) hS.2.2 dX5_readLetters_177
          · have kc32 := (not_congr (cv_lt (by decide : (8 : Int32).toInt = 8) (rfl : (x1).toInt = (x1).toInt))).mp c32
            have tt9 := tkT_name (G := G) (n := (x_rd_length).toInt) (a := (x_rd_at).toInt) (by omega) (by omega) (by omega) (by omega)
            refine lv_aload_n hx hb dX5_readLetters_145 rfl (lv_at hl 0 rfl) ?_
            refine lv_sipush (v := 256) hx hb dX5_readLetters_146 (by decide) ?_
            refine va_put (D := (dC, dI)) (ci := 4) (v := .int 256) (ty := tyX5 9) (C := RX5) (T := TX5) (N := 11) hx hb hw iwX5 tyX5 tyX5_ok nmX5 hown hK hP hD hS 0 rfl rfl 9 (by decide) (hw _ w_f_X5_43) (fun _ h9 => h9) rfl (tyX5_ok 9 (by decide)) rfl rfl (Nat.le_of_ble_eq_true rfl) dX5_readLetters_149 (fun H locs hP9 hD9 hS9 => ?_)
            clear hP hD hS
            have hP : va_P (dC, dI) cls [(h_rd, .inr (4, (mo29 v_rd (.ref h_by) (.int x_rd_length) (.int x_rd_at) (.int x3) (.int 256) (.long x4)))), (h_by, .inl (cy_by, 600, .inl f_by))] H := hP9
            have hD : va_D A [(h_rd, .inr (4, (mo29 v_rd (.ref h_by) (.int x_rd_length) (.int x_rd_at) (.int x3) (.int 256) (.long x4)))), (h_by, .inl (cy_by, 600, .inl f_by))] := hD9
            have hS := hS9
            clear hP9 hD9 hS9
            refine lv_goto (tgt := 177) hx hb dX5_readLetters_152 (by decide) ?_
            refine W.widen (k := 0) (n := 0) (Nat.le_of_ble_eq_true rfl) (Nat.le_of_ble_eq_true rfl) ?_
            have cst256 : (256 : Int32).toInt = 256 := by decide
            have w41 : 0 ≤ ((x3)).toInt ∧ ((x3)).toInt ≤ 600 := by first | exact klp5_2 | omega
            have w42 : ((256 : Int32)).toInt = tkT G (x_rd_length).toInt (x_rd_at).toInt := by omega
            have w43 : ((x3)).toInt = tkX G (x_rd_length).toInt (x_rd_at).toInt := by omega
            have w44 : ¬ ((256 : Int32)).toInt = 257 ∨ ((x4)).toInt = G (x_rd_at).toInt := by omega
            have w45 : 256 ≤ ((256 : Int32)).toInt ∧ ((256 : Int32)).toInt ≤ 258 := by omega
            have w46 : (x_rd_at).toInt + 1 ≤ ((x3)).toInt ∧ ((x3)).toInt ≤ (x_rd_length).toInt := by omega
            have w47 : NMT ((256 : Int32)).toInt ((x4)).toInt (NMI 32 G (x_rd_length).toInt (x_rd_at).toInt) := (nmt_end klp5_8 (by omega) (by omega) (by omega))
            exact W.vret hx hb hr (fun t ht hW => ⟨⟨(x3, 256, x4), rfl, ⟨w41, w42, w43, w44, w45, w46, w47⟩, by rw [ht]; exact hP, hD⟩, hS.F ht⟩) hS.2.2 dX5_readLetters_177
      · have kc7 := (not_congr (cv_le (rfl : (x_rd_length).toInt = (x_rd_length).toInt) (rfl : (x3).toInt = (x3).toInt))).mp c7
        have ga9 : ¬ (x3).toInt = (x_rd_at).toInt ∨ G (x3).toInt = G (x_rd_at).toInt := (Decidable.em ((x3).toInt = (x_rd_at).toInt)).elim (fun h9 => Or.inr (congrArg G h9)) Or.inl
        refine lv_aload_n hx hb dX5_readLetters_28 rfl (lv_at hl 0 rfl) ?_
        refine va_get (D := (dC, dI)) (ci := 4) (v := .ref h_by) (C := RX5) (T := TX5) (N := 11) hx hb hw iwX5 hown hK hP 0 rfl rfl 0 (by decide) (hw _ w_f_X5_9) (fun _ h9 => h9) rfl dX5_readLetters_29 ?_
        refine lv_aload_n hx hb dX5_readLetters_32 rfl (lv_at hl 0 rfl) ?_
        refine va_get (D := (dC, dI)) (ci := 4) (v := .int x3) (C := RX5) (T := TX5) (N := 11) hx hb hw iwX5 hown hK hP 0 rfl rfl 8 (by decide) (hw _ w_f_X5_37) (fun _ h9 => h9) rfl dX5_readLetters_33 ?_
        refine va_iald hx hb hK hP 1 0 rfl rfl (i := x3) (vp_in_iff.mpr (by omega)) dX5_readLetters_36 ?_
        refine lv_topi (fun z48 ez48 => ?_)
        have rz48 : 0 ≤ (z48).toInt ∧ (z48).toInt ≤ 255 := by rw [ez48]; exact hf_by _
        have gz48 : (z48).toInt = G (x3).toInt := by rw [ez48]; exact hn_byt.2 _ (by omega) (by omega)
        have hPc := hP.sub (ws' := []) [] rfl
        have hDc := hD.sub (ws' := []) [] (by decide) rfl
        have hKc := hK.sub (tys' := []) [] rfl
        have hFc := va_free (wc := []) hD hS hA [] rfl
        refine va_calli (va_runS (As := [.int z48]) (rest := []) ⟨hx, hb, hml, hown, hts⟩ (c_X5_isSmall l dC dI H.size z48) (cwS 1 hts (gs hT w_m_X5_107 w_static_X5_isSmall w_ini_X5 w_code_X5_isSmall) rfl rfl rfl (by decide +kernel) ⟨(Nat.le_of_ble_eq_true rfl), (Nat.le_of_ble_eq_true rfl)⟩) ⟨pre_blind, pre_of hPc hKc hDc hN⟩ rfl rfl hl.1 rfl (lv_room (Nat.le_of_ble_eq_true rfl)) dX5_readLetters_37 ⟨(Nat.le_of_ble_eq_true rfl), (Nat.le_of_ble_eq_true rfl)⟩) hS (fun q _ h => hFc q h) hFc (fun r49 u t H locs ht hvm hq hB hz1 hk1 hS9 => ?_)
        obtain ⟨hP1, hD1⟩ := hB
        rw [ht] at hP1
        obtain ⟨hP9, hD9⟩ := va_join (wr := [(h_rd, .inr (4, (mo29 v_rd (.ref h_by) (.int x_rd_length) (.int x_rd_at) (.int x3) (.int x_rd_token) (.long x4)))), (h_by, .inl (cy_by, 600, .inl f_by))]) (w1 := []) hP hD [] [0, 1] rfl rfl (by decide) (by decide) hk1 hFc hP1 hD1
        clear hP hD hS hPc hDc hKc hFc hP1 hD1 hk1 hz1 ht hvm
        have hP : va_P (dC, dI) cls [(h_rd, .inr (4, (mo29 v_rd (.ref h_by) (.int x_rd_length) (.int x_rd_at) (.int x3) (.int x_rd_token) (.long x4)))), (h_by, .inl (cy_by, 600, .inl f_by))] H := hP9
        have hD : va_D A [(h_rd, .inr (4, (mo29 v_rd (.ref h_by) (.int x_rd_length) (.int x_rd_at) (.int x3) (.int x_rd_token) (.long x4)))), (h_by, .inl (cy_by, 600, .inl f_by))] := hD9
        have hS := hS9
        clear hP9 hD9 hS9
        obtain ⟨k50, k51⟩ := hq
        replace k50 : 0 ≤ (r49).toInt ∧ (r49).toInt ≤ 1 := k50
        replace k51 : (((r49)).toInt = 1 ∧ 97 ≤ ((z48)).toInt ∧ ((z48)).toInt ≤ 122) ∨ (((r49)).toInt = 0 ∧ ¬ (97 ≤ ((z48)).toInt ∧ ((z48)).toInt ≤ 122)) := k51
        refine lv_if_ne (tgt := 58) hx hb dX5_readLetters_40 (by decide) (fun c52 => ?_) (fun c52 => ?_)
        · have kc52 := (not_congr (cv_eq (rfl : (r49).toInt = (r49).toInt) (by decide : (0 : Int32).toInt = 0))).mp c52
          refine lv_aload_n hx hb dX5_readLetters_58 rfl (lv_at hl 0 rfl) ?_
          refine va_get (D := (dC, dI)) (ci := 4) (v := .ref h_by) (C := RX5) (T := TX5) (N := 11) hx hb hw iwX5 hown hK hP 0 rfl rfl 0 (by decide) (hw _ w_f_X5_9) (fun _ h9 => h9) rfl dX5_readLetters_59 ?_
          refine lv_aload_n hx hb dX5_readLetters_62 rfl (lv_at hl 0 rfl) ?_
          refine va_get (D := (dC, dI)) (ci := 4) (v := .int x3) (C := RX5) (T := TX5) (N := 11) hx hb hw iwX5 hown hK hP 0 rfl rfl 8 (by decide) (hw _ w_f_X5_37) (fun _ h9 => h9) rfl dX5_readLetters_63 ?_
          refine va_iald hx hb hK hP 1 0 rfl rfl (i := x3) (vp_in_iff.mpr (by omega)) dX5_readLetters_66 ?_
          refine lv_topi (fun z53 ez53 => ?_)
          have qz53 : (z53).toInt = (z48).toInt := by rw [ez53, ez48]
          have rz53 : 0 ≤ (z53).toInt ∧ (z53).toInt ≤ 255 := by rw [ez53]; exact hf_by _
          have hPc := hP.sub (ws' := []) [] rfl
          have hDc := hD.sub (ws' := []) [] (by decide) rfl
          have hKc := hK.sub (tys' := []) [] rfl
          have hFc := va_free (wc := []) hD hS hA [] rfl
          refine va_calli (va_runS (As := [.int z53]) (rest := []) ⟨hx, hb, hml, hown, hts⟩ (c_X5_isSmall l dC dI H.size z53) (cwS 1 hts (gs hT w_m_X5_107 w_static_X5_isSmall w_ini_X5 w_code_X5_isSmall) rfl rfl rfl (by decide +kernel) ⟨(Nat.le_of_ble_eq_true rfl), (Nat.le_of_ble_eq_true rfl)⟩) ⟨pre_blind, pre_of hPc hKc hDc hN⟩ rfl rfl hl.1 rfl (lv_room (Nat.le_of_ble_eq_true rfl)) dX5_readLetters_67 ⟨(Nat.le_of_ble_eq_true rfl), (Nat.le_of_ble_eq_true rfl)⟩) hS (fun q _ h => hFc q h) hFc (fun r54 u t H locs ht hvm hq hB hz1 hk1 hS9 => ?_)
          obtain ⟨hP1, hD1⟩ := hB
          rw [ht] at hP1
          obtain ⟨hP9, hD9⟩ := va_join (wr := [(h_rd, .inr (4, (mo29 v_rd (.ref h_by) (.int x_rd_length) (.int x_rd_at) (.int x3) (.int x_rd_token) (.long x4)))), (h_by, .inl (cy_by, 600, .inl f_by))]) (w1 := []) hP hD [] [0, 1] rfl rfl (by decide) (by decide) hk1 hFc hP1 hD1
          clear hP hD hS hPc hDc hKc hFc hP1 hD1 hk1 hz1 ht hvm
          have hP : va_P (dC, dI) cls [(h_rd, .inr (4, (mo29 v_rd (.ref h_by) (.int x_rd_length) (.int x_rd_at) (.int x3) (.int x_rd_token) (.long x4)))), (h_by, .inl (cy_by, 600, .inl f_by))] H := hP9
          have hD : va_D A [(h_rd, .inr (4, (mo29 v_rd (.ref h_by) (.int x_rd_length) (.int x_rd_at) (.int x3) (.int x_rd_token) (.long x4)))), (h_by, .inl (cy_by, 600, .inl f_by))] := hD9
          have hS := hS9
          clear hP9 hD9 hS9
          obtain ⟨k55, k56⟩ := hq
          replace k55 : 0 ≤ (r54).toInt ∧ (r54).toInt ≤ 1 := k55
          replace k56 : (((r54)).toInt = 1 ∧ 97 ≤ ((z53)).toInt ∧ ((z53)).toInt ≤ 122) ∨ (((r54)).toInt = 0 ∧ ¬ (97 ≤ ((z53)).toInt ∧ ((z53)).toInt ≤ 122)) := k56
          refine lv_if_eq (tgt := 105) hx hb dX5_readLetters_70 (by decide) (fun c57 => ?_) (fun c57 => ?_)
          · have kc57 := (cv_eq (rfl : (r54).toInt = (r54).toInt) (by decide : (0 : Int32).toInt = 0)).mp c57
            obtain ⟨z58, ez58⟩ : ∃ y : Int32, y = x2 + 1 := ⟨_, rfl⟩
            have tz58 : (z58).toInt = (x2).toInt + 1 := by rw [ez58]; exact i_add rfl (by decide) (by omega)
            refine lv_iinc (v := z58) (lv' := [(2, .int z58), (0, .ref h_rd), (1, .int x1)]) hx hb dX5_readLetters_105 hl (k := 2) rfl (by rw [ez58]; rfl) (by decide) rfl (fun ls hl => ?_)
            refine lv_aload_n hx hb dX5_readLetters_108 rfl (lv_at hl 1 rfl) ?_
            refine lv_aload_n hx hb dX5_readLetters_109 rfl (lv_at hl 1 rfl) ?_
            refine va_get (D := (dC, dI)) (ci := 4) (v := .ref h_by) (C := RX5) (T := TX5) (N := 11) hx hb hw iwX5 hown hK hP 0 rfl rfl 0 (by decide) (hw _ w_f_X5_9) (fun _ h9 => h9) rfl dX5_readLetters_110 ?_
            refine lv_aload_n hx hb dX5_readLetters_113 rfl (lv_at hl 1 rfl) ?_
            refine va_get (D := (dC, dI)) (ci := 4) (v := .int x3) (C := RX5) (T := TX5) (N := 11) hx hb hw iwX5 hown hK hP 0 rfl rfl 8 (by decide) (hw _ w_f_X5_37) (fun _ h9 => h9) rfl dX5_readLetters_114 ?_
            refine va_iald hx hb hK hP 1 0 rfl rfl (i := x3) (vp_in_iff.mpr (by omega)) dX5_readLetters_117 ?_
            refine lv_topi (fun z59 ez59 => ?_)
            have qz59 : (z59).toInt = (z48).toInt := by rw [ez59, ez48]
            have rz59 : 0 ≤ (z59).toInt ∧ (z59).toInt ≤ 255 := by rw [ez59]; exact hf_by _
            refine lv_i2l hx hb dX5_readLetters_118 rfl ?_
            refine lv_topl (fun z60 ez60 => ?_)
            have tz60 : (z60).toInt = (z59).toInt := by rw [ez60]; exact Int32.toInt_toInt64 _
            have bz60 := i_bd z59
            refine va_put (D := (dC, dI)) (ci := 4) (v := .long z60) (ty := tyX5 10) (C := RX5) (T := TX5) (N := 11) hx hb hw iwX5 tyX5 tyX5_ok nmX5 hown hK hP hD hS 0 rfl rfl 10 (by decide) (hw _ w_f_X5_85) (fun _ h9 => h9) rfl (tyX5_ok 10 (by decide)) rfl rfl (Nat.le_of_ble_eq_true rfl) dX5_readLetters_119 (fun H locs hP9 hD9 hS9 => ?_)
            clear hP hD hS
            have hP : va_P (dC, dI) cls [(h_rd, .inr (4, (mo29 v_rd (.ref h_by) (.int x_rd_length) (.int x_rd_at) (.int x3) (.int x_rd_token) (.long z60)))), (h_by, .inl (cy_by, 600, .inl f_by))] H := hP9
            have hD : va_D A [(h_rd, .inr (4, (mo29 v_rd (.ref h_by) (.int x_rd_length) (.int x_rd_at) (.int x3) (.int x_rd_token) (.long z60)))), (h_by, .inl (cy_by, 600, .inl f_by))] := hD9
            have hS := hS9
            clear hP9 hD9 hS9
            refine lv_aload_n hx hb dX5_readLetters_122 rfl (lv_at hl 1 rfl) ?_
            refine lv_dup hx hb dX5_readLetters_123 rfl ?_
            refine va_get (D := (dC, dI)) (ci := 4) (v := .int x3) (C := RX5) (T := TX5) (N := 11) hx hb hw iwX5 hown hK hP 0 rfl rfl 8 (by decide) (hw _ w_f_X5_37) (fun _ h9 => h9) rfl dX5_readLetters_124 ?_
            refine lv_iconst (v := 1) hx hb dX5_readLetters_127 (by decide) ?_
            refine lv_iadd hx hb dX5_readLetters_128 ?_
            refine lv_topi (fun z61 ez61 => ?_)
            have tz61 : (z61).toInt = (x3).toInt + 1 := by rw [ez61]; exact i_add rfl (by decide) (by omega)
            refine va_put (D := (dC, dI)) (ci := 4) (v := .int z61) (ty := tyX5 8) (C := RX5) (T := TX5) (N := 11) hx hb hw iwX5 tyX5 tyX5_ok nmX5 hown hK hP hD hS 0 rfl rfl 8 (by decide) (hw _ w_f_X5_37) (fun _ h9 => h9) rfl (tyX5_ok 8 (by decide)) rfl rfl (Nat.le_of_ble_eq_true rfl) dX5_readLetters_129 (fun H locs hP9 hD9 hS9 => ?_)
            clear hP hD hS
            have hP : va_P (dC, dI) cls [(h_rd, .inr (4, (mo29 v_rd (.ref h_by) (.int x_rd_length) (.int x_rd_at) (.int z61) (.int x_rd_token) (.long z60)))), (h_by, .inl (cy_by, 600, .inl f_by))] H := hP9
            have hD : va_D A [(h_rd, .inr (4, (mo29 v_rd (.ref h_by) (.int x_rd_length) (.int x_rd_at) (.int z61) (.int x_rd_token) (.long z60)))), (h_by, .inl (cy_by, 600, .inl f_by))] := hD9
            have hS := hS9
            clear hP9 hD9 hS9
            have eoz61 : tkE G (x_rd_length).toInt (z61).toInt = tkE G (x_rd_length).toInt (x3).toInt := by rw [tz61]; exact tkE_on (by omega) (by omega) (by omega) (by omega)
            have goz61 : tkG G (x_rd_length).toInt (x3).toInt = 1 + tkG G (x_rd_length).toInt (z61).toInt := by rw [tz61]; exact tkG_gr (by omega) (by omega) (by omega) (by omega) (by omega)
            have nl62 : NML G (x_rd_at).toInt (x1).toInt (z58).toInt (z60).toInt := nml_great (by omega)
            refine lv_goto (tgt := 17) hx hb dX5_readLetters_132 (by decide) ?_
            exact ih6 (x1) (z58) (z61) (z60) _ _ _ (by first | exact klp5_0 | omega) (by omega) (by omega) (by omega) (by omega) (by omega) (by omega) (by omega) nl62 (by omega) hP hD hS (lv_sub hl [1, 2, 0] rfl)
          · have kc57 := (not_congr (cv_eq (rfl : (r54).toInt = (r54).toInt) (by decide : (0 : Int32).toInt = 0))).mp c57
            obtain ⟨z63, ez63⟩ : ∃ y : Int32, y = x1 + 1 := ⟨_, rfl⟩
            have tz63 : (z63).toInt = (x1).toInt + 1 := by rw [ez63]; exact i_add rfl (by decide) (by omega)
            refine lv_iinc (v := z63) (lv' := [(1, .int z63), (0, .ref h_rd), (2, .int x2)]) hx hb dX5_readLetters_73 hl (k := 1) rfl (by rw [ez63]; rfl) (by decide) rfl (fun ls hl => ?_)
            refine lv_aload_n hx hb dX5_readLetters_76 rfl (lv_at hl 1 rfl) ?_
            refine lv_aload_n hx hb dX5_readLetters_77 rfl (lv_at hl 1 rfl) ?_
            refine va_get (D := (dC, dI)) (ci := 4) (v := .long x4) (C := RX5) (T := TX5) (N := 11) hx hb hw iwX5 hown hK hP 0 rfl rfl 10 (by decide) (hw _ w_f_X5_85) (fun _ h9 => h9) rfl dX5_readLetters_78 ?_
            refine lv_iconst (v := 5) hx hb dX5_readLetters_81 (by decide) ?_
            refine lv_lshl hx hb dX5_readLetters_82 rfl ?_
            refine lv_topl (fun z64 ez64 => ?_)
            refine lv_aload_n hx hb dX5_readLetters_83 rfl (lv_at hl 1 rfl) ?_
            refine va_get (D := (dC, dI)) (ci := 4) (v := .ref h_by) (C := RX5) (T := TX5) (N := 11) hx hb hw iwX5 hown hK hP 0 rfl rfl 0 (by decide) (hw _ w_f_X5_9) (fun _ h9 => h9) rfl dX5_readLetters_84 ?_
            refine lv_aload_n hx hb dX5_readLetters_87 rfl (lv_at hl 1 rfl) ?_
            refine va_get (D := (dC, dI)) (ci := 4) (v := .int x3) (C := RX5) (T := TX5) (N := 11) hx hb hw iwX5 hown hK hP 0 rfl rfl 8 (by decide) (hw _ w_f_X5_37) (fun _ h9 => h9) rfl dX5_readLetters_88 ?_
            refine va_iald hx hb hK hP 1 0 rfl rfl (i := x3) (vp_in_iff.mpr (by omega)) dX5_readLetters_91 ?_
            refine lv_topi (fun z65 ez65 => ?_)
            have qz65 : (z65).toInt = (z48).toInt := by rw [ez65, ez48]
            have rz65 : 0 ≤ (z65).toInt ∧ (z65).toInt ≤ 255 := by rw [ez65]; exact hf_by _
            refine lv_bipush (v := 97) hx hb dX5_readLetters_92 (by decide) ?_
            refine lv_isub hx hb dX5_readLetters_94 ?_
            refine lv_topi (fun z66 ez66 => ?_)
            have tz66 : (z66).toInt = (z65).toInt - 97 := by rw [ez66]; exact i_sub rfl (by decide) (by omega)
            refine lv_iconst (v := 1) hx hb dX5_readLetters_95 (by decide) ?_
            refine lv_iadd hx hb dX5_readLetters_96 ?_
            refine lv_topi (fun z67 ez67 => ?_)
            have tz67 : (z67).toInt = (z66).toInt + 1 := by rw [ez67]; exact i_add rfl (by decide) (by omega)
            refine lv_i2l hx hb dX5_readLetters_97 rfl ?_
            refine lv_topl (fun z68 ez68 => ?_)
            have tz68 : (z68).toInt = (z67).toInt := by rw [ez68]; exact Int32.toInt_toInt64 _
            have bz68 := i_bd z67
            refine lv_lor hx hb dX5_readLetters_98 ?_
            refine lv_topl (fun z69 ez69 => ?_)
            refine va_put (D := (dC, dI)) (ci := 4) (v := .long z69) (ty := tyX5 10) (C := RX5) (T := TX5) (N := 11) hx hb hw iwX5 tyX5 tyX5_ok nmX5 hown hK hP hD hS 0 rfl rfl 10 (by decide) (hw _ w_f_X5_85) (fun _ h9 => h9) rfl (tyX5_ok 10 (by decide)) rfl rfl (Nat.le_of_ble_eq_true rfl) dX5_readLetters_99 (fun H locs hP9 hD9 hS9 => ?_)
            clear hP hD hS
            have hP : va_P (dC, dI) cls [(h_rd, .inr (4, (mo29 v_rd (.ref h_by) (.int x_rd_length) (.int x_rd_at) (.int x3) (.int x_rd_token) (.long z69)))), (h_by, .inl (cy_by, 600, .inl f_by))] H := hP9
            have hD : va_D A [(h_rd, .inr (4, (mo29 v_rd (.ref h_by) (.int x_rd_length) (.int x_rd_at) (.int x3) (.int x_rd_token) (.long z69)))), (h_by, .inl (cy_by, 600, .inl f_by))] := hD9
            have hS := hS9
            clear hP9 hD9 hS9
            refine lv_goto (tgt := 122) hx hb dX5_readLetters_102 (by decide) ?_
            refine lv_aload_n hx hb dX5_readLetters_122 rfl (lv_at hl 1 rfl) ?_
            refine lv_dup hx hb dX5_readLetters_123 rfl ?_
            refine va_get (D := (dC, dI)) (ci := 4) (v := .int x3) (C := RX5) (T := TX5) (N := 11) hx hb hw iwX5 hown hK hP 0 rfl rfl 8 (by decide) (hw _ w_f_X5_37) (fun _ h9 => h9) rfl dX5_readLetters_124 ?_
            refine lv_iconst (v := 1) hx hb dX5_readLetters_127 (by decide) ?_
            refine lv_iadd hx hb dX5_readLetters_128 ?_
            refine lv_topi (fun z70 ez70 => ?_)
            have tz70 : (z70).toInt = (x3).toInt + 1 := by rw [ez70]; exact i_add rfl (by decide) (by omega)
            refine va_put (D := (dC, dI)) (ci := 4) (v := .int z70) (ty := tyX5 8) (C := RX5) (T := TX5) (N := 11) hx hb hw iwX5 tyX5 tyX5_ok nmX5 hown hK hP hD hS 0 rfl rfl 8 (by decide) (hw _ w_f_X5_37) (fun _ h9 => h9) rfl (tyX5_ok 8 (by decide)) rfl rfl (Nat.le_of_ble_eq_true rfl) dX5_readLetters_129 (fun H locs hP9 hD9 hS9 => ?_)
            clear hP hD hS
            have hP : va_P (dC, dI) cls [(h_rd, .inr (4, (mo29 v_rd (.ref h_by) (.int x_rd_length) (.int x_rd_at) (.int z70) (.int x_rd_token) (.long z69)))), (h_by, .inl (cy_by, 600, .inl f_by))] H := hP9
            have hD : va_D A [(h_rd, .inr (4, (mo29 v_rd (.ref h_by) (.int x_rd_length) (.int x_rd_at) (.int z70) (.int x_rd_token) (.long z69)))), (h_by, .inl (cy_by, 600, .inl f_by))] := hD9
            have hS := hS9
            clear hP9 hD9 hS9
            have eoz70 : tkE G (x_rd_length).toInt (z70).toInt = tkE G (x_rd_length).toInt (x3).toInt := by rw [tz70]; exact tkE_on (by omega) (by omega) (by omega) (by omega)
            have goz70 : tkG G (x_rd_length).toInt (x3).toInt = tkG G (x_rd_length).toInt (z70).toInt := by rw [tz70]; exact tkG_sm (by omega) (by omega) (by omega) (by omega)
            have nl71 : NML G (x_rd_at).toInt (z63).toInt (x2).toInt (z69).toInt := nml_small (b := (x3).toInt) klp5_8 (by omega) (by omega) (by omega) ez64 (by omega) ez69 (by omega)
            refine lv_goto (tgt := 17) hx hb dX5_readLetters_132 (by decide) ?_
            exact ih6 (z63) (x2) (z70) (z69) _ _ _ (by omega) (by first | exact klp5_1 | omega) (by omega) (by omega) (by omega) (by omega) (by omega) (by omega) nl71 (by omega) hP hD hS (lv_sub hl [1, 0, 2] rfl)
        · have kc52 := (cv_eq (rfl : (r49).toInt = (r49).toInt) (by decide : (0 : Int32).toInt = 0)).mp c52
          refine lv_aload_n hx hb dX5_readLetters_43 rfl (lv_at hl 0 rfl) ?_
          refine va_get (D := (dC, dI)) (ci := 4) (v := .ref h_by) (C := RX5) (T := TX5) (N := 11) hx hb hw iwX5 hown hK hP 0 rfl rfl 0 (by decide) (hw _ w_f_X5_9) (fun _ h9 => h9) rfl dX5_readLetters_44 ?_
          refine lv_aload_n hx hb dX5_readLetters_47 rfl (lv_at hl 0 rfl) ?_
          refine va_get (D := (dC, dI)) (ci := 4) (v := .int x3) (C := RX5) (T := TX5) (N := 11) hx hb hw iwX5 hown hK hP 0 rfl rfl 8 (by decide) (hw _ w_f_X5_37) (fun _ h9 => h9) rfl dX5_readLetters_48 ?_
          refine va_iald hx hb hK hP 1 0 rfl rfl (i := x3) (vp_in_iff.mpr (by omega)) dX5_readLetters_51 ?_
          refine lv_topi (fun z72 ez72 => ?_)
          have qz72 : (z72).toInt = (z48).toInt := by rw [ez72, ez48]
          have rz72 : 0 ≤ (z72).toInt ∧ (z72).toInt ≤ 255 := by rw [ez72]; exact hf_by _
          have hPc := hP.sub (ws' := []) [] rfl
          have hDc := hD.sub (ws' := []) [] (by decide) rfl
          have hKc := hK.sub (tys' := []) [] rfl
          have hFc := va_free (wc := []) hD hS hA [] rfl
          refine va_calli (va_runS (As := [.int z72]) (rest := []) ⟨hx, hb, hml, hown, hts⟩ (c_X5_isGreat l dC dI H.size z72) (cwS 1 hts (gs hT w_m_X5_111 w_static_X5_isGreat w_ini_X5 w_code_X5_isGreat) rfl rfl rfl (by decide +kernel) ⟨(Nat.le_of_ble_eq_true rfl), (Nat.le_of_ble_eq_true rfl)⟩) ⟨pre_blind, pre_of hPc hKc hDc hN⟩ rfl rfl hl.1 rfl (lv_room (Nat.le_of_ble_eq_true rfl)) dX5_readLetters_52 ⟨(Nat.le_of_ble_eq_true rfl), (Nat.le_of_ble_eq_true rfl)⟩) hS (fun q _ h => hFc q h) hFc (fun r73 u t H locs ht hvm hq hB hz1 hk1 hS9 => ?_)
          obtain ⟨hP1, hD1⟩ := hB
          rw [ht] at hP1
          obtain ⟨hP9, hD9⟩ := va_join (wr := [(h_rd, .inr (4, (mo29 v_rd (.ref h_by) (.int x_rd_length) (.int x_rd_at) (.int x3) (.int x_rd_token) (.long x4)))), (h_by, .inl (cy_by, 600, .inl f_by))]) (w1 := []) hP hD [] [0, 1] rfl rfl (by decide) (by decide) hk1 hFc hP1 hD1
          clear hP hD hS hPc hDc hKc hFc hP1 hD1 hk1 hz1 ht hvm
          have hP : va_P (dC, dI) cls [(h_rd, .inr (4, (mo29 v_rd (.ref h_by) (.int x_rd_length) (.int x_rd_at) (.int x3) (.int x_rd_token) (.long x4)))), (h_by, .inl (cy_by, 600, .inl f_by))] H := hP9
          have hD : va_D A [(h_rd, .inr (4, (mo29 v_rd (.ref h_by) (.int x_rd_length) (.int x_rd_at) (.int x3) (.int x_rd_token) (.long x4)))), (h_by, .inl (cy_by, 600, .inl f_by))] := hD9
          have hS := hS9
          clear hP9 hD9 hS9
          obtain ⟨k74, k75⟩ := hq
          replace k74 : 0 ≤ (r73).toInt ∧ (r73).toInt ≤ 1 := k74
          replace k75 : (((r73)).toInt = 1 ∧ 65 ≤ ((z72)).toInt ∧ ((z72)).toInt ≤ 90) ∨ (((r73)).toInt = 0 ∧ ¬ (65 ≤ ((z72)).toInt ∧ ((z72)).toInt ≤ 90)) := k75
          refine lv_if_eq (tgt := 135) hx hb dX5_readLetters_55 (by decide) (fun c76 => ?_) (fun c76 => ?_)
          · have kc76 := (cv_eq (rfl : (r73).toInt = (r73).toInt) (by decide : (0 : Int32).toInt = 0)).mp c76
            have xo1 := tkE_off (G := G) (n := (x_rd_length).toInt) (a := (x3).toInt) (fun q9 => by omega)
            have xo2 := tkG_off (G := G) (n := (x_rd_length).toInt) (a := (x3).toInt) (fun q9 => by omega)
            have xo3 := tkX_let (G := G) (n := (x_rd_length).toInt) (a := (x_rd_at).toInt) (by omega)
            have xo4 := tkX_gt (G := G) (n := (x_rd_length).toInt) (a := (x_rd_at).toInt) (by omega) (by omega) (by omega)
            refine lv_iload_n hx hb dX5_readLetters_135 rfl (lv_at hl 2 rfl) ?_
            refine lv_if_ne (tgt := 155) hx hb dX5_readLetters_136 (by decide) (fun c77 => ?_) (fun c77 => ?_)
            · have kc77 := (not_congr (cv_eq (rfl : (x2).toInt = (x2).toInt) (by decide : (0 : Int32).toInt = 0))).mp c77
              refine lv_aload_n hx hb dX5_readLetters_155 rfl (lv_at hl 0 rfl) ?_
              refine lv_iload_n hx hb dX5_readLetters_156 rfl (lv_at hl 2 rfl) ?_
              refine lv_iconst (v := 1) hx hb dX5_readLetters_157 (by decide) ?_
              refine lv_icmp_ne (tgt := 171) hx hb dX5_readLetters_158 (by decide) (fun c78 => ?_) (fun c78 => ?_)
              · have kc78 := (not_congr (cv_eq (rfl : (x2).toInt = (x2).toInt) (by decide : (1 : Int32).toInt = 1))).mp c78
                have tt9 := tkT_bad (G := G) (n := (x_rd_length).toInt) (a := (x_rd_at).toInt) (by omega) (by omega) (by omega) (by omega)
                refine lv_sipush (v := 258) hx hb dX5_readLetters_171 (by decide) ?_
                refine va_put (D := (dC, dI)) (ci := 4) (v := .int 258) (ty := tyX5 9) (C := RX5) (T := TX5) (N := 11) hx hb hw iwX5 tyX5 tyX5_ok nmX5 hown hK hP hD hS 0 rfl rfl 9 (by decide) (hw _ w_f_X5_43) (fun _ h9 => h9) rfl (tyX5_ok 9 (by decide)) rfl rfl (Nat.le_of_ble_eq_true rfl) dX5_readLetters_174 (fun H locs hP9 hD9 hS9 => ?_)
                clear hP hD hS
                have hP : va_P (dC, dI) cls [(h_rd, .inr (4, (mo29 v_rd (.ref h_by) (.int x_rd_length) (.int x_rd_at) (.int x3) (.int 258) (.long x4)))), (h_by, .inl (cy_by, 600, .inl f_by))] H := hP9
                have hD : va_D A [(h_rd, .inr (4, (mo29 v_rd (.ref h_by) (.int x_rd_length) (.int x_rd_at) (.int x3) (.int 258) (.long x4)))), (h_by, .inl (cy_by, 600, .inl f_by))] := hD9
                have hS := hS9
                clear hP9 hD9 hS9
                refine W.widen (k := 0) (n := 0) (Nat.le_of_ble_eq_true rfl) (Nat.le_of_ble_eq_true rfl) ?_
                have cst258 : (258 : Int32).toInt = 258 := by decide
                have w79 : 0 ≤ ((x3)).toInt ∧ ((x3)).toInt ≤ 600 := by first | exact klp5_2 | omega
                have w80 : ((258 : Int32)).toInt = tkT G (x_rd_length).toInt (x_rd_at).toInt := by omega
                have w81 : ((x3)).toInt = tkX G (x_rd_length).toInt (x_rd_at).toInt := by omega
                have w82 : ¬ ((258 : Int32)).toInt = 257 ∨ ((x4)).toInt = G (x_rd_at).toInt := by omega
                have w83 : 256 ≤ ((258 : Int32)).toInt ∧ ((258 : Int32)).toInt ≤ 258 := by omega
                have w84 : (x_rd_at).toInt + 1 ≤ ((x3)).toInt ∧ ((x3)).toInt ≤ (x_rd_length).toInt := by omega
                have w85 : NMT ((258 : Int32)).toInt ((x4)).toInt (NMI 32 G (x_rd_length).toInt (x_rd_at).toInt) := (nmt_no (by decide))
                exact W.vret hx hb hr (fun t ht hW => ⟨⟨(x3, 258, x4), rfl, ⟨w79, w80, w81, w82, w83, w84, w85⟩, by rw [ht]; exact hP, hD⟩, hS.F ht⟩) hS.2.2 dX5_readLetters_177
              · have kc78 := (cv_eq (rfl : (x2).toInt = (x2).toInt) (by decide : (1 : Int32).toInt = 1)).mp c78
                refine lv_iload_n hx hb dX5_readLetters_161 rfl (lv_at hl 1 rfl) ?_
                refine lv_if_ne (tgt := 171) hx hb dX5_readLetters_162 (by decide) (fun c86 => ?_) (fun c86 => ?_)
                · have kc86 := (not_congr (cv_eq (rfl : (x1).toInt = (x1).toInt) (by decide : (0 : Int32).toInt = 0))).mp c86
                  have tt9 := tkT_bad (G := G) (n := (x_rd_length).toInt) (a := (x_rd_at).toInt) (by omega) (by omega) (by omega) (by omega)
                  refine lv_sipush (v := 258) hx hb dX5_readLetters_171 (by decide) ?_
                  refine va_put (D := (dC, dI)) (ci := 4) (v := .int 258) (ty := tyX5 9) (C := RX5) (T := TX5) (N := 11) hx hb hw iwX5 tyX5 tyX5_ok nmX5 hown hK hP hD hS 0 rfl rfl 9 (by decide) (hw _ w_f_X5_43) (fun _ h9 => h9) rfl (tyX5_ok 9 (by decide)) rfl rfl (Nat.le_of_ble_eq_true rfl) dX5_readLetters_174 (fun H locs hP9 hD9 hS9 => ?_)
                  clear hP hD hS
                  have hP : va_P (dC, dI) cls [(h_rd, .inr (4, (mo29 v_rd (.ref h_by) (.int x_rd_length) (.int x_rd_at) (.int x3) (.int 258) (.long x4)))), (h_by, .inl (cy_by, 600, .inl f_by))] H := hP9
                  have hD : va_D A [(h_rd, .inr (4, (mo29 v_rd (.ref h_by) (.int x_rd_length) (.int x_rd_at) (.int x3) (.int 258) (.long x4)))), (h_by, .inl (cy_by, 600, .inl f_by))] := hD9
                  have hS := hS9
                  clear hP9 hD9 hS9
                  refine W.widen (k := 0) (n := 0) (Nat.le_of_ble_eq_true rfl) (Nat.le_of_ble_eq_true rfl) ?_
                  have cst258 : (258 : Int32).toInt = 258 := by decide
                  have w87 : 0 ≤ ((x3)).toInt ∧ ((x3)).toInt ≤ 600 := by first | exact klp5_2 | omega
                  have w88 : ((258 : Int32)).toInt = tkT G (x_rd_length).toInt (x_rd_at).toInt := by omega
                  have w89 : ((x3)).toInt = tkX G (x_rd_length).toInt (x_rd_at).toInt := by omega
                  have w90 : ¬ ((258 : Int32)).toInt = 257 ∨ ((x4)).toInt = G (x_rd_at).toInt := by omega
                  have w91 : 256 ≤ ((258 : Int32)).toInt ∧ ((258 : Int32)).toInt ≤ 258 := by omega
                  have w92 : (x_rd_at).toInt + 1 ≤ ((x3)).toInt ∧ ((x3)).toInt ≤ (x_rd_length).toInt := by omega
                  have w93 : NMT ((258 : Int32)).toInt ((x4)).toInt (NMI 32 G (x_rd_length).toInt (x_rd_at).toInt) := (nmt_no (by decide))
                  exact W.vret hx hb hr (fun t ht hW => ⟨⟨(x3, 258, x4), rfl, ⟨w87, w88, w89, w90, w91, w92, w93⟩, by rw [ht]; exact hP, hD⟩, hS.F ht⟩) hS.2.2 dX5_readLetters_177
                · have kc86 := (cv_eq (rfl : (x1).toInt = (x1).toInt) (by decide : (0 : Int32).toInt = 0)).mp c86
                  have tt9 := tkT_var (G := G) (n := (x_rd_length).toInt) (a := (x_rd_at).toInt) (by omega) (by omega) (by omega) (by omega)
                  refine lv_sipush (v := 257) hx hb dX5_readLetters_165 (by decide) ?_
                  refine lv_goto (tgt := 174) hx hb dX5_readLetters_168 (by decide) ?_
                  refine va_put (D := (dC, dI)) (ci := 4) (v := .int 257) (ty := tyX5 9) (C := RX5) (T := TX5) (N := 11) hx hb hw iwX5 tyX5 tyX5_ok nmX5 hown hK hP hD hS 0 rfl rfl 9 (by decide) (hw _ w_f_X5_43) (fun _ h9 => h9) rfl (tyX5_ok 9 (by decide)) rfl rfl (Nat.le_of_ble_eq_true rfl) dX5_readLetters_174 (fun H locs hP9 hD9 hS9 => ?_)
                  clear hP hD hS
                  have hP : va_P (dC, dI) cls [(h_rd, .inr (4, (mo29 v_rd (.ref h_by) (.int x_rd_length) (.int x_rd_at) (.int x3) (.int 257) (.long x4)))), (h_by, .inl (cy_by, 600, .inl f_by))] H := hP9
                  have hD : va_D A [(h_rd, .inr (4, (mo29 v_rd (.ref h_by) (.int x_rd_length) (.int x_rd_at) (.int x3) (.int 257) (.long x4)))), (h_by, .inl (cy_by, 600, .inl f_by))] := hD9
                  have hS := hS9
                  clear hP9 hD9 hS9
                  refine W.widen (k := 0) (n := 0) (Nat.le_of_ble_eq_true rfl) (Nat.le_of_ble_eq_true rfl) ?_
                  have cst257 : (257 : Int32).toInt = 257 := by decide
                  have w94 : 0 ≤ ((x3)).toInt ∧ ((x3)).toInt ≤ 600 := by first | exact klp5_2 | omega
                  have w95 : ((257 : Int32)).toInt = tkT G (x_rd_length).toInt (x_rd_at).toInt := by omega
                  have w96 : ((x3)).toInt = tkX G (x_rd_length).toInt (x_rd_at).toInt := by omega
                  have w97 : ¬ ((257 : Int32)).toInt = 257 ∨ ((x4)).toInt = G (x_rd_at).toInt := by omega
                  have w98 : 256 ≤ ((257 : Int32)).toInt ∧ ((257 : Int32)).toInt ≤ 258 := by omega
                  have w99 : (x_rd_at).toInt + 1 ≤ ((x3)).toInt ∧ ((x3)).toInt ≤ (x_rd_length).toInt := by omega
                  have w100 : NMT ((257 : Int32)).toInt ((x4)).toInt (NMI 32 G (x_rd_length).toInt (x_rd_at).toInt) := (nmt_no (by decide))
                  exact W.vret hx hb hr (fun t ht hW => ⟨⟨(x3, 257, x4), rfl, ⟨w94, w95, w96, w97, w98, w99, w100⟩, by rw [ht]; exact hP, hD⟩, hS.F ht⟩) hS.2.2 dX5_readLetters_177
            · have kc77 := (cv_eq (rfl : (x2).toInt = (x2).toInt) (by decide : (0 : Int32).toInt = 0)).mp c77
              refine lv_iload_n hx hb dX5_readLetters_139 rfl (lv_at hl 1 rfl) ?_
              refine lv_bipush (v := 8) hx hb dX5_readLetters_140 (by decide) ?_
              refine lv_icmp_gt (tgt := 155) hx hb dX5_readLetters_142 (by decide) (fun c101 => ?_) (fun c101 => ?_)
              · have kc101 := (cv_lt (by decide : (8 : Int32).toInt = 8) (rfl : (x1).toInt = (x1).toInt)).mp c101
                refine lv_aload_n hx hb dX5_readLetters_155 rfl (lv_at hl 0 rfl) ?_
                refine lv_iload_n hx hb dX5_readLetters_156 rfl (lv_at hl 2 rfl) ?_
                refine lv_iconst (v := 1) hx hb dX5_readLetters_157 (by decide) ?_
                refine lv_icmp_ne (tgt := 171) hx hb dX5_readLetters_158 (by decide) (fun _ => ?_) (fun c102 => False.elim (by have kc102 := (cv_eq (rfl : (x2).toInt = (x2).toInt) (by decide : (1 : Int32).toInt = 1)).mp c102; omega))
                have tt9 := tkT_bad (G := G) (n := (x_rd_length).toInt) (a := (x_rd_at).toInt) (by omega) (by omega) (by omega) (by omega)
                refine lv_sipush (v := 258) hx hb dX5_readLetters_171 (by decide) ?_
                refine va_put (D := (dC, dI)) (ci := 4) (v := .int 258) (ty := tyX5 9) (C := RX5) (T := TX5) (N := 11) hx hb hw iwX5 tyX5 tyX5_ok nmX5 hown hK hP hD hS 0 rfl rfl 9 (by decide) (hw _ w_f_X5_43) (fun _ h9 => h9) rfl (tyX5_ok 9 (by decide)) rfl rfl (Nat.le_of_ble_eq_true rfl) dX5_readLetters_174 (fun H locs hP9 hD9 hS9 => ?_)
                clear hP hD hS
                have hP : va_P (dC, dI) cls [(h_rd, .inr (4, (mo29 v_rd (.ref h_by) (.int x_rd_length) (.int x_rd_at) (.int x3) (.int 258) (.long x4)))), (h_by, .inl (cy_by, 600, .inl f_by))] H := hP9
                have hD : va_D A [(h_rd, .inr (4, (mo29 v_rd (.ref h_by) (.int x_rd_length) (.int x_rd_at) (.int x3) (.int 258) (.long x4)))), (h_by, .inl (cy_by, 600, .inl f_by))] := hD9
                have hS := hS9
                clear hP9 hD9 hS9
                refine W.widen (k := 0) (n := 0) (Nat.le_of_ble_eq_true rfl) (Nat.le_of_ble_eq_true rfl) ?_
                have cst258 : (258 : Int32).toInt = 258 := by decide
                have w103 : 0 ≤ ((x3)).toInt ∧ ((x3)).toInt ≤ 600 := by first | exact klp5_2 | omega
                have w104 : ((258 : Int32)).toInt = tkT G (x_rd_length).toInt (x_rd_at).toInt := by omega
                have w105 : ((x3)).toInt = tkX G (x_rd_length).toInt (x_rd_at).toInt := by omega
                have w106 : ¬ ((258 : Int32)).toInt = 257 ∨ ((x4)).toInt = G (x_rd_at).toInt := by omega
                have w107 : 256 ≤ ((258 : Int32)).toInt ∧ ((258 : Int32)).toInt ≤ 258 := by omega
                have w108 : (x_rd_at).toInt + 1 ≤ ((x3)).toInt ∧ ((x3)).toInt ≤ (x_rd_length).toInt := by omega
                have w109 : NMT ((258 : Int32)).toInt ((x4)).toInt (NMI 32 G (x_rd_length).toInt (x_rd_at).toInt) := (nmt_no (by decide))
                exact W.vret hx hb hr (fun t ht hW => ⟨⟨(x3, 258, x4), rfl, ⟨w103, w104, w105, w106, w107, w108, w109⟩, by rw [ht]; exact hP, hD⟩, hS.F ht⟩) hS.2.2 dX5_readLetters_177
              · have kc101 := (not_congr (cv_lt (by decide : (8 : Int32).toInt = 8) (rfl : (x1).toInt = (x1).toInt))).mp c101
                have tt9 := tkT_name (G := G) (n := (x_rd_length).toInt) (a := (x_rd_at).toInt) (by omega) (by omega) (by omega) (by omega)
                refine lv_aload_n hx hb dX5_readLetters_145 rfl (lv_at hl 0 rfl) ?_
                refine lv_sipush (v := 256) hx hb dX5_readLetters_146 (by decide) ?_
                refine va_put (D := (dC, dI)) (ci := 4) (v := .int 256) (ty := tyX5 9) (C := RX5) (T := TX5) (N := 11) hx hb hw iwX5 tyX5 tyX5_ok nmX5 hown hK hP hD hS 0 rfl rfl 9 (by decide) (hw _ w_f_X5_43) (fun _ h9 => h9) rfl (tyX5_ok 9 (by decide)) rfl rfl (Nat.le_of_ble_eq_true rfl) dX5_readLetters_149 (fun H locs hP9 hD9 hS9 => ?_)
                clear hP hD hS
                have hP : va_P (dC, dI) cls [(h_rd, .inr (4, (mo29 v_rd (.ref h_by) (.int x_rd_length) (.int x_rd_at) (.int x3) (.int 256) (.long x4)))), (h_by, .inl (cy_by, 600, .inl f_by))] H := hP9
                have hD : va_D A [(h_rd, .inr (4, (mo29 v_rd (.ref h_by) (.int x_rd_length) (.int x_rd_at) (.int x3) (.int 256) (.long x4)))), (h_by, .inl (cy_by, 600, .inl f_by))] := hD9
                have hS := hS9
                clear hP9 hD9 hS9
                refine lv_goto (tgt := 177) hx hb dX5_readLetters_152 (by decide) ?_
                refine W.widen (k := 0) (n := 0) (Nat.le_of_ble_eq_true rfl) (Nat.le_of_ble_eq_true rfl) ?_
                have cst256 : (256 : Int32).toInt = 256 := by decide
                have w110 : 0 ≤ ((x3)).toInt ∧ ((x3)).toInt ≤ 600 := by first | exact klp5_2 | omega
                have w111 : ((256 : Int32)).toInt = tkT G (x_rd_length).toInt (x_rd_at).toInt := by omega
                have w112 : ((x3)).toInt = tkX G (x_rd_length).toInt (x_rd_at).toInt := by omega
                have w113 : ¬ ((256 : Int32)).toInt = 257 ∨ ((x4)).toInt = G (x_rd_at).toInt := by omega
                have w114 : 256 ≤ ((256 : Int32)).toInt ∧ ((256 : Int32)).toInt ≤ 258 := by omega
                have w115 : (x_rd_at).toInt + 1 ≤ ((x3)).toInt ∧ ((x3)).toInt ≤ (x_rd_length).toInt := by omega
                have w116 : NMT ((256 : Int32)).toInt ((x4)).toInt (NMI 32 G (x_rd_length).toInt (x_rd_at).toInt) := (nmt_end klp5_8 (by omega) (by omega) (by omega))
                exact W.vret hx hb hr (fun t ht hW => ⟨⟨(x3, 256, x4), rfl, ⟨w110, w111, w112, w113, w114, w115, w116⟩, by rw [ht]; exact hP, hD⟩, hS.F ht⟩) hS.2.2 dX5_readLetters_177
          · have kc76 := (not_congr (cv_eq (rfl : (r73).toInt = (r73).toInt) (by decide : (0 : Int32).toInt = 0))).mp c76
            refine lv_aload_n hx hb dX5_readLetters_58 rfl (lv_at hl 0 rfl) ?_
            refine va_get (D := (dC, dI)) (ci := 4) (v := .ref h_by) (C := RX5) (T := TX5) (N := 11) hx hb hw iwX5 hown hK hP 0 rfl rfl 0 (by decide) (hw _ w_f_X5_9) (fun _ h9 => h9) rfl dX5_readLetters_59 ?_
            refine lv_aload_n hx hb dX5_readLetters_62 rfl (lv_at hl 0 rfl) ?_
            refine va_get (D := (dC, dI)) (ci := 4) (v := .int x3) (C := RX5) (T := TX5) (N := 11) hx hb hw iwX5 hown hK hP 0 rfl rfl 8 (by decide) (hw _ w_f_X5_37) (fun _ h9 => h9) rfl dX5_readLetters_63 ?_
            refine va_iald hx hb hK hP 1 0 rfl rfl (i := x3) (vp_in_iff.mpr (by omega)) dX5_readLetters_66 ?_
            refine lv_topi (fun z117 ez117 => ?_)
            have qz117 : (z117).toInt = (z48).toInt := by rw [ez117, ez48]
            have rz117 : 0 ≤ (z117).toInt ∧ (z117).toInt ≤ 255 := by rw [ez117]; exact hf_by _
            have hPc := hP.sub (ws' := []) [] rfl
            have hDc := hD.sub (ws' := []) [] (by decide) rfl
            have hKc := hK.sub (tys' := []) [] rfl
            have hFc := va_free (wc := []) hD hS hA [] rfl
            refine va_calli (va_runS (As := [.int z117]) (rest := []) ⟨hx, hb, hml, hown, hts⟩ (c_X5_isSmall l dC dI H.size z117) (cwS 1 hts (gs hT w_m_X5_107 w_static_X5_isSmall w_ini_X5 w_code_X5_isSmall) rfl rfl rfl (by decide +kernel) ⟨(Nat.le_of_ble_eq_true rfl), (Nat.le_of_ble_eq_true rfl)⟩) ⟨pre_blind, pre_of hPc hKc hDc hN⟩ rfl rfl hl.1 rfl (lv_room (Nat.le_of_ble_eq_true rfl)) dX5_readLetters_67 ⟨(Nat.le_of_ble_eq_true rfl), (Nat.le_of_ble_eq_true rfl)⟩) hS (fun q _ h => hFc q h) hFc (fun r118 u t H locs ht hvm hq hB hz1 hk1 hS9 => ?_)
            obtain ⟨hP1, hD1⟩ := hB
            rw [ht] at hP1
            obtain ⟨hP9, hD9⟩ := va_join (wr := [(h_rd, .inr (4, (mo29 v_rd (.ref h_by) (.int x_rd_length) (.int x_rd_at) (.int x3) (.int x_rd_token) (.long x4)))), (h_by, .inl (cy_by, 600, .inl f_by))]) (w1 := []) hP hD [] [0, 1] rfl rfl (by decide) (by decide) hk1 hFc hP1 hD1
            clear hP hD hS hPc hDc hKc hFc hP1 hD1 hk1 hz1 ht hvm
            have hP : va_P (dC, dI) cls [(h_rd, .inr (4, (mo29 v_rd (.ref h_by) (.int x_rd_length) (.int x_rd_at) (.int x3) (.int x_rd_token) (.long x4)))), (h_by, .inl (cy_by, 600, .inl f_by))] H := hP9
            have hD : va_D A [(h_rd, .inr (4, (mo29 v_rd (.ref h_by) (.int x_rd_length) (.int x_rd_at) (.int x3) (.int x_rd_token) (.long x4)))), (h_by, .inl (cy_by, 600, .inl f_by))] := hD9
            have hS := hS9
            clear hP9 hD9 hS9
            obtain ⟨k119, k120⟩ := hq
            replace k119 : 0 ≤ (r118).toInt ∧ (r118).toInt ≤ 1 := k119
            replace k120 : (((r118)).toInt = 1 ∧ 97 ≤ ((z117)).toInt ∧ ((z117)).toInt ≤ 122) ∨ (((r118)).toInt = 0 ∧ ¬ (97 ≤ ((z117)).toInt ∧ ((z117)).toInt ≤ 122)) := k120
            refine lv_if_eq (tgt := 105) hx hb dX5_readLetters_70 (by decide) (fun c121 => ?_) (fun c121 => ?_)
            · have kc121 := (cv_eq (rfl : (r118).toInt = (r118).toInt) (by decide : (0 : Int32).toInt = 0)).mp c121
              obtain ⟨z122, ez122⟩ : ∃ y : Int32, y = x2 + 1 := ⟨_, rfl⟩
              have tz122 : (z122).toInt = (x2).toInt + 1 := by rw [ez122]; exact i_add rfl (by decide) (by omega)
              refine lv_iinc (v := z122) (lv' := [(2, .int z122), (0, .ref h_rd), (1, .int x1)]) hx hb dX5_readLetters_105 hl (k := 2) rfl (by rw [ez122]; rfl) (by decide) rfl (fun ls hl => ?_)
              refine lv_aload_n hx hb dX5_readLetters_108 rfl (lv_at hl 1 rfl) ?_
              refine lv_aload_n hx hb dX5_readLetters_109 rfl (lv_at hl 1 rfl) ?_
              refine va_get (D := (dC, dI)) (ci := 4) (v := .ref h_by) (C := RX5) (T := TX5) (N := 11) hx hb hw iwX5 hown hK hP 0 rfl rfl 0 (by decide) (hw _ w_f_X5_9) (fun _ h9 => h9) rfl dX5_readLetters_110 ?_
              refine lv_aload_n hx hb dX5_readLetters_113 rfl (lv_at hl 1 rfl) ?_
              refine va_get (D := (dC, dI)) (ci := 4) (v := .int x3) (C := RX5) (T := TX5) (N := 11) hx hb hw iwX5 hown hK hP 0 rfl rfl 8 (by decide) (hw _ w_f_X5_37) (fun _ h9 => h9) rfl dX5_readLetters_114 ?_
              refine va_iald hx hb hK hP 1 0 rfl rfl (i := x3) (vp_in_iff.mpr (by omega)) dX5_readLetters_117 ?_
              refine lv_topi (fun z123 ez123 => ?_)
              have qz123 : (z123).toInt = (z48).toInt := by rw [ez123, ez48]
              have rz123 : 0 ≤ (z123).toInt ∧ (z123).toInt ≤ 255 := by rw [ez123]; exact hf_by _
              refine lv_i2l hx hb dX5_readLetters_118 rfl ?_
              refine lv_topl (fun z124 ez124 => ?_)
              have tz124 : (z124).toInt = (z123).toInt := by rw [ez124]; exact Int32.toInt_toInt64 _
              have bz124 := i_bd z123
              refine va_put (D := (dC, dI)) (ci := 4) (v := .long z124) (ty := tyX5 10) (C := RX5) (T := TX5) (N := 11) hx hb hw iwX5 tyX5 tyX5_ok nmX5 hown hK hP hD hS 0 rfl rfl 10 (by decide) (hw _ w_f_X5_85) (fun _ h9 => h9) rfl (tyX5_ok 10 (by decide)) rfl rfl (Nat.le_of_ble_eq_true rfl) dX5_readLetters_119 (fun H locs hP9 hD9 hS9 => ?_)
              clear hP hD hS
              have hP : va_P (dC, dI) cls [(h_rd, .inr (4, (mo29 v_rd (.ref h_by) (.int x_rd_length) (.int x_rd_at) (.int x3) (.int x_rd_token) (.long z124)))), (h_by, .inl (cy_by, 600, .inl f_by))] H := hP9
              have hD : va_D A [(h_rd, .inr (4, (mo29 v_rd (.ref h_by) (.int x_rd_length) (.int x_rd_at) (.int x3) (.int x_rd_token) (.long z124)))), (h_by, .inl (cy_by, 600, .inl f_by))] := hD9
              have hS := hS9
              clear hP9 hD9 hS9
              refine lv_aload_n hx hb dX5_readLetters_122 rfl (lv_at hl 1 rfl) ?_
              refine lv_dup hx hb dX5_readLetters_123 rfl ?_
              refine va_get (D := (dC, dI)) (ci := 4) (v := .int x3) (C := RX5) (T := TX5) (N := 11) hx hb hw iwX5 hown hK hP 0 rfl rfl 8 (by decide) (hw _ w_f_X5_37) (fun _ h9 => h9) rfl dX5_readLetters_124 ?_
              refine lv_iconst (v := 1) hx hb dX5_readLetters_127 (by decide) ?_
              refine lv_iadd hx hb dX5_readLetters_128 ?_
              refine lv_topi (fun z125 ez125 => ?_)
              have tz125 : (z125).toInt = (x3).toInt + 1 := by rw [ez125]; exact i_add rfl (by decide) (by omega)
              refine va_put (D := (dC, dI)) (ci := 4) (v := .int z125) (ty := tyX5 8) (C := RX5) (T := TX5) (N := 11) hx hb hw iwX5 tyX5 tyX5_ok nmX5 hown hK hP hD hS 0 rfl rfl 8 (by decide) (hw _ w_f_X5_37) (fun _ h9 => h9) rfl (tyX5_ok 8 (by decide)) rfl rfl (Nat.le_of_ble_eq_true rfl) dX5_readLetters_129 (fun H locs hP9 hD9 hS9 => ?_)
              clear hP hD hS
              have hP : va_P (dC, dI) cls [(h_rd, .inr (4, (mo29 v_rd (.ref h_by) (.int x_rd_length) (.int x_rd_at) (.int z125) (.int x_rd_token) (.long z124)))), (h_by, .inl (cy_by, 600, .inl f_by))] H := hP9
              have hD : va_D A [(h_rd, .inr (4, (mo29 v_rd (.ref h_by) (.int x_rd_length) (.int x_rd_at) (.int z125) (.int x_rd_token) (.long z124)))), (h_by, .inl (cy_by, 600, .inl f_by))] := hD9
              have hS := hS9
              clear hP9 hD9 hS9
              have eoz125 : tkE G (x_rd_length).toInt (z125).toInt = tkE G (x_rd_length).toInt (x3).toInt := by rw [tz125]; exact tkE_on (by omega) (by omega) (by omega) (by omega)
              have goz125 : tkG G (x_rd_length).toInt (x3).toInt = 1 + tkG G (x_rd_length).toInt (z125).toInt := by rw [tz125]; exact tkG_gr (by omega) (by omega) (by omega) (by omega) (by omega)
              have nl126 : NML G (x_rd_at).toInt (x1).toInt (z122).toInt (z124).toInt := nml_great (by omega)
              refine lv_goto (tgt := 17) hx hb dX5_readLetters_132 (by decide) ?_
              exact ih6 (x1) (z122) (z125) (z124) _ _ _ (by first | exact klp5_0 | omega) (by omega) (by omega) (by omega) (by omega) (by omega) (by omega) (by omega) nl126 (by omega) hP hD hS (lv_sub hl [1, 2, 0] rfl)
            · have kc121 := (not_congr (cv_eq (rfl : (r118).toInt = (r118).toInt) (by decide : (0 : Int32).toInt = 0))).mp c121
              obtain ⟨z127, ez127⟩ : ∃ y : Int32, y = x1 + 1 := ⟨_, rfl⟩
              have tz127 : (z127).toInt = (x1).toInt + 1 := by rw [ez127]; exact i_add rfl (by decide) (by omega)
              refine lv_iinc (v := z127) (lv' := [(1, .int z127), (0, .ref h_rd), (2, .int x2)]) hx hb dX5_readLetters_73 hl (k := 1) rfl (by rw [ez127]; rfl) (by decide) rfl (fun ls hl => ?_)
              refine lv_aload_n hx hb dX5_readLetters_76 rfl (lv_at hl 1 rfl) ?_
              refine lv_aload_n hx hb dX5_readLetters_77 rfl (lv_at hl 1 rfl) ?_
              refine va_get (D := (dC, dI)) (ci := 4) (v := .long x4) (C := RX5) (T := TX5) (N := 11) hx hb hw iwX5 hown hK hP 0 rfl rfl 10 (by decide) (hw _ w_f_X5_85) (fun _ h9 => h9) rfl dX5_readLetters_78 ?_
              refine lv_iconst (v := 5) hx hb dX5_readLetters_81 (by decide) ?_
              refine lv_lshl hx hb dX5_readLetters_82 rfl ?_
              refine lv_topl (fun z128 ez128 => ?_)
              refine lv_aload_n hx hb dX5_readLetters_83 rfl (lv_at hl 1 rfl) ?_
              refine va_get (D := (dC, dI)) (ci := 4) (v := .ref h_by) (C := RX5) (T := TX5) (N := 11) hx hb hw iwX5 hown hK hP 0 rfl rfl 0 (by decide) (hw _ w_f_X5_9) (fun _ h9 => h9) rfl dX5_readLetters_84 ?_
              refine lv_aload_n hx hb dX5_readLetters_87 rfl (lv_at hl 1 rfl) ?_
              refine va_get (D := (dC, dI)) (ci := 4) (v := .int x3) (C := RX5) (T := TX5) (N := 11) hx hb hw iwX5 hown hK hP 0 rfl rfl 8 (by decide) (hw _ w_f_X5_37) (fun _ h9 => h9) rfl dX5_readLetters_88 ?_
              refine va_iald hx hb hK hP 1 0 rfl rfl (i := x3) (vp_in_iff.mpr (by omega)) dX5_readLetters_91 ?_
              refine lv_topi (fun z129 ez129 => ?_)
              have qz129 : (z129).toInt = (z48).toInt := by rw [ez129, ez48]
              have rz129 : 0 ≤ (z129).toInt ∧ (z129).toInt ≤ 255 := by rw [ez129]; exact hf_by _
              refine lv_bipush (v := 97) hx hb dX5_readLetters_92 (by decide) ?_
              refine lv_isub hx hb dX5_readLetters_94 ?_
              refine lv_topi (fun z130 ez130 => ?_)
              have tz130 : (z130).toInt = (z129).toInt - 97 := by rw [ez130]; exact i_sub rfl (by decide) (by omega)
              refine lv_iconst (v := 1) hx hb dX5_readLetters_95 (by decide) ?_
              refine lv_iadd hx hb dX5_readLetters_96 ?_
              refine lv_topi (fun z131 ez131 => ?_)
              have tz131 : (z131).toInt = (z130).toInt + 1 := by rw [ez131]; exact i_add rfl (by decide) (by omega)
              refine lv_i2l hx hb dX5_readLetters_97 rfl ?_
              refine lv_topl (fun z132 ez132 => ?_)
              have tz132 : (z132).toInt = (z131).toInt := by rw [ez132]; exact Int32.toInt_toInt64 _
              have bz132 := i_bd z131
              refine lv_lor hx hb dX5_readLetters_98 ?_
              refine lv_topl (fun z133 ez133 => ?_)
              refine va_put (D := (dC, dI)) (ci := 4) (v := .long z133) (ty := tyX5 10) (C := RX5) (T := TX5) (N := 11) hx hb hw iwX5 tyX5 tyX5_ok nmX5 hown hK hP hD hS 0 rfl rfl 10 (by decide) (hw _ w_f_X5_85) (fun _ h9 => h9) rfl (tyX5_ok 10 (by decide)) rfl rfl (Nat.le_of_ble_eq_true rfl) dX5_readLetters_99 (fun H locs hP9 hD9 hS9 => ?_)
              clear hP hD hS
              have hP : va_P (dC, dI) cls [(h_rd, .inr (4, (mo29 v_rd (.ref h_by) (.int x_rd_length) (.int x_rd_at) (.int x3) (.int x_rd_token) (.long z133)))), (h_by, .inl (cy_by, 600, .inl f_by))] H := hP9
              have hD : va_D A [(h_rd, .inr (4, (mo29 v_rd (.ref h_by) (.int x_rd_length) (.int x_rd_at) (.int x3) (.int x_rd_token) (.long z133)))), (h_by, .inl (cy_by, 600, .inl f_by))] := hD9
              have hS := hS9
              clear hP9 hD9 hS9
              refine lv_goto (tgt := 122) hx hb dX5_readLetters_102 (by decide) ?_
              refine lv_aload_n hx hb dX5_readLetters_122 rfl (lv_at hl 1 rfl) ?_
              refine lv_dup hx hb dX5_readLetters_123 rfl ?_
              refine va_get (D := (dC, dI)) (ci := 4) (v := .int x3) (C := RX5) (T := TX5) (N := 11) hx hb hw iwX5 hown hK hP 0 rfl rfl 8 (by decide) (hw _ w_f_X5_37) (fun _ h9 => h9) rfl dX5_readLetters_124 ?_
              refine lv_iconst (v := 1) hx hb dX5_readLetters_127 (by decide) ?_
              refine lv_iadd hx hb dX5_readLetters_128 ?_
              refine lv_topi (fun z134 ez134 => ?_)
              have tz134 : (z134).toInt = (x3).toInt + 1 := by rw [ez134]; exact i_add rfl (by decide) (by omega)
              refine va_put (D := (dC, dI)) (ci := 4) (v := .int z134) (ty := tyX5 8) (C := RX5) (T := TX5) (N := 11) hx hb hw iwX5 tyX5 tyX5_ok nmX5 hown hK hP hD hS 0 rfl rfl 8 (by decide) (hw _ w_f_X5_37) (fun _ h9 => h9) rfl (tyX5_ok 8 (by decide)) rfl rfl (Nat.le_of_ble_eq_true rfl) dX5_readLetters_129 (fun H locs hP9 hD9 hS9 => ?_)
              clear hP hD hS
              have hP : va_P (dC, dI) cls [(h_rd, .inr (4, (mo29 v_rd (.ref h_by) (.int x_rd_length) (.int x_rd_at) (.int z134) (.int x_rd_token) (.long z133)))), (h_by, .inl (cy_by, 600, .inl f_by))] H := hP9
              have hD : va_D A [(h_rd, .inr (4, (mo29 v_rd (.ref h_by) (.int x_rd_length) (.int x_rd_at) (.int z134) (.int x_rd_token) (.long z133)))), (h_by, .inl (cy_by, 600, .inl f_by))] := hD9
              have hS := hS9
              clear hP9 hD9 hS9
              have eoz134 : tkE G (x_rd_length).toInt (z134).toInt = tkE G (x_rd_length).toInt (x3).toInt := by rw [tz134]; exact tkE_on (by omega) (by omega) (by omega) (by omega)
              have goz134 : tkG G (x_rd_length).toInt (x3).toInt = tkG G (x_rd_length).toInt (z134).toInt := by rw [tz134]; exact tkG_sm (by omega) (by omega) (by omega) (by omega)
              have nl135 : NML G (x_rd_at).toInt (z127).toInt (x2).toInt (z133).toInt := nml_small (b := (x3).toInt) klp5_8 (by omega) (by omega) (by omega) ez128 (by omega) ez133 (by omega)
              refine lv_goto (tgt := 17) hx hb dX5_readLetters_132 (by decide) ?_
              exact ih6 (z127) (x2) (z134) (z133) _ _ _ (by omega) (by first | exact klp5_1 | omega) (by omega) (by omega) (by omega) (by omega) (by omega) (by omega) nl135 (by omega) hP hD hS (lv_sub hl [1, 0, 2] rfl)
  have cst0 : (0 : Int32).toInt = 0 := by decide
  exact lp5 _ (0) (0) (x_rd_at) (0) _ _ _ (by decide) (by decide) (by first | exact hx_rd_at | omega) (by omega) (by omega) (by omega) (by omega) (by omega) (nml_zero rfl (by decide)) (Nat.le_refl _) hP hD hS (lv_sub hl [2, 1, 0] rfl)

set_option maxHeartbeats 8000000 in
set_option maxRecDepth 100000 in
theorem c_X5_nextToken (l : Launch) (dC : Nat → ClassId) (dI : Nat → Nat → Nat) (sz : Nat) (h_rd : Nat) (h_by : Nat) (v_rd : Nat → Value) (x_rd_length : Int32) (x_rd_at : Int32) (x_rd_behind : Int32) (x_rd_token : Int32) (x_rd_letters : Int64) (cy_by : ClassId) (f_by : Nat → Int32) (G : Int → Int) (hx_rd_length : 0 ≤ (x_rd_length).toInt ∧ (x_rd_length).toInt ≤ 600) (hx_rd_at : 0 ≤ (x_rd_at).toInt ∧ (x_rd_at).toInt ≤ 600) (hx_rd_behind : 0 ≤ (x_rd_behind).toInt ∧ (x_rd_behind).toInt ≤ 600) (hf_by : Rg 0 255 f_by) (q0 : (x_rd_behind).toInt ≤ (x_rd_length).toInt) (hn_byt : BYT G (x_rd_length).toInt f_by) : Met l yX5_nextToken (Ws yX5_nextToken cX5_nextToken 1 none) (({ frames := 2, cells := 0, slots := 0, locals := 42 } : Room)) (PRE (dC, dI) cls [(cy_by, .int)] [(h_rd, .inr (4, (mo29 v_rd (.ref h_by) (.int x_rd_length) (.int x_rd_at) (.int x_rd_behind) (.int x_rd_token) (.long x_rd_letters)))), (h_by, .inl (cy_by, 600, .inl f_by))] sz [.ref h_rd]) (va_Qv (fun (u : (Int32) × (Int32) × (Int32) × (Int64)) => (0 ≤ (u.1).toInt ∧ (u.1).toInt ≤ 600) ∧ (0 ≤ (u.2.1).toInt ∧ (u.2.1).toInt ≤ 600) ∧ ((u.1).toInt = tkS G (x_rd_length).toInt (x_rd_behind).toInt) ∧ ((x_rd_behind).toInt ≤ (u.1).toInt) ∧ ((u.2.2.1).toInt = tkT G (x_rd_length).toInt (u.1).toInt) ∧ ((u.2.2.1).toInt = -1 ∨ (u.2.1).toInt = tkX G (x_rd_length).toInt (u.1).toInt) ∧ (¬ (u.2.2.1).toInt = 257 ∨ (u.2.2.2).toInt = G (u.1).toInt) ∧ (-1 ≤ (u.2.2.1).toInt ∧ (u.2.2.1).toInt ≤ 258) ∧ ((u.2.1).toInt ≤ (x_rd_length).toInt) ∧ ((u.2.2.1).toInt = -1 ∨ (u.1).toInt < (x_rd_length).toInt) ∧ ((u.1).toInt ≤ (x_rd_length).toInt) ∧ (NMT (u.2.2.1).toInt (u.2.2.2).toInt (NMI 32 G (x_rd_length).toInt (u.1).toInt))) (fun (u : (Int32) × (Int32) × (Int32) × (Int64)) (t : State) => va_P (dC, dI) cls [(h_rd, .inr (4, (mo29 v_rd (.ref h_by) (.int x_rd_length) (.int u.1) (.int u.2.1) (.int u.2.2.1) (.long u.2.2.2)))), (h_by, .inl (cy_by, 600, .inl f_by))] t.heap ∧ va_D (va_A [(h_rd, .inr (4, (mo29 v_rd (.ref h_by) (.int x_rd_length) (.int x_rd_at) (.int x_rd_behind) (.int x_rd_token) (.long x_rd_letters)))), (h_by, .inl (cy_by, 600, .inl f_by))] sz) [(h_rd, .inr (4, (mo29 v_rd (.ref h_by) (.int x_rd_length) (.int u.1) (.int u.2.1) (.int u.2.2.1) (.long u.2.2.2)))), (h_by, .inl (cy_by, 600, .inl f_by))]) (va_A [(h_rd, .inr (4, (mo29 v_rd (.ref h_by) (.int x_rd_length) (.int x_rd_at) (.int x_rd_behind) (.int x_rd_token) (.long x_rd_letters)))), (h_by, .inl (cy_by, 600, .inl f_by))] sz)) 0 0 (va_A [(h_rd, .inr (4, (mo29 v_rd (.ref h_by) (.int x_rd_length) (.int x_rd_at) (.int x_rd_behind) (.int x_rd_token) (.long x_rd_letters)))), (h_by, .inl (cy_by, 600, .inl f_by))] sz) := by
  refine Met.ofW (cc := cX5_nextToken) (maxL := 1) (ret := none) (by decide) rfl ?_
  intro p e s m args below meth c s₁ B hml hv
  obtain ⟨rfl, hsz, hP, hK, hD0, hN⟩ := hv
  have hx := B.exec
  have hb := B.bytes
  have hr := B.returns
  have hts := atoms_spec (ws := Ws yX5_nextToken cX5_nextToken 1 none) B.pre
  have hT : ∀ w ∈ WALL, w ∈ Ws yX5_nextToken cX5_nextToken 1 none := fun w h => List.mem_cons_of_mem _ h
  have hw := fun w (h : w ∈ WALL) => hts w (hT w h)
  have hown : s.vm.findClass RX5 = some m.cls := findClass_of_methodNamed B.named
  have hlocks := B.notSynchronized
  subst hsz
  have hD := hD0.self (sz := s.heap.size)
  generalize hAe : va_A [(h_rd, .inr (4, (mo29 v_rd (.ref h_by) (.int x_rd_length) (.int x_rd_at) (.int x_rd_behind) (.int x_rd_token) (.long x_rd_letters)))), (h_by, .inl (cy_by, 600, .inl f_by))] s.heap.size = A at hD ⊢
  have hA : ∀ q : Nat, s.heap.size ≤ q → A q := fun q h => by rw [← hAe]; exact Or.inr h
  have hS : va_S A s.heap s.heap [] := va_S.rf
  have hl := lv_entry ([.ref h_rd]) (n := 1) (Nat.le_of_ble_eq_true rfl)
  rw [lg_entry_eq]
  generalize (lg_sl ([.ref h_rd]) ++ List.replicate (1 - (lg_sl ([.ref h_rd])).length) Slot.unset).toArray = ls at hl ⊢
  have hl : lv_has ls 1 [(0, .ref h_rd)] := hl
  refine lv_aload_n hx hb dX5_nextToken_0 rfl (lv_at hl 0 rfl) ?_
  refine lv_aload_n hx hb dX5_nextToken_1 rfl (lv_at hl 0 rfl) ?_
  refine va_get (D := (dC, dI)) (ci := 4) (v := .int x_rd_behind) (C := RX5) (T := TX5) (N := 11) hx hb hw iwX5 hown hK hP 0 rfl rfl 8 (by decide) (hw _ w_f_X5_37) (fun _ h9 => h9) rfl dX5_nextToken_2 ?_
  refine va_put (D := (dC, dI)) (ci := 4) (v := .int x_rd_behind) (ty := tyX5 7) (C := RX5) (T := TX5) (N := 11) hx hb hw iwX5 tyX5 tyX5_ok nmX5 hown hK hP hD hS 0 rfl rfl 7 (by decide) (hw _ w_f_X5_49) (fun _ h9 => h9) rfl (tyX5_ok 7 (by decide)) rfl rfl (Nat.le_of_ble_eq_true rfl) dX5_nextToken_5 (fun H locs hP9 hD9 hS9 => ?_)
  clear hP hD hS
  have hP : va_P (dC, dI) cls [(h_rd, .inr (4, (mo29 v_rd (.ref h_by) (.int x_rd_length) (.int x_rd_behind) (.int x_rd_behind) (.int x_rd_token) (.long x_rd_letters)))), (h_by, .inl (cy_by, 600, .inl f_by))] H := hP9
  have hD : va_D A [(h_rd, .inr (4, (mo29 v_rd (.ref h_by) (.int x_rd_length) (.int x_rd_behind) (.int x_rd_behind) (.int x_rd_token) (.long x_rd_letters)))), (h_by, .inl (cy_by, 600, .inl f_by))] := hD9
  have hS := hS9
  clear hP9 hD9 hS9
  have lp2 : ∀ (n : Nat) (x1 : Int32) (H : Heap) (locs : List Loc) (ls : Array Slot), (0 ≤ (x1).toInt ∧ (x1).toInt ≤ 600) → ((x1).toInt ≤ (x_rd_length).toInt) → (tkS G (x_rd_length).toInt (x1).toInt = tkS G (x_rd_length).toInt (x_rd_behind).toInt) → (600 - (x1).toInt).toNat + 1 ≤ n → va_P (dC, dI) cls [(h_rd, .inr (4, (mo29 v_rd (.ref h_by) (.int x_rd_length) (.int x1) (.int x_rd_behind) (.int x_rd_token) (.long x_rd_letters)))), (h_by, .inl (cy_by, 600, .inl f_by))] H → va_D A [(h_rd, .inr (4, (mo29 v_rd (.ref h_by) (.int x_rd_length) (.int x1) (.int x_rd_behind) (.int x_rd_token) (.long x_rd_letters)))), (h_by, .inl (cy_by, 600, .inl f_by))] → va_S A s.heap H locs → lv_has ls 1 [(0, .ref h_rd)] → W p l e ({ frames := 2, cells := 0, slots := 0, locals := 42 } : Room) s m ([.ref h_rd] : List Value).toArray below meth c H locs 0 0 (MQ below (va_Qv (fun (u : (Int32) × (Int32) × (Int32) × (Int64)) => (0 ≤ (u.1).toInt ∧ (u.1).toInt ≤ 600) ∧ (0 ≤ (u.2.1).toInt ∧ (u.2.1).toInt ≤ 600) ∧ ((u.1).toInt = tkS G (x_rd_length).toInt (x_rd_behind).toInt) ∧ ((x_rd_behind).toInt ≤ (u.1).toInt) ∧ ((u.2.2.1).toInt = tkT G (x_rd_length).toInt (u.1).toInt) ∧ ((u.2.2.1).toInt = -1 ∨ (u.2.1).toInt = tkX G (x_rd_length).toInt (u.1).toInt) ∧ (¬ (u.2.2.1).toInt = 257 ∨ (u.2.2.2).toInt = G (u.1).toInt) ∧ (-1 ≤ (u.2.2.1).toInt ∧ (u.2.2.1).toInt ≤ 258) ∧ ((u.2.1).toInt ≤ (x_rd_length).toInt) ∧ ((u.2.2.1).toInt = -1 ∨ (u.1).toInt < (x_rd_length).toInt) ∧ ((u.1).toInt ≤ (x_rd_length).toInt) ∧ (NMT (u.2.2.1).toInt (u.2.2.2).toInt (NMI 32 G (x_rd_length).toInt (u.1).toInt))) (fun (u : (Int32) × (Int32) × (Int32) × (Int64)) (t : State) => va_P (dC, dI) cls [(h_rd, .inr (4, (mo29 v_rd (.ref h_by) (.int x_rd_length) (.int u.1) (.int u.2.1) (.int u.2.2.1) (.long u.2.2.2)))), (h_by, .inl (cy_by, 600, .inl f_by))] t.heap ∧ va_D A [(h_rd, .inr (4, (mo29 v_rd (.ref h_by) (.int x_rd_length) (.int u.1) (.int u.2.1) (.int u.2.2.1) (.long u.2.2.2)))), (h_by, .inl (cy_by, 600, .inl f_by))]) A) ([.ref h_rd] : List Value).toArray s 0 0 A) (F0 m 8 ls []) := by
    clear hP hD hS hl
    intro n
    induction n with
    | zero => intro x1 H locs ls klp2_0 klp2_1 klp2_2 hm hP hD hS hl; exact False.elim (by omega)
    | succ n ih => 
      intro x1 H locs ls klp2_0 klp2_1 klp2_2 hm hP hD hS hl
      have ih3 := ih
      clear ih
      refine lv_aload_n hx hb dX5_nextToken_8 rfl (lv_at hl 0 rfl) ?_
      refine va_get (D := (dC, dI)) (ci := 4) (v := .int x1) (C := RX5) (T := TX5) (N := 11) hx hb hw iwX5 hown hK hP 0 rfl rfl 7 (by decide) (hw _ w_f_X5_49) (fun _ h9 => h9) rfl dX5_nextToken_9 ?_
      refine lv_aload_n hx hb dX5_nextToken_12 rfl (lv_at hl 0 rfl) ?_
      refine va_get (D := (dC, dI)) (ci := 4) (v := .int x_rd_length) (C := RX5) (T := TX5) (N := 11) hx hb hw iwX5 hown hK hP 0 rfl rfl 1 (by decide) (hw _ w_f_X5_22) (fun _ h9 => h9) rfl dX5_nextToken_13 ?_
      refine lv_icmp_ge (tgt := 60) hx hb dX5_nextToken_16 (by decide) (fun c4 => ?_) (fun c4 => ?_)
      · have kc4 := (cv_le (rfl : (x_rd_length).toInt = (x_rd_length).toInt) (rfl : (x1).toInt = (x1).toInt)).mp c4
        have ex9 : (x1).toInt = tkS G (x_rd_length).toInt (x_rd_behind).toInt := (tkS_off (a := (x1).toInt) (fun q9 => by omega)).symm.trans klp2_2
        have sg9 := tkS_ge (G := G) (n := (x_rd_length).toInt) (x_rd_behind).toInt
        refine lv_aload_n hx hb dX5_nextToken_60 rfl (lv_at hl 0 rfl) ?_
        refine va_get (D := (dC, dI)) (ci := 4) (v := .int x1) (C := RX5) (T := TX5) (N := 11) hx hb hw iwX5 hown hK hP 0 rfl rfl 7 (by decide) (hw _ w_f_X5_49) (fun _ h9 => h9) rfl dX5_nextToken_61 ?_
        refine lv_aload_n hx hb dX5_nextToken_64 rfl (lv_at hl 0 rfl) ?_
        refine va_get (D := (dC, dI)) (ci := 4) (v := .int x_rd_length) (C := RX5) (T := TX5) (N := 11) hx hb hw iwX5 hown hK hP 0 rfl rfl 1 (by decide) (hw _ w_f_X5_22) (fun _ h9 => h9) rfl dX5_nextToken_65 ?_
        refine lv_icmp_lt (tgt := 79) hx hb dX5_nextToken_68 (by decide) (fun c5 => ?_) (fun c5 => ?_)
        · have kc5 := (cv_lt (rfl : (x1).toInt = (x1).toInt) (rfl : (x_rd_length).toInt = (x_rd_length).toInt)).mp c5
          refine lv_aload_n hx hb dX5_nextToken_79 rfl (lv_at hl 0 rfl) ?_
          refine va_get (D := (dC, dI)) (ci := 4) (v := .ref h_by) (C := RX5) (T := TX5) (N := 11) hx hb hw iwX5 hown hK hP 0 rfl rfl 0 (by decide) (hw _ w_f_X5_9) (fun _ h9 => h9) rfl dX5_nextToken_80 ?_
          refine lv_aload_n hx hb dX5_nextToken_83 rfl (lv_at hl 0 rfl) ?_
          refine va_get (D := (dC, dI)) (ci := 4) (v := .int x1) (C := RX5) (T := TX5) (N := 11) hx hb hw iwX5 hown hK hP 0 rfl rfl 7 (by decide) (hw _ w_f_X5_49) (fun _ h9 => h9) rfl dX5_nextToken_84 ?_
          refine va_iald hx hb hK hP 1 0 rfl rfl (i := x1) (vp_in_iff.mpr (by omega)) dX5_nextToken_87 ?_
          refine lv_topi (fun z6 ez6 => ?_)
          have rz6 : 0 ≤ (z6).toInt ∧ (z6).toInt ≤ 255 := by rw [ez6]; exact hf_by _
          have gz6 : (z6).toInt = G (x1).toInt := by rw [ez6]; exact hn_byt.2 _ (by omega) (by omega)
          have hPc := hP.sub (ws' := []) [] rfl
          have hDc := hD.sub (ws' := []) [] (by decide) rfl
          have hKc := hK.sub (tys' := []) [] rfl
          have hFc := va_free (wc := []) hD hS hA [] rfl
          refine va_calli (va_runS (As := [.int z6]) (rest := []) ⟨hx, hb, hml, hown, hts⟩ (c_X5_isSmall l dC dI H.size z6) (cwS 1 hts (gs hT w_m_X5_107 w_static_X5_isSmall w_ini_X5 w_code_X5_isSmall) rfl rfl rfl (by decide +kernel) ⟨(Nat.le_of_ble_eq_true rfl), (Nat.le_of_ble_eq_true rfl)⟩) ⟨pre_blind, pre_of hPc hKc hDc hN⟩ rfl rfl hl.1 rfl (lv_room (Nat.le_of_ble_eq_true rfl)) dX5_nextToken_88 ⟨(Nat.le_of_ble_eq_true rfl), (Nat.le_of_ble_eq_true rfl)⟩) hS (fun q _ h => hFc q h) hFc (fun r7 u t H locs ht hvm hq hB hz1 hk1 hS9 => ?_)
          obtain ⟨hP1, hD1⟩ := hB
          rw [ht] at hP1
          obtain ⟨hP9, hD9⟩ := va_join (wr := [(h_rd, .inr (4, (mo29 v_rd (.ref h_by) (.int x_rd_length) (.int x1) (.int x_rd_behind) (.int x_rd_token) (.long x_rd_letters)))), (h_by, .inl (cy_by, 600, .inl f_by))]) (w1 := []) hP hD [] [0, 1] rfl rfl (by decide) (by decide) hk1 hFc hP1 hD1
          clear hP hD hS hPc hDc hKc hFc hP1 hD1 hk1 hz1 ht hvm
          have hP : va_P (dC, dI) cls [(h_rd, .inr (4, (mo29 v_rd (.ref h_by) (.int x_rd_length) (.int x1) (.int x_rd_behind) (.int x_rd_token) (.long x_rd_letters)))), (h_by, .inl (cy_by, 600, .inl f_by))] H := hP9
          have hD : va_D A [(h_rd, .inr (4, (mo29 v_rd (.ref h_by) (.int x_rd_length) (.int x1) (.int x_rd_behind) (.int x_rd_token) (.long x_rd_letters)))), (h_by, .inl (cy_by, 600, .inl f_by))] := hD9
          have hS := hS9
          clear hP9 hD9 hS9
          obtain ⟨k8, k9⟩ := hq
          replace k8 : 0 ≤ (r7).toInt ∧ (r7).toInt ≤ 1 := k8
          replace k9 : (((r7)).toInt = 1 ∧ 97 ≤ ((z6)).toInt ∧ ((z6)).toInt ≤ 122) ∨ (((r7)).toInt = 0 ∧ ¬ (97 ≤ ((z6)).toInt ∧ ((z6)).toInt ≤ 122)) := k9
          refine lv_if_ne (tgt := 109) hx hb dX5_nextToken_91 (by decide) (fun c10 => ?_) (fun c10 => ?_)
          · have kc10 := (not_congr (cv_eq (rfl : (r7).toInt = (r7).toInt) (by decide : (0 : Int32).toInt = 0))).mp c10
            refine lv_aload_n hx hb dX5_nextToken_109 rfl (lv_at hl 0 rfl) ?_
            have hPc := hP.sub (ws' := [(h_rd, .inr (4, (mo29 v_rd (.ref h_by) (.int x_rd_length) (.int x1) (.int x_rd_behind) (.int x_rd_token) (.long x_rd_letters)))), (h_by, .inl (cy_by, 600, .inl f_by))]) [0, 1] rfl
            have hDc := hD.sub (ws' := [(h_rd, .inr (4, (mo29 v_rd (.ref h_by) (.int x_rd_length) (.int x1) (.int x_rd_behind) (.int x_rd_token) (.long x_rd_letters)))), (h_by, .inl (cy_by, 600, .inl f_by))]) [0, 1] (by decide) rfl
            have hKc := hK.sub (tys' := [(cy_by, .int)]) [0] rfl
            have hFc := va_free (wc := [(h_rd, .inr (4, (mo29 v_rd (.ref h_by) (.int x_rd_length) (.int x1) (.int x_rd_behind) (.int x_rd_token) (.long x_rd_letters)))), (h_by, .inl (cy_by, 600, .inl f_by))]) hD hS hA [0, 1] rfl
            refine va_callv (va_runV (As := []) (rest := []) ⟨hx, hb, hml, hown, hts⟩ (c_X5_readLetters l dC dI H.size h_rd h_by v_rd x_rd_length x1 x_rd_behind x_rd_token x_rd_letters cy_by f_by G (by first | exact hx_rd_length | omega) (by first | exact klp2_0 | omega) (by first | exact hx_rd_behind | omega) hf_by (by omega) (by omega) hn_byt) (cwV 0 hts (gv hT w_m_X5_114 w_instanceMethod_X5_readLetters ws_sel_X5_readLetters w_ini_X5 w_code_X5_readLetters) rfl rfl rfl (by decide +kernel) ⟨(Nat.le_of_ble_eq_true rfl), (Nat.le_of_ble_eq_true rfl)⟩) ⟨pre_blind, va_recv hK hP (ci := 4) (q0 := 0) rfl rfl, pre_of hPc hKc hDc hN⟩ rfl rfl hl.1 rfl (lv_room (Nat.le_of_ble_eq_true rfl)) dX5_nextToken_110 ⟨(Nat.le_of_ble_eq_true rfl), (Nat.le_of_ble_eq_true rfl)⟩) hS (fun q _ h => hFc q h) hFc (fun u t H locs ht hvm hq hB hz1 hk1 hS9 => ?_)
            obtain ⟨z12, z13, z14⟩ := u
            obtain ⟨hP1, hD1⟩ := hB
            rw [ht] at hP1
            obtain ⟨hP9, hD9⟩ := va_join (wr := []) (w1 := [(h_rd, .inr (4, (mo29 v_rd (.ref h_by) (.int x_rd_length) (.int x1) (.int z12) (.int z13) (.long z14)))), (h_by, .inl (cy_by, 600, .inl f_by))]) hP hD [0, 1] [] rfl rfl (by decide) (by decide) hk1 hFc hP1 hD1
            clear hP hD hS hPc hDc hKc hFc hP1 hD1 hk1 hz1 ht hvm
            have hP : va_P (dC, dI) cls [(h_rd, .inr (4, (mo29 v_rd (.ref h_by) (.int x_rd_length) (.int x1) (.int z12) (.int z13) (.long z14)))), (h_by, .inl (cy_by, 600, .inl f_by))] H := hP9
            have hD : va_D A [(h_rd, .inr (4, (mo29 v_rd (.ref h_by) (.int x_rd_length) (.int x1) (.int z12) (.int z13) (.long z14)))), (h_by, .inl (cy_by, 600, .inl f_by))] := hD9
            have hS := hS9
            clear hP9 hD9 hS9
            obtain ⟨k15, k16, k17, k18, k19, k20, k21⟩ := hq
            replace k15 : 0 ≤ ((z12)).toInt ∧ ((z12)).toInt ≤ 600 := k15
            replace k16 : ((z13)).toInt = tkT (G) ((x_rd_length)).toInt ((x1)).toInt := k16
            replace k17 : ((z12)).toInt = tkX (G) ((x_rd_length)).toInt ((x1)).toInt := k17
            replace k18 : ¬ ((z13)).toInt = 257 ∨ ((z14)).toInt = (G) ((x1)).toInt := k18
            replace k19 : 256 ≤ ((z13)).toInt ∧ ((z13)).toInt ≤ 258 := k19
            replace k20 : ((x1)).toInt + 1 ≤ ((z12)).toInt ∧ ((z12)).toInt ≤ ((x_rd_length)).toInt := k20
            replace k21 : NMT ((z13)).toInt ((z14)).toInt (NMI 32 (G) ((x_rd_length)).toInt ((x1)).toInt) := k21
            refine lv_goto (tgt := 139) hx hb dX5_nextToken_113 (by decide) ?_
            refine W.widen (k := 0) (n := 0) (Nat.le_of_ble_eq_true rfl) (Nat.le_of_ble_eq_true rfl) ?_
            have w22 : 0 ≤ ((x1)).toInt ∧ ((x1)).toInt ≤ 600 := by first | exact klp2_0 | omega
            have w23 : 0 ≤ ((z12)).toInt ∧ ((z12)).toInt ≤ 600 := by first | exact k15 | omega
            have w24 : ((x1)).toInt = tkS G (x_rd_length).toInt (x_rd_behind).toInt := by omega
            have w25 : (x_rd_behind).toInt ≤ ((x1)).toInt := by omega
            have w26 : ((z13)).toInt = tkT G (x_rd_length).toInt ((x1)).toInt := by first | exact k16 | omega
            have w27 : ((z13)).toInt = -1 ∨ ((z12)).toInt = tkX G (x_rd_length).toInt ((x1)).toInt := by omega
            have w28 : ¬ ((z13)).toInt = 257 ∨ ((z14)).toInt = G ((x1)).toInt := by first | exact k18 | omega
            have w29 : -1 ≤ ((z13)).toInt ∧ ((z13)).toInt ≤ 258 := by omega
            have w30 : ((z12)).toInt ≤ (x_rd_length).toInt := by omega
            have w31 : ((z13)).toInt = -1 ∨ ((x1)).toInt < (x_rd_length).toInt := by omega
            have w32 : ((x1)).toInt ≤ (x_rd_length).toInt := by first | exact klp2_1 | omega
            have w33 : NMT ((z13)).toInt ((z14)).toInt (NMI 32 G (x_rd_length).toInt ((x1)).toInt) := k21
            exact W.vret hx hb hr (fun t ht hW => ⟨⟨(x1, z12, z13, z14), rfl, ⟨w22, w23, w24, w25, w26, w27, w28, w29, w30, w31, w32, w33⟩, by rw [ht]; exact hP, hD⟩, hS.F ht⟩) hS.2.2 dX5_nextToken_139
          · have kc10 := (cv_eq (rfl : (r7).toInt = (r7).toInt) (by decide : (0 : Int32).toInt = 0)).mp c10
            refine lv_aload_n hx hb dX5_nextToken_94 rfl (lv_at hl 0 rfl) ?_
            refine va_get (D := (dC, dI)) (ci := 4) (v := .ref h_by) (C := RX5) (T := TX5) (N := 11) hx hb hw iwX5 hown hK hP 0 rfl rfl 0 (by decide) (hw _ w_f_X5_9) (fun _ h9 => h9) rfl dX5_nextToken_95 ?_
            refine lv_aload_n hx hb dX5_nextToken_98 rfl (lv_at hl 0 rfl) ?_
            refine va_get (D := (dC, dI)) (ci := 4) (v := .int x1) (C := RX5) (T := TX5) (N := 11) hx hb hw iwX5 hown hK hP 0 rfl rfl 7 (by decide) (hw _ w_f_X5_49) (fun _ h9 => h9) rfl dX5_nextToken_99 ?_
            refine va_iald hx hb hK hP 1 0 rfl rfl (i := x1) (vp_in_iff.mpr (by omega)) dX5_nextToken_102 ?_
            refine lv_topi (fun z34 ez34 => ?_)
            have qz34 : (z34).toInt = (z6).toInt := by rw [ez34, ez6]
            have rz34 : 0 ≤ (z34).toInt ∧ (z34).toInt ≤ 255 := by rw [ez34]; exact hf_by _
            have hPc := hP.sub (ws' := []) [] rfl
            have hDc := hD.sub (ws' := []) [] (by decide) rfl
            have hKc := hK.sub (tys' := []) [] rfl
            have hFc := va_free (wc := []) hD hS hA [] rfl
            refine va_calli (va_runS (As := [.int z34]) (rest := []) ⟨hx, hb, hml, hown, hts⟩ (c_X5_isGreat l dC dI H.size z34) (cwS 1 hts (gs hT w_m_X5_111 w_static_X5_isGreat w_ini_X5 w_code_X5_isGreat) rfl rfl rfl (by decide +kernel) ⟨(Nat.le_of_ble_eq_true rfl), (Nat.le_of_ble_eq_true rfl)⟩) ⟨pre_blind, pre_of hPc hKc hDc hN⟩ rfl rfl hl.1 rfl (lv_room (Nat.le_of_ble_eq_true rfl)) dX5_nextToken_103 ⟨(Nat.le_of_ble_eq_true rfl), (Nat.le_of_ble_eq_true rfl)⟩) hS (fun q _ h => hFc q h) hFc (fun r35 u t H locs ht hvm hq hB hz1 hk1 hS9 => ?_)
            obtain ⟨hP1, hD1⟩ := hB
            rw [ht] at hP1
            obtain ⟨hP9, hD9⟩ := va_join (wr := [(h_rd, .inr (4, (mo29 v_rd (.ref h_by) (.int x_rd_length) (.int x1) (.int x_rd_behind) (.int x_rd_token) (.long x_rd_letters)))), (h_by, .inl (cy_by, 600, .inl f_by))]) (w1 := []) hP hD [] [0, 1] rfl rfl (by decide) (by decide) hk1 hFc hP1 hD1
            clear hP hD hS hPc hDc hKc hFc hP1 hD1 hk1 hz1 ht hvm
            have hP : va_P (dC, dI) cls [(h_rd, .inr (4, (mo29 v_rd (.ref h_by) (.int x_rd_length) (.int x1) (.int x_rd_behind) (.int x_rd_token) (.long x_rd_letters)))), (h_by, .inl (cy_by, 600, .inl f_by))] H := hP9
            have hD : va_D A [(h_rd, .inr (4, (mo29 v_rd (.ref h_by) (.int x_rd_length) (.int x1) (.int x_rd_behind) (.int x_rd_token) (.long x_rd_letters)))), (h_by, .inl (cy_by, 600, .inl f_by))] := hD9
            have hS := hS9
            clear hP9 hD9 hS9
            obtain ⟨k36, k37⟩ := hq
            replace k36 : 0 ≤ (r35).toInt ∧ (r35).toInt ≤ 1 := k36
            replace k37 : (((r35)).toInt = 1 ∧ 65 ≤ ((z34)).toInt ∧ ((z34)).toInt ≤ 90) ∨ (((r35)).toInt = 0 ∧ ¬ (65 ≤ ((z34)).toInt ∧ ((z34)).toInt ≤ 90)) := k37
            refine lv_if_eq (tgt := 116) hx hb dX5_nextToken_106 (by decide) (fun c38 => ?_) (fun c38 => ?_)
            · have kc38 := (cv_eq (rfl : (r35).toInt = (r35).toInt) (by decide : (0 : Int32).toInt = 0)).mp c38
              have ts9 := tkT_sign (G := G) (n := (x_rd_length).toInt) (a := (x1).toInt) (by omega) (by omega)
              have tx9 := tkX_sign (G := G) (n := (x_rd_length).toInt) (a := (x1).toInt) (by omega)
              refine lv_aload_n hx hb dX5_nextToken_116 rfl (lv_at hl 0 rfl) ?_
              refine lv_aload_n hx hb dX5_nextToken_117 rfl (lv_at hl 0 rfl) ?_
              refine va_get (D := (dC, dI)) (ci := 4) (v := .ref h_by) (C := RX5) (T := TX5) (N := 11) hx hb hw iwX5 hown hK hP 0 rfl rfl 0 (by decide) (hw _ w_f_X5_9) (fun _ h9 => h9) rfl dX5_nextToken_118 ?_
              refine lv_aload_n hx hb dX5_nextToken_121 rfl (lv_at hl 0 rfl) ?_
              refine va_get (D := (dC, dI)) (ci := 4) (v := .int x1) (C := RX5) (T := TX5) (N := 11) hx hb hw iwX5 hown hK hP 0 rfl rfl 7 (by decide) (hw _ w_f_X5_49) (fun _ h9 => h9) rfl dX5_nextToken_122 ?_
              refine va_iald hx hb hK hP 1 0 rfl rfl (i := x1) (vp_in_iff.mpr (by omega)) dX5_nextToken_125 ?_
              refine lv_topi (fun z39 ez39 => ?_)
              have qz39 : (z39).toInt = (z6).toInt := by rw [ez39, ez6]
              have rz39 : 0 ≤ (z39).toInt ∧ (z39).toInt ≤ 255 := by rw [ez39]; exact hf_by _
              refine va_put (D := (dC, dI)) (ci := 4) (v := .int z39) (ty := tyX5 9) (C := RX5) (T := TX5) (N := 11) hx hb hw iwX5 tyX5 tyX5_ok nmX5 hown hK hP hD hS 0 rfl rfl 9 (by decide) (hw _ w_f_X5_43) (fun _ h9 => h9) rfl (tyX5_ok 9 (by decide)) rfl rfl (Nat.le_of_ble_eq_true rfl) dX5_nextToken_126 (fun H locs hP9 hD9 hS9 => ?_)
              clear hP hD hS
              have hP : va_P (dC, dI) cls [(h_rd, .inr (4, (mo29 v_rd (.ref h_by) (.int x_rd_length) (.int x1) (.int x_rd_behind) (.int z39) (.long x_rd_letters)))), (h_by, .inl (cy_by, 600, .inl f_by))] H := hP9
              have hD : va_D A [(h_rd, .inr (4, (mo29 v_rd (.ref h_by) (.int x_rd_length) (.int x1) (.int x_rd_behind) (.int z39) (.long x_rd_letters)))), (h_by, .inl (cy_by, 600, .inl f_by))] := hD9
              have hS := hS9
              clear hP9 hD9 hS9
              refine lv_aload_n hx hb dX5_nextToken_129 rfl (lv_at hl 0 rfl) ?_
              refine lv_aload_n hx hb dX5_nextToken_130 rfl (lv_at hl 0 rfl) ?_
              refine va_get (D := (dC, dI)) (ci := 4) (v := .int x1) (C := RX5) (T := TX5) (N := 11) hx hb hw iwX5 hown hK hP 0 rfl rfl 7 (by decide) (hw _ w_f_X5_49) (fun _ h9 => h9) rfl dX5_nextToken_131 ?_
              refine lv_iconst (v := 1) hx hb dX5_nextToken_134 (by decide) ?_
              refine lv_iadd hx hb dX5_nextToken_135 ?_
              refine lv_topi (fun z40 ez40 => ?_)
              have tz40 : (z40).toInt = (x1).toInt + 1 := by rw [ez40]; exact i_add rfl (by decide) (by omega)
              refine va_put (D := (dC, dI)) (ci := 4) (v := .int z40) (ty := tyX5 8) (C := RX5) (T := TX5) (N := 11) hx hb hw iwX5 tyX5 tyX5_ok nmX5 hown hK hP hD hS 0 rfl rfl 8 (by decide) (hw _ w_f_X5_37) (fun _ h9 => h9) rfl (tyX5_ok 8 (by decide)) rfl rfl (Nat.le_of_ble_eq_true rfl) dX5_nextToken_136 (fun H locs hP9 hD9 hS9 => ?_)
              clear hP hD hS
              have hP : va_P (dC, dI) cls [(h_rd, .inr (4, (mo29 v_rd (.ref h_by) (.int x_rd_length) (.int x1) (.int z40) (.int z39) (.long x_rd_letters)))), (h_by, .inl (cy_by, 600, .inl f_by))] H := hP9
              have hD : va_D A [(h_rd, .inr (4, (mo29 v_rd (.ref h_by) (.int x_rd_length) (.int x1) (.int z40) (.int z39) (.long x_rd_letters)))), (h_by, .inl (cy_by, 600, .inl f_by))] := hD9
              have hS := hS9
              clear hP9 hD9 hS9
              refine W.widen (k := 0) (n := 0) (Nat.le_of_ble_eq_true rfl) (Nat.le_of_ble_eq_true rfl) ?_
              have w41 : 0 ≤ ((x1)).toInt ∧ ((x1)).toInt ≤ 600 := by first | exact klp2_0 | omega
              have w42 : 0 ≤ ((z40)).toInt ∧ ((z40)).toInt ≤ 600 := by omega
              have w43 : ((x1)).toInt = tkS G (x_rd_length).toInt (x_rd_behind).toInt := by omega
              have w44 : (x_rd_behind).toInt ≤ ((x1)).toInt := by omega
              have w45 : ((z39)).toInt = tkT G (x_rd_length).toInt ((x1)).toInt := by omega
              have w46 : ((z39)).toInt = -1 ∨ ((z40)).toInt = tkX G (x_rd_length).toInt ((x1)).toInt := by omega
              have w47 : ¬ ((z39)).toInt = 257 ∨ ((x_rd_letters)).toInt = G ((x1)).toInt := by omega
              have w48 : -1 ≤ ((z39)).toInt ∧ ((z39)).toInt ≤ 258 := by omega
              have w49 : ((z40)).toInt ≤ (x_rd_length).toInt := by omega
              have w50 : ((z39)).toInt = -1 ∨ ((x1)).toInt < (x_rd_length).toInt := by omega
              have w51 : ((x1)).toInt ≤ (x_rd_length).toInt := by first | exact klp2_1 | omega
              have w52 : NMT ((z39)).toInt ((x_rd_letters)).toInt (NMI 32 G (x_rd_length).toInt ((x1)).toInt) := (nmt_no (by omega))
              exact W.vret hx hb hr (fun t ht hW => ⟨⟨(x1, z40, z39, x_rd_letters), rfl, ⟨w41, w42, w43, w44, w45, w46, w47, w48, w49, w50, w51, w52⟩, by rw [ht]; exact hP, hD⟩, hS.F ht⟩) hS.2.2 dX5_nextToken_139
            · have kc38 := (not_congr (cv_eq (rfl : (r35).toInt = (r35).toInt) (by decide : (0 : Int32).toInt = 0))).mp c38
              refine lv_aload_n hx hb dX5_nextToken_109 rfl (lv_at hl 0 rfl) ?_
              have hPc := hP.sub (ws' := [(h_rd, .inr (4, (mo29 v_rd (.ref h_by) (.int x_rd_length) (.int x1) (.int x_rd_behind) (.int x_rd_token) (.long x_rd_letters)))), (h_by, .inl (cy_by, 600, .inl f_by))]) [0, 1] rfl
              have hDc := hD.sub (ws' := [(h_rd, .inr (4, (mo29 v_rd (.ref h_by) (.int x_rd_length) (.int x1) (.int x_rd_behind) (.int x_rd_token) (.long x_rd_letters)))), (h_by, .inl (cy_by, 600, .inl f_by))]) [0, 1] (by decide) rfl
              have hKc := hK.sub (tys' := [(cy_by, .int)]) [0] rfl
              have hFc := va_free (wc := [(h_rd, .inr (4, (mo29 v_rd (.ref h_by) (.int x_rd_length) (.int x1) (.int x_rd_behind) (.int x_rd_token) (.long x_rd_letters)))), (h_by, .inl (cy_by, 600, .inl f_by))]) hD hS hA [0, 1] rfl
              refine va_callv (va_runV (As := []) (rest := []) ⟨hx, hb, hml, hown, hts⟩ (c_X5_readLetters l dC dI H.size h_rd h_by v_rd x_rd_length x1 x_rd_behind x_rd_token x_rd_letters cy_by f_by G (by first | exact hx_rd_length | omega) (by first | exact klp2_0 | omega) (by first | exact hx_rd_behind | omega) hf_by (by omega) (by omega) hn_byt) (cwV 0 hts (gv hT w_m_X5_114 w_instanceMethod_X5_readLetters ws_sel_X5_readLetters w_ini_X5 w_code_X5_readLetters) rfl rfl rfl (by decide +kernel) ⟨(Nat.le_of_ble_eq_true rfl), (Nat.le_of_ble_eq_true rfl)⟩) ⟨pre_blind, va_recv hK hP (ci := 4) (q0 := 0) rfl rfl, pre_of hPc hKc hDc hN⟩ rfl rfl hl.1 rfl (lv_room (Nat.le_of_ble_eq_true rfl)) dX5_nextToken_110 ⟨(Nat.le_of_ble_eq_true rfl), (Nat.le_of_ble_eq_true rfl)⟩) hS (fun q _ h => hFc q h) hFc (fun u t H locs ht hvm hq hB hz1 hk1 hS9 => ?_)
              obtain ⟨z54, z55, z56⟩ := u
              obtain ⟨hP1, hD1⟩ := hB
              rw [ht] at hP1
              obtain ⟨hP9, hD9⟩ := va_join (wr := []) (w1 := [(h_rd, .inr (4, (mo29 v_rd (.ref h_by) (.int x_rd_length) (.int x1) (.int z54) (.int z55) (.long z56)))), (h_by, .inl (cy_by, 600, .inl f_by))]) hP hD [0, 1] [] rfl rfl (by decide) (by decide) hk1 hFc hP1 hD1
              clear hP hD hS hPc hDc hKc hFc hP1 hD1 hk1 hz1 ht hvm
              have hP : va_P (dC, dI) cls [(h_rd, .inr (4, (mo29 v_rd (.ref h_by) (.int x_rd_length) (.int x1) (.int z54) (.int z55) (.long z56)))), (h_by, .inl (cy_by, 600, .inl f_by))] H := hP9
              have hD : va_D A [(h_rd, .inr (4, (mo29 v_rd (.ref h_by) (.int x_rd_length) (.int x1) (.int z54) (.int z55) (.long z56)))), (h_by, .inl (cy_by, 600, .inl f_by))] := hD9
              have hS := hS9
              clear hP9 hD9 hS9
              obtain ⟨k57, k58, k59, k60, k61, k62, k63⟩ := hq
              replace k57 : 0 ≤ ((z54)).toInt ∧ ((z54)).toInt ≤ 600 := k57
              replace k58 : ((z55)).toInt = tkT (G) ((x_rd_length)).toInt ((x1)).toInt := k58
              replace k59 : ((z54)).toInt = tkX (G) ((x_rd_length)).toInt ((x1)).toInt := k59
              replace k60 : ¬ ((z55)).toInt = 257 ∨ ((z56)).toInt = (G) ((x1)).toInt := k60
              replace k61 : 256 ≤ ((z55)).toInt ∧ ((z55)).toInt ≤ 258 := k61
              replace k62 : ((x1)).toInt + 1 ≤ ((z54)).toInt ∧ ((z54)).toInt ≤ ((x_rd_length)).toInt := k62
              replace k63 : NMT ((z55)).toInt ((z56)).toInt (NMI 32 (G) ((x_rd_length)).toInt ((x1)).toInt) := k63
              refine lv_goto (tgt := 139) hx hb dX5_nextToken_113 (by decide) ?_
              refine W.widen (k := 0) (n := 0) (Nat.le_of_ble_eq_true rfl) (Nat.le_of_ble_eq_true rfl) ?_
              have w64 : 0 ≤ ((x1)).toInt ∧ ((x1)).toInt ≤ 600 := by first | exact klp2_0 | omega
              have w65 : 0 ≤ ((z54)).toInt ∧ ((z54)).toInt ≤ 600 := by first | exact k57 | omega
              have w66 : ((x1)).toInt = tkS G (x_rd_length).toInt (x_rd_behind).toInt := by omega
              have w67 : (x_rd_behind).toInt ≤ ((x1)).toInt := by omega
              have w68 : ((z55)).toInt = tkT G (x_rd_length).toInt ((x1)).toInt := by first | exact k58 | omega
              have w69 : ((z55)).toInt = -1 ∨ ((z54)).toInt = tkX G (x_rd_length).toInt ((x1)).toInt := by omega
              have w70 : ¬ ((z55)).toInt = 257 ∨ ((z56)).toInt = G ((x1)).toInt := by first | exact k60 | omega
              have w71 : -1 ≤ ((z55)).toInt ∧ ((z55)).toInt ≤ 258 := by omega
              have w72 : ((z54)).toInt ≤ (x_rd_length).toInt := by omega
              have w73 : ((z55)).toInt = -1 ∨ ((x1)).toInt < (x_rd_length).toInt := by omega
              have w74 : ((x1)).toInt ≤ (x_rd_length).toInt := by first | exact klp2_1 | omega
              have w75 : NMT ((z55)).toInt ((z56)).toInt (NMI 32 G (x_rd_length).toInt ((x1)).toInt) := k63
              exact W.vret hx hb hr (fun t ht hW => ⟨⟨(x1, z54, z55, z56), rfl, ⟨w64, w65, w66, w67, w68, w69, w70, w71, w72, w73, w74, w75⟩, by rw [ht]; exact hP, hD⟩, hS.F ht⟩) hS.2.2 dX5_nextToken_139
        · have kc5 := (not_congr (cv_lt (rfl : (x1).toInt = (x1).toInt) (rfl : (x_rd_length).toInt = (x_rd_length).toInt))).mp c5
          have te9 := tkT_end (G := G) (n := (x_rd_length).toInt) (a := (x1).toInt) (by omega)
          refine lv_aload_n hx hb dX5_nextToken_71 rfl (lv_at hl 0 rfl) ?_
          refine lv_iconst (v := (-1)) hx hb dX5_nextToken_72 (by decide) ?_
          refine va_put (D := (dC, dI)) (ci := 4) (v := .int (-1)) (ty := tyX5 9) (C := RX5) (T := TX5) (N := 11) hx hb hw iwX5 tyX5 tyX5_ok nmX5 hown hK hP hD hS 0 rfl rfl 9 (by decide) (hw _ w_f_X5_43) (fun _ h9 => h9) rfl (tyX5_ok 9 (by decide)) rfl rfl (Nat.le_of_ble_eq_true rfl) dX5_nextToken_73 (fun H locs hP9 hD9 hS9 => ?_)
          clear hP hD hS
          have hP : va_P (dC, dI) cls [(h_rd, .inr (4, (mo29 v_rd (.ref h_by) (.int x_rd_length) (.int x1) (.int x_rd_behind) (.int (-1)) (.long x_rd_letters)))), (h_by, .inl (cy_by, 600, .inl f_by))] H := hP9
          have hD : va_D A [(h_rd, .inr (4, (mo29 v_rd (.ref h_by) (.int x_rd_length) (.int x1) (.int x_rd_behind) (.int (-1)) (.long x_rd_letters)))), (h_by, .inl (cy_by, 600, .inl f_by))] := hD9
          have hS := hS9
          clear hP9 hD9 hS9
          refine lv_goto (tgt := 139) hx hb dX5_nextToken_76 (by decide) ?_
          refine W.widen (k := 0) (n := 0) (Nat.le_of_ble_eq_true rfl) (Nat.le_of_ble_eq_true rfl) ?_
          have cstm1 : ((-1) : Int32).toInt = -1 := by decide
          have w76 : 0 ≤ ((x1)).toInt ∧ ((x1)).toInt ≤ 600 := by first | exact klp2_0 | omega
          have w77 : 0 ≤ ((x_rd_behind)).toInt ∧ ((x_rd_behind)).toInt ≤ 600 := by first | exact hx_rd_behind | omega
          have w78 : ((x1)).toInt = tkS G (x_rd_length).toInt (x_rd_behind).toInt := by omega
          have w79 : (x_rd_behind).toInt ≤ ((x1)).toInt := by omega
          have w80 : (((-1) : Int32)).toInt = tkT G (x_rd_length).toInt ((x1)).toInt := by omega
          have w81 : (((-1) : Int32)).toInt = -1 ∨ ((x_rd_behind)).toInt = tkX G (x_rd_length).toInt ((x1)).toInt := by omega
          have w82 : ¬ (((-1) : Int32)).toInt = 257 ∨ ((x_rd_letters)).toInt = G ((x1)).toInt := by omega
          have w83 : -1 ≤ (((-1) : Int32)).toInt ∧ (((-1) : Int32)).toInt ≤ 258 := by omega
          have w84 : ((x_rd_behind)).toInt ≤ (x_rd_length).toInt := by first | exact q0 | omega
          have w85 : (((-1) : Int32)).toInt = -1 ∨ ((x1)).toInt < (x_rd_length).toInt := by omega
          have w86 : ((x1)).toInt ≤ (x_rd_length).toInt := by first | exact klp2_1 | omega
          have w87 : NMT (((-1) : Int32)).toInt ((x_rd_letters)).toInt (NMI 32 G (x_rd_length).toInt ((x1)).toInt) := (nmt_no (by decide))
          exact W.vret hx hb hr (fun t ht hW => ⟨⟨(x1, x_rd_behind, (-1), x_rd_letters), rfl, ⟨w76, w77, w78, w79, w80, w81, w82, w83, w84, w85, w86, w87⟩, by rw [ht]; exact hP, hD⟩, hS.F ht⟩) hS.2.2 dX5_nextToken_139
      · have kc4 := (not_congr (cv_le (rfl : (x_rd_length).toInt = (x_rd_length).toInt) (rfl : (x1).toInt = (x1).toInt))).mp c4
        refine lv_aload_n hx hb dX5_nextToken_19 rfl (lv_at hl 0 rfl) ?_
        refine va_get (D := (dC, dI)) (ci := 4) (v := .ref h_by) (C := RX5) (T := TX5) (N := 11) hx hb hw iwX5 hown hK hP 0 rfl rfl 0 (by decide) (hw _ w_f_X5_9) (fun _ h9 => h9) rfl dX5_nextToken_20 ?_
        refine lv_aload_n hx hb dX5_nextToken_23 rfl (lv_at hl 0 rfl) ?_
        refine va_get (D := (dC, dI)) (ci := 4) (v := .int x1) (C := RX5) (T := TX5) (N := 11) hx hb hw iwX5 hown hK hP 0 rfl rfl 7 (by decide) (hw _ w_f_X5_49) (fun _ h9 => h9) rfl dX5_nextToken_24 ?_
        refine va_iald hx hb hK hP 1 0 rfl rfl (i := x1) (vp_in_iff.mpr (by omega)) dX5_nextToken_27 ?_
        refine lv_topi (fun z88 ez88 => ?_)
        have rz88 : 0 ≤ (z88).toInt ∧ (z88).toInt ≤ 255 := by rw [ez88]; exact hf_by _
        have gz88 : (z88).toInt = G (x1).toInt := by rw [ez88]; exact hn_byt.2 _ (by omega) (by omega)
        refine lv_bipush (v := 32) hx hb dX5_nextToken_28 (by decide) ?_
        refine lv_icmp_eq (tgt := 47) hx hb dX5_nextToken_30 (by decide) (fun c89 => ?_) (fun c89 => ?_)
        · have kc89 := (cv_eq (rfl : (z88).toInt = (z88).toInt) (by decide : (32 : Int32).toInt = 32)).mp c89
          refine lv_aload_n hx hb dX5_nextToken_47 rfl (lv_at hl 0 rfl) ?_
          refine lv_dup hx hb dX5_nextToken_48 rfl ?_
          refine va_get (D := (dC, dI)) (ci := 4) (v := .int x1) (C := RX5) (T := TX5) (N := 11) hx hb hw iwX5 hown hK hP 0 rfl rfl 7 (by decide) (hw _ w_f_X5_49) (fun _ h9 => h9) rfl dX5_nextToken_49 ?_
          refine lv_iconst (v := 1) hx hb dX5_nextToken_52 (by decide) ?_
          refine lv_iadd hx hb dX5_nextToken_53 ?_
          refine lv_topi (fun z90 ez90 => ?_)
          have tz90 : (z90).toInt = (x1).toInt + 1 := by rw [ez90]; exact i_add rfl (by decide) (by omega)
          refine va_put (D := (dC, dI)) (ci := 4) (v := .int z90) (ty := tyX5 7) (C := RX5) (T := TX5) (N := 11) hx hb hw iwX5 tyX5 tyX5_ok nmX5 hown hK hP hD hS 0 rfl rfl 7 (by decide) (hw _ w_f_X5_49) (fun _ h9 => h9) rfl (tyX5_ok 7 (by decide)) rfl rfl (Nat.le_of_ble_eq_true rfl) dX5_nextToken_54 (fun H locs hP9 hD9 hS9 => ?_)
          clear hP hD hS
          have hP : va_P (dC, dI) cls [(h_rd, .inr (4, (mo29 v_rd (.ref h_by) (.int x_rd_length) (.int z90) (.int x_rd_behind) (.int x_rd_token) (.long x_rd_letters)))), (h_by, .inl (cy_by, 600, .inl f_by))] H := hP9
          have hD : va_D A [(h_rd, .inr (4, (mo29 v_rd (.ref h_by) (.int x_rd_length) (.int z90) (.int x_rd_behind) (.int x_rd_token) (.long x_rd_letters)))), (h_by, .inl (cy_by, 600, .inl f_by))] := hD9
          have hS := hS9
          clear hP9 hD9 hS9
          have sk91 : tkS G (x_rd_length).toInt (z90).toInt = tkS G (x_rd_length).toInt (x_rd_behind).toInt := by rw [tz90]; exact (tkS_on (a := (x1).toInt) (by omega) (by omega) (by omega) (by omega)).trans klp2_2
          refine lv_goto (tgt := 8) hx hb dX5_nextToken_57 (by decide) ?_
          exact ih3 (z90) _ _ _ (by omega) (by omega) sk91 (by omega) hP hD hS (lv_sub hl [0] rfl)
        · have kc89 := (not_congr (cv_eq (rfl : (z88).toInt = (z88).toInt) (by decide : (32 : Int32).toInt = 32))).mp c89
          refine lv_aload_n hx hb dX5_nextToken_33 rfl (lv_at hl 0 rfl) ?_
          refine va_get (D := (dC, dI)) (ci := 4) (v := .ref h_by) (C := RX5) (T := TX5) (N := 11) hx hb hw iwX5 hown hK hP 0 rfl rfl 0 (by decide) (hw _ w_f_X5_9) (fun _ h9 => h9) rfl dX5_nextToken_34 ?_
          refine lv_aload_n hx hb dX5_nextToken_37 rfl (lv_at hl 0 rfl) ?_
          refine va_get (D := (dC, dI)) (ci := 4) (v := .int x1) (C := RX5) (T := TX5) (N := 11) hx hb hw iwX5 hown hK hP 0 rfl rfl 7 (by decide) (hw _ w_f_X5_49) (fun _ h9 => h9) rfl dX5_nextToken_38 ?_
          refine va_iald hx hb hK hP 1 0 rfl rfl (i := x1) (vp_in_iff.mpr (by omega)) dX5_nextToken_41 ?_
          refine lv_topi (fun z92 ez92 => ?_)
          have qz92 : (z92).toInt = (z88).toInt := by rw [ez92, ez88]
          have rz92 : 0 ≤ (z92).toInt ∧ (z92).toInt ≤ 255 := by rw [ez92]; exact hf_by _
          refine lv_bipush (v := 10) hx hb dX5_nextToken_42 (by decide) ?_
          refine lv_icmp_ne (tgt := 60) hx hb dX5_nextToken_44 (by decide) (fun c93 => ?_) (fun c93 => ?_)
          · have kc93 := (not_congr (cv_eq (rfl : (z92).toInt = (z92).toInt) (by decide : (10 : Int32).toInt = 10))).mp c93
            have ex9 : (x1).toInt = tkS G (x_rd_length).toInt (x_rd_behind).toInt := (tkS_off (a := (x1).toInt) (fun q9 => by omega)).symm.trans klp2_2
            have sg9 := tkS_ge (G := G) (n := (x_rd_length).toInt) (x_rd_behind).toInt
            refine lv_aload_n hx hb dX5_nextToken_60 rfl (lv_at hl 0 rfl) ?_
            refine va_get (D := (dC, dI)) (ci := 4) (v := .int x1) (C := RX5) (T := TX5) (N := 11) hx hb hw iwX5 hown hK hP 0 rfl rfl 7 (by decide) (hw _ w_f_X5_49) (fun _ h9 => h9) rfl dX5_nextToken_61 ?_
            refine lv_aload_n hx hb dX5_nextToken_64 rfl (lv_at hl 0 rfl) ?_
            refine va_get (D := (dC, dI)) (ci := 4) (v := .int x_rd_length) (C := RX5) (T := TX5) (N := 11) hx hb hw iwX5 hown hK hP 0 rfl rfl 1 (by decide) (hw _ w_f_X5_22) (fun _ h9 => h9) rfl dX5_nextToken_65 ?_
            refine lv_icmp_lt (tgt := 79) hx hb dX5_nextToken_68 (by decide) (fun c94 => ?_) (fun c94 => ?_)
            · have kc94 := (cv_lt (rfl : (x1).toInt = (x1).toInt) (rfl : (x_rd_length).toInt = (x_rd_length).toInt)).mp c94
              refine lv_aload_n hx hb dX5_nextToken_79 rfl (lv_at hl 0 rfl) ?_
              refine va_get (D := (dC, dI)) (ci := 4) (v := .ref h_by) (C := RX5) (T := TX5) (N := 11) hx hb hw iwX5 hown hK hP 0 rfl rfl 0 (by decide) (hw _ w_f_X5_9) (fun _ h9 => h9) rfl dX5_nextToken_80 ?_
              refine lv_aload_n hx hb dX5_nextToken_83 rfl (lv_at hl 0 rfl) ?_
              refine va_get (D := (dC, dI)) (ci := 4) (v := .int x1) (C := RX5) (T := TX5) (N := 11) hx hb hw iwX5 hown hK hP 0 rfl rfl 7 (by decide) (hw _ w_f_X5_49) (fun _ h9 => h9) rfl dX5_nextToken_84 ?_
              refine va_iald hx hb hK hP 1 0 rfl rfl (i := x1) (vp_in_iff.mpr (by omega)) dX5_nextToken_87 ?_
              refine lv_topi (fun z95 ez95 => ?_)
              have qz95 : (z95).toInt = (z88).toInt := by rw [ez95, ez88]
              have rz95 : 0 ≤ (z95).toInt ∧ (z95).toInt ≤ 255 := by rw [ez95]; exact hf_by _
              have hPc := hP.sub (ws' := []) [] rfl
              have hDc := hD.sub (ws' := []) [] (by decide) rfl
              have hKc := hK.sub (tys' := []) [] rfl
              have hFc := va_free (wc := []) hD hS hA [] rfl
              refine va_calli (va_runS (As := [.int z95]) (rest := []) ⟨hx, hb, hml, hown, hts⟩ (c_X5_isSmall l dC dI H.size z95) (cwS 1 hts (gs hT w_m_X5_107 w_static_X5_isSmall w_ini_X5 w_code_X5_isSmall) rfl rfl rfl (by decide +kernel) ⟨(Nat.le_of_ble_eq_true rfl), (Nat.le_of_ble_eq_true rfl)⟩) ⟨pre_blind, pre_of hPc hKc hDc hN⟩ rfl rfl hl.1 rfl (lv_room (Nat.le_of_ble_eq_true rfl)) dX5_nextToken_88 ⟨(Nat.le_of_ble_eq_true rfl), (Nat.le_of_ble_eq_true rfl)⟩) hS (fun q _ h => hFc q h) hFc (fun r96 u t H locs ht hvm hq hB hz1 hk1 hS9 => ?_)
              obtain ⟨hP1, hD1⟩ := hB
              rw [ht] at hP1
              obtain ⟨hP9, hD9⟩ := va_join (wr := [(h_rd, .inr (4, (mo29 v_rd (.ref h_by) (.int x_rd_length) (.int x1) (.int x_rd_behind) (.int x_rd_token) (.long x_rd_letters)))), (h_by, .inl (cy_by, 600, .inl f_by))]) (w1 := []) hP hD [] [0, 1] rfl rfl (by decide) (by decide) hk1 hFc hP1 hD1
              clear hP hD hS hPc hDc hKc hFc hP1 hD1 hk1 hz1 ht hvm
              have hP : va_P (dC, dI) cls [(h_rd, .inr (4, (mo29 v_rd (.ref h_by) (.int x_rd_length) (.int x1) (.int x_rd_behind) (.int x_rd_token) (.long x_rd_letters)))), (h_by, .inl (cy_by, 600, .inl f_by))] H := hP9
              have hD : va_D A [(h_rd, .inr (4, (mo29 v_rd (.ref h_by) (.int x_rd_length) (.int x1) (.int x_rd_behind) (.int x_rd_token) (.long x_rd_letters)))), (h_by, .inl (cy_by, 600, .inl f_by))] := hD9
              have hS := hS9
              clear hP9 hD9 hS9
              obtain ⟨k97, k98⟩ := hq
              replace k97 : 0 ≤ (r96).toInt ∧ (r96).toInt ≤ 1 := k97
              replace k98 : (((r96)).toInt = 1 ∧ 97 ≤ ((z95)).toInt ∧ ((z95)).toInt ≤ 122) ∨ (((r96)).toInt = 0 ∧ ¬ (97 ≤ ((z95)).toInt ∧ ((z95)).toInt ≤ 122)) := k98
              refine lv_if_ne (tgt := 109) hx hb dX5_nextToken_91 (by decide) (fun c99 => ?_) (fun c99 => ?_)
              · have kc99 := (not_congr (cv_eq (rfl : (r96).toInt = (r96).toInt) (by decide : (0 : Int32).toInt = 0))).mp c99
                refine lv_aload_n hx hb dX5_nextToken_109 rfl (lv_at hl 0 rfl) ?_
                have hPc := hP.sub (ws' := [(h_rd, .inr (4, (mo29 v_rd (.ref h_by) (.int x_rd_length) (.int x1) (.int x_rd_behind) (.int x_rd_token) (.long x_rd_letters)))), (h_by, .inl (cy_by, 600, .inl f_by))]) [0, 1] rfl
                have hDc := hD.sub (ws' := [(h_rd, .inr (4, (mo29 v_rd (.ref h_by) (.int x_rd_length) (.int x1) (.int x_rd_behind) (.int x_rd_token) (.long x_rd_letters)))), (h_by, .inl (cy_by, 600, .inl f_by))]) [0, 1] (by decide) rfl
                have hKc := hK.sub (tys' := [(cy_by, .int)]) [0] rfl
                have hFc := va_free (wc := [(h_rd, .inr (4, (mo29 v_rd (.ref h_by) (.int x_rd_length) (.int x1) (.int x_rd_behind) (.int x_rd_token) (.long x_rd_letters)))), (h_by, .inl (cy_by, 600, .inl f_by))]) hD hS hA [0, 1] rfl
                refine va_callv (va_runV (As := []) (rest := []) ⟨hx, hb, hml, hown, hts⟩ (c_X5_readLetters l dC dI H.size h_rd h_by v_rd x_rd_length x1 x_rd_behind x_rd_token x_rd_letters cy_by f_by G (by first | exact hx_rd_length | omega) (by first | exact klp2_0 | omega) (by first | exact hx_rd_behind | omega) hf_by (by omega) (by omega) hn_byt) (cwV 0 hts (gv hT w_m_X5_114 w_instanceMethod_X5_readLetters ws_sel_X5_readLetters w_ini_X5 w_code_X5_readLetters) rfl rfl rfl (by decide +kernel) ⟨(Nat.le_of_ble_eq_true rfl), (Nat.le_of_ble_eq_true rfl)⟩) ⟨pre_blind, va_recv hK hP (ci := 4) (q0 := 0) rfl rfl, pre_of hPc hKc hDc hN⟩ rfl rfl hl.1 rfl (lv_room (Nat.le_of_ble_eq_true rfl)) dX5_nextToken_110 ⟨(Nat.le_of_ble_eq_true rfl), (Nat.le_of_ble_eq_true rfl)⟩) hS (fun q _ h => hFc q h) hFc (fun u t H locs ht hvm hq hB hz1 hk1 hS9 => ?_)
                obtain ⟨z101, z102, z103⟩ := u
                obtain ⟨hP1, hD1⟩ := hB
                rw [ht] at hP1
                obtain ⟨hP9, hD9⟩ := va_join (wr := []) (w1 := [(h_rd, .inr (4, (mo29 v_rd (.ref h_by) (.int x_rd_length) (.int x1) (.int z101) (.int z102) (.long z103)))), (h_by, .inl (cy_by, 600, .inl f_by))]) hP hD [0, 1] [] rfl rfl (by decide) (by decide) hk1 hFc hP1 hD1
                clear hP hD hS hPc hDc hKc hFc hP1 hD1 hk1 hz1 ht hvm
                have hP : va_P (dC, dI) cls [(h_rd, .inr (4, (mo29 v_rd (.ref h_by) (.int x_rd_length) (.int x1) (.int z101) (.int z102) (.long z103)))), (h_by, .inl (cy_by, 600, .inl f_by))] H := hP9
                have hD : va_D A [(h_rd, .inr (4, (mo29 v_rd (.ref h_by) (.int x_rd_length) (.int x1) (.int z101) (.int z102) (.long z103)))), (h_by, .inl (cy_by, 600, .inl f_by))] := hD9
                have hS := hS9
                clear hP9 hD9 hS9
                obtain ⟨k104, k105, k106, k107, k108, k109, k110⟩ := hq
                replace k104 : 0 ≤ ((z101)).toInt ∧ ((z101)).toInt ≤ 600 := k104
                replace k105 : ((z102)).toInt = tkT (G) ((x_rd_length)).toInt ((x1)).toInt := k105
                replace k106 : ((z101)).toInt = tkX (G) ((x_rd_length)).toInt ((x1)).toInt := k106
                replace k107 : ¬ ((z102)).toInt = 257 ∨ ((z103)).toInt = (G) ((x1)).toInt := k107
                replace k108 : 256 ≤ ((z102)).toInt ∧ ((z102)).toInt ≤ 258 := k108
                replace k109 : ((x1)).toInt + 1 ≤ ((z101)).toInt ∧ ((z101)).toInt ≤ ((x_rd_length)).toInt := k109
                replace k110 : NMT ((z102)).toInt ((z103)).toInt (NMI 32 (G) ((x_rd_length)).toInt ((x1)).toInt) := k110
                refine lv_goto (tgt := 139) hx hb dX5_nextToken_113 (by decide) ?_
                refine W.widen (k := 0) (n := 0) (Nat.le_of_ble_eq_true rfl) (Nat.le_of_ble_eq_true rfl) ?_
                have w111 : 0 ≤ ((x1)).toInt ∧ ((x1)).toInt ≤ 600 := by first | exact klp2_0 | omega
                have w112 : 0 ≤ ((z101)).toInt ∧ ((z101)).toInt ≤ 600 := by first | exact k104 | omega
                have w113 : ((x1)).toInt = tkS G (x_rd_length).toInt (x_rd_behind).toInt := by omega
                have w114 : (x_rd_behind).toInt ≤ ((x1)).toInt := by omega
                have w115 : ((z102)).toInt = tkT G (x_rd_length).toInt ((x1)).toInt := by first | exact k105 | omega
                have w116 : ((z102)).toInt = -1 ∨ ((z101)).toInt = tkX G (x_rd_length).toInt ((x1)).toInt := by omega
                have w117 : ¬ ((z102)).toInt = 257 ∨ ((z103)).toInt = G ((x1)).toInt := by first | exact k107 | omega
                have w118 : -1 ≤ ((z102)).toInt ∧ ((z102)).toInt ≤ 258 := by omega
                have w119 : ((z101)).toInt ≤ (x_rd_length).toInt := by omega
                have w120 : ((z102)).toInt = -1 ∨ ((x1)).toInt < (x_rd_length).toInt := by omega
                have w121 : ((x1)).toInt ≤ (x_rd_length).toInt := by first | exact klp2_1 | omega
                have w122 : NMT ((z102)).toInt ((z103)).toInt (NMI 32 G (x_rd_length).toInt ((x1)).toInt) := k110
                exact W.vret hx hb hr (fun t ht hW => ⟨⟨(x1, z101, z102, z103), rfl, ⟨w111, w112, w113, w114, w115, w116, w117, w118, w119, w120, w121, w122⟩, by rw [ht]; exact hP, hD⟩, hS.F ht⟩) hS.2.2 dX5_nextToken_139
              · have kc99 := (cv_eq (rfl : (r96).toInt = (r96).toInt) (by decide : (0 : Int32).toInt = 0)).mp c99
                refine lv_aload_n hx hb dX5_nextToken_94 rfl (lv_at hl 0 rfl) ?_
                refine va_get (D := (dC, dI)) (ci := 4) (v := .ref h_by) (C := RX5) (T := TX5) (N := 11) hx hb hw iwX5 hown hK hP 0 rfl rfl 0 (by decide) (hw _ w_f_X5_9) (fun _ h9 => h9) rfl dX5_nextToken_95 ?_
                refine lv_aload_n hx hb dX5_nextToken_98 rfl (lv_at hl 0 rfl) ?_
                refine va_get (D := (dC, dI)) (ci := 4) (v := .int x1) (C := RX5) (T := TX5) (N := 11) hx hb hw iwX5 hown hK hP 0 rfl rfl 7 (by decide) (hw _ w_f_X5_49) (fun _ h9 => h9) rfl dX5_nextToken_99 ?_
                refine va_iald hx hb hK hP 1 0 rfl rfl (i := x1) (vp_in_iff.mpr (by omega)) dX5_nextToken_102 ?_
                refine lv_topi (fun z123 ez123 => ?_)
                have qz123 : (z123).toInt = (z88).toInt := by rw [ez123, ez88]
                have rz123 : 0 ≤ (z123).toInt ∧ (z123).toInt ≤ 255 := by rw [ez123]; exact hf_by _
                have hPc := hP.sub (ws' := []) [] rfl
                have hDc := hD.sub (ws' := []) [] (by decide) rfl
                have hKc := hK.sub (tys' := []) [] rfl
                have hFc := va_free (wc := []) hD hS hA [] rfl
                refine va_calli (va_runS (As := [.int z123]) (rest := []) ⟨hx, hb, hml, hown, hts⟩ (c_X5_isGreat l dC dI H.size z123) (cwS 1 hts (gs hT w_m_X5_111 w_static_X5_isGreat w_ini_X5 w_code_X5_isGreat) rfl rfl rfl (by decide +kernel) ⟨(Nat.le_of_ble_eq_true rfl), (Nat.le_of_ble_eq_true rfl)⟩) ⟨pre_blind, pre_of hPc hKc hDc hN⟩ rfl rfl hl.1 rfl (lv_room (Nat.le_of_ble_eq_true rfl)) dX5_nextToken_103 ⟨(Nat.le_of_ble_eq_true rfl), (Nat.le_of_ble_eq_true rfl)⟩) hS (fun q _ h => hFc q h) hFc (fun r124 u t H locs ht hvm hq hB hz1 hk1 hS9 => ?_)
                obtain ⟨hP1, hD1⟩ := hB
                rw [ht] at hP1
                obtain ⟨hP9, hD9⟩ := va_join (wr := [(h_rd, .inr (4, (mo29 v_rd (.ref h_by) (.int x_rd_length) (.int x1) (.int x_rd_behind) (.int x_rd_token) (.long x_rd_letters)))), (h_by, .inl (cy_by, 600, .inl f_by))]) (w1 := []) hP hD [] [0, 1] rfl rfl (by decide) (by decide) hk1 hFc hP1 hD1
                clear hP hD hS hPc hDc hKc hFc hP1 hD1 hk1 hz1 ht hvm
                have hP : va_P (dC, dI) cls [(h_rd, .inr (4, (mo29 v_rd (.ref h_by) (.int x_rd_length) (.int x1) (.int x_rd_behind) (.int x_rd_token) (.long x_rd_letters)))), (h_by, .inl (cy_by, 600, .inl f_by))] H := hP9
                have hD : va_D A [(h_rd, .inr (4, (mo29 v_rd (.ref h_by) (.int x_rd_length) (.int x1) (.int x_rd_behind) (.int x_rd_token) (.long x_rd_letters)))), (h_by, .inl (cy_by, 600, .inl f_by))] := hD9
                have hS := hS9
                clear hP9 hD9 hS9
                obtain ⟨k125, k126⟩ := hq
                replace k125 : 0 ≤ (r124).toInt ∧ (r124).toInt ≤ 1 := k125
                replace k126 : (((r124)).toInt = 1 ∧ 65 ≤ ((z123)).toInt ∧ ((z123)).toInt ≤ 90) ∨ (((r124)).toInt = 0 ∧ ¬ (65 ≤ ((z123)).toInt ∧ ((z123)).toInt ≤ 90)) := k126
                refine lv_if_eq (tgt := 116) hx hb dX5_nextToken_106 (by decide) (fun c127 => ?_) (fun c127 => ?_)
                · have kc127 := (cv_eq (rfl : (r124).toInt = (r124).toInt) (by decide : (0 : Int32).toInt = 0)).mp c127
                  have ts9 := tkT_sign (G := G) (n := (x_rd_length).toInt) (a := (x1).toInt) (by omega) (by omega)
                  have tx9 := tkX_sign (G := G) (n := (x_rd_length).toInt) (a := (x1).toInt) (by omega)
                  refine lv_aload_n hx hb dX5_nextToken_116 rfl (lv_at hl 0 rfl) ?_
                  refine lv_aload_n hx hb dX5_nextToken_117 rfl (lv_at hl 0 rfl) ?_
                  refine va_get (D := (dC, dI)) (ci := 4) (v := .ref h_by) (C := RX5) (T := TX5) (N := 11) hx hb hw iwX5 hown hK hP 0 rfl rfl 0 (by decide) (hw _ w_f_X5_9) (fun _ h9 => h9) rfl dX5_nextToken_118 ?_
                  refine lv_aload_n hx hb dX5_nextToken_121 rfl (lv_at hl 0 rfl) ?_
                  refine va_get (D := (dC, dI)) (ci := 4) (v := .int x1) (C := RX5) (T := TX5) (N := 11) hx hb hw iwX5 hown hK hP 0 rfl rfl 7 (by decide) (hw _ w_f_X5_49) (fun _ h9 => h9) rfl dX5_nextToken_122 ?_
                  refine va_iald hx hb hK hP 1 0 rfl rfl (i := x1) (vp_in_iff.mpr (by omega)) dX5_nextToken_125 ?_
                  refine lv_topi (fun z128 ez128 => ?_)
                  have qz128 : (z128).toInt = (z88).toInt := by rw [ez128, ez88]
                  have rz128 : 0 ≤ (z128).toInt ∧ (z128).toInt ≤ 255 := by rw [ez128]; exact hf_by _
                  refine va_put (D := (dC, dI)) (ci := 4) (v := .int z128) (ty := tyX5 9) (C := RX5) (T := TX5) (N := 11) hx hb hw iwX5 tyX5 tyX5_ok nmX5 hown hK hP hD hS 0 rfl rfl 9 (by decide) (hw _ w_f_X5_43) (fun _ h9 => h9) rfl (tyX5_ok 9 (by decide)) rfl rfl (Nat.le_of_ble_eq_true rfl) dX5_nextToken_126 (fun H locs hP9 hD9 hS9 => ?_)
                  clear hP hD hS
                  have hP : va_P (dC, dI) cls [(h_rd, .inr (4, (mo29 v_rd (.ref h_by) (.int x_rd_length) (.int x1) (.int x_rd_behind) (.int z128) (.long x_rd_letters)))), (h_by, .inl (cy_by, 600, .inl f_by))] H := hP9
                  have hD : va_D A [(h_rd, .inr (4, (mo29 v_rd (.ref h_by) (.int x_rd_length) (.int x1) (.int x_rd_behind) (.int z128) (.long x_rd_letters)))), (h_by, .inl (cy_by, 600, .inl f_by))] := hD9
                  have hS := hS9
                  clear hP9 hD9 hS9
                  refine lv_aload_n hx hb dX5_nextToken_129 rfl (lv_at hl 0 rfl) ?_
                  refine lv_aload_n hx hb dX5_nextToken_130 rfl (lv_at hl 0 rfl) ?_
                  refine va_get (D := (dC, dI)) (ci := 4) (v := .int x1) (C := RX5) (T := TX5) (N := 11) hx hb hw iwX5 hown hK hP 0 rfl rfl 7 (by decide) (hw _ w_f_X5_49) (fun _ h9 => h9) rfl dX5_nextToken_131 ?_
                  refine lv_iconst (v := 1) hx hb dX5_nextToken_134 (by decide) ?_
                  refine lv_iadd hx hb dX5_nextToken_135 ?_
                  refine lv_topi (fun z129 ez129 => ?_)
                  have tz129 : (z129).toInt = (x1).toInt + 1 := by rw [ez129]; exact i_add rfl (by decide) (by omega)
                  refine va_put (D := (dC, dI)) (ci := 4) (v := .int z129) (ty := tyX5 8) (C := RX5) (T := TX5) (N := 11) hx hb hw iwX5 tyX5 tyX5_ok nmX5 hown hK hP hD hS 0 rfl rfl 8 (by decide) (hw _ w_f_X5_37) (fun _ h9 => h9) rfl (tyX5_ok 8 (by decide)) rfl rfl (Nat.le_of_ble_eq_true rfl) dX5_nextToken_136 (fun H locs hP9 hD9 hS9 => ?_)
                  clear hP hD hS
                  have hP : va_P (dC, dI) cls [(h_rd, .inr (4, (mo29 v_rd (.ref h_by) (.int x_rd_length) (.int x1) (.int z129) (.int z128) (.long x_rd_letters)))), (h_by, .inl (cy_by, 600, .inl f_by))] H := hP9
                  have hD : va_D A [(h_rd, .inr (4, (mo29 v_rd (.ref h_by) (.int x_rd_length) (.int x1) (.int z129) (.int z128) (.long x_rd_letters)))), (h_by, .inl (cy_by, 600, .inl f_by))] := hD9
                  have hS := hS9
                  clear hP9 hD9 hS9
                  refine W.widen (k := 0) (n := 0) (Nat.le_of_ble_eq_true rfl) (Nat.le_of_ble_eq_true rfl) ?_
                  have w130 : 0 ≤ ((x1)).toInt ∧ ((x1)).toInt ≤ 600 := by first | exact klp2_0 | omega
                  have w131 : 0 ≤ ((z129)).toInt ∧ ((z129)).toInt ≤ 600 := by omega
                  have w132 : ((x1)).toInt = tkS G (x_rd_length).toInt (x_rd_behind).toInt := by omega
                  have w133 : (x_rd_behind).toInt ≤ ((x1)).toInt := by omega
                  have w134 : ((z128)).toInt = tkT G (x_rd_length).toInt ((x1)).toInt := by omega
                  have w135 : ((z128)).toInt = -1 ∨ ((z129)).toInt = tkX G (x_rd_length).toInt ((x1)).toInt := by omega
                  have w136 : ¬ ((z128)).toInt = 257 ∨ ((x_rd_letters)).toInt = G ((x1)).toInt := by omega
                  have w137 : -1 ≤ ((z128)).toInt ∧ ((z128)).toInt ≤ 258 := by omega
                  have w138 : ((z129)).toInt ≤ (x_rd_length).toInt := by omega
                  have w139 : ((z128)).toInt = -1 ∨ ((x1)).toInt < (x_rd_length).toInt := by omega
                  have w140 : ((x1)).toInt ≤ (x_rd_length).toInt := by first | exact klp2_1 | omega
                  have w141 : NMT ((z128)).toInt ((x_rd_letters)).toInt (NMI 32 G (x_rd_length).toInt ((x1)).toInt) := (nmt_no (by omega))
                  exact W.vret hx hb hr (fun t ht hW => ⟨⟨(x1, z129, z128, x_rd_letters), rfl, ⟨w130, w131, w132, w133, w134, w135, w136, w137, w138, w139, w140, w141⟩, by rw [ht]; exact hP, hD⟩, hS.F ht⟩) hS.2.2 dX5_nextToken_139
                · have kc127 := (not_congr (cv_eq (rfl : (r124).toInt = (r124).toInt) (by decide : (0 : Int32).toInt = 0))).mp c127
                  refine lv_aload_n hx hb dX5_nextToken_109 rfl (lv_at hl 0 rfl) ?_
                  have hPc := hP.sub (ws' := [(h_rd, .inr (4, (mo29 v_rd (.ref h_by) (.int x_rd_length) (.int x1) (.int x_rd_behind) (.int x_rd_token) (.long x_rd_letters)))), (h_by, .inl (cy_by, 600, .inl f_by))]) [0, 1] rfl
                  have hDc := hD.sub (ws' := [(h_rd, .inr (4, (mo29 v_rd (.ref h_by) (.int x_rd_length) (.int x1) (.int x_rd_behind) (.int x_rd_token) (.long x_rd_letters)))), (h_by, .inl (cy_by, 600, .inl f_by))]) [0, 1] (by decide) rfl
                  have hKc := hK.sub (tys' := [(cy_by, .int)]) [0] rfl
                  have hFc := va_free (wc := [(h_rd, .inr (4, (mo29 v_rd (.ref h_by) (.int x_rd_length) (.int x1) (.int x_rd_behind) (.int x_rd_token) (.long x_rd_letters)))), (h_by, .inl (cy_by, 600, .inl f_by))]) hD hS hA [0, 1] rfl
                  refine va_callv (va_runV (As := []) (rest := []) ⟨hx, hb, hml, hown, hts⟩ (c_X5_readLetters l dC dI H.size h_rd h_by v_rd x_rd_length x1 x_rd_behind x_rd_token x_rd_letters cy_by f_by G (by first | exact hx_rd_length | omega) (by first | exact klp2_0 | omega) (by first | exact hx_rd_behind | omega) hf_by (by omega) (by omega) hn_byt) (cwV 0 hts (gv hT w_m_X5_114 w_instanceMethod_X5_readLetters ws_sel_X5_readLetters w_ini_X5 w_code_X5_readLetters) rfl rfl rfl (by decide +kernel) ⟨(Nat.le_of_ble_eq_true rfl), (Nat.le_of_ble_eq_true rfl)⟩) ⟨pre_blind, va_recv hK hP (ci := 4) (q0 := 0) rfl rfl, pre_of hPc hKc hDc hN⟩ rfl rfl hl.1 rfl (lv_room (Nat.le_of_ble_eq_true rfl)) dX5_nextToken_110 ⟨(Nat.le_of_ble_eq_true rfl), (Nat.le_of_ble_eq_true rfl)⟩) hS (fun q _ h => hFc q h) hFc (fun u t H locs ht hvm hq hB hz1 hk1 hS9 => ?_)
                  obtain ⟨z143, z144, z145⟩ := u
                  obtain ⟨hP1, hD1⟩ := hB
                  rw [ht] at hP1
                  obtain ⟨hP9, hD9⟩ := va_join (wr := []) (w1 := [(h_rd, .inr (4, (mo29 v_rd (.ref h_by) (.int x_rd_length) (.int x1) (.int z143) (.int z144) (.long z145)))), (h_by, .inl (cy_by, 600, .inl f_by))]) hP hD [0, 1] [] rfl rfl (by decide) (by decide) hk1 hFc hP1 hD1
                  clear hP hD hS hPc hDc hKc hFc hP1 hD1 hk1 hz1 ht hvm
                  have hP : va_P (dC, dI) cls [(h_rd, .inr (4, (mo29 v_rd (.ref h_by) (.int x_rd_length) (.int x1) (.int z143) (.int z144) (.long z145)))), (h_by, .inl (cy_by, 600, .inl f_by))] H := hP9
                  have hD : va_D A [(h_rd, .inr (4, (mo29 v_rd (.ref h_by) (.int x_rd_length) (.int x1) (.int z143) (.int z144) (.long z145)))), (h_by, .inl (cy_by, 600, .inl f_by))] := hD9
                  have hS := hS9
                  clear hP9 hD9 hS9
                  obtain ⟨k146, k147, k148, k149, k150, k151, k152⟩ := hq
                  replace k146 : 0 ≤ ((z143)).toInt ∧ ((z143)).toInt ≤ 600 := k146
                  replace k147 : ((z144)).toInt = tkT (G) ((x_rd_length)).toInt ((x1)).toInt := k147
                  replace k148 : ((z143)).toInt = tkX (G) ((x_rd_length)).toInt ((x1)).toInt := k148
                  replace k149 : ¬ ((z144)).toInt = 257 ∨ ((z145)).toInt = (G) ((x1)).toInt := k149
                  replace k150 : 256 ≤ ((z144)).toInt ∧ ((z144)).toInt ≤ 258 := k150
                  replace k151 : ((x1)).toInt + 1 ≤ ((z143)).toInt ∧ ((z143)).toInt ≤ ((x_rd_length)).toInt := k151
                  replace k152 : NMT ((z144)).toInt ((z145)).toInt (NMI 32 (G) ((x_rd_length)).toInt ((x1)).toInt) := k152
                  refine lv_goto (tgt := 139) hx hb dX5_nextToken_113 (by decide) ?_
                  refine W.widen (k := 0) (n := 0) (Nat.le_of_ble_eq_true rfl) (Nat.le_of_ble_eq_true rfl) ?_
                  have w153 : 0 ≤ ((x1)).toInt ∧ ((x1)).toInt ≤ 600 := by first | exact klp2_0 | omega
                  have w154 : 0 ≤ ((z143)).toInt ∧ ((z143)).toInt ≤ 600 := by first | exact k146 | omega
                  have w155 : ((x1)).toInt = tkS G (x_rd_length).toInt (x_rd_behind).toInt := by omega
                  have w156 : (x_rd_behind).toInt ≤ ((x1)).toInt := by omega
                  have w157 : ((z144)).toInt = tkT G (x_rd_length).toInt ((x1)).toInt := by first | exact k147 | omega
                  have w158 : ((z144)).toInt = -1 ∨ ((z143)).toInt = tkX G (x_rd_length).toInt ((x1)).toInt := by omega
                  have w159 : ¬ ((z144)).toInt = 257 ∨ ((z145)).toInt = G ((x1)).toInt := by first | exact k149 | omega
                  have w160 : -1 ≤ ((z144)).toInt ∧ ((z144)).toInt ≤ 258 := by omega
                  have w161 : ((z143)).toInt ≤ (x_rd_length).toInt := by omega
                  have w162 : ((z144)).toInt = -1 ∨ ((x1)).toInt < (x_rd_length).toInt := by omega
                  have w163 : ((x1)).toInt ≤ (x_rd_length).toInt := by first | exact klp2_1 | omega
                  have w164 : NMT ((z144)).toInt ((z145)).toInt (NMI 32 G (x_rd_length).toInt ((x1)).toInt) := k152
                  exact W.vret hx hb hr (fun t ht hW => ⟨⟨(x1, z143, z144, z145), rfl, ⟨w153, w154, w155, w156, w157, w158, w159, w160, w161, w162, w163, w164⟩, by rw [ht]; exact hP, hD⟩, hS.F ht⟩) hS.2.2 dX5_nextToken_139
            · have kc94 := (not_congr (cv_lt (rfl : (x1).toInt = (x1).toInt) (rfl : (x_rd_length).toInt = (x_rd_length).toInt))).mp c94
              have te9 := tkT_end (G := G) (n := (x_rd_length).toInt) (a := (x1).toInt) (by omega)
              refine lv_aload_n hx hb dX5_nextToken_71 rfl (lv_at hl 0 rfl) ?_
              refine lv_iconst (v := (-1)) hx hb dX5_nextToken_72 (by decide) ?_
              refine va_put (D := (dC, dI)) (ci := 4) (v := .int (-1)) (ty := tyX5 9) (C := RX5) (T := TX5) (N := 11) hx hb hw iwX5 tyX5 tyX5_ok nmX5 hown hK hP hD hS 0 rfl rfl 9 (by decide) (hw _ w_f_X5_43) (fun _ h9 => h9) rfl (tyX5_ok 9 (by decide)) rfl rfl (Nat.le_of_ble_eq_true rfl) dX5_nextToken_73 (fun H locs hP9 hD9 hS9 => ?_)
              clear hP hD hS
              have hP : va_P (dC, dI) cls [(h_rd, .inr (4, (mo29 v_rd (.ref h_by) (.int x_rd_length) (.int x1) (.int x_rd_behind) (.int (-1)) (.long x_rd_letters)))), (h_by, .inl (cy_by, 600, .inl f_by))] H := hP9
              have hD : va_D A [(h_rd, .inr (4, (mo29 v_rd (.ref h_by) (.int x_rd_length) (.int x1) (.int x_rd_behind) (.int (-1)) (.long x_rd_letters)))), (h_by, .inl (cy_by, 600, .inl f_by))] := hD9
              have hS := hS9
              clear hP9 hD9 hS9
              refine lv_goto (tgt := 139) hx hb dX5_nextToken_76 (by decide) ?_
              refine W.widen (k := 0) (n := 0) (Nat.le_of_ble_eq_true rfl) (Nat.le_of_ble_eq_true rfl) ?_
              have cstm1 : ((-1) : Int32).toInt = -1 := by decide
              have w165 : 0 ≤ ((x1)).toInt ∧ ((x1)).toInt ≤ 600 := by first | exact klp2_0 | omega
              have w166 : 0 ≤ ((x_rd_behind)).toInt ∧ ((x_rd_behind)).toInt ≤ 600 := by first | exact hx_rd_behind | omega
              have w167 : ((x1)).toInt = tkS G (x_rd_length).toInt (x_rd_behind).toInt := by omega
              have w168 : (x_rd_behind).toInt ≤ ((x1)).toInt := by omega
              have w169 : (((-1) : Int32)).toInt = tkT G (x_rd_length).toInt ((x1)).toInt := by omega
              have w170 : (((-1) : Int32)).toInt = -1 ∨ ((x_rd_behind)).toInt = tkX G (x_rd_length).toInt ((x1)).toInt := by omega
              have w171 : ¬ (((-1) : Int32)).toInt = 257 ∨ ((x_rd_letters)).toInt = G ((x1)).toInt := by omega
              have w172 : -1 ≤ (((-1) : Int32)).toInt ∧ (((-1) : Int32)).toInt ≤ 258 := by omega
              have w173 : ((x_rd_behind)).toInt ≤ (x_rd_length).toInt := by first | exact q0 | omega
              have w174 : (((-1) : Int32)).toInt = -1 ∨ ((x1)).toInt < (x_rd_length).toInt := by omega
              have w175 : ((x1)).toInt ≤ (x_rd_length).toInt := by first | exact klp2_1 | omega
              have w176 : NMT (((-1) : Int32)).toInt ((x_rd_letters)).toInt (NMI 32 G (x_rd_length).toInt ((x1)).toInt) := (nmt_no (by decide))
              exact W.vret hx hb hr (fun t ht hW => ⟨⟨(x1, x_rd_behind, (-1), x_rd_letters), rfl, ⟨w165, w166, w167, w168, w169, w170, w171, w172, w173, w174, w175, w176⟩, by rw [ht]; exact hP, hD⟩, hS.F ht⟩) hS.2.2 dX5_nextToken_139
          · have kc93 := (cv_eq (rfl : (z92).toInt = (z92).toInt) (by decide : (10 : Int32).toInt = 10)).mp c93
            refine lv_aload_n hx hb dX5_nextToken_47 rfl (lv_at hl 0 rfl) ?_
            refine lv_dup hx hb dX5_nextToken_48 rfl ?_
            refine va_get (D := (dC, dI)) (ci := 4) (v := .int x1) (C := RX5) (T := TX5) (N := 11) hx hb hw iwX5 hown hK hP 0 rfl rfl 7 (by decide) (hw _ w_f_X5_49) (fun _ h9 => h9) rfl dX5_nextToken_49 ?_
            refine lv_iconst (v := 1) hx hb dX5_nextToken_52 (by decide) ?_
            refine lv_iadd hx hb dX5_nextToken_53 ?_
            refine lv_topi (fun z177 ez177 => ?_)
            have tz177 : (z177).toInt = (x1).toInt + 1 := by rw [ez177]; exact i_add rfl (by decide) (by omega)
            refine va_put (D := (dC, dI)) (ci := 4) (v := .int z177) (ty := tyX5 7) (C := RX5) (T := TX5) (N := 11) hx hb hw iwX5 tyX5 tyX5_ok nmX5 hown hK hP hD hS 0 rfl rfl 7 (by decide) (hw _ w_f_X5_49) (fun _ h9 => h9) rfl (tyX5_ok 7 (by decide)) rfl rfl (Nat.le_of_ble_eq_true rfl) dX5_nextToken_54 (fun H locs hP9 hD9 hS9 => ?_)
            clear hP hD hS
            have hP : va_P (dC, dI) cls [(h_rd, .inr (4, (mo29 v_rd (.ref h_by) (.int x_rd_length) (.int z177) (.int x_rd_behind) (.int x_rd_token) (.long x_rd_letters)))), (h_by, .inl (cy_by, 600, .inl f_by))] H := hP9
            have hD : va_D A [(h_rd, .inr (4, (mo29 v_rd (.ref h_by) (.int x_rd_length) (.int z177) (.int x_rd_behind) (.int x_rd_token) (.long x_rd_letters)))), (h_by, .inl (cy_by, 600, .inl f_by))] := hD9
            have hS := hS9
            clear hP9 hD9 hS9
            have sk178 : tkS G (x_rd_length).toInt (z177).toInt = tkS G (x_rd_length).toInt (x_rd_behind).toInt := by rw [tz177]; exact (tkS_on (a := (x1).toInt) (by omega) (by omega) (by omega) (by omega)).trans klp2_2
            refine lv_goto (tgt := 8) hx hb dX5_nextToken_57 (by decide) ?_
            exact ih3 (z177) _ _ _ (by omega) (by omega) sk178 (by omega) hP hD hS (lv_sub hl [0] rfl)
  exact lp2 _ (x_rd_behind) _ _ _ (by first | exact hx_rd_behind | omega) (by first | exact q0 | omega) rfl (Nat.le_refl _) hP hD hS (lv_sub hl [0] rfl)

set_option maxHeartbeats 8000000 in
set_option maxRecDepth 100000 in
theorem c_X5_variablePart (l : Launch) (dC : Nat → ClassId) (dI : Nat → Nat → Nat) (sz : Nat) (h_rd : Nat) (h_kn : Nat) (h_td : Nat) (h_nam : Nat) (h_var : Nat) (h_trm : Nat) (v_rd : Nat → Value) (x_rd_length : Int32) (x_rd_fault : Int32) (x_rd_place : Int32) (x_rd_variables : Int32) (x_rd_at : Int32) (x_rd_letters : Int64) (cy_kn : ClassId) (f_kn : Nat → Int32) (v_td : Nat → Value) (x_td_parts : Int32) (cy_nam : ClassId) (f_nam : Nat → Int64) (cy_var : ClassId) (f_var : Nat → Int32) (cy_trm : ClassId) (f_trm : Nat → Int32) (G : Int → Int) (vf : Int → Int) (hx_rd_length : 0 ≤ (x_rd_length).toInt ∧ (x_rd_length).toInt ≤ 600) (hx_rd_variables : 0 ≤ (x_rd_variables).toInt ∧ (x_rd_variables).toInt ≤ 8) (hx_rd_at : 0 ≤ (x_rd_at).toInt ∧ (x_rd_at).toInt ≤ 600) (hf_kn : Rg 0 299 f_kn) (hx_td_parts : 0 ≤ (x_td_parts).toInt ∧ (x_td_parts).toInt ≤ 300) (hf_var : Rg (-1) 7 f_var) (hf_trm : Rg 0 3 f_trm) (q0 : (x_rd_letters).toInt = G (x_rd_at).toInt) (q1 : 2 * (x_td_parts).toInt ≤ (x_rd_at).toInt) (q2 : (x_rd_at).toInt ≤ 599) (q3 : 0 ≤ (x_rd_fault).toInt ∧ (x_rd_fault).toInt ≤ 0) (hn_vfc : VFC (x_rd_variables).toInt vf f_kn f_nam (x_td_parts).toInt) (hn_vfv : VFV (x_rd_variables).toInt f_kn f_var (x_td_parts).toInt) (hn_tz : TZG f_var f_trm) : Met l yX5_variablePart (Ws yX5_variablePart cX5_variablePart 2 (some .int)) (({ frames := 2, cells := 0, slots := 0, locals := 104 } : Room)) (PRE (dC, dI) cls [(cy_kn, .int), (cy_nam, .long), (cy_var, .int), (cy_trm, .int)] [(h_rd, .inr (4, (mo30 v_rd (.int x_rd_length) (.int x_rd_fault) (.int x_rd_place) (.ref h_td) (.ref h_kn) (.int x_rd_variables) (.int x_rd_at) (.long x_rd_letters)))), (h_kn, .inl (cy_kn, 8, .inl f_kn)), (h_td, .inr (5, (mo24 v_td (.ref h_nam) (.ref h_var) (.ref h_trm) (.int x_td_parts)))), (h_nam, .inl (cy_nam, 300, .inr (.inl f_nam))), (h_var, .inl (cy_var, 300, .inl f_var)), (h_trm, .inl (cy_trm, 300, .inl f_trm))] sz [.ref h_rd]) (va_Qi (fun (r : Int32) (u : (Int32) × (Int32) × (Int32) × (Nat → Int32) × (Int32) × (Nat → Int64) × (Nat → Int32) × (Nat → Int32)) => (0 ≤ (u.2.2.1).toInt ∧ (u.2.2.1).toInt ≤ 8) ∧ (Rg 0 299 u.2.2.2.1) ∧ (0 ≤ (u.2.2.2.2.1).toInt ∧ (u.2.2.2.2.1).toInt ≤ 300) ∧ (Rg (-1) 7 u.2.2.2.2.2.2.1) ∧ (Rg 0 3 u.2.2.2.2.2.2.2) ∧ (0 ≤ r.toInt ∧ r.toInt ≤ 299) ∧ ((u.1).toInt = ((pVar G (x_rd_length).toInt (x_rd_at).toInt (x_rd_variables).toInt vf)).1) ∧ (((u.1).toInt = 0 ∧ (u.2.1).toInt = (x_rd_place).toInt ∧ ((pVar G (x_rd_length).toInt (x_rd_at).toInt (x_rd_variables).toInt vf)).2.1 = tkN G (x_rd_length).toInt (x_rd_at).toInt) ∨ ((u.1).toInt = 2 ∧ (u.2.1).toInt = (x_rd_at).toInt ∧ ((pVar G (x_rd_length).toInt (x_rd_at).toInt (x_rd_variables).toInt vf)).2.1 = (x_rd_at).toInt ∧ (u.2.2.2.2.1).toInt = (x_td_parts).toInt)) ∧ ((u.2.2.1).toInt = ((pVar G (x_rd_length).toInt (x_rd_at).toInt (x_rd_variables).toInt vf)).2.2.1) ∧ ((x_td_parts).toInt ≤ (u.2.2.2.2.1).toInt ∧ (u.2.2.2.2.1).toInt ≤ (x_td_parts).toInt + 1) ∧ ((x_rd_variables).toInt ≤ (u.2.2.1).toInt) ∧ (VFC (u.2.2.1).toInt ((pVar G (x_rd_length).toInt (x_rd_at).toInt (x_rd_variables).toInt vf)).2.2.2 u.2.2.2.1 u.2.2.2.2.2.1 (u.2.2.2.2.1).toInt) ∧ (VFV (u.2.2.1).toInt u.2.2.2.1 u.2.2.2.2.2.2.1 (u.2.2.2.2.1).toInt) ∧ (IFZ (u.1).toInt (VPX G (x_rd_at).toInt (u.2.2.1).toInt ((pVar G (x_rd_length).toInt (x_rd_at).toInt (x_rd_variables).toInt vf)).2.2.2 (kfn u.2.2.2.1) u.2.2.2.2.2.2.1 (u.2.2.2.2.1).toInt r)) ∧ (KX (x_rd_variables).toInt (kfn f_kn) (kfn u.2.2.2.1)) ∧ (AG3 (x_td_parts).toInt f_nam u.2.2.2.2.2.1 f_var u.2.2.2.2.2.2.1 f_trm u.2.2.2.2.2.2.2) ∧ (TZG u.2.2.2.2.2.2.1 u.2.2.2.2.2.2.2)) (fun (u : (Int32) × (Int32) × (Int32) × (Nat → Int32) × (Int32) × (Nat → Int64) × (Nat → Int32) × (Nat → Int32)) (t : State) => va_P (dC, dI) cls [(h_rd, .inr (4, (mo30 v_rd (.int x_rd_length) (.int u.1) (.int u.2.1) (.ref h_td) (.ref h_kn) (.int u.2.2.1) (.int x_rd_at) (.long x_rd_letters)))), (h_kn, .inl (cy_kn, 8, .inl u.2.2.2.1)), (h_td, .inr (5, (mo24 v_td (.ref h_nam) (.ref h_var) (.ref h_trm) (.int u.2.2.2.2.1)))), (h_nam, .inl (cy_nam, 300, .inr (.inl u.2.2.2.2.2.1))), (h_var, .inl (cy_var, 300, .inl u.2.2.2.2.2.2.1)), (h_trm, .inl (cy_trm, 300, .inl u.2.2.2.2.2.2.2))] t.heap ∧ va_D (va_A [(h_rd, .inr (4, (mo30 v_rd (.int x_rd_length) (.int x_rd_fault) (.int x_rd_place) (.ref h_td) (.ref h_kn) (.int x_rd_variables) (.int x_rd_at) (.long x_rd_letters)))), (h_kn, .inl (cy_kn, 8, .inl f_kn)), (h_td, .inr (5, (mo24 v_td (.ref h_nam) (.ref h_var) (.ref h_trm) (.int x_td_parts)))), (h_nam, .inl (cy_nam, 300, .inr (.inl f_nam))), (h_var, .inl (cy_var, 300, .inl f_var)), (h_trm, .inl (cy_trm, 300, .inl f_trm))] sz) [(h_rd, .inr (4, (mo30 v_rd (.int x_rd_length) (.int u.1) (.int u.2.1) (.ref h_td) (.ref h_kn) (.int u.2.2.1) (.int x_rd_at) (.long x_rd_letters)))), (h_kn, .inl (cy_kn, 8, .inl u.2.2.2.1)), (h_td, .inr (5, (mo24 v_td (.ref h_nam) (.ref h_var) (.ref h_trm) (.int u.2.2.2.2.1)))), (h_nam, .inl (cy_nam, 300, .inr (.inl u.2.2.2.2.2.1))), (h_var, .inl (cy_var, 300, .inl u.2.2.2.2.2.2.1)), (h_trm, .inl (cy_trm, 300, .inl u.2.2.2.2.2.2.2))]) (va_A [(h_rd, .inr (4, (mo30 v_rd (.int x_rd_length) (.int x_rd_fault) (.int x_rd_place) (.ref h_td) (.ref h_kn) (.int x_rd_variables) (.int x_rd_at) (.long x_rd_letters)))), (h_kn, .inl (cy_kn, 8, .inl f_kn)), (h_td, .inr (5, (mo24 v_td (.ref h_nam) (.ref h_var) (.ref h_trm) (.int x_td_parts)))), (h_nam, .inl (cy_nam, 300, .inr (.inl f_nam))), (h_var, .inl (cy_var, 300, .inl f_var)), (h_trm, .inl (cy_trm, 300, .inl f_trm))] sz)) 0 0 (va_A [(h_rd, .inr (4, (mo30 v_rd (.int x_rd_length) (.int x_rd_fault) (.int x_rd_place) (.ref h_td) (.ref h_kn) (.int x_rd_variables) (.int x_rd_at) (.long x_rd_letters)))), (h_kn, .inl (cy_kn, 8, .inl f_kn)), (h_td, .inr (5, (mo24 v_td (.ref h_nam) (.ref h_var) (.ref h_trm) (.int x_td_parts)))), (h_nam, .inl (cy_nam, 300, .inr (.inl f_nam))), (h_var, .inl (cy_var, 300, .inl f_var)), (h_trm, .inl (cy_trm, 300, .inl f_trm))] sz) := by
  refine Met.ofW (cc := cX5_variablePart) (maxL := 2) (ret := (some .int)) (by decide) rfl ?_
  intro p e s m args below meth c s₁ B hml hv
  obtain ⟨rfl, hsz, hP, hK, hD0, hN⟩ := hv
  have hx := B.exec
  have hb := B.bytes
  have hr := B.returns
  have hts := atoms_spec (ws := Ws yX5_variablePart cX5_variablePart 2 (some .int)) B.pre
  have hT : ∀ w ∈ WALL, w ∈ Ws yX5_variablePart cX5_variablePart 2 (some .int) := fun w h => List.mem_cons_of_mem _ h
  have hw := fun w (h : w ∈ WALL) => hts w (hT w h)
  have hown : s.vm.findClass RX5 = some m.cls := findClass_of_methodNamed B.named
  have hlocks := B.notSynchronized
  subst hsz
  have hD := hD0.self (sz := s.heap.size)
  generalize hAe : va_A [(h_rd, .inr (4, (mo30 v_rd (.int x_rd_length) (.int x_rd_fault) (.int x_rd_place) (.ref h_td) (.ref h_kn) (.int x_rd_variables) (.int x_rd_at) (.long x_rd_letters)))), (h_kn, .inl (cy_kn, 8, .inl f_kn)), (h_td, .inr (5, (mo24 v_td (.ref h_nam) (.ref h_var) (.ref h_trm) (.int x_td_parts)))), (h_nam, .inl (cy_nam, 300, .inr (.inl f_nam))), (h_var, .inl (cy_var, 300, .inl f_var)), (h_trm, .inl (cy_trm, 300, .inl f_trm))] s.heap.size = A at hD ⊢
  have hA : ∀ q : Nat, s.heap.size ≤ q → A q := fun q h => by rw [← hAe]; exact Or.inr h
  have hS : va_S A s.heap s.heap [] := va_S.rf
  have hl := lv_entry ([.ref h_rd]) (n := 2) (Nat.le_of_ble_eq_true rfl)
  rw [lg_entry_eq]
  generalize (lg_sl ([.ref h_rd]) ++ List.replicate (2 - (lg_sl ([.ref h_rd])).length) Slot.unset).toArray = ls at hl ⊢
  have hl : lv_has ls 2 [(0, .ref h_rd)] := hl
  refine lv_iconst (v := 0) hx hb dX5_variablePart_0 (by decide) ?_
  refine lv_istore_n (lv' := [(1, .int 0), (0, .ref h_rd)]) hx hb dX5_variablePart_1 rfl hl (by decide) rfl (fun ls hl => ?_)
  have lp2 : ∀ (n : Nat) (x1 : Int32) (H : Heap) (locs : List Loc) (ls : Array Slot), (0 ≤ (x1).toInt ∧ (x1).toInt ≤ 8) → (∀ j : Int, 0 ≤ j → j < (x1).toInt → ¬ vf j = G (x_rd_at).toInt) → (8 - (x1).toInt).toNat + 1 ≤ n → va_P (dC, dI) cls [(h_rd, .inr (4, (mo30 v_rd (.int x_rd_length) (.int x_rd_fault) (.int x_rd_place) (.ref h_td) (.ref h_kn) (.int x_rd_variables) (.int x_rd_at) (.long x_rd_letters)))), (h_kn, .inl (cy_kn, 8, .inl f_kn)), (h_td, .inr (5, (mo24 v_td (.ref h_nam) (.ref h_var) (.ref h_trm) (.int x_td_parts)))), (h_nam, .inl (cy_nam, 300, .inr (.inl f_nam))), (h_var, .inl (cy_var, 300, .inl f_var)), (h_trm, .inl (cy_trm, 300, .inl f_trm))] H → va_D A [(h_rd, .inr (4, (mo30 v_rd (.int x_rd_length) (.int x_rd_fault) (.int x_rd_place) (.ref h_td) (.ref h_kn) (.int x_rd_variables) (.int x_rd_at) (.long x_rd_letters)))), (h_kn, .inl (cy_kn, 8, .inl f_kn)), (h_td, .inr (5, (mo24 v_td (.ref h_nam) (.ref h_var) (.ref h_trm) (.int x_td_parts)))), (h_nam, .inl (cy_nam, 300, .inr (.inl f_nam))), (h_var, .inl (cy_var, 300, .inl f_var)), (h_trm, .inl (cy_trm, 300, .inl f_trm))] → va_S A s.heap H locs → lv_has ls 2 [(0, .ref h_rd), (1, .int x1)] → W p l e ({ frames := 2, cells := 0, slots := 0, locals := 104 } : Room) s m ([.ref h_rd] : List Value).toArray below meth c H locs 0 0 (MQ below (va_Qi (fun (r : Int32) (u : (Int32) × (Int32) × (Int32) × (Nat → Int32) × (Int32) × (Nat → Int64) × (Nat → Int32) × (Nat → Int32)) => (0 ≤ (u.2.2.1).toInt ∧ (u.2.2.1).toInt ≤ 8) ∧ (Rg 0 299 u.2.2.2.1) ∧ (0 ≤ (u.2.2.2.2.1).toInt ∧ (u.2.2.2.2.1).toInt ≤ 300) ∧ (Rg (-1) 7 u.2.2.2.2.2.2.1) ∧ (Rg 0 3 u.2.2.2.2.2.2.2) ∧ (0 ≤ r.toInt ∧ r.toInt ≤ 299) ∧ ((u.1).toInt = ((pVar G (x_rd_length).toInt (x_rd_at).toInt (x_rd_variables).toInt vf)).1) ∧ (((u.1).toInt = 0 ∧ (u.2.1).toInt = (x_rd_place).toInt ∧ ((pVar G (x_rd_length).toInt (x_rd_at).toInt (x_rd_variables).toInt vf)).2.1 = tkN G (x_rd_length).toInt (x_rd_at).toInt) ∨ ((u.1).toInt = 2 ∧ (u.2.1).toInt = (x_rd_at).toInt ∧ ((pVar G (x_rd_length).toInt (x_rd_at).toInt (x_rd_variables).toInt vf)).2.1 = (x_rd_at).toInt ∧ (u.2.2.2.2.1).toInt = (x_td_parts).toInt)) ∧ ((u.2.2.1).toInt = ((pVar G (x_rd_length).toInt (x_rd_at).toInt (x_rd_variables).toInt vf)).2.2.1) ∧ ((x_td_parts).toInt ≤ (u.2.2.2.2.1).toInt ∧ (u.2.2.2.2.1).toInt ≤ (x_td_parts).toInt + 1) ∧ ((x_rd_variables).toInt ≤ (u.2.2.1).toInt) ∧ (VFC (u.2.2.1).toInt ((pVar G (x_rd_length).toInt (x_rd_at).toInt (x_rd_variables).toInt vf)).2.2.2 u.2.2.2.1 u.2.2.2.2.2.1 (u.2.2.2.2.1).toInt) ∧ (VFV (u.2.2.1).toInt u.2.2.2.1 u.2.2.2.2.2.2.1 (u.2.2.2.2.1).toInt) ∧ (IFZ (u.1).toInt (VPX G (x_rd_at).toInt (u.2.2.1).toInt ((pVar G (x_rd_length).toInt (x_rd_at).toInt (x_rd_variables).toInt vf)).2.2.2 (kfn u.2.2.2.1) u.2.2.2.2.2.2.1 (u.2.2.2.2.1).toInt r)) ∧ (KX (x_rd_variables).toInt (kfn f_kn) (kfn u.2.2.2.1)) ∧ (AG3 (x_td_parts).toInt f_nam u.2.2.2.2.2.1 f_var u.2.2.2.2.2.2.1 f_trm u.2.2.2.2.2.2.2) ∧ (TZG u.2.2.2.2.2.2.1 u.2.2.2.2.2.2.2)) (fun (u : (Int32) × (Int32) × (Int32) × (Nat → Int32) × (Int32) × (Nat → Int64) × (Nat → Int32) × (Nat → Int32)) (t : State) => va_P (dC, dI) cls [(h_rd, .inr (4, (mo30 v_rd (.int x_rd_length) (.int u.1) (.int u.2.1) (.ref h_td) (.ref h_kn) (.int u.2.2.1) (.int x_rd_at) (.long x_rd_letters)))), (h_kn, .inl (cy_kn, 8, .inl u.2.2.2.1)), (h_td, .inr (5, (mo24 v_td (.ref h_nam) (.ref h_var) (.ref h_trm) (.int u.2.2.2.2.1)))), (h_nam, .inl (cy_nam, 300, .inr (.inl u.2.2.2.2.2.1))), (h_var, .inl (cy_var, 300, .inl u.2.2.2.2.2.2.1)), (h_trm, .inl (cy_trm, 300, .inl u.2.2.2.2.2.2.2))] t.heap ∧ va_D A [(h_rd, .inr (4, (mo30 v_rd (.int x_rd_length) (.int u.1) (.int u.2.1) (.ref h_td) (.ref h_kn) (.int u.2.2.1) (.int x_rd_at) (.long x_rd_letters)))), (h_kn, .inl (cy_kn, 8, .inl u.2.2.2.1)), (h_td, .inr (5, (mo24 v_td (.ref h_nam) (.ref h_var) (.ref h_trm) (.int u.2.2.2.2.1)))), (h_nam, .inl (cy_nam, 300, .inr (.inl u.2.2.2.2.2.1))), (h_var, .inl (cy_var, 300, .inl u.2.2.2.2.2.2.1)), (h_trm, .inl (cy_trm, 300, .inl u.2.2.2.2.2.2.2))]) A) ([.ref h_rd] : List Value).toArray s 0 0 A) (F0 m 2 ls []) := by
    clear hP hD hS hl
    intro n
    induction n with
    | zero => intro x1 H locs ls klp2_0 klp2_1 hm hP hD hS hl; exact False.elim (by omega)
    | succ n ih => 
      intro x1 H locs ls klp2_0 klp2_1 hm hP hD hS hl
      have ih3 := ih
      clear ih
      refine lv_iload_n hx hb dX5_variablePart_2 rfl (lv_at hl 1 rfl) ?_
      refine lv_aload_n hx hb dX5_variablePart_3 rfl (lv_at hl 0 rfl) ?_
      refine va_get (D := (dC, dI)) (ci := 4) (v := .int x_rd_variables) (C := RX5) (T := TX5) (N := 11) hx hb hw iwX5 hown hK hP 0 rfl rfl 6 (by decide) (hw _ w_f_X5_66) (fun _ h9 => h9) rfl dX5_variablePart_4 ?_
      refine lv_icmp_ge (tgt := 45) hx hb dX5_variablePart_7 (by decide) (fun c4 => ?_) (fun c4 => ?_)
      · have kc4 := (cv_le (rfl : (x_rd_variables).toInt = (x_rd_variables).toInt) (rfl : (x1).toInt = (x1).toInt)).mp c4
        have ne9 : ¬ ∃ j : Int, 0 ≤ j ∧ j < (x_rd_variables).toInt ∧ vf j = G (x_rd_at).toInt := fun q9 => by obtain ⟨j, h1, h2, h3⟩ := q9; exact klp2_1 j h1 (by omega) h3
        refine lv_aload_n hx hb dX5_variablePart_45 rfl (lv_at hl 0 rfl) ?_
        refine va_get (D := (dC, dI)) (ci := 4) (v := .int x_rd_variables) (C := RX5) (T := TX5) (N := 11) hx hb hw iwX5 hown hK hP 0 rfl rfl 6 (by decide) (hw _ w_f_X5_66) (fun _ h9 => h9) rfl dX5_variablePart_46 ?_
        refine lv_bipush (v := 8) hx hb dX5_variablePart_49 (by decide) ?_
        refine lv_icmp_ne (tgt := 61) hx hb dX5_variablePart_51 (by decide) (fun c5 => ?_) (fun c5 => ?_)
        · have kc5 := (not_congr (cv_eq (rfl : (x_rd_variables).toInt = (x_rd_variables).toInt) (by decide : (8 : Int32).toInt = 8))).mp c5
          have pv9 : (pVar G (x_rd_length).toInt (x_rd_at).toInt (x_rd_variables).toInt vf) = (0, tkN G (x_rd_length).toInt (x_rd_at).toInt, (x_rd_variables).toInt + 1, fun j => if j = (x_rd_variables).toInt then G (x_rd_at).toInt else vf j) := pVar_new ne9 (by omega)
          have pq61 : ((pVar G (x_rd_length).toInt (x_rd_at).toInt (x_rd_variables).toInt vf)).1 = 0 := by rw [pv9]
          have pq62 : ((pVar G (x_rd_length).toInt (x_rd_at).toInt (x_rd_variables).toInt vf)).2.1 = tkN G (x_rd_length).toInt (x_rd_at).toInt := by rw [pv9]
          have pq63 : ((pVar G (x_rd_length).toInt (x_rd_at).toInt (x_rd_variables).toInt vf)).2.2.1 = (x_rd_variables).toInt + 1 := by rw [pv9]
          have pq64 : ((pVar G (x_rd_length).toInt (x_rd_at).toInt (x_rd_variables).toInt vf)).2.2.2 = (fun j => if j = (x_rd_variables).toInt then G (x_rd_at).toInt else vf j) := by rw [pv9]
          refine lv_aload_n hx hb dX5_variablePart_61 rfl (lv_at hl 0 rfl) ?_
          refine va_get (D := (dC, dI)) (ci := 4) (v := .ref h_td) (C := RX5) (T := TX5) (N := 11) hx hb hw iwX5 hown hK hP 0 rfl rfl 4 (by decide) (hw _ w_f_X5_25) (fun _ h9 => h9) rfl dX5_variablePart_62 ?_
          refine lv_aload_n hx hb dX5_variablePart_65 rfl (lv_at hl 0 rfl) ?_
          refine va_get (D := (dC, dI)) (ci := 4) (v := .long x_rd_letters) (C := RX5) (T := TX5) (N := 11) hx hb hw iwX5 hown hK hP 0 rfl rfl 10 (by decide) (hw _ w_f_X5_85) (fun _ h9 => h9) rfl dX5_variablePart_66 ?_
          refine lv_aload_n hx hb dX5_variablePart_69 rfl (lv_at hl 0 rfl) ?_
          refine va_get (D := (dC, dI)) (ci := 4) (v := .int x_rd_variables) (C := RX5) (T := TX5) (N := 11) hx hb hw iwX5 hown hK hP 0 rfl rfl 6 (by decide) (hw _ w_f_X5_66) (fun _ h9 => h9) rfl dX5_variablePart_70 ?_
          have hPc := hP.sub (ws' := [(h_td, .inr (5, (mo24 v_td (.ref h_nam) (.ref h_var) (.ref h_trm) (.int x_td_parts)))), (h_nam, .inl (cy_nam, 300, .inr (.inl f_nam))), (h_var, .inl (cy_var, 300, .inl f_var)), (h_trm, .inl (cy_trm, 300, .inl f_trm))]) [2, 3, 4, 5] rfl
          have hDc := hD.sub (ws' := [(h_td, .inr (5, (mo24 v_td (.ref h_nam) (.ref h_var) (.ref h_trm) (.int x_td_parts)))), (h_nam, .inl (cy_nam, 300, .inr (.inl f_nam))), (h_var, .inl (cy_var, 300, .inl f_var)), (h_trm, .inl (cy_trm, 300, .inl f_trm))]) [2, 3, 4, 5] (by decide) rfl
          have hKc := hK.sub (tys' := [(cy_nam, .long), (cy_var, .int), (cy_trm, .int)]) [1, 2, 3] rfl
          have hFc := va_free (wc := [(h_td, .inr (5, (mo24 v_td (.ref h_nam) (.ref h_var) (.ref h_trm) (.int x_td_parts)))), (h_nam, .inl (cy_nam, 300, .inr (.inl f_nam))), (h_var, .inl (cy_var, 300, .inl f_var)), (h_trm, .inl (cy_trm, 300, .inl f_trm))]) hD hS hA [2, 3, 4, 5] rfl
          refine va_calli (va_runVN (As := [.long x_rd_letters, .int x_rd_variables]) (rest := []) ⟨hx, hb, hml, hown, hts⟩ (c_X8_add l dC dI H.size h_td h_nam h_var h_trm v_td x_td_parts cy_nam f_nam cy_var f_var cy_trm f_trm x_rd_letters x_rd_variables (by first | exact hx_td_parts | omega) hf_var hf_trm (by omega) (by omega)) ⟨va_cnB (host := "OppositePairs") 2 hts (gd hT w_code_X8_add) rfl rfl rfl (hN _ n_m_X5_89) (hw _ w_ini_X8) (by decide +kernel) ⟨(Nat.le_of_ble_eq_true rfl), (Nat.le_of_ble_eq_true rfl)⟩, hw _ w_instanceMethod_X8_add, hw _ ws_sel_X8_add⟩ ⟨pre_blind, va_recv hK hP (ci := 5) (q0 := 2) rfl rfl, pre_of hPc hKc hDc hN⟩ rfl rfl hl.1 rfl (lv_room (Nat.le_of_ble_eq_true rfl)) dX5_variablePart_73 ⟨(Nat.le_of_ble_eq_true rfl), (Nat.le_of_ble_eq_true rfl)⟩) hS (fun q _ h => hFc q h) hFc (fun r7 u t H locs ht hvm hq hB hz1 hk1 hS9 => ?_)
          obtain ⟨z8, f9, f10, f11⟩ := u
          obtain ⟨hP1, hD1⟩ := hB
          rw [ht] at hP1
          obtain ⟨hP9, hD9⟩ := va_join (wr := [(h_rd, .inr (4, (mo30 v_rd (.int x_rd_length) (.int x_rd_fault) (.int x_rd_place) (.ref h_td) (.ref h_kn) (.int x_rd_variables) (.int x_rd_at) (.long x_rd_letters)))), (h_kn, .inl (cy_kn, 8, .inl f_kn))]) (w1 := [(h_td, .inr (5, (mo24 v_td (.ref h_nam) (.ref h_var) (.ref h_trm) (.int z8)))), (h_nam, .inl (cy_nam, 300, .inr (.inl f9))), (h_var, .inl (cy_var, 300, .inl f10)), (h_trm, .inl (cy_trm, 300, .inl f11))]) hP hD [2, 3, 4, 5] [0, 1] rfl rfl (by decide) (by decide) hk1 hFc hP1 hD1
          clear hP hD hS hPc hDc hKc hFc hP1 hD1 hk1 hz1 ht hvm
          have hP : va_P (dC, dI) cls [(h_rd, .inr (4, (mo30 v_rd (.int x_rd_length) (.int x_rd_fault) (.int x_rd_place) (.ref h_td) (.ref h_kn) (.int x_rd_variables) (.int x_rd_at) (.long x_rd_letters)))), (h_kn, .inl (cy_kn, 8, .inl f_kn)), (h_td, .inr (5, (mo24 v_td (.ref h_nam) (.ref h_var) (.ref h_trm) (.int z8)))), (h_nam, .inl (cy_nam, 300, .inr (.inl f9))), (h_var, .inl (cy_var, 300, .inl f10)), (h_trm, .inl (cy_trm, 300, .inl f11))] H := hP9
          have hD : va_D A [(h_rd, .inr (4, (mo30 v_rd (.int x_rd_length) (.int x_rd_fault) (.int x_rd_place) (.ref h_td) (.ref h_kn) (.int x_rd_variables) (.int x_rd_at) (.long x_rd_letters)))), (h_kn, .inl (cy_kn, 8, .inl f_kn)), (h_td, .inr (5, (mo24 v_td (.ref h_nam) (.ref h_var) (.ref h_trm) (.int z8)))), (h_nam, .inl (cy_nam, 300, .inr (.inl f9))), (h_var, .inl (cy_var, 300, .inl f10)), (h_trm, .inl (cy_trm, 300, .inl f11))] := hD9
          have hS := hS9
          clear hP9 hD9 hS9
          obtain ⟨k12, hf10, hf11, k13, k14, k15, k16, k17, k18⟩ := hq
          replace k12 : 0 ≤ ((z8)).toInt ∧ ((z8)).toInt ≤ 300 := k12
          replace hf10 : Rg (-1) 7 (f10) := hf10
          replace hf11 : Rg 0 3 (f11) := hf11
          replace k13 : 0 ≤ (r7).toInt ∧ (r7).toInt ≤ 299 := k13
          replace k14 : ((r7)).toInt = ((x_td_parts)).toInt := k14
          replace k15 : ((z8)).toInt = ((x_td_parts)).toInt + 1 := k15
          replace k16 : (f9) = vp_updL f_nam (Int32.toNatClampNeg (r7)) (x_rd_letters) := k16
          replace k17 : (f10) = upd f_var (Int32.toNatClampNeg (r7)) (x_rd_variables) := k17
          replace k18 : (f11) = upd f_trm (Int32.toNatClampNeg (r7)) 0 := k18
          refine lv_istore_n (lv' := [(1, .int r7), (0, .ref h_rd)]) hx hb dX5_variablePart_76 rfl hl (by decide) rfl (fun ls hl => ?_)
          refine lv_aload_n hx hb dX5_variablePart_77 rfl (lv_at hl 1 rfl) ?_
          refine va_get (D := (dC, dI)) (ci := 4) (v := .ref h_kn) (C := RX5) (T := TX5) (N := 11) hx hb hw iwX5 hown hK hP 0 rfl rfl 5 (by decide) (hw _ w_f_X5_19) (fun _ h9 => h9) rfl dX5_variablePart_78 ?_
          refine lv_aload_n hx hb dX5_variablePart_81 rfl (lv_at hl 1 rfl) ?_
          refine lv_dup hx hb dX5_variablePart_82 rfl ?_
          refine va_get (D := (dC, dI)) (ci := 4) (v := .int x_rd_variables) (C := RX5) (T := TX5) (N := 11) hx hb hw iwX5 hown hK hP 0 rfl rfl 6 (by decide) (hw _ w_f_X5_66) (fun _ h9 => h9) rfl dX5_variablePart_83 ?_
          refine lv_dup_x1 hx hb dX5_variablePart_86 rfl rfl ?_
          refine lv_iconst (v := 1) hx hb dX5_variablePart_87 (by decide) ?_
          refine lv_iadd hx hb dX5_variablePart_88 ?_
          refine lv_topi (fun z19 ez19 => ?_)
          have tz19 : (z19).toInt = (x_rd_variables).toInt + 1 := by rw [ez19]; exact i_add rfl (by decide) (by omega)
          refine va_put (D := (dC, dI)) (ci := 4) (v := .int z19) (ty := tyX5 6) (C := RX5) (T := TX5) (N := 11) hx hb hw iwX5 tyX5 tyX5_ok nmX5 hown hK hP hD hS 0 rfl rfl 6 (by decide) (hw _ w_f_X5_66) (fun _ h9 => h9) rfl (tyX5_ok 6 (by decide)) rfl rfl (Nat.le_of_ble_eq_true rfl) dX5_variablePart_89 (fun H locs hP9 hD9 hS9 => ?_)
          clear hP hD hS
          have hP : va_P (dC, dI) cls [(h_rd, .inr (4, (mo30 v_rd (.int x_rd_length) (.int x_rd_fault) (.int x_rd_place) (.ref h_td) (.ref h_kn) (.int z19) (.int x_rd_at) (.long x_rd_letters)))), (h_kn, .inl (cy_kn, 8, .inl f_kn)), (h_td, .inr (5, (mo24 v_td (.ref h_nam) (.ref h_var) (.ref h_trm) (.int z8)))), (h_nam, .inl (cy_nam, 300, .inr (.inl f9))), (h_var, .inl (cy_var, 300, .inl f10)), (h_trm, .inl (cy_trm, 300, .inl f11))] H := hP9
          have hD : va_D A [(h_rd, .inr (4, (mo30 v_rd (.int x_rd_length) (.int x_rd_fault) (.int x_rd_place) (.ref h_td) (.ref h_kn) (.int z19) (.int x_rd_at) (.long x_rd_letters)))), (h_kn, .inl (cy_kn, 8, .inl f_kn)), (h_td, .inr (5, (mo24 v_td (.ref h_nam) (.ref h_var) (.ref h_trm) (.int z8)))), (h_nam, .inl (cy_nam, 300, .inr (.inl f9))), (h_var, .inl (cy_var, 300, .inl f10)), (h_trm, .inl (cy_trm, 300, .inl f11))] := hD9
          have hS := hS9
          clear hP9 hD9 hS9
          refine lv_iload_n hx hb dX5_variablePart_92 rfl (lv_at hl 0 rfl) ?_
          refine va_iast hx hb hK hP hD hS 1 0 rfl rfl (i := x_rd_variables) (x := r7) (vp_in_iff.mpr (by omega)) dX5_variablePart_93 (fun H locs hP9 hD9 hS9 => ?_)
          obtain ⟨f20, ef20⟩ : ∃ g : Nat → Int32, g = upd f_kn (Int32.toNatClampNeg x_rd_variables) r7 := ⟨_, rfl⟩
          clear hP hD hS
          have hP : va_P (dC, dI) cls [(h_rd, .inr (4, (mo30 v_rd (.int x_rd_length) (.int x_rd_fault) (.int x_rd_place) (.ref h_td) (.ref h_kn) (.int z19) (.int x_rd_at) (.long x_rd_letters)))), (h_kn, .inl (cy_kn, 8, .inl f20)), (h_td, .inr (5, (mo24 v_td (.ref h_nam) (.ref h_var) (.ref h_trm) (.int z8)))), (h_nam, .inl (cy_nam, 300, .inr (.inl f9))), (h_var, .inl (cy_var, 300, .inl f10)), (h_trm, .inl (cy_trm, 300, .inl f11))] H := by rw [ef20]; exact hP9
          have hD : va_D A [(h_rd, .inr (4, (mo30 v_rd (.int x_rd_length) (.int x_rd_fault) (.int x_rd_place) (.ref h_td) (.ref h_kn) (.int z19) (.int x_rd_at) (.long x_rd_letters)))), (h_kn, .inl (cy_kn, 8, .inl f20)), (h_td, .inr (5, (mo24 v_td (.ref h_nam) (.ref h_var) (.ref h_trm) (.int z8)))), (h_nam, .inl (cy_nam, 300, .inr (.inl f9))), (h_var, .inl (cy_var, 300, .inl f10)), (h_trm, .inl (cy_trm, 300, .inl f11))] := by rw [ef20]; exact hD9
          have hS := hS9
          clear hP9 hD9 hS9
          have hf20 : Rg 0 299 f20 := by rw [ef20]; exact rg_upd hf_kn (by omega)
          have vn21 : VFC (z19).toInt ((pVar G (x_rd_length).toInt (x_rd_at).toInt (x_rd_variables).toInt vf)).2.2.2 f20 f9 (z8).toInt := by rw [pq64]; exact vfc_add hn_vfc rfl (by omega) (by omega) (by omega) k16 (by omega) ef20 (by omega) (by omega)
          have vn22 : VFV (z19).toInt f20 f10 (z8).toInt := vfv_add hn_vfv rfl (by omega) (by omega) (by omega) k17 rfl ef20 (by omega) (by omega)
          have vx9 : VPX G (x_rd_at).toInt (z19).toInt ((pVar G (x_rd_length).toInt (x_rd_at).toInt (x_rd_variables).toInt vf)).2.2.2 (kfn f20) f10 (z8).toInt r7 := vpx_new ef20 rfl k17 rfl (by omega) (by omega) pq64 (by omega)
          refine lv_iload_n hx hb dX5_variablePart_94 rfl (lv_at hl 0 rfl) ?_
          refine W.widen (k := 0) (n := 0) (Nat.le_of_ble_eq_true rfl) (Nat.le_of_ble_eq_true rfl) ?_
          have w23 : 0 ≤ ((z19)).toInt ∧ ((z19)).toInt ≤ 8 := by omega
          have w24 : 0 ≤ ((z8)).toInt ∧ ((z8)).toInt ≤ 300 := by first | exact k12 | omega
          have w25 : 0 ≤ (r7 : Int32).toInt ∧ (r7 : Int32).toInt ≤ 299 := by first | exact k13 | omega
          have w26 : ((x_rd_fault)).toInt = ((pVar G (x_rd_length).toInt (x_rd_at).toInt (x_rd_variables).toInt vf)).1 := by omega
          have w27 : (((x_rd_fault)).toInt = 0 ∧ ((x_rd_place)).toInt = (x_rd_place).toInt ∧ ((pVar G (x_rd_length).toInt (x_rd_at).toInt (x_rd_variables).toInt vf)).2.1 = tkN G (x_rd_length).toInt (x_rd_at).toInt) ∨ (((x_rd_fault)).toInt = 2 ∧ ((x_rd_place)).toInt = (x_rd_at).toInt ∧ ((pVar G (x_rd_length).toInt (x_rd_at).toInt (x_rd_variables).toInt vf)).2.1 = (x_rd_at).toInt ∧ ((z8)).toInt = (x_td_parts).toInt) := by omega
          have w28 : ((z19)).toInt = ((pVar G (x_rd_length).toInt (x_rd_at).toInt (x_rd_variables).toInt vf)).2.2.1 := by omega
          have w29 : (x_td_parts).toInt ≤ ((z8)).toInt ∧ ((z8)).toInt ≤ (x_td_parts).toInt + 1 := by omega
          have w30 : (x_rd_variables).toInt ≤ ((z19)).toInt := by omega
          have w31 : VFC ((z19)).toInt ((pVar G (x_rd_length).toInt (x_rd_at).toInt (x_rd_variables).toInt vf)).2.2.2 (f20) (f9) ((z8)).toInt := vn21
          have w32 : VFV ((z19)).toInt (f20) (f10) ((z8)).toInt := vn22
          have w33 : IFZ ((x_rd_fault)).toInt (VPX G (x_rd_at).toInt ((z19)).toInt ((pVar G (x_rd_length).toInt (x_rd_at).toInt (x_rd_variables).toInt vf)).2.2.2 (kfn (f20)) (f10) ((z8)).toInt (r7 : Int32)) := (ifz_yes vx9)
          have w34 : KX (x_rd_variables).toInt (kfn f_kn) (kfn (f20)) := (kx_add ef20 rfl (by omega))
          have w35 : AG3 (x_td_parts).toInt f_nam (f9) f_var (f10) f_trm (f11) := (ag3_add k16 k17 k18 (by omega))
          have w36 : TZG (f10) (f11) := (tz_add hn_tz k17 k18)
          exact W.iret (v := r7) hx hb hr (fun t ht hW => ⟨⟨r7, (x_rd_fault, x_rd_place, z19, f20, z8, f9, f10, f11), rfl, ⟨w23, hf20, w24, hf10, hf11, w25, w26, w27, w28, w29, w30, w31, w32, w33, w34, w35, w36⟩, by rw [ht]; exact hP, hD⟩, hS.F ht⟩) hS.2.2 dX5_variablePart_95
        · have kc5 := (cv_eq (rfl : (x_rd_variables).toInt = (x_rd_variables).toInt) (by decide : (8 : Int32).toInt = 8)).mp c5
          have pv9 : (pVar G (x_rd_length).toInt (x_rd_at).toInt (x_rd_variables).toInt vf) = (2, (x_rd_at).toInt, (x_rd_variables).toInt, vf) := pVar_full ne9 (by omega)
          have pq371 : ((pVar G (x_rd_length).toInt (x_rd_at).toInt (x_rd_variables).toInt vf)).1 = 2 := by rw [pv9]
          have pq372 : ((pVar G (x_rd_length).toInt (x_rd_at).toInt (x_rd_variables).toInt vf)).2.1 = (x_rd_at).toInt := by rw [pv9]
          have pq373 : ((pVar G (x_rd_length).toInt (x_rd_at).toInt (x_rd_variables).toInt vf)).2.2.1 = (x_rd_variables).toInt := by rw [pv9]
          have pq374 : ((pVar G (x_rd_length).toInt (x_rd_at).toInt (x_rd_variables).toInt vf)).2.2.2 = vf := by rw [pv9]
          refine lv_aload_n hx hb dX5_variablePart_54 rfl (lv_at hl 0 rfl) ?_
          refine lv_iconst (v := 2) hx hb dX5_variablePart_55 (by decide) ?_
          obtain ⟨vq38, evq38⟩ := mq30_27 v_rd (.int x_rd_length) (.ref h_td) (.ref h_kn) (.int x_rd_variables) (.long x_rd_letters)
          replace hP : va_P (dC, dI) cls [(h_rd, .inr (4, (mo27 vq38 (.int x_rd_fault) (.int x_rd_place) (.int x_rd_at)))), (h_kn, .inl (cy_kn, 8, .inl f_kn)), (h_td, .inr (5, (mo24 v_td (.ref h_nam) (.ref h_var) (.ref h_trm) (.int x_td_parts)))), (h_nam, .inl (cy_nam, 300, .inr (.inl f_nam))), (h_var, .inl (cy_var, 300, .inl f_var)), (h_trm, .inl (cy_trm, 300, .inl f_trm))] H := by rw [evq38]; exact hP
          replace hD : va_D A [(h_rd, .inr (4, (mo27 vq38 (.int x_rd_fault) (.int x_rd_place) (.int x_rd_at)))), (h_kn, .inl (cy_kn, 8, .inl f_kn)), (h_td, .inr (5, (mo24 v_td (.ref h_nam) (.ref h_var) (.ref h_trm) (.int x_td_parts)))), (h_nam, .inl (cy_nam, 300, .inr (.inl f_nam))), (h_var, .inl (cy_var, 300, .inl f_var)), (h_trm, .inl (cy_trm, 300, .inl f_trm))] := by rw [evq38]; exact hD
          have cst2 : (2 : Int32).toInt = 2 := by decide
          have hPc := hP.sub (ws' := [(h_rd, .inr (4, (mo27 vq38 (.int x_rd_fault) (.int x_rd_place) (.int x_rd_at))))]) [0] rfl
          have hDc := hD.sub (ws' := [(h_rd, .inr (4, (mo27 vq38 (.int x_rd_fault) (.int x_rd_place) (.int x_rd_at))))]) [0] (by decide) rfl
          have hKc := hK.sub (tys' := []) [] rfl
          have hFc := va_free (wc := [(h_rd, .inr (4, (mo27 vq38 (.int x_rd_fault) (.int x_rd_place) (.int x_rd_at))))]) hD hS hA [0] rfl
          refine va_callv (va_runV (As := [.int 2]) (rest := []) ⟨hx, hb, hml, hown, hts⟩ (c_X5_blame l dC dI H.size h_rd vq38 x_rd_fault x_rd_place x_rd_at 2 (by first | exact hx_rd_at | omega)) (cwV 1 hts (gv hT w_m_X5_56 w_instanceMethod_X5_blame ws_sel_X5_blame w_ini_X5 w_code_X5_blame) rfl rfl rfl (by decide +kernel) ⟨(Nat.le_of_ble_eq_true rfl), (Nat.le_of_ble_eq_true rfl)⟩) ⟨pre_blind, va_recv hK hP (ci := 4) (q0 := 0) rfl rfl, pre_of hPc hKc hDc hN⟩ rfl rfl hl.1 rfl (lv_room (Nat.le_of_ble_eq_true rfl)) dX5_variablePart_56 ⟨(Nat.le_of_ble_eq_true rfl), (Nat.le_of_ble_eq_true rfl)⟩) hS (fun q _ h => hFc q h) hFc (fun u t H locs ht hvm hq hB hz1 hk1 hS9 => ?_)
          obtain ⟨z40, z41⟩ := u
          obtain ⟨hP1, hD1⟩ := hB
          rw [ht] at hP1
          obtain ⟨hP9, hD9⟩ := va_join (wr := [(h_kn, .inl (cy_kn, 8, .inl f_kn)), (h_td, .inr (5, (mo24 v_td (.ref h_nam) (.ref h_var) (.ref h_trm) (.int x_td_parts)))), (h_nam, .inl (cy_nam, 300, .inr (.inl f_nam))), (h_var, .inl (cy_var, 300, .inl f_var)), (h_trm, .inl (cy_trm, 300, .inl f_trm))]) (w1 := [(h_rd, .inr (4, (mo27 vq38 (.int z40) (.int z41) (.int x_rd_at))))]) hP hD [0] [1, 2, 3, 4, 5] rfl rfl (by decide) (by decide) hk1 hFc hP1 hD1
          clear hP hD hS hPc hDc hKc hFc hP1 hD1 hk1 hz1 ht hvm
          have hP : va_P (dC, dI) cls [(h_kn, .inl (cy_kn, 8, .inl f_kn)), (h_td, .inr (5, (mo24 v_td (.ref h_nam) (.ref h_var) (.ref h_trm) (.int x_td_parts)))), (h_nam, .inl (cy_nam, 300, .inr (.inl f_nam))), (h_var, .inl (cy_var, 300, .inl f_var)), (h_trm, .inl (cy_trm, 300, .inl f_trm)), (h_rd, .inr (4, (mo27 vq38 (.int z40) (.int z41) (.int x_rd_at))))] H := hP9
          have hD : va_D A [(h_kn, .inl (cy_kn, 8, .inl f_kn)), (h_td, .inr (5, (mo24 v_td (.ref h_nam) (.ref h_var) (.ref h_trm) (.int x_td_parts)))), (h_nam, .inl (cy_nam, 300, .inr (.inl f_nam))), (h_var, .inl (cy_var, 300, .inl f_var)), (h_trm, .inl (cy_trm, 300, .inl f_trm)), (h_rd, .inr (4, (mo27 vq38 (.int z40) (.int z41) (.int x_rd_at))))] := hD9
          have hS := hS9
          clear hP9 hD9 hS9
          rw [evq38] at hP hD
          replace hP : va_P (dC, dI) cls [(h_kn, .inl (cy_kn, 8, .inl f_kn)), (h_td, .inr (5, (mo24 v_td (.ref h_nam) (.ref h_var) (.ref h_trm) (.int x_td_parts)))), (h_nam, .inl (cy_nam, 300, .inr (.inl f_nam))), (h_var, .inl (cy_var, 300, .inl f_var)), (h_trm, .inl (cy_trm, 300, .inl f_trm)), (h_rd, .inr (4, (mo30 v_rd (.int x_rd_length) (.int z40) (.int z41) (.ref h_td) (.ref h_kn) (.int x_rd_variables) (.int x_rd_at) (.long x_rd_letters))))] H := hP
          replace hD : va_D A [(h_kn, .inl (cy_kn, 8, .inl f_kn)), (h_td, .inr (5, (mo24 v_td (.ref h_nam) (.ref h_var) (.ref h_trm) (.int x_td_parts)))), (h_nam, .inl (cy_nam, 300, .inr (.inl f_nam))), (h_var, .inl (cy_var, 300, .inl f_var)), (h_trm, .inl (cy_trm, 300, .inl f_trm)), (h_rd, .inr (4, (mo30 v_rd (.int x_rd_length) (.int z40) (.int z41) (.ref h_td) (.ref h_kn) (.int x_rd_variables) (.int x_rd_at) (.long x_rd_letters))))] := hD
          clear evq38 
          obtain ⟨k42, k43⟩ := hq
          replace k42 : ((z40)).toInt = ((2 : Int32)).toInt := k42
          replace k43 : ((z41)).toInt = ((x_rd_at)).toInt := k43
          refine lv_iconst (v := 0) hx hb dX5_variablePart_59 (by decide) ?_
          replace hP : va_P (dC, dI) cls [(h_rd, .inr (4, (mo30 v_rd (.int x_rd_length) (.int z40) (.int z41) (.ref h_td) (.ref h_kn) (.int x_rd_variables) (.int x_rd_at) (.long x_rd_letters)))), (h_kn, .inl (cy_kn, 8, .inl f_kn)), (h_td, .inr (5, (mo24 v_td (.ref h_nam) (.ref h_var) (.ref h_trm) (.int x_td_parts)))), (h_nam, .inl (cy_nam, 300, .inr (.inl f_nam))), (h_var, .inl (cy_var, 300, .inl f_var)), (h_trm, .inl (cy_trm, 300, .inl f_trm))] H := hP.sub [5, 0, 1, 2, 3, 4] rfl
          replace hD : va_D A [(h_rd, .inr (4, (mo30 v_rd (.int x_rd_length) (.int z40) (.int z41) (.ref h_td) (.ref h_kn) (.int x_rd_variables) (.int x_rd_at) (.long x_rd_letters)))), (h_kn, .inl (cy_kn, 8, .inl f_kn)), (h_td, .inr (5, (mo24 v_td (.ref h_nam) (.ref h_var) (.ref h_trm) (.int x_td_parts)))), (h_nam, .inl (cy_nam, 300, .inr (.inl f_nam))), (h_var, .inl (cy_var, 300, .inl f_var)), (h_trm, .inl (cy_trm, 300, .inl f_trm))] := hD.sub [5, 0, 1, 2, 3, 4] (by decide) rfl
          refine W.widen (k := 0) (n := 0) (Nat.le_of_ble_eq_true rfl) (Nat.le_of_ble_eq_true rfl) ?_
          have cst0 : (0 : Int32).toInt = 0 := by decide
          have w44 : 0 ≤ ((x_rd_variables)).toInt ∧ ((x_rd_variables)).toInt ≤ 8 := by first | exact hx_rd_variables | omega
          have w45 : 0 ≤ ((x_td_parts)).toInt ∧ ((x_td_parts)).toInt ≤ 300 := by first | exact hx_td_parts | omega
          have w46 : 0 ≤ (0 : Int32).toInt ∧ (0 : Int32).toInt ≤ 299 := by omega
          have w47 : ((z40)).toInt = ((pVar G (x_rd_length).toInt (x_rd_at).toInt (x_rd_variables).toInt vf)).1 := by omega
          have w48 : (((z40)).toInt = 0 ∧ ((z41)).toInt = (x_rd_place).toInt ∧ ((pVar G (x_rd_length).toInt (x_rd_at).toInt (x_rd_variables).toInt vf)).2.1 = tkN G (x_rd_length).toInt (x_rd_at).toInt) ∨ (((z40)).toInt = 2 ∧ ((z41)).toInt = (x_rd_at).toInt ∧ ((pVar G (x_rd_length).toInt (x_rd_at).toInt (x_rd_variables).toInt vf)).2.1 = (x_rd_at).toInt ∧ ((x_td_parts)).toInt = (x_td_parts).toInt) := by omega
          have w49 : ((x_rd_variables)).toInt = ((pVar G (x_rd_length).toInt (x_rd_at).toInt (x_rd_variables).toInt vf)).2.2.1 := by omega
          have w50 : (x_td_parts).toInt ≤ ((x_td_parts)).toInt ∧ ((x_td_parts)).toInt ≤ (x_td_parts).toInt + 1 := by omega
          have w51 : (x_rd_variables).toInt ≤ ((x_rd_variables)).toInt := by omega
          have w52 : VFC ((x_rd_variables)).toInt ((pVar G (x_rd_length).toInt (x_rd_at).toInt (x_rd_variables).toInt vf)).2.2.2 (f_kn) (f_nam) ((x_td_parts)).toInt := (by rw [pq374]; exact hn_vfc)
          have w53 : VFV ((x_rd_variables)).toInt (f_kn) (f_var) ((x_td_parts)).toInt := hn_vfv
          have w54 : IFZ ((z40)).toInt (VPX G (x_rd_at).toInt ((x_rd_variables)).toInt ((pVar G (x_rd_length).toInt (x_rd_at).toInt (x_rd_variables).toInt vf)).2.2.2 (kfn (f_kn)) (f_var) ((x_td_parts)).toInt (0 : Int32)) := (ifz_no (by omega))
          have w55 : KX (x_rd_variables).toInt (kfn f_kn) (kfn (f_kn)) := kx_rf
          have w56 : AG3 (x_td_parts).toInt f_nam (f_nam) f_var (f_var) f_trm (f_trm) := ag3_rf
          have w57 : TZG (f_var) (f_trm) := hn_tz
          exact W.iret (v := 0) hx hb hr (fun t ht hW => ⟨⟨0, (z40, z41, x_rd_variables, f_kn, x_td_parts, f_nam, f_var, f_trm), rfl, ⟨w44, hf_kn, w45, hf_var, hf_trm, w46, w47, w48, w49, w50, w51, w52, w53, w54, w55, w56, w57⟩, by rw [ht]; exact hP, hD⟩, hS.F ht⟩) hS.2.2 dX5_variablePart_60
      · have kc4 := (not_congr (cv_le (rfl : (x_rd_variables).toInt = (x_rd_variables).toInt) (rfl : (x1).toInt = (x1).toInt))).mp c4
        refine lv_aload_n hx hb dX5_variablePart_10 rfl (lv_at hl 0 rfl) ?_
        refine va_get (D := (dC, dI)) (ci := 4) (v := .ref h_td) (C := RX5) (T := TX5) (N := 11) hx hb hw iwX5 hown hK hP 0 rfl rfl 4 (by decide) (hw _ w_f_X5_25) (fun _ h9 => h9) rfl dX5_variablePart_11 ?_
        refine va_getN (D := (dC, dI)) (ci := 5) (v := .ref h_nam) (C := RX8) (T := TX8) (N := 10) (host := "OppositePairs") hx hb hw iwX8 hown hK hP 2 rfl rfl 0 (by decide) (hN.use n_f_X5_103 rfl) (fun _ h9 => h9) rfl dX5_variablePart_14 ?_
        refine lv_aload_n hx hb dX5_variablePart_17 rfl (lv_at hl 0 rfl) ?_
        refine va_get (D := (dC, dI)) (ci := 4) (v := .ref h_kn) (C := RX5) (T := TX5) (N := 11) hx hb hw iwX5 hown hK hP 0 rfl rfl 5 (by decide) (hw _ w_f_X5_19) (fun _ h9 => h9) rfl dX5_variablePart_18 ?_
        refine lv_iload_n hx hb dX5_variablePart_21 rfl (lv_at hl 1 rfl) ?_
        refine va_iald hx hb hK hP 1 0 rfl rfl (i := x1) (vp_in_iff.mpr (by omega)) dX5_variablePart_22 ?_
        refine lv_topi (fun z58 ez58 => ?_)
        have rz58 : 0 ≤ (z58).toInt ∧ (z58).toInt ≤ 299 := by rw [ez58]; exact hf_kn _
        refine va_lald hx hb hK hP 3 1 rfl rfl (i := z58) (vp_in_iff.mpr (by omega)) dX5_variablePart_23 ?_
        refine lv_topl (fun z59 ez59 => ?_)
        refine lv_aload_n hx hb dX5_variablePart_24 rfl (lv_at hl 0 rfl) ?_
        refine va_get (D := (dC, dI)) (ci := 4) (v := .long x_rd_letters) (C := RX5) (T := TX5) (N := 11) hx hb hw iwX5 hown hK hP 0 rfl rfl 10 (by decide) (hw _ w_f_X5_85) (fun _ h9 => h9) rfl dX5_variablePart_25 ?_
        refine W.lcmp hx hb dX5_variablePart_28 ?_
        refine lv_topi (fun z60 ez60 => ?_)
        have lcz60 : (z60).toInt = 0 ↔ (z59).toInt = (x_rd_letters).toInt := by rw [ez60]; exact lg_cmp0
        have vzz60 : (z59).toInt = vf (x1).toInt := by rw [ez59, ez58]; exact (hn_vfc _ (by omega) (by omega)).1
        refine lv_if_ne (tgt := 39) hx hb dX5_variablePart_29 (by decide) (fun c61 => ?_) (fun c61 => ?_)
        · have kc61 := (not_congr (cv_eq (rfl : (z60).toInt = (z60).toInt) (by decide : (0 : Int32).toInt = 0))).mp c61
          obtain ⟨z62, ez62⟩ : ∃ y : Int32, y = x1 + 1 := ⟨_, rfl⟩
          have tz62 : (z62).toInt = (x1).toInt + 1 := by rw [ez62]; exact i_add rfl (by decide) (by omega)
          refine lv_iinc (v := z62) (lv' := [(1, .int z62), (0, .ref h_rd)]) hx hb dX5_variablePart_39 hl (k := 1) rfl (by rw [ez62]; rfl) (by decide) rfl (fun ls hl => ?_)
          have nf63 : ∀ j : Int, 0 ≤ j → j < (z62).toInt → ¬ vf j = G (x_rd_at).toInt := nf_step klp2_1 (by omega) tz62
          refine lv_goto (tgt := 2) hx hb dX5_variablePart_42 (by decide) ?_
          exact ih3 (z62) _ _ _ (by omega) nf63 (by omega) hP hD hS (lv_sub hl [1, 0] rfl)
        · have kc61 := (cv_eq (rfl : (z60).toInt = (z60).toInt) (by decide : (0 : Int32).toInt = 0)).mp c61
          have pv9 : (pVar G (x_rd_length).toInt (x_rd_at).toInt (x_rd_variables).toInt vf) = (0, tkN G (x_rd_length).toInt (x_rd_at).toInt, (x_rd_variables).toInt, vf) := pVar_old ⟨(x1).toInt, by omega, by omega, by omega⟩
          have pq641 : ((pVar G (x_rd_length).toInt (x_rd_at).toInt (x_rd_variables).toInt vf)).1 = 0 := by rw [pv9]
          have pq642 : ((pVar G (x_rd_length).toInt (x_rd_at).toInt (x_rd_variables).toInt vf)).2.1 = tkN G (x_rd_length).toInt (x_rd_at).toInt := by rw [pv9]
          have pq643 : ((pVar G (x_rd_length).toInt (x_rd_at).toInt (x_rd_variables).toInt vf)).2.2.1 = (x_rd_variables).toInt := by rw [pv9]
          have pq644 : ((pVar G (x_rd_length).toInt (x_rd_at).toInt (x_rd_variables).toInt vf)).2.2.2 = vf := by rw [pv9]
          refine lv_aload_n hx hb dX5_variablePart_32 rfl (lv_at hl 0 rfl) ?_
          refine va_get (D := (dC, dI)) (ci := 4) (v := .ref h_kn) (C := RX5) (T := TX5) (N := 11) hx hb hw iwX5 hown hK hP 0 rfl rfl 5 (by decide) (hw _ w_f_X5_19) (fun _ h9 => h9) rfl dX5_variablePart_33 ?_
          refine lv_iload_n hx hb dX5_variablePart_36 rfl (lv_at hl 1 rfl) ?_
          refine va_iald hx hb hK hP 1 0 rfl rfl (i := x1) (vp_in_iff.mpr (by omega)) dX5_variablePart_37 ?_
          refine lv_topi (fun z65 ez65 => ?_)
          have qz65 : (z65).toInt = (z58).toInt := by rw [ez65, ez58]
          have rz65 : 0 ≤ (z65).toInt ∧ (z65).toInt ≤ 299 := by rw [ez65]; exact hf_kn _
          have vx9 : VPX G (x_rd_at).toInt (x_rd_variables).toInt ((pVar G (x_rd_length).toInt (x_rd_at).toInt (x_rd_variables).toInt vf)).2.2.2 (kfn f_kn) f_var (x_td_parts).toInt z65 := vpx_old hn_vfv (i := x1) (by omega) (by omega) ez65 pq644 (by omega)
          refine W.widen (k := 0) (n := 0) (Nat.le_of_ble_eq_true rfl) (Nat.le_of_ble_eq_true rfl) ?_
          have w66 : 0 ≤ ((x_rd_variables)).toInt ∧ ((x_rd_variables)).toInt ≤ 8 := by first | exact hx_rd_variables | omega
          have w67 : 0 ≤ ((x_td_parts)).toInt ∧ ((x_td_parts)).toInt ≤ 300 := by first | exact hx_td_parts | omega
          have w68 : 0 ≤ (z65 : Int32).toInt ∧ (z65 : Int32).toInt ≤ 299 := by omega
          have w69 : ((x_rd_fault)).toInt = ((pVar G (x_rd_length).toInt (x_rd_at).toInt (x_rd_variables).toInt vf)).1 := by omega
          have w70 : (((x_rd_fault)).toInt = 0 ∧ ((x_rd_place)).toInt = (x_rd_place).toInt ∧ ((pVar G (x_rd_length).toInt (x_rd_at).toInt (x_rd_variables).toInt vf)).2.1 = tkN G (x_rd_length).toInt (x_rd_at).toInt) ∨ (((x_rd_fault)).toInt = 2 ∧ ((x_rd_place)).toInt = (x_rd_at).toInt ∧ ((pVar G (x_rd_length).toInt (x_rd_at).toInt (x_rd_variables).toInt vf)).2.1 = (x_rd_at).toInt ∧ ((x_td_parts)).toInt = (x_td_parts).toInt) := by omega
          have w71 : ((x_rd_variables)).toInt = ((pVar G (x_rd_length).toInt (x_rd_at).toInt (x_rd_variables).toInt vf)).2.2.1 := by omega
          have w72 : (x_td_parts).toInt ≤ ((x_td_parts)).toInt ∧ ((x_td_parts)).toInt ≤ (x_td_parts).toInt + 1 := by omega
          have w73 : (x_rd_variables).toInt ≤ ((x_rd_variables)).toInt := by omega
          have w74 : VFC ((x_rd_variables)).toInt ((pVar G (x_rd_length).toInt (x_rd_at).toInt (x_rd_variables).toInt vf)).2.2.2 (f_kn) (f_nam) ((x_td_parts)).toInt := (by rw [pq644]; exact hn_vfc)
          have w75 : VFV ((x_rd_variables)).toInt (f_kn) (f_var) ((x_td_parts)).toInt := hn_vfv
          have w76 : IFZ ((x_rd_fault)).toInt (VPX G (x_rd_at).toInt ((x_rd_variables)).toInt ((pVar G (x_rd_length).toInt (x_rd_at).toInt (x_rd_variables).toInt vf)).2.2.2 (kfn (f_kn)) (f_var) ((x_td_parts)).toInt (z65 : Int32)) := (ifz_yes vx9)
          have w77 : KX (x_rd_variables).toInt (kfn f_kn) (kfn (f_kn)) := kx_rf
          have w78 : AG3 (x_td_parts).toInt f_nam (f_nam) f_var (f_var) f_trm (f_trm) := ag3_rf
          have w79 : TZG (f_var) (f_trm) := hn_tz
          exact W.iret (v := z65) hx hb hr (fun t ht hW => ⟨⟨z65, (x_rd_fault, x_rd_place, x_rd_variables, f_kn, x_td_parts, f_nam, f_var, f_trm), rfl, ⟨w66, hf_kn, w67, hf_var, hf_trm, w68, w69, w70, w71, w72, w73, w74, w75, w76, w77, w78, w79⟩, by rw [ht]; exact hP, hD⟩, hS.F ht⟩) hS.2.2 dX5_variablePart_38
  have cst0 : (0 : Int32).toInt = 0 := by decide
  exact lp2 _ (0) _ _ _ (by decide) (fun j h1 h2 => absurd h2 (by omega)) (Nat.le_refl _) hP hD hS (lv_sub hl [1, 0] rfl)

