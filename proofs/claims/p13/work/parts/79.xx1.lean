theorem w_code_X10_forgetAll : Cond.code yX10_forgetAll prog_1_method_25_code 1 none ∈ WALL := wall_t (tb_2 218 (by decide +kernel)) rfl
theorem w_code_X10_hasLonely : Cond.code yX10_hasLonely prog_1_method_31_code 4 (some .boolean) ∈ WALL := wall_t (tb_3 146 (by decide +kernel)) rfl
theorem w_code_X10_isInstance : Cond.code yX10_isInstance prog_1_method_27_code 2 (some .boolean) ∈ WALL := wall_t (tb_4 156 (by decide +kernel)) rfl
theorem w_code_X10_meeting : Cond.code yX10_meeting prog_1_method_29_code 7 (some .boolean) ∈ WALL := wall_t (tb_3 79 (by decide +kernel)) rfl
theorem w_code_X10_partnersAmong : Cond.code yX10_partnersAmong prog_1_method_30_code 7 (some .int) ∈ WALL := wall_t (tb_3 138 (by decide +kernel)) rfl
theorem w_code_X10_partsOf : Cond.code yX10_partsOf prog_1_method_28_code 4 (some .int) ∈ WALL := wall_t (tb_3 9 (by decide +kernel)) rfl
theorem w_code_X10_place : Cond.code yX10_place prog_1_method_32_code 4 (some .int) ∈ WALL := wall_t (tb_3 13 (by decide +kernel)) rfl
theorem w_code_X1_undo : Cond.code yX1_undo prog_3_method_2_code 2 none ∈ WALL := wall_t (tb_3 126 (by decide +kernel)) rfl
theorem w_code_X1_unify : Cond.code yX1_unify prog_3_method_6_code 5 (some .boolean) ∈ WALL := wall_t (tb_3 93 (by decide +kernel)) rfl
theorem w_code_X3_forget : Cond.code yX3_forget prog_5_method_2_code 1 none ∈ WALL := wall_t (tb_2 222 (by decide +kernel)) rfl
theorem w_code_X3_walk : Cond.code yX3_walk prog_5_method_3_code 2 (some .int) ∈ WALL := wall_t (tb_4 168 (by decide +kernel)) rfl
theorem w_code_X4_forgetCounts : Cond.code yX4_forgetCounts prog_6_method_2_code 1 none ∈ WALL := wall_t (tb_3 161 (by decide +kernel)) rfl
theorem w_code_X5_read : Cond.code yX5_read prog_7_method_3_code 3 none ∈ WALL := wall_t (tb_2 165 (by decide +kernel)) rfl
theorem w_code_X5_take : Cond.code yX5_take prog_7_method_2_code 3 none ∈ WALL := wall_t (tb_2 153 (by decide +kernel)) rfl
theorem w_code_X8_all : Cond.code yX8_all prog_10_method_8_code 1 (some .int) ∈ WALL := wall_t (tb_3 134 (by decide +kernel)) rfl
theorem w_code_X8_areOpposite : Cond.code yX8_areOpposite prog_10_method_9_code 5 (some .boolean) ∈ WALL := wall_t (tb_3 83 (by decide +kernel)) rfl
theorem w_code_X8_isLiteral : Cond.code yX8_isLiteral prog_10_method_5_code 3 (some .boolean) ∈ WALL := wall_t (tb_3 30 (by decide +kernel)) rfl
theorem w_code_X8_remove : Cond.code yX8_remove prog_10_method_11_code 3 none ∈ WALL := wall_t (tb_2 238 (by decide +kernel)) rfl
theorem w_code_X9_write : Cond.code yX9_write prog_11_method_2_code 5 (some .int) ∈ WALL := wall_t (tb_3 43 (by decide +kernel)) rfl
theorem w_f_X10_12 : Cond.fieldLink "OppositePairs" 12 "OppositePairs" "reader" "LOppositePairs$Reader;" ∈ WALL := wall_t (tb_2 121 (by decide +kernel)) rfl
theorem w_f_X10_19 : Cond.fieldLink "OppositePairs" 19 "OppositePairs" "told" "LOppositePairs$Told;" ∈ WALL := wall_t (tb_2 122 (by decide +kernel)) rfl
theorem w_f_X10_23 : Cond.fieldLink "OppositePairs" 23 "OppositePairs" "draft" "LOppositePairs$Told;" ∈ WALL := wall_t (tb_2 123 (by decide +kernel)) rfl
theorem w_f_X10_31 : Cond.fieldLink "OppositePairs" 31 "OppositePairs" "bonds" "LOppositePairs$Bonds;" ∈ WALL := wall_t (tb_2 124 (by decide +kernel)) rfl
theorem w_f_X10_40 : Cond.fieldLink "OppositePairs" 40 "OppositePairs" "writer" "LOppositePairs$Writer;" ∈ WALL := wall_t (tb_2 125 (by decide +kernel)) rfl
theorem w_f_X10_47 : Cond.fieldLink "OppositePairs" 47 "OppositePairs" "prover" "LOppositePairs$Prover;" ∈ WALL := wall_t (tb_2 126 (by decide +kernel)) rfl
theorem w_f_X10_56 : Cond.fieldLink "OppositePairs" 56 "OppositePairs" "matrix" "LOppositePairs$Matrix;" ∈ WALL := wall_t (tb_2 127 (by decide +kernel)) rfl
theorem w_f_X10_63 : Cond.fieldLink "OppositePairs" 63 "OppositePairs" "answers" "LOppositePairs$Answers;" ∈ WALL := wall_t (tb_2 128 (by decide +kernel)) rfl
theorem w_f_X4_41 : Cond.fieldLink "OppositePairs$Prover" 41 "OppositePairs$Prover" "proved" "Z" ∈ WALL := wall_t (tb_2 7 (by decide +kernel)) rfl
theorem w_f_X4_45 : Cond.fieldLink "OppositePairs$Prover" 45 "OppositePairs$Prover" "tries" "I" ∈ WALL := wall_t (tb_1 238 (by decide +kernel)) rfl
theorem w_f_X4_49 : Cond.fieldLink "OppositePairs$Prover" 49 "OppositePairs$Prover" "longest" "I" ∈ WALL := wall_t (tb_2 0 (by decide +kernel)) rfl
theorem w_f_X4_52 : Cond.fieldLink "OppositePairs$Prover" 52 "OppositePairs$Prover" "cuts" "I" ∈ WALL := wall_t (tb_2 2 (by decide +kernel)) rfl
theorem w_f_X4_55 : Cond.fieldLink "OppositePairs$Prover" 55 "OppositePairs$Prover" "extensions" "I" ∈ WALL := wall_t (tb_2 4 (by decide +kernel)) rfl
theorem w_ini_X10 : Cond.initialized "OppositePairs" ∈ WALL := wall_t (tb_1 1 (by decide +kernel)) rfl
theorem w_instanceMethod_X10_forgetAll : Cond.instanceMethod yX10_forgetAll ∈ WALL := wall_t (tb_2 217 (by decide +kernel)) rfl
theorem w_instanceMethod_X10_hasLonely : Cond.instanceMethod yX10_hasLonely ∈ WALL := wall_t (tb_3 145 (by decide +kernel)) rfl
theorem w_instanceMethod_X10_isInstance : Cond.instanceMethod yX10_isInstance ∈ WALL := wall_t (tb_4 155 (by decide +kernel)) rfl
theorem w_instanceMethod_X10_meeting : Cond.instanceMethod yX10_meeting ∈ WALL := wall_t (tb_3 78 (by decide +kernel)) rfl
theorem w_instanceMethod_X10_partnersAmong : Cond.instanceMethod yX10_partnersAmong ∈ WALL := wall_t (tb_3 137 (by decide +kernel)) rfl
theorem w_instanceMethod_X10_partsOf : Cond.instanceMethod yX10_partsOf ∈ WALL := wall_t (tb_3 8 (by decide +kernel)) rfl
theorem w_instanceMethod_X10_place : Cond.instanceMethod yX10_place ∈ WALL := wall_t (tb_3 12 (by decide +kernel)) rfl
theorem w_instanceMethod_X1_undo : Cond.instanceMethod yX1_undo ∈ WALL := wall_t (tb_3 125 (by decide +kernel)) rfl
theorem w_instanceMethod_X1_unify : Cond.instanceMethod yX1_unify ∈ WALL := wall_t (tb_3 92 (by decide +kernel)) rfl
theorem w_instanceMethod_X3_forget : Cond.instanceMethod yX3_forget ∈ WALL := wall_t (tb_2 221 (by decide +kernel)) rfl
theorem w_instanceMethod_X3_walk : Cond.instanceMethod yX3_walk ∈ WALL := wall_t (tb_4 167 (by decide +kernel)) rfl
theorem w_instanceMethod_X4_forgetCounts : Cond.instanceMethod yX4_forgetCounts ∈ WALL := wall_t (tb_3 160 (by decide +kernel)) rfl
theorem w_instanceMethod_X5_read : Cond.instanceMethod yX5_read ∈ WALL := wall_t (tb_2 164 (by decide +kernel)) rfl
theorem w_instanceMethod_X5_take : Cond.instanceMethod yX5_take ∈ WALL := wall_t (tb_2 152 (by decide +kernel)) rfl
theorem w_instanceMethod_X8_all : Cond.instanceMethod yX8_all ∈ WALL := wall_t (tb_3 133 (by decide +kernel)) rfl
theorem w_instanceMethod_X8_areOpposite : Cond.instanceMethod yX8_areOpposite ∈ WALL := wall_t (tb_3 82 (by decide +kernel)) rfl
theorem w_instanceMethod_X8_isLiteral : Cond.instanceMethod yX8_isLiteral ∈ WALL := wall_t (tb_3 29 (by decide +kernel)) rfl
theorem w_instanceMethod_X8_remove : Cond.instanceMethod yX8_remove ∈ WALL := wall_t (tb_2 237 (by decide +kernel)) rfl
theorem w_instanceMethod_X9_write : Cond.instanceMethod yX9_write ∈ WALL := wall_t (tb_3 42 (by decide +kernel)) rfl
theorem w_m_X10_104 : Cond.methodLink "OppositePairs" 104 yX10_partsOf ∈ WALL := wall_t (tb_3 6 (by decide +kernel)) rfl
theorem w_m_X10_122 : Cond.methodLink "OppositePairs" 122 yX10_place ∈ WALL := wall_t (tb_3 10 (by decide +kernel)) rfl
theorem w_m_X10_136 : Cond.methodLink "OppositePairs" 136 yX10_meeting ∈ WALL := wall_t (tb_3 76 (by decide +kernel)) rfl
theorem w_m_X10_144 : Cond.methodLink "OppositePairs" 144 yX10_partnersAmong ∈ WALL := wall_t (tb_3 135 (by decide +kernel)) rfl
theorem w_m_X10_147 : Cond.methodLink "OppositePairs" 147 yX10_hasLonely ∈ WALL := wall_t (tb_3 143 (by decide +kernel)) rfl
theorem w_m_X10_220 : Cond.methodLink "OppositePairs" 220 yX10_isInstance ∈ WALL := wall_t (tb_4 153 (by decide +kernel)) rfl
theorem w_m_X10_81 : Cond.methodLink "OppositePairs" 81 yX10_forgetAll ∈ WALL := wall_t (tb_2 215 (by decide +kernel)) rfl
theorem ws_sel_X10_forgetAll : Cond.selects "OppositePairs" yX10_forgetAll yX10_forgetAll ∈ WALL := wall_s 12 (by decide +kernel) rfl
theorem ws_sel_X10_hasLonely : Cond.selects "OppositePairs" yX10_hasLonely yX10_hasLonely ∈ WALL := wall_s 43 (by decide +kernel) rfl
theorem ws_sel_X10_isInstance : Cond.selects "OppositePairs" yX10_isInstance yX10_isInstance ∈ WALL := wall_s 71 (by decide +kernel) rfl
theorem ws_sel_X10_meeting : Cond.selects "OppositePairs" yX10_meeting yX10_meeting ∈ WALL := wall_s 29 (by decide +kernel) rfl
theorem ws_sel_X10_partnersAmong : Cond.selects "OppositePairs" yX10_partnersAmong yX10_partnersAmong ∈ WALL := wall_s 42 (by decide +kernel) rfl
theorem ws_sel_X10_partsOf : Cond.selects "OppositePairs" yX10_partsOf yX10_partsOf ∈ WALL := wall_s 16 (by decide +kernel) rfl
theorem ws_sel_X10_place : Cond.selects "OppositePairs" yX10_place yX10_place ∈ WALL := wall_s 17 (by decide +kernel) rfl
theorem ws_sel_X1_undo : Cond.selects "OppositePairs$Bonds" yX1_undo yX1_undo ∈ WALL := wall_s 40 (by decide +kernel) rfl
theorem ws_sel_X1_unify : Cond.selects "OppositePairs$Bonds" yX1_unify yX1_unify ∈ WALL := wall_s 32 (by decide +kernel) rfl
theorem ws_sel_X3_forget : Cond.selects "OppositePairs$Matrix" yX3_forget yX3_forget ∈ WALL := wall_s 13 (by decide +kernel) rfl
theorem ws_sel_X3_walk : Cond.selects "OppositePairs$Matrix" yX3_walk yX3_walk ∈ WALL := wall_s 72 (by decide +kernel) rfl
theorem ws_sel_X4_forgetCounts : Cond.selects "OppositePairs$Prover" yX4_forgetCounts yX4_forgetCounts ∈ WALL := wall_s 45 (by decide +kernel) rfl
theorem ws_sel_X5_read : Cond.selects "OppositePairs$Reader" yX5_read yX5_read ∈ WALL := wall_s 1 (by decide +kernel) rfl
theorem ws_sel_X5_take : Cond.selects "OppositePairs$Reader" yX5_take yX5_take ∈ WALL := wall_s 0 (by decide +kernel) rfl
theorem ws_sel_X8_all : Cond.selects "OppositePairs$Told" yX8_all yX8_all ∈ WALL := wall_s 41 (by decide +kernel) rfl
theorem ws_sel_X8_areOpposite : Cond.selects "OppositePairs$Told" yX8_areOpposite yX8_areOpposite ∈ WALL := wall_s 30 (by decide +kernel) rfl
theorem ws_sel_X8_isLiteral : Cond.selects "OppositePairs$Told" yX8_isLiteral yX8_isLiteral ∈ WALL := wall_s 21 (by decide +kernel) rfl
theorem ws_sel_X8_remove : Cond.selects "OppositePairs$Told" yX8_remove yX8_remove ∈ WALL := wall_s 15 (by decide +kernel) rfl
theorem ws_sel_X9_write : Cond.selects "OppositePairs$Writer" yX9_write yX9_write ∈ WALL := wall_s 23 (by decide +kernel) rfl
theorem n_f_X10_101 : Cond.fieldLinkNest "OppositePairs" 101 "OppositePairs$Told" "variables" "[I" "OppositePairs" ∈ NWL := nwl_t (tb_1 96 (by decide +kernel)) rfl
theorem n_f_X10_108 : Cond.fieldLinkNest "OppositePairs" 108 "OppositePairs$Told" "plus" "[I" "OppositePairs" ∈ NWL := nwl_t (tb_1 99 (by decide +kernel)) rfl
theorem n_f_X10_115 : Cond.fieldLinkNest "OppositePairs" 115 "OppositePairs$Told" "terms" "[I" "OppositePairs" ∈ NWL := nwl_t (tb_1 82 (by decide +kernel)) rfl
theorem n_f_X10_132 : Cond.fieldLinkNest "OppositePairs" 132 "OppositePairs$Writer" "length" "I" "OppositePairs" ∈ NWL := nwl_t (tb_1 187 (by decide +kernel)) rfl
theorem n_f_X10_133 : Cond.fieldLinkNest "OppositePairs" 133 "OppositePairs$Writer" "bytes" "[I" "OppositePairs" ∈ NWL := nwl_t (tb_1 185 (by decide +kernel)) rfl
theorem n_f_X10_163 : Cond.fieldLinkNest "OppositePairs" 163 "OppositePairs$Prover" "tries" "I" "OppositePairs" ∈ NWL := nwl_t (tb_1 239 (by decide +kernel)) rfl
theorem n_f_X10_166 : Cond.fieldLinkNest "OppositePairs" 166 "OppositePairs$Prover" "longest" "I" "OppositePairs" ∈ NWL := nwl_t (tb_2 1 (by decide +kernel)) rfl
theorem n_f_X10_169 : Cond.fieldLinkNest "OppositePairs" 169 "OppositePairs$Prover" "cuts" "I" "OppositePairs" ∈ NWL := nwl_t (tb_2 3 (by decide +kernel)) rfl
theorem n_f_X10_172 : Cond.fieldLinkNest "OppositePairs" 172 "OppositePairs$Prover" "extensions" "I" "OppositePairs" ∈ NWL := nwl_t (tb_2 5 (by decide +kernel)) rfl
theorem n_f_X10_175 : Cond.fieldLinkNest "OppositePairs" 175 "OppositePairs$Prover" "proved" "Z" "OppositePairs" ∈ NWL := nwl_t (tb_2 8 (by decide +kernel)) rfl
theorem n_f_X10_217 : Cond.fieldLinkNest "OppositePairs" 217 "OppositePairs$Prover" "instances" "I" "OppositePairs" ∈ NWL := nwl_t (tb_1 235 (by decide +kernel)) rfl
theorem n_f_X10_223 : Cond.fieldLinkNest "OppositePairs" 223 "OppositePairs$Prover" "clauseOf" "[I" "OppositePairs" ∈ NWL := nwl_t (tb_1 232 (by decide +kernel)) rfl
theorem n_f_X10_229 : Cond.fieldLinkNest "OppositePairs" 229 "OppositePairs$Matrix" "chosen" "[I" "OppositePairs" ∈ NWL := nwl_t (tb_2 60 (by decide +kernel)) rfl
theorem n_f_X10_232 : Cond.fieldLinkNest "OppositePairs" 232 "OppositePairs$Answers" "count" "I" "OppositePairs" ∈ NWL := nwl_t (tb_2 105 (by decide +kernel)) rfl
theorem n_f_X10_235 : Cond.fieldLinkNest "OppositePairs" 235 "OppositePairs$Answers" "start" "[I" "OppositePairs" ∈ NWL := nwl_t (tb_2 97 (by decide +kernel)) rfl
theorem n_f_X10_238 : Cond.fieldLinkNest "OppositePairs" 238 "OppositePairs$Answers" "depth" "[I" "OppositePairs" ∈ NWL := nwl_t (tb_2 99 (by decide +kernel)) rfl
theorem n_f_X10_241 : Cond.fieldLinkNest "OppositePairs" 241 "OppositePairs$Answers" "options" "[I" "OppositePairs" ∈ NWL := nwl_t (tb_2 101 (by decide +kernel)) rfl
theorem n_f_X10_244 : Cond.fieldLinkNest "OppositePairs" 244 "OppositePairs$Answers" "found" "[I" "OppositePairs" ∈ NWL := nwl_t (tb_2 103 (by decide +kernel)) rfl
theorem n_f_X10_271 : Cond.fieldLinkNest "OppositePairs" 271 "OppositePairs$Bonds" "trailed" "I" "OppositePairs" ∈ NWL := nwl_t (tb_1 139 (by decide +kernel)) rfl
theorem n_f_X10_67 : Cond.fieldLinkNest "OppositePairs" 67 "OppositePairs$Reader" "length" "I" "OppositePairs" ∈ NWL := nwl_t (tb_1 31 (by decide +kernel)) rfl
theorem n_f_X10_78 : Cond.fieldLinkNest "OppositePairs" 78 "OppositePairs$Reader" "fault" "I" "OppositePairs" ∈ NWL := nwl_t (tb_1 34 (by decide +kernel)) rfl
theorem n_f_X10_84 : Cond.fieldLinkNest "OppositePairs" 84 "OppositePairs$Told" "clauses" "I" "OppositePairs" ∈ NWL := nwl_t (tb_1 103 (by decide +kernel)) rfl
theorem n_f_X10_87 : Cond.fieldLinkNest "OppositePairs" 87 "OppositePairs$Reader" "place" "I" "OppositePairs" ∈ NWL := nwl_t (tb_1 36 (by decide +kernel)) rfl
theorem n_f_X10_97 : Cond.fieldLinkNest "OppositePairs" 97 "OppositePairs$Told" "literals" "[I" "OppositePairs" ∈ NWL := nwl_t (tb_1 93 (by decide +kernel)) rfl
theorem n_m_X10_111 : Cond.methodLinkNest "OppositePairs" 111 yX8_isLiteral "OppositePairs" ∈ NWL := nwl_t (tb_3 27 (by decide +kernel)) rfl
theorem n_m_X10_118 : Cond.methodLinkNest "OppositePairs" 118 yX8_part "OppositePairs" ∈ NWL := nwl_t (tb_3 14 (by decide +kernel)) rfl
theorem n_m_X10_125 : Cond.methodLinkNest "OppositePairs" 125 yX8_isPlus "OppositePairs" ∈ NWL := nwl_t (tb_3 36 (by decide +kernel)) rfl
theorem n_m_X10_128 : Cond.methodLinkNest "OppositePairs" 128 yX9_write "OppositePairs" ∈ NWL := nwl_t (tb_3 40 (by decide +kernel)) rfl
theorem n_m_X10_140 : Cond.methodLinkNest "OppositePairs" 140 yX8_all "OppositePairs" ∈ NWL := nwl_t (tb_3 131 (by decide +kernel)) rfl
theorem n_m_X10_226 : Cond.methodLinkNest "OppositePairs" 226 yX3_walk "OppositePairs" ∈ NWL := nwl_t (tb_4 165 (by decide +kernel)) rfl
theorem n_m_X10_259 : Cond.methodLinkNest "OppositePairs" 259 yX3_forget "OppositePairs" ∈ NWL := nwl_t (tb_2 219 (by decide +kernel)) rfl
theorem n_m_X10_262 : Cond.methodLinkNest "OppositePairs" 262 yX4_forgetCounts "OppositePairs" ∈ NWL := nwl_t (tb_3 158 (by decide +kernel)) rfl
theorem n_m_X10_265 : Cond.methodLinkNest "OppositePairs" 265 yX1_parts "OppositePairs" ∈ NWL := nwl_t (tb_3 18 (by decide +kernel)) rfl
theorem n_m_X10_268 : Cond.methodLinkNest "OppositePairs" 268 yX8_areOpposite "OppositePairs" ∈ NWL := nwl_t (tb_3 80 (by decide +kernel)) rfl
theorem n_m_X10_274 : Cond.methodLinkNest "OppositePairs" 274 yX1_unify "OppositePairs" ∈ NWL := nwl_t (tb_3 90 (by decide +kernel)) rfl
theorem n_m_X10_277 : Cond.methodLinkNest "OppositePairs" 277 yX1_undo "OppositePairs" ∈ NWL := nwl_t (tb_3 123 (by decide +kernel)) rfl
theorem n_m_X10_71 : Cond.methodLinkNest "OppositePairs" 71 yX5_take "OppositePairs" ∈ NWL := nwl_t (tb_2 150 (by decide +kernel)) rfl
theorem n_m_X10_75 : Cond.methodLinkNest "OppositePairs" 75 yX5_read "OppositePairs" ∈ NWL := nwl_t (tb_2 162 (by decide +kernel)) rfl
theorem n_m_X10_90 : Cond.methodLinkNest "OppositePairs" 90 yX8_isClause "OppositePairs" ∈ NWL := nwl_t (tb_2 231 (by decide +kernel)) rfl
theorem n_m_X10_94 : Cond.methodLinkNest "OppositePairs" 94 yX8_remove "OppositePairs" ∈ NWL := nwl_t (tb_2 235 (by decide +kernel)) rfl
theorem dX10_answer_0 : decode cX10_answer 0 = .ok (.iload_n 1, 1) := by decide +kernel
theorem dX10_answer_1 : decode cX10_answer 1 = .ok (.iconst (-1), 1) := by decide +kernel
theorem dX10_answer_100 : decode cX10_answer 100 = .ok (.iconst (-1), 1) := by decide +kernel
theorem dX10_answer_101 : decode cX10_answer 101 = .ok (.ireturn, 1) := by decide +kernel
theorem dX10_answer_12 : decode cX10_answer 12 = .ok (.ireturn, 1) := by decide +kernel
theorem dX10_answer_13 : decode cX10_answer 13 = .ok (.iload_n 1, 1) := by decide +kernel
theorem dX10_answer_14 : decode cX10_answer 14 = .ok (.ifCond .lt 14, 3) := by decide +kernel
theorem dX10_answer_17 : decode cX10_answer 17 = .ok (.iload_n 1, 1) := by decide +kernel
theorem dX10_answer_18 : decode cX10_answer 18 = .ok (.aload_n 0, 1) := by decide +kernel
theorem dX10_answer_19 : decode cX10_answer 19 = .ok (.getfield 63, 3) := by decide +kernel
theorem dX10_answer_2 : decode cX10_answer 2 = .ok (.if_icmp .ne 11, 3) := by decide +kernel
theorem dX10_answer_22 : decode cX10_answer 22 = .ok (.getfield 232, 3) := by decide +kernel
theorem dX10_answer_25 : decode cX10_answer 25 = .ok (.if_icmp .lt 5, 3) := by decide +kernel
theorem dX10_answer_28 : decode cX10_answer 28 = .ok (.iconst (-1), 1) := by decide +kernel
theorem dX10_answer_29 : decode cX10_answer 29 = .ok (.ireturn, 1) := by decide +kernel
theorem dX10_answer_30 : decode cX10_answer 30 = .ok (.iload_n 2, 1) := by decide +kernel
theorem dX10_answer_31 : decode cX10_answer 31 = .ok (.tableswitch 69 0 3 #[29, 39, 49, 59], 29) := by decide +kernel
theorem dX10_answer_5 : decode cX10_answer 5 = .ok (.aload_n 0, 1) := by decide +kernel
theorem dX10_answer_6 : decode cX10_answer 6 = .ok (.getfield 63, 3) := by decide +kernel
theorem dX10_answer_60 : decode cX10_answer 60 = .ok (.aload_n 0, 1) := by decide +kernel
theorem dX10_answer_61 : decode cX10_answer 61 = .ok (.getfield 63, 3) := by decide +kernel
theorem dX10_answer_64 : decode cX10_answer 64 = .ok (.getfield 235, 3) := by decide +kernel
theorem dX10_answer_67 : decode cX10_answer 67 = .ok (.iload_n 1, 1) := by decide +kernel
theorem dX10_answer_68 : decode cX10_answer 68 = .ok (.iaload, 1) := by decide +kernel
theorem dX10_answer_69 : decode cX10_answer 69 = .ok (.ireturn, 1) := by decide +kernel
theorem dX10_answer_70 : decode cX10_answer 70 = .ok (.aload_n 0, 1) := by decide +kernel
theorem dX10_answer_71 : decode cX10_answer 71 = .ok (.getfield 63, 3) := by decide +kernel
theorem dX10_answer_74 : decode cX10_answer 74 = .ok (.getfield 238, 3) := by decide +kernel
theorem dX10_answer_77 : decode cX10_answer 77 = .ok (.iload_n 1, 1) := by decide +kernel
theorem dX10_answer_78 : decode cX10_answer 78 = .ok (.iaload, 1) := by decide +kernel
theorem dX10_answer_79 : decode cX10_answer 79 = .ok (.ireturn, 1) := by decide +kernel
theorem dX10_answer_80 : decode cX10_answer 80 = .ok (.aload_n 0, 1) := by decide +kernel
theorem dX10_answer_81 : decode cX10_answer 81 = .ok (.getfield 63, 3) := by decide +kernel
theorem dX10_answer_84 : decode cX10_answer 84 = .ok (.getfield 241, 3) := by decide +kernel
theorem dX10_answer_87 : decode cX10_answer 87 = .ok (.iload_n 1, 1) := by decide +kernel
theorem dX10_answer_88 : decode cX10_answer 88 = .ok (.iaload, 1) := by decide +kernel
theorem dX10_answer_89 : decode cX10_answer 89 = .ok (.ireturn, 1) := by decide +kernel
theorem dX10_answer_9 : decode cX10_answer 9 = .ok (.getfield 232, 3) := by decide +kernel
theorem dX10_answer_90 : decode cX10_answer 90 = .ok (.aload_n 0, 1) := by decide +kernel
theorem dX10_answer_91 : decode cX10_answer 91 = .ok (.getfield 63, 3) := by decide +kernel
theorem dX10_answer_94 : decode cX10_answer 94 = .ok (.getfield 244, 3) := by decide +kernel
theorem dX10_answer_97 : decode cX10_answer 97 = .ok (.iload_n 1, 1) := by decide +kernel
theorem dX10_answer_98 : decode cX10_answer 98 = .ok (.iaload, 1) := by decide +kernel
theorem dX10_answer_99 : decode cX10_answer 99 = .ok (.ireturn, 1) := by decide +kernel
theorem dX10_begin_0 : decode cX10_begin 0 = .ok (.aload_n 0, 1) := by decide +kernel
theorem dX10_begin_1 : decode cX10_begin 1 = .ok (.getfield 56, 3) := by decide +kernel
theorem dX10_begin_11 : decode cX10_begin 11 = .ok (.invokevirtual 262, 3) := by decide +kernel
theorem dX10_begin_14 : decode cX10_begin 14 = .ok (.return_, 1) := by decide +kernel
theorem dX10_begin_4 : decode cX10_begin 4 = .ok (.invokevirtual 259, 3) := by decide +kernel
theorem dX10_begin_7 : decode cX10_begin 7 = .ok (.aload_n 0, 1) := by decide +kernel
theorem dX10_begin_8 : decode cX10_begin 8 = .ok (.getfield 47, 3) := by decide +kernel
theorem dX10_canBe_0 : decode cX10_canBe 0 = .ok (.iload_n 0, 1) := by decide +kernel
theorem dX10_canBe_1 : decode cX10_canBe 1 = .ok (.ifCond .lt 23, 3) := by decide +kernel
theorem dX10_canBe_10 : decode cX10_canBe 10 = .ok (.iload_n 1, 1) := by decide +kernel
theorem dX10_canBe_11 : decode cX10_canBe 11 = .ok (.ifCond .lt 13, 3) := by decide +kernel
theorem dX10_canBe_14 : decode cX10_canBe 14 = .ok (.iload_n 1, 1) := by decide +kernel
theorem dX10_canBe_15 : decode cX10_canBe 15 = .ok (.bipush 7, 2) := by decide +kernel
theorem dX10_canBe_17 : decode cX10_canBe 17 = .ok (.if_icmp .gt 7, 3) := by decide +kernel
theorem dX10_canBe_20 : decode cX10_canBe 20 = .ok (.iconst 1, 1) := by decide +kernel
theorem dX10_canBe_21 : decode cX10_canBe 21 = .ok (.goto 4, 3) := by decide +kernel
theorem dX10_canBe_24 : decode cX10_canBe 24 = .ok (.iconst 0, 1) := by decide +kernel
theorem dX10_canBe_25 : decode cX10_canBe 25 = .ok (.ireturn, 1) := by decide +kernel
theorem dX10_canBe_4 : decode cX10_canBe 4 = .ok (.iload_n 0, 1) := by decide +kernel
theorem dX10_canBe_5 : decode cX10_canBe 5 = .ok (.bipush 20, 2) := by decide +kernel
theorem dX10_canBe_7 : decode cX10_canBe 7 = .ok (.if_icmp .gt 17, 3) := by decide +kernel
theorem dX10_clause_0 : decode cX10_clause 0 = .ok (.aload_n 0, 1) := by decide +kernel
theorem dX10_clause_1 : decode cX10_clause 1 = .ok (.getfield 19, 3) := by decide +kernel
theorem dX10_clause_101 : decode cX10_clause 101 = .ok (.iconst (-1), 1) := by decide +kernel
theorem dX10_clause_102 : decode cX10_clause 102 = .ok (.ireturn, 1) := by decide +kernel
theorem dX10_clause_103 : decode cX10_clause 103 = .ok (.aload_n 0, 1) := by decide +kernel
theorem dX10_clause_104 : decode cX10_clause 104 = .ok (.getfield 19, 3) := by decide +kernel
theorem dX10_clause_107 : decode cX10_clause 107 = .ok (.getfield 115, 3) := by decide +kernel
theorem dX10_clause_11 : decode cX10_clause 11 = .ok (.iconst (-1), 1) := by decide +kernel
theorem dX10_clause_110 : decode cX10_clause 110 = .ok (.aload_n 0, 1) := by decide +kernel
theorem dX10_clause_111 : decode cX10_clause 111 = .ok (.getfield 19, 3) := by decide +kernel
theorem dX10_clause_114 : decode cX10_clause 114 = .ok (.iload_n 1, 1) := by decide +kernel
theorem dX10_clause_115 : decode cX10_clause 115 = .ok (.iload_n 2, 1) := by decide +kernel
theorem dX10_clause_116 : decode cX10_clause 116 = .ok (.bipush 10, 2) := by decide +kernel
theorem dX10_clause_118 : decode cX10_clause 118 = .ok (.isub, 1) := by decide +kernel
theorem dX10_clause_119 : decode cX10_clause 119 = .ok (.invokevirtual 118, 3) := by decide +kernel
theorem dX10_clause_12 : decode cX10_clause 12 = .ok (.ireturn, 1) := by decide +kernel
theorem dX10_clause_122 : decode cX10_clause 122 = .ok (.iaload, 1) := by decide +kernel
theorem dX10_clause_123 : decode cX10_clause 123 = .ok (.ireturn, 1) := by decide +kernel
theorem dX10_clause_13 : decode cX10_clause 13 = .ok (.iload_n 2, 1) := by decide +kernel
theorem dX10_clause_14 : decode cX10_clause 14 = .ok (.tableswitch 66 0 3 #[30, 40, 50, 56], 30) := by decide +kernel
theorem dX10_clause_4 : decode cX10_clause 4 = .ok (.iload_n 1, 1) := by decide +kernel
theorem dX10_clause_44 : decode cX10_clause 44 = .ok (.aload_n 0, 1) := by decide +kernel
theorem dX10_clause_45 : decode cX10_clause 45 = .ok (.getfield 19, 3) := by decide +kernel
theorem dX10_clause_48 : decode cX10_clause 48 = .ok (.getfield 97, 3) := by decide +kernel
theorem dX10_clause_5 : decode cX10_clause 5 = .ok (.invokevirtual 90, 3) := by decide +kernel
theorem dX10_clause_51 : decode cX10_clause 51 = .ok (.iload_n 1, 1) := by decide +kernel
theorem dX10_clause_52 : decode cX10_clause 52 = .ok (.iaload, 1) := by decide +kernel
theorem dX10_clause_53 : decode cX10_clause 53 = .ok (.ireturn, 1) := by decide +kernel
theorem dX10_clause_54 : decode cX10_clause 54 = .ok (.aload_n 0, 1) := by decide +kernel
theorem dX10_clause_55 : decode cX10_clause 55 = .ok (.getfield 19, 3) := by decide +kernel
theorem dX10_clause_58 : decode cX10_clause 58 = .ok (.getfield 101, 3) := by decide +kernel
theorem dX10_clause_61 : decode cX10_clause 61 = .ok (.iload_n 1, 1) := by decide +kernel
theorem dX10_clause_62 : decode cX10_clause 62 = .ok (.iaload, 1) := by decide +kernel
theorem dX10_clause_63 : decode cX10_clause 63 = .ok (.ireturn, 1) := by decide +kernel
theorem dX10_clause_64 : decode cX10_clause 64 = .ok (.aload_n 0, 1) := by decide +kernel
theorem dX10_clause_65 : decode cX10_clause 65 = .ok (.iload_n 1, 1) := by decide +kernel
theorem dX10_clause_66 : decode cX10_clause 66 = .ok (.invokevirtual 104, 3) := by decide +kernel
theorem dX10_clause_69 : decode cX10_clause 69 = .ok (.ireturn, 1) := by decide +kernel
theorem dX10_clause_70 : decode cX10_clause 70 = .ok (.aload_n 0, 1) := by decide +kernel
theorem dX10_clause_71 : decode cX10_clause 71 = .ok (.getfield 19, 3) := by decide +kernel
theorem dX10_clause_74 : decode cX10_clause 74 = .ok (.getfield 108, 3) := by decide +kernel
theorem dX10_clause_77 : decode cX10_clause 77 = .ok (.iload_n 1, 1) := by decide +kernel
theorem dX10_clause_78 : decode cX10_clause 78 = .ok (.iaload, 1) := by decide +kernel
theorem dX10_clause_79 : decode cX10_clause 79 = .ok (.ireturn, 1) := by decide +kernel
theorem dX10_clause_8 : decode cX10_clause 8 = .ok (.ifCond .ne 5, 3) := by decide +kernel
theorem dX10_clause_80 : decode cX10_clause 80 = .ok (.iload_n 2, 1) := by decide +kernel
theorem dX10_clause_81 : decode cX10_clause 81 = .ok (.bipush 10, 2) := by decide +kernel
theorem dX10_clause_83 : decode cX10_clause 83 = .ok (.if_icmp .lt 18, 3) := by decide +kernel
theorem dX10_clause_86 : decode cX10_clause 86 = .ok (.aload_n 0, 1) := by decide +kernel
theorem dX10_clause_87 : decode cX10_clause 87 = .ok (.getfield 19, 3) := by decide +kernel
theorem dX10_clause_90 : decode cX10_clause 90 = .ok (.iload_n 1, 1) := by decide +kernel
theorem dX10_clause_91 : decode cX10_clause 91 = .ok (.iload_n 2, 1) := by decide +kernel
theorem dX10_clause_92 : decode cX10_clause 92 = .ok (.bipush 10, 2) := by decide +kernel
theorem dX10_clause_94 : decode cX10_clause 94 = .ok (.isub, 1) := by decide +kernel
theorem dX10_clause_95 : decode cX10_clause 95 = .ok (.invokevirtual 111, 3) := by decide +kernel
theorem dX10_clause_98 : decode cX10_clause 98 = .ok (.ifCond .ne 5, 3) := by decide +kernel
theorem dX10_clauses_0 : decode cX10_clauses 0 = .ok (.aload_n 0, 1) := by decide +kernel
theorem dX10_clauses_1 : decode cX10_clauses 1 = .ok (.getfield 12, 3) := by decide +kernel
theorem dX10_clauses_11 : decode cX10_clauses 11 = .ok (.aload_n 0, 1) := by decide +kernel
theorem dX10_clauses_12 : decode cX10_clauses 12 = .ok (.getfield 12, 3) := by decide +kernel
theorem dX10_clauses_15 : decode cX10_clauses 15 = .ok (.getfield 78, 3) := by decide +kernel
theorem dX10_clauses_18 : decode cX10_clauses 18 = .ok (.ifCond .ne 7, 3) := by decide +kernel
theorem dX10_clauses_21 : decode cX10_clauses 21 = .ok (.iconst 1, 1) := by decide +kernel
theorem dX10_clauses_22 : decode cX10_clauses 22 = .ok (.goto 4, 3) := by decide +kernel
theorem dX10_clauses_25 : decode cX10_clauses 25 = .ok (.iconst 0, 1) := by decide +kernel
theorem dX10_clauses_26 : decode cX10_clauses 26 = .ok (.istore_n 1, 1) := by decide +kernel
theorem dX10_clauses_27 : decode cX10_clauses 27 = .ok (.iload_n 1, 1) := by decide +kernel
theorem dX10_clauses_28 : decode cX10_clauses 28 = .ok (.ifCond .eq 18, 3) := by decide +kernel
theorem dX10_clauses_31 : decode cX10_clauses 31 = .ok (.aload_n 0, 1) := by decide +kernel
theorem dX10_clauses_32 : decode cX10_clauses 32 = .ok (.getfield 12, 3) := by decide +kernel
theorem dX10_clauses_35 : decode cX10_clauses 35 = .ok (.aload_n 0, 1) := by decide +kernel
theorem dX10_clauses_36 : decode cX10_clauses 36 = .ok (.getfield 19, 3) := by decide +kernel
theorem dX10_clauses_39 : decode cX10_clauses 39 = .ok (.invokevirtual 75, 3) := by decide +kernel
theorem dX10_clauses_4 : decode cX10_clauses 4 = .ok (.aload_n 0, 1) := by decide +kernel
theorem dX10_clauses_42 : decode cX10_clauses 42 = .ok (.aload_n 0, 1) := by decide +kernel
theorem dX10_clauses_43 : decode cX10_clauses 43 = .ok (.invokevirtual 81, 3) := by decide +kernel
theorem dX10_clauses_46 : decode cX10_clauses 46 = .ok (.aload_n 0, 1) := by decide +kernel
theorem dX10_clauses_47 : decode cX10_clauses 47 = .ok (.getfield 12, 3) := by decide +kernel
theorem dX10_clauses_5 : decode cX10_clauses 5 = .ok (.getfield 23, 3) := by decide +kernel
theorem dX10_clauses_50 : decode cX10_clauses 50 = .ok (.iconst 0, 1) := by decide +kernel
theorem dX10_clauses_51 : decode cX10_clauses 51 = .ok (.putfield 67, 3) := by decide +kernel
theorem dX10_clauses_54 : decode cX10_clauses 54 = .ok (.iload_n 1, 1) := by decide +kernel
theorem dX10_clauses_55 : decode cX10_clauses 55 = .ok (.ifCond .eq 13, 3) := by decide +kernel
theorem dX10_clauses_58 : decode cX10_clauses 58 = .ok (.aload_n 0, 1) := by decide +kernel
theorem dX10_clauses_59 : decode cX10_clauses 59 = .ok (.getfield 19, 3) := by decide +kernel
theorem dX10_clauses_62 : decode cX10_clauses 62 = .ok (.getfield 84, 3) := by decide +kernel
theorem dX10_clauses_65 : decode cX10_clauses 65 = .ok (.goto 4, 3) := by decide +kernel
theorem dX10_clauses_68 : decode cX10_clauses 68 = .ok (.iconst (-1), 1) := by decide +kernel
theorem dX10_clauses_69 : decode cX10_clauses 69 = .ok (.ireturn, 1) := by decide +kernel
theorem dX10_clauses_8 : decode cX10_clauses 8 = .ok (.invokevirtual 75, 3) := by decide +kernel
theorem dX10_closed_0 : decode cX10_closed 0 = .ok (.aload_n 0, 1) := by decide +kernel
theorem dX10_closed_1 : decode cX10_closed 1 = .ok (.getfield 47, 3) := by decide +kernel
theorem dX10_closed_10 : decode cX10_closed 10 = .ok (.iload_n 1, 1) := by decide +kernel
theorem dX10_closed_11 : decode cX10_closed 11 = .ok (.iconst (-1), 1) := by decide +kernel
theorem dX10_closed_12 : decode cX10_closed 12 = .ok (.if_icmp .eq 13, 3) := by decide +kernel
theorem dX10_closed_15 : decode cX10_closed 15 = .ok (.aload_n 0, 1) := by decide +kernel
theorem dX10_closed_16 : decode cX10_closed 16 = .ok (.iload_n 1, 1) := by decide +kernel
theorem dX10_closed_17 : decode cX10_closed 17 = .ok (.invokevirtual 220, 3) := by decide +kernel
theorem dX10_closed_20 : decode cX10_closed 20 = .ok (.ifCond .ne 5, 3) := by decide +kernel
theorem dX10_closed_23 : decode cX10_closed 23 = .ok (.iconst (-1), 1) := by decide +kernel
theorem dX10_closed_24 : decode cX10_closed 24 = .ok (.ireturn, 1) := by decide +kernel
theorem dX10_closed_25 : decode cX10_closed 25 = .ok (.aload_n 0, 1) := by decide +kernel
theorem dX10_closed_26 : decode cX10_closed 26 = .ok (.getfield 56, 3) := by decide +kernel
theorem dX10_closed_29 : decode cX10_closed 29 = .ok (.iload_n 1, 1) := by decide +kernel
theorem dX10_closed_30 : decode cX10_closed 30 = .ok (.invokevirtual 226, 3) := by decide +kernel
theorem dX10_closed_33 : decode cX10_closed 33 = .ok (.ireturn, 1) := by decide +kernel
theorem dX10_closed_4 : decode cX10_closed 4 = .ok (.getfield 175, 3) := by decide +kernel
theorem dX10_closed_7 : decode cX10_closed 7 = .ok (.ifCond .eq 16, 3) := by decide +kernel
theorem dX10_drop_0 : decode cX10_drop 0 = .ok (.aload_n 0, 1) := by decide +kernel
theorem dX10_drop_1 : decode cX10_drop 1 = .ok (.getfield 19, 3) := by decide +kernel
theorem dX10_drop_11 : decode cX10_drop 11 = .ok (.iconst 0, 1) := by decide +kernel
theorem dX10_drop_12 : decode cX10_drop 12 = .ok (.ireturn, 1) := by decide +kernel
theorem dX10_drop_13 : decode cX10_drop 13 = .ok (.aload_n 0, 1) := by decide +kernel
theorem dX10_drop_14 : decode cX10_drop 14 = .ok (.getfield 19, 3) := by decide +kernel
theorem dX10_drop_17 : decode cX10_drop 17 = .ok (.iload_n 1, 1) := by decide +kernel
theorem dX10_drop_18 : decode cX10_drop 18 = .ok (.invokevirtual 94, 3) := by decide +kernel
theorem dX10_drop_21 : decode cX10_drop 21 = .ok (.aload_n 0, 1) := by decide +kernel
theorem dX10_drop_22 : decode cX10_drop 22 = .ok (.invokevirtual 81, 3) := by decide +kernel
theorem dX10_drop_25 : decode cX10_drop 25 = .ok (.iconst 1, 1) := by decide +kernel
theorem dX10_drop_26 : decode cX10_drop 26 = .ok (.ireturn, 1) := by decide +kernel
theorem dX10_drop_4 : decode cX10_drop 4 = .ok (.iload_n 1, 1) := by decide +kernel
theorem dX10_drop_5 : decode cX10_drop 5 = .ok (.invokevirtual 90, 3) := by decide +kernel
theorem dX10_drop_8 : decode cX10_drop 8 = .ok (.ifCond .ne 5, 3) := by decide +kernel
theorem dX10_end_0 : decode cX10_end 0 = .ok (.iload_n 1, 1) := by decide +kernel
theorem dX10_end_1 : decode cX10_end 1 = .ok (.ifCond .lt 14, 3) := by decide +kernel
theorem dX10_end_12 : decode cX10_end 12 = .ok (.if_icmp .le 5, 3) := by decide +kernel
theorem dX10_end_15 : decode cX10_end 15 = .ok (.iconst 0, 1) := by decide +kernel
theorem dX10_end_16 : decode cX10_end 16 = .ok (.ireturn, 1) := by decide +kernel
theorem dX10_end_17 : decode cX10_end 17 = .ok (.aload_n 0, 1) := by decide +kernel
theorem dX10_end_18 : decode cX10_end 18 = .ok (.getfield 12, 3) := by decide +kernel
theorem dX10_end_21 : decode cX10_end 21 = .ok (.iload_n 1, 1) := by decide +kernel
theorem dX10_end_22 : decode cX10_end 22 = .ok (.putfield 67, 3) := by decide +kernel
theorem dX10_end_25 : decode cX10_end 25 = .ok (.iconst 1, 1) := by decide +kernel
theorem dX10_end_26 : decode cX10_end 26 = .ok (.ireturn, 1) := by decide +kernel
theorem dX10_end_4 : decode cX10_end 4 = .ok (.iload_n 1, 1) := by decide +kernel
theorem dX10_end_5 : decode cX10_end 5 = .ok (.aload_n 0, 1) := by decide +kernel
theorem dX10_end_6 : decode cX10_end 6 = .ok (.getfield 12, 3) := by decide +kernel
theorem dX10_end_9 : decode cX10_end 9 = .ok (.getfield 67, 3) := by decide +kernel
theorem dX10_fault_0 : decode cX10_fault 0 = .ok (.iload_n 1, 1) := by decide +kernel
theorem dX10_fault_1 : decode cX10_fault 1 = .ok (.lookupswitch 43 #[(0, 27), (1, 35)], 27) := by decide +kernel
theorem dX10_fault_28 : decode cX10_fault 28 = .ok (.aload_n 0, 1) := by decide +kernel
theorem dX10_fault_29 : decode cX10_fault 29 = .ok (.getfield 12, 3) := by decide +kernel
theorem dX10_fault_32 : decode cX10_fault 32 = .ok (.getfield 78, 3) := by decide +kernel
theorem dX10_fault_35 : decode cX10_fault 35 = .ok (.ireturn, 1) := by decide +kernel
theorem dX10_fault_36 : decode cX10_fault 36 = .ok (.aload_n 0, 1) := by decide +kernel
theorem dX10_fault_37 : decode cX10_fault 37 = .ok (.getfield 12, 3) := by decide +kernel
theorem dX10_fault_40 : decode cX10_fault 40 = .ok (.getfield 87, 3) := by decide +kernel
theorem dX10_fault_43 : decode cX10_fault 43 = .ok (.ireturn, 1) := by decide +kernel
theorem dX10_fault_44 : decode cX10_fault 44 = .ok (.iconst (-1), 1) := by decide +kernel
theorem dX10_fault_45 : decode cX10_fault 45 = .ok (.ireturn, 1) := by decide +kernel
theorem dX10_feed_0 : decode cX10_feed 0 = .ok (.aload_n 0, 1) := by decide +kernel
theorem dX10_feed_1 : decode cX10_feed 1 = .ok (.getfield 12, 3) := by decide +kernel
theorem dX10_feed_10 : decode cX10_feed 10 = .ok (.sipush 600, 3) := by decide +kernel
theorem dX10_feed_13 : decode cX10_feed 13 = .ok (.if_icmp .le 5, 3) := by decide +kernel
theorem dX10_feed_16 : decode cX10_feed 16 = .ok (.iconst (-1), 1) := by decide +kernel
theorem dX10_feed_17 : decode cX10_feed 17 = .ok (.ireturn, 1) := by decide +kernel
theorem dX10_feed_18 : decode cX10_feed 18 = .ok (.aload_n 0, 1) := by decide +kernel
theorem dX10_feed_19 : decode cX10_feed 19 = .ok (.getfield 12, 3) := by decide +kernel
theorem dX10_feed_22 : decode cX10_feed 22 = .ok (.iload_n 1, 1) := by decide +kernel
theorem dX10_feed_23 : decode cX10_feed 23 = .ok (.invokevirtual 71, 3) := by decide +kernel
theorem dX10_feed_26 : decode cX10_feed 26 = .ok (.aload_n 0, 1) := by decide +kernel
theorem dX10_feed_27 : decode cX10_feed 27 = .ok (.getfield 12, 3) := by decide +kernel
theorem dX10_feed_30 : decode cX10_feed 30 = .ok (.iload_n 2, 1) := by decide +kernel
theorem dX10_feed_31 : decode cX10_feed 31 = .ok (.invokevirtual 71, 3) := by decide +kernel
theorem dX10_feed_34 : decode cX10_feed 34 = .ok (.aload_n 0, 1) := by decide +kernel
theorem dX10_feed_35 : decode cX10_feed 35 = .ok (.getfield 12, 3) := by decide +kernel
theorem dX10_feed_38 : decode cX10_feed 38 = .ok (.iload_n 3, 1) := by decide +kernel
theorem dX10_feed_39 : decode cX10_feed 39 = .ok (.invokevirtual 71, 3) := by decide +kernel
theorem dX10_feed_4 : decode cX10_feed 4 = .ok (.getfield 67, 3) := by decide +kernel
theorem dX10_feed_42 : decode cX10_feed 42 = .ok (.aload_n 0, 1) := by decide +kernel
theorem dX10_feed_43 : decode cX10_feed 43 = .ok (.getfield 12, 3) := by decide +kernel
theorem dX10_feed_46 : decode cX10_feed 46 = .ok (.iload 4, 2) := by decide +kernel
theorem dX10_feed_48 : decode cX10_feed 48 = .ok (.invokevirtual 71, 3) := by decide +kernel
theorem dX10_feed_51 : decode cX10_feed 51 = .ok (.aload_n 0, 1) := by decide +kernel
theorem dX10_feed_52 : decode cX10_feed 52 = .ok (.getfield 12, 3) := by decide +kernel
theorem dX10_feed_55 : decode cX10_feed 55 = .ok (.iload 5, 2) := by decide +kernel
theorem dX10_feed_57 : decode cX10_feed 57 = .ok (.invokevirtual 71, 3) := by decide +kernel
theorem dX10_feed_60 : decode cX10_feed 60 = .ok (.aload_n 0, 1) := by decide +kernel
theorem dX10_feed_61 : decode cX10_feed 61 = .ok (.getfield 12, 3) := by decide +kernel
theorem dX10_feed_64 : decode cX10_feed 64 = .ok (.getfield 67, 3) := by decide +kernel
theorem dX10_feed_67 : decode cX10_feed 67 = .ok (.ireturn, 1) := by decide +kernel
theorem dX10_feed_7 : decode cX10_feed 7 = .ok (.bipush 20, 2) := by decide +kernel
theorem dX10_feed_9 : decode cX10_feed 9 = .ok (.iadd, 1) := by decide +kernel
theorem dX10_forgetAll_0 : decode cX10_forgetAll 0 = .ok (.aload_n 0, 1) := by decide +kernel
theorem dX10_forgetAll_1 : decode cX10_forgetAll 1 = .ok (.getfield 47, 3) := by decide +kernel
theorem dX10_forgetAll_12 : decode cX10_forgetAll 12 = .ok (.invokevirtual 259, 3) := by decide +kernel
theorem dX10_forgetAll_15 : decode cX10_forgetAll 15 = .ok (.aload_n 0, 1) := by decide +kernel
theorem dX10_forgetAll_16 : decode cX10_forgetAll 16 = .ok (.getfield 63, 3) := by decide +kernel
theorem dX10_forgetAll_19 : decode cX10_forgetAll 19 = .ok (.iconst 0, 1) := by decide +kernel
theorem dX10_forgetAll_20 : decode cX10_forgetAll 20 = .ok (.putfield 232, 3) := by decide +kernel
theorem dX10_forgetAll_23 : decode cX10_forgetAll 23 = .ok (.return_, 1) := by decide +kernel
theorem dX10_forgetAll_4 : decode cX10_forgetAll 4 = .ok (.iconst 0, 1) := by decide +kernel
theorem dX10_forgetAll_5 : decode cX10_forgetAll 5 = .ok (.putfield 175, 3) := by decide +kernel
theorem dX10_forgetAll_8 : decode cX10_forgetAll 8 = .ok (.aload_n 0, 1) := by decide +kernel
theorem dX10_forgetAll_9 : decode cX10_forgetAll 9 = .ok (.getfield 56, 3) := by decide +kernel
theorem dX10_hasLonely_0 : decode cX10_hasLonely 0 = .ok (.iconst 0, 1) := by decide +kernel
theorem dX10_hasLonely_1 : decode cX10_hasLonely 1 = .ok (.istore_n 3, 1) := by decide +kernel
theorem dX10_hasLonely_10 : decode cX10_hasLonely 10 = .ok (.iload_n 1, 1) := by decide +kernel
theorem dX10_hasLonely_11 : decode cX10_hasLonely 11 = .ok (.iaload, 1) := by decide +kernel
theorem dX10_hasLonely_12 : decode cX10_hasLonely 12 = .ok (.if_icmp .ge 21, 3) := by decide +kernel
theorem dX10_hasLonely_15 : decode cX10_hasLonely 15 = .ok (.aload_n 0, 1) := by decide +kernel
theorem dX10_hasLonely_16 : decode cX10_hasLonely 16 = .ok (.iload_n 1, 1) := by decide +kernel
theorem dX10_hasLonely_17 : decode cX10_hasLonely 17 = .ok (.iload_n 3, 1) := by decide +kernel
theorem dX10_hasLonely_18 : decode cX10_hasLonely 18 = .ok (.iload_n 2, 1) := by decide +kernel
theorem dX10_hasLonely_19 : decode cX10_hasLonely 19 = .ok (.invokevirtual 144, 3) := by decide +kernel
theorem dX10_hasLonely_2 : decode cX10_hasLonely 2 = .ok (.iload_n 3, 1) := by decide +kernel
theorem dX10_hasLonely_22 : decode cX10_hasLonely 22 = .ok (.ifCond .ne 5, 3) := by decide +kernel
theorem dX10_hasLonely_25 : decode cX10_hasLonely 25 = .ok (.iconst 1, 1) := by decide +kernel
theorem dX10_hasLonely_26 : decode cX10_hasLonely 26 = .ok (.ireturn, 1) := by decide +kernel
theorem dX10_hasLonely_27 : decode cX10_hasLonely 27 = .ok (.iinc 3 1, 3) := by decide +kernel
theorem dX10_hasLonely_3 : decode cX10_hasLonely 3 = .ok (.aload_n 0, 1) := by decide +kernel
theorem dX10_hasLonely_30 : decode cX10_hasLonely 30 = .ok (.goto (-28), 3) := by decide +kernel
theorem dX10_hasLonely_33 : decode cX10_hasLonely 33 = .ok (.iconst 0, 1) := by decide +kernel
theorem dX10_hasLonely_34 : decode cX10_hasLonely 34 = .ok (.ireturn, 1) := by decide +kernel
theorem dX10_hasLonely_4 : decode cX10_hasLonely 4 = .ok (.getfield 19, 3) := by decide +kernel
theorem dX10_hasLonely_7 : decode cX10_hasLonely 7 = .ok (.getfield 97, 3) := by decide +kernel
theorem dX10_instance_0 : decode cX10_instance 0 = .ok (.aload_n 0, 1) := by decide +kernel
theorem dX10_instance_1 : decode cX10_instance 1 = .ok (.getfield 47, 3) := by decide +kernel
theorem dX10_instance_10 : decode cX10_instance 10 = .ok (.iconst (-1), 1) := by decide +kernel
theorem dX10_instance_11 : decode cX10_instance 11 = .ok (.ireturn, 1) := by decide +kernel
theorem dX10_instance_12 : decode cX10_instance 12 = .ok (.iload_n 1, 1) := by decide +kernel
theorem dX10_instance_13 : decode cX10_instance 13 = .ok (.iconst (-1), 1) := by decide +kernel
theorem dX10_instance_14 : decode cX10_instance 14 = .ok (.if_icmp .ne 11, 3) := by decide +kernel
theorem dX10_instance_17 : decode cX10_instance 17 = .ok (.aload_n 0, 1) := by decide +kernel
theorem dX10_instance_18 : decode cX10_instance 18 = .ok (.getfield 47, 3) := by decide +kernel
theorem dX10_instance_21 : decode cX10_instance 21 = .ok (.getfield 217, 3) := by decide +kernel
theorem dX10_instance_24 : decode cX10_instance 24 = .ok (.ireturn, 1) := by decide +kernel
theorem dX10_instance_25 : decode cX10_instance 25 = .ok (.aload_n 0, 1) := by decide +kernel
theorem dX10_instance_26 : decode cX10_instance 26 = .ok (.iload_n 1, 1) := by decide +kernel
theorem dX10_instance_27 : decode cX10_instance 27 = .ok (.invokevirtual 220, 3) := by decide +kernel
theorem dX10_instance_30 : decode cX10_instance 30 = .ok (.ifCond .eq 15, 3) := by decide +kernel
theorem dX10_instance_33 : decode cX10_instance 33 = .ok (.aload_n 0, 1) := by decide +kernel
theorem dX10_instance_34 : decode cX10_instance 34 = .ok (.getfield 47, 3) := by decide +kernel
theorem dX10_instance_37 : decode cX10_instance 37 = .ok (.getfield 223, 3) := by decide +kernel
theorem dX10_instance_4 : decode cX10_instance 4 = .ok (.getfield 175, 3) := by decide +kernel
theorem dX10_instance_40 : decode cX10_instance 40 = .ok (.iload_n 1, 1) := by decide +kernel
theorem dX10_instance_41 : decode cX10_instance 41 = .ok (.iaload, 1) := by decide +kernel
theorem dX10_instance_42 : decode cX10_instance 42 = .ok (.goto 4, 3) := by decide +kernel
theorem dX10_instance_45 : decode cX10_instance 45 = .ok (.iconst (-1), 1) := by decide +kernel
theorem dX10_instance_46 : decode cX10_instance 46 = .ok (.ireturn, 1) := by decide +kernel
theorem dX10_instance_7 : decode cX10_instance 7 = .ok (.ifCond .ne 5, 3) := by decide +kernel
theorem dX10_isInstance_0 : decode cX10_isInstance 0 = .ok (.aload_n 0, 1) := by decide +kernel
theorem dX10_isInstance_1 : decode cX10_isInstance 1 = .ok (.getfield 47, 3) := by decide +kernel
theorem dX10_isInstance_10 : decode cX10_isInstance 10 = .ok (.iload_n 1, 1) := by decide +kernel
theorem dX10_isInstance_11 : decode cX10_isInstance 11 = .ok (.ifCond .lt 18, 3) := by decide +kernel
theorem dX10_isInstance_14 : decode cX10_isInstance 14 = .ok (.iload_n 1, 1) := by decide +kernel
theorem dX10_isInstance_15 : decode cX10_isInstance 15 = .ok (.aload_n 0, 1) := by decide +kernel
theorem dX10_isInstance_16 : decode cX10_isInstance 16 = .ok (.getfield 47, 3) := by decide +kernel
theorem dX10_isInstance_19 : decode cX10_isInstance 19 = .ok (.getfield 217, 3) := by decide +kernel
theorem dX10_isInstance_22 : decode cX10_isInstance 22 = .ok (.if_icmp .ge 7, 3) := by decide +kernel
theorem dX10_isInstance_25 : decode cX10_isInstance 25 = .ok (.iconst 1, 1) := by decide +kernel
theorem dX10_isInstance_26 : decode cX10_isInstance 26 = .ok (.goto 4, 3) := by decide +kernel
theorem dX10_isInstance_29 : decode cX10_isInstance 29 = .ok (.iconst 0, 1) := by decide +kernel
theorem dX10_isInstance_30 : decode cX10_isInstance 30 = .ok (.ireturn, 1) := by decide +kernel
theorem dX10_isInstance_4 : decode cX10_isInstance 4 = .ok (.getfield 175, 3) := by decide +kernel
theorem dX10_isInstance_7 : decode cX10_isInstance 7 = .ok (.ifCond .eq 22, 3) := by decide +kernel
theorem dX10_meeting_0 : decode cX10_meeting 0 = .ok (.aload_n 0, 1) := by decide +kernel
theorem dX10_meeting_1 : decode cX10_meeting 1 = .ok (.getfield 19, 3) := by decide +kernel
theorem dX10_meeting_12 : decode cX10_meeting 12 = .ok (.ifCond .ne 5, 3) := by decide +kernel
theorem dX10_meeting_15 : decode cX10_meeting 15 = .ok (.iconst 0, 1) := by decide +kernel
theorem dX10_meeting_16 : decode cX10_meeting 16 = .ok (.ireturn, 1) := by decide +kernel
theorem dX10_meeting_17 : decode cX10_meeting 17 = .ok (.aload_n 0, 1) := by decide +kernel
theorem dX10_meeting_18 : decode cX10_meeting 18 = .ok (.getfield 31, 3) := by decide +kernel
theorem dX10_meeting_21 : decode cX10_meeting 21 = .ok (.getfield 271, 3) := by decide +kernel
theorem dX10_meeting_24 : decode cX10_meeting 24 = .ok (.istore 5, 2) := by decide +kernel
theorem dX10_meeting_26 : decode cX10_meeting 26 = .ok (.aload_n 0, 1) := by decide +kernel
theorem dX10_meeting_27 : decode cX10_meeting 27 = .ok (.getfield 31, 3) := by decide +kernel
theorem dX10_meeting_30 : decode cX10_meeting 30 = .ok (.aload_n 0, 1) := by decide +kernel
theorem dX10_meeting_31 : decode cX10_meeting 31 = .ok (.bipush 30, 2) := by decide +kernel
theorem dX10_meeting_33 : decode cX10_meeting 33 = .ok (.iload_n 1, 1) := by decide +kernel
theorem dX10_meeting_34 : decode cX10_meeting 34 = .ok (.iload_n 2, 1) := by decide +kernel
theorem dX10_meeting_35 : decode cX10_meeting 35 = .ok (.invokevirtual 122, 3) := by decide +kernel
theorem dX10_meeting_38 : decode cX10_meeting 38 = .ok (.aload_n 0, 1) := by decide +kernel
theorem dX10_meeting_39 : decode cX10_meeting 39 = .ok (.bipush 31, 2) := by decide +kernel
theorem dX10_meeting_4 : decode cX10_meeting 4 = .ok (.iload_n 1, 1) := by decide +kernel
theorem dX10_meeting_41 : decode cX10_meeting 41 = .ok (.iload_n 3, 1) := by decide +kernel
theorem dX10_meeting_42 : decode cX10_meeting 42 = .ok (.iload 4, 2) := by decide +kernel
theorem dX10_meeting_44 : decode cX10_meeting 44 = .ok (.invokevirtual 122, 3) := by decide +kernel
theorem dX10_meeting_47 : decode cX10_meeting 47 = .ok (.invokevirtual 274, 3) := by decide +kernel
theorem dX10_meeting_5 : decode cX10_meeting 5 = .ok (.iload_n 2, 1) := by decide +kernel
theorem dX10_meeting_50 : decode cX10_meeting 50 = .ok (.istore 6, 2) := by decide +kernel
theorem dX10_meeting_52 : decode cX10_meeting 52 = .ok (.aload_n 0, 1) := by decide +kernel
theorem dX10_meeting_53 : decode cX10_meeting 53 = .ok (.getfield 31, 3) := by decide +kernel
theorem dX10_meeting_56 : decode cX10_meeting 56 = .ok (.iload 5, 2) := by decide +kernel
theorem dX10_meeting_58 : decode cX10_meeting 58 = .ok (.invokevirtual 277, 3) := by decide +kernel
theorem dX10_meeting_6 : decode cX10_meeting 6 = .ok (.iload_n 3, 1) := by decide +kernel
theorem dX10_meeting_61 : decode cX10_meeting 61 = .ok (.iload 6, 2) := by decide +kernel
theorem dX10_meeting_63 : decode cX10_meeting 63 = .ok (.ireturn, 1) := by decide +kernel
theorem dX10_meeting_7 : decode cX10_meeting 7 = .ok (.iload 4, 2) := by decide +kernel
theorem dX10_meeting_9 : decode cX10_meeting 9 = .ok (.invokevirtual 268, 3) := by decide +kernel
theorem dX10_meets_0 : decode cX10_meets 0 = .ok (.aload_n 0, 1) := by decide +kernel
theorem dX10_meets_1 : decode cX10_meets 1 = .ok (.getfield 19, 3) := by decide +kernel
theorem dX10_meets_12 : decode cX10_meets 12 = .ok (.aload_n 0, 1) := by decide +kernel
theorem dX10_meets_13 : decode cX10_meets 13 = .ok (.getfield 19, 3) := by decide +kernel
theorem dX10_meets_16 : decode cX10_meets 16 = .ok (.iload_n 3, 1) := by decide +kernel
theorem dX10_meets_17 : decode cX10_meets 17 = .ok (.iload 4, 2) := by decide +kernel
theorem dX10_meets_19 : decode cX10_meets 19 = .ok (.invokevirtual 111, 3) := by decide +kernel
theorem dX10_meets_22 : decode cX10_meets 22 = .ok (.ifCond .ne 5, 3) := by decide +kernel
theorem dX10_meets_25 : decode cX10_meets 25 = .ok (.iconst (-1), 1) := by decide +kernel
theorem dX10_meets_26 : decode cX10_meets 26 = .ok (.ireturn, 1) := by decide +kernel
theorem dX10_meets_27 : decode cX10_meets 27 = .ok (.aload_n 0, 1) := by decide +kernel
theorem dX10_meets_28 : decode cX10_meets 28 = .ok (.iload_n 1, 1) := by decide +kernel
theorem dX10_meets_29 : decode cX10_meets 29 = .ok (.iload_n 2, 1) := by decide +kernel
theorem dX10_meets_30 : decode cX10_meets 30 = .ok (.iload_n 3, 1) := by decide +kernel
theorem dX10_meets_31 : decode cX10_meets 31 = .ok (.iload 4, 2) := by decide +kernel
theorem dX10_meets_33 : decode cX10_meets 33 = .ok (.invokevirtual 136, 3) := by decide +kernel
theorem dX10_meets_36 : decode cX10_meets 36 = .ok (.ifCond .eq 7, 3) := by decide +kernel
theorem dX10_meets_39 : decode cX10_meets 39 = .ok (.iconst 1, 1) := by decide +kernel
theorem dX10_meets_4 : decode cX10_meets 4 = .ok (.iload_n 1, 1) := by decide +kernel
theorem dX10_meets_40 : decode cX10_meets 40 = .ok (.goto 4, 3) := by decide +kernel
theorem dX10_meets_43 : decode cX10_meets 43 = .ok (.iconst 0, 1) := by decide +kernel
theorem dX10_meets_44 : decode cX10_meets 44 = .ok (.ireturn, 1) := by decide +kernel
theorem dX10_meets_5 : decode cX10_meets 5 = .ok (.iload_n 2, 1) := by decide +kernel
theorem dX10_meets_6 : decode cX10_meets 6 = .ok (.invokevirtual 111, 3) := by decide +kernel
theorem dX10_meets_9 : decode cX10_meets 9 = .ok (.ifCond .eq 16, 3) := by decide +kernel
theorem dX10_needed_0 : decode cX10_needed 0 = .ok (.aload_n 0, 1) := by decide +kernel
theorem dX10_needed_1 : decode cX10_needed 1 = .ok (.getfield 47, 3) := by decide +kernel
theorem dX10_needed_10 : decode cX10_needed 10 = .ok (.iconst 0, 1) := by decide +kernel
theorem dX10_needed_11 : decode cX10_needed 11 = .ok (.ireturn, 1) := by decide +kernel
theorem dX10_needed_12 : decode cX10_needed 12 = .ok (.iconst 0, 1) := by decide +kernel
theorem dX10_needed_13 : decode cX10_needed 13 = .ok (.istore_n 1, 1) := by decide +kernel
theorem dX10_needed_14 : decode cX10_needed 14 = .ok (.iconst 0, 1) := by decide +kernel
theorem dX10_needed_15 : decode cX10_needed 15 = .ok (.istore_n 2, 1) := by decide +kernel
theorem dX10_needed_16 : decode cX10_needed 16 = .ok (.iload_n 2, 1) := by decide +kernel
theorem dX10_needed_17 : decode cX10_needed 17 = .ok (.aload_n 0, 1) := by decide +kernel
theorem dX10_needed_18 : decode cX10_needed 18 = .ok (.getfield 47, 3) := by decide +kernel
theorem dX10_needed_21 : decode cX10_needed 21 = .ok (.getfield 217, 3) := by decide +kernel
theorem dX10_needed_24 : decode cX10_needed 24 = .ok (.if_icmp .ge 26, 3) := by decide +kernel
theorem dX10_needed_27 : decode cX10_needed 27 = .ok (.aload_n 0, 1) := by decide +kernel
theorem dX10_needed_28 : decode cX10_needed 28 = .ok (.getfield 56, 3) := by decide +kernel
theorem dX10_needed_31 : decode cX10_needed 31 = .ok (.iload_n 2, 1) := by decide +kernel
theorem dX10_needed_32 : decode cX10_needed 32 = .ok (.invokevirtual 226, 3) := by decide +kernel
theorem dX10_needed_35 : decode cX10_needed 35 = .ok (.ifCond .ne 9, 3) := by decide +kernel
theorem dX10_needed_38 : decode cX10_needed 38 = .ok (.iload_n 1, 1) := by decide +kernel
theorem dX10_needed_39 : decode cX10_needed 39 = .ok (.iconst 1, 1) := by decide +kernel
theorem dX10_needed_4 : decode cX10_needed 4 = .ok (.getfield 175, 3) := by decide +kernel
theorem dX10_needed_40 : decode cX10_needed 40 = .ok (.iload_n 2, 1) := by decide +kernel
theorem dX10_needed_41 : decode cX10_needed 41 = .ok (.ishl, 1) := by decide +kernel
theorem dX10_needed_42 : decode cX10_needed 42 = .ok (.ior, 1) := by decide +kernel
theorem dX10_needed_43 : decode cX10_needed 43 = .ok (.istore_n 1, 1) := by decide +kernel
theorem dX10_needed_44 : decode cX10_needed 44 = .ok (.iinc 2 1, 3) := by decide +kernel
theorem dX10_needed_47 : decode cX10_needed 47 = .ok (.goto (-31), 3) := by decide +kernel
theorem dX10_needed_50 : decode cX10_needed 50 = .ok (.iload_n 1, 1) := by decide +kernel
theorem dX10_needed_51 : decode cX10_needed 51 = .ok (.ireturn, 1) := by decide +kernel
theorem dX10_needed_7 : decode cX10_needed 7 = .ok (.ifCond .ne 5, 3) := by decide +kernel
theorem dX10_open_0 : decode cX10_open 0 = .ok (.aload_n 0, 1) := by decide +kernel
theorem dX10_open_1 : decode cX10_open 1 = .ok (.iload_n 1, 1) := by decide +kernel
theorem dX10_open_10 : decode cX10_open 10 = .ok (.invokevirtual 220, 3) := by decide +kernel
theorem dX10_open_13 : decode cX10_open 13 = .ok (.ifCond .eq 19, 3) := by decide +kernel
theorem dX10_open_16 : decode cX10_open 16 = .ok (.iload_n 2, 1) := by decide +kernel
theorem dX10_open_17 : decode cX10_open 17 = .ok (.iload_n 1, 1) := by decide +kernel
theorem dX10_open_18 : decode cX10_open 18 = .ok (.if_icmp .eq 14, 3) := by decide +kernel
theorem dX10_open_2 : decode cX10_open 2 = .ok (.invokevirtual 220, 3) := by decide +kernel
theorem dX10_open_21 : decode cX10_open 21 = .ok (.aload_n 0, 1) := by decide +kernel
theorem dX10_open_22 : decode cX10_open 22 = .ok (.getfield 56, 3) := by decide +kernel
theorem dX10_open_25 : decode cX10_open 25 = .ok (.iload_n 1, 1) := by decide +kernel
theorem dX10_open_26 : decode cX10_open 26 = .ok (.invokevirtual 226, 3) := by decide +kernel
theorem dX10_open_29 : decode cX10_open 29 = .ok (.ifCond .eq 5, 3) := by decide +kernel
theorem dX10_open_32 : decode cX10_open 32 = .ok (.iconst (-1), 1) := by decide +kernel
theorem dX10_open_33 : decode cX10_open 33 = .ok (.ireturn, 1) := by decide +kernel
theorem dX10_open_34 : decode cX10_open 34 = .ok (.aload_n 0, 1) := by decide +kernel
theorem dX10_open_35 : decode cX10_open 35 = .ok (.getfield 56, 3) := by decide +kernel
theorem dX10_open_38 : decode cX10_open 38 = .ok (.getfield 229, 3) := by decide +kernel
theorem dX10_open_41 : decode cX10_open 41 = .ok (.iload_n 2, 1) := by decide +kernel
theorem dX10_open_42 : decode cX10_open 42 = .ok (.iload_n 1, 1) := by decide +kernel
theorem dX10_open_43 : decode cX10_open 43 = .ok (.if_icmp .ge 7, 3) := by decide +kernel
theorem dX10_open_46 : decode cX10_open 46 = .ok (.iload_n 2, 1) := by decide +kernel
theorem dX10_open_47 : decode cX10_open 47 = .ok (.goto 6, 3) := by decide +kernel
theorem dX10_open_5 : decode cX10_open 5 = .ok (.ifCond .eq 27, 3) := by decide +kernel
theorem dX10_open_50 : decode cX10_open 50 = .ok (.iload_n 2, 1) := by decide +kernel
theorem dX10_open_51 : decode cX10_open 51 = .ok (.iconst 1, 1) := by decide +kernel
theorem dX10_open_52 : decode cX10_open 52 = .ok (.isub, 1) := by decide +kernel
theorem dX10_open_53 : decode cX10_open 53 = .ok (.iaload, 1) := by decide +kernel
theorem dX10_open_54 : decode cX10_open 54 = .ok (.ireturn, 1) := by decide +kernel
theorem dX10_open_8 : decode cX10_open 8 = .ok (.aload_n 0, 1) := by decide +kernel
theorem dX10_open_9 : decode cX10_open 9 = .ok (.iload_n 2, 1) := by decide +kernel
theorem dX10_out_0 : decode cX10_out 0 = .ok (.iload_n 1, 1) := by decide +kernel
theorem dX10_out_1 : decode cX10_out 1 = .ok (.ifCond .lt 14, 3) := by decide +kernel
theorem dX10_out_12 : decode cX10_out 12 = .ok (.if_icmp .lt 5, 3) := by decide +kernel
theorem dX10_out_15 : decode cX10_out 15 = .ok (.iconst (-1), 1) := by decide +kernel
theorem dX10_out_16 : decode cX10_out 16 = .ok (.ireturn, 1) := by decide +kernel
theorem dX10_out_17 : decode cX10_out 17 = .ok (.aload_n 0, 1) := by decide +kernel
theorem dX10_out_18 : decode cX10_out 18 = .ok (.getfield 40, 3) := by decide +kernel
theorem dX10_out_21 : decode cX10_out 21 = .ok (.getfield 133, 3) := by decide +kernel
theorem dX10_out_24 : decode cX10_out 24 = .ok (.iload_n 1, 1) := by decide +kernel
theorem dX10_out_25 : decode cX10_out 25 = .ok (.iaload, 1) := by decide +kernel
theorem dX10_out_26 : decode cX10_out 26 = .ok (.ireturn, 1) := by decide +kernel
theorem dX10_out_4 : decode cX10_out 4 = .ok (.iload_n 1, 1) := by decide +kernel
theorem dX10_out_5 : decode cX10_out 5 = .ok (.aload_n 0, 1) := by decide +kernel
theorem dX10_out_6 : decode cX10_out 6 = .ok (.getfield 40, 3) := by decide +kernel
theorem dX10_out_9 : decode cX10_out 9 = .ok (.getfield 132, 3) := by decide +kernel
theorem dX10_partnersAmong_0 : decode cX10_partnersAmong 0 = .ok (.iconst 0, 1) := by decide +kernel
theorem dX10_partnersAmong_1 : decode cX10_partnersAmong 1 = .ok (.istore 4, 2) := by decide +kernel
theorem dX10_partnersAmong_12 : decode cX10_partnersAmong 12 = .ok (.getfield 84, 3) := by decide +kernel
theorem dX10_partnersAmong_15 : decode cX10_partnersAmong 15 = .ok (.if_icmp .ge 66, 3) := by decide +kernel
theorem dX10_partnersAmong_18 : decode cX10_partnersAmong 18 = .ok (.iload_n 3, 1) := by decide +kernel
theorem dX10_partnersAmong_19 : decode cX10_partnersAmong 19 = .ok (.iload 5, 2) := by decide +kernel
theorem dX10_partnersAmong_21 : decode cX10_partnersAmong 21 = .ok (.ishr, 1) := by decide +kernel
theorem dX10_partnersAmong_22 : decode cX10_partnersAmong 22 = .ok (.iconst 1, 1) := by decide +kernel
theorem dX10_partnersAmong_23 : decode cX10_partnersAmong 23 = .ok (.iand, 1) := by decide +kernel
theorem dX10_partnersAmong_24 : decode cX10_partnersAmong 24 = .ok (.iconst 1, 1) := by decide +kernel
theorem dX10_partnersAmong_25 : decode cX10_partnersAmong 25 = .ok (.if_icmp .ne 50, 3) := by decide +kernel
theorem dX10_partnersAmong_28 : decode cX10_partnersAmong 28 = .ok (.iconst 0, 1) := by decide +kernel
theorem dX10_partnersAmong_29 : decode cX10_partnersAmong 29 = .ok (.istore 6, 2) := by decide +kernel
theorem dX10_partnersAmong_3 : decode cX10_partnersAmong 3 = .ok (.iconst 0, 1) := by decide +kernel
theorem dX10_partnersAmong_31 : decode cX10_partnersAmong 31 = .ok (.iload 6, 2) := by decide +kernel
theorem dX10_partnersAmong_33 : decode cX10_partnersAmong 33 = .ok (.aload_n 0, 1) := by decide +kernel
theorem dX10_partnersAmong_34 : decode cX10_partnersAmong 34 = .ok (.getfield 19, 3) := by decide +kernel
theorem dX10_partnersAmong_37 : decode cX10_partnersAmong 37 = .ok (.getfield 97, 3) := by decide +kernel
theorem dX10_partnersAmong_4 : decode cX10_partnersAmong 4 = .ok (.istore 5, 2) := by decide +kernel
theorem dX10_partnersAmong_40 : decode cX10_partnersAmong 40 = .ok (.iload 5, 2) := by decide +kernel
theorem dX10_partnersAmong_42 : decode cX10_partnersAmong 42 = .ok (.iaload, 1) := by decide +kernel
theorem dX10_partnersAmong_43 : decode cX10_partnersAmong 43 = .ok (.if_icmp .ge 32, 3) := by decide +kernel
theorem dX10_partnersAmong_46 : decode cX10_partnersAmong 46 = .ok (.iload 4, 2) := by decide +kernel
theorem dX10_partnersAmong_48 : decode cX10_partnersAmong 48 = .ok (.aload_n 0, 1) := by decide +kernel
theorem dX10_partnersAmong_49 : decode cX10_partnersAmong 49 = .ok (.iload_n 1, 1) := by decide +kernel
theorem dX10_partnersAmong_50 : decode cX10_partnersAmong 50 = .ok (.iload_n 2, 1) := by decide +kernel
theorem dX10_partnersAmong_51 : decode cX10_partnersAmong 51 = .ok (.iload 5, 2) := by decide +kernel
theorem dX10_partnersAmong_53 : decode cX10_partnersAmong 53 = .ok (.iload 6, 2) := by decide +kernel
theorem dX10_partnersAmong_55 : decode cX10_partnersAmong 55 = .ok (.invokevirtual 136, 3) := by decide +kernel
theorem dX10_partnersAmong_58 : decode cX10_partnersAmong 58 = .ok (.ifCond .eq 7, 3) := by decide +kernel
theorem dX10_partnersAmong_6 : decode cX10_partnersAmong 6 = .ok (.iload 5, 2) := by decide +kernel
theorem dX10_partnersAmong_61 : decode cX10_partnersAmong 61 = .ok (.iconst 1, 1) := by decide +kernel
theorem dX10_partnersAmong_62 : decode cX10_partnersAmong 62 = .ok (.goto 4, 3) := by decide +kernel
theorem dX10_partnersAmong_65 : decode cX10_partnersAmong 65 = .ok (.iconst 0, 1) := by decide +kernel
theorem dX10_partnersAmong_66 : decode cX10_partnersAmong 66 = .ok (.iadd, 1) := by decide +kernel
theorem dX10_partnersAmong_67 : decode cX10_partnersAmong 67 = .ok (.istore 4, 2) := by decide +kernel
theorem dX10_partnersAmong_69 : decode cX10_partnersAmong 69 = .ok (.iinc 6 1, 3) := by decide +kernel
theorem dX10_partnersAmong_72 : decode cX10_partnersAmong 72 = .ok (.goto (-41), 3) := by decide +kernel
theorem dX10_partnersAmong_75 : decode cX10_partnersAmong 75 = .ok (.iinc 5 1, 3) := by decide +kernel
theorem dX10_partnersAmong_78 : decode cX10_partnersAmong 78 = .ok (.goto (-72), 3) := by decide +kernel
theorem dX10_partnersAmong_8 : decode cX10_partnersAmong 8 = .ok (.aload_n 0, 1) := by decide +kernel
theorem dX10_partnersAmong_81 : decode cX10_partnersAmong 81 = .ok (.iload 4, 2) := by decide +kernel
theorem dX10_partnersAmong_83 : decode cX10_partnersAmong 83 = .ok (.ireturn, 1) := by decide +kernel
theorem dX10_partnersAmong_9 : decode cX10_partnersAmong 9 = .ok (.getfield 19, 3) := by decide +kernel
theorem dX10_partners_0 : decode cX10_partners 0 = .ok (.aload_n 0, 1) := by decide +kernel
theorem dX10_partners_1 : decode cX10_partners 1 = .ok (.getfield 19, 3) := by decide +kernel
theorem dX10_partners_12 : decode cX10_partners 12 = .ok (.iconst (-1), 1) := by decide +kernel
theorem dX10_partners_13 : decode cX10_partners 13 = .ok (.ireturn, 1) := by decide +kernel
theorem dX10_partners_14 : decode cX10_partners 14 = .ok (.aload_n 0, 1) := by decide +kernel
theorem dX10_partners_15 : decode cX10_partners 15 = .ok (.iload_n 1, 1) := by decide +kernel
theorem dX10_partners_16 : decode cX10_partners 16 = .ok (.iload_n 2, 1) := by decide +kernel
theorem dX10_partners_17 : decode cX10_partners 17 = .ok (.aload_n 0, 1) := by decide +kernel
theorem dX10_partners_18 : decode cX10_partners 18 = .ok (.getfield 19, 3) := by decide +kernel
theorem dX10_partners_21 : decode cX10_partners 21 = .ok (.invokevirtual 140, 3) := by decide +kernel
theorem dX10_partners_24 : decode cX10_partners 24 = .ok (.invokevirtual 144, 3) := by decide +kernel
theorem dX10_partners_27 : decode cX10_partners 27 = .ok (.ireturn, 1) := by decide +kernel
theorem dX10_partners_4 : decode cX10_partners 4 = .ok (.iload_n 1, 1) := by decide +kernel
theorem dX10_partners_5 : decode cX10_partners 5 = .ok (.iload_n 2, 1) := by decide +kernel
theorem dX10_partners_6 : decode cX10_partners 6 = .ok (.invokevirtual 111, 3) := by decide +kernel
theorem dX10_partners_9 : decode cX10_partners 9 = .ok (.ifCond .ne 5, 3) := by decide +kernel
theorem dX10_partsOf_0 : decode cX10_partsOf 0 = .ok (.iconst 0, 1) := by decide +kernel
theorem dX10_partsOf_1 : decode cX10_partsOf 1 = .ok (.istore_n 2, 1) := by decide +kernel
theorem dX10_partsOf_12 : decode cX10_partsOf 12 = .ok (.iload_n 1, 1) := by decide +kernel
theorem dX10_partsOf_13 : decode cX10_partsOf 13 = .ok (.iaload, 1) := by decide +kernel
theorem dX10_partsOf_14 : decode cX10_partsOf 14 = .ok (.if_icmp .ge 30, 3) := by decide +kernel
theorem dX10_partsOf_17 : decode cX10_partsOf 17 = .ok (.iload_n 2, 1) := by decide +kernel
theorem dX10_partsOf_18 : decode cX10_partsOf 18 = .ok (.aload_n 0, 1) := by decide +kernel
theorem dX10_partsOf_19 : decode cX10_partsOf 19 = .ok (.getfield 31, 3) := by decide +kernel
theorem dX10_partsOf_2 : decode cX10_partsOf 2 = .ok (.iconst 0, 1) := by decide +kernel
theorem dX10_partsOf_22 : decode cX10_partsOf 22 = .ok (.aload_n 0, 1) := by decide +kernel
theorem dX10_partsOf_23 : decode cX10_partsOf 23 = .ok (.bipush 30, 2) := by decide +kernel
theorem dX10_partsOf_25 : decode cX10_partsOf 25 = .ok (.iload_n 1, 1) := by decide +kernel
theorem dX10_partsOf_26 : decode cX10_partsOf 26 = .ok (.iload_n 3, 1) := by decide +kernel
theorem dX10_partsOf_27 : decode cX10_partsOf 27 = .ok (.invokevirtual 122, 3) := by decide +kernel
theorem dX10_partsOf_3 : decode cX10_partsOf 3 = .ok (.istore_n 3, 1) := by decide +kernel
theorem dX10_partsOf_30 : decode cX10_partsOf 30 = .ok (.sipush 300, 3) := by decide +kernel
theorem dX10_partsOf_33 : decode cX10_partsOf 33 = .ok (.invokevirtual 265, 3) := by decide +kernel
theorem dX10_partsOf_36 : decode cX10_partsOf 36 = .ok (.iadd, 1) := by decide +kernel
theorem dX10_partsOf_37 : decode cX10_partsOf 37 = .ok (.istore_n 2, 1) := by decide +kernel
theorem dX10_partsOf_38 : decode cX10_partsOf 38 = .ok (.iinc 3 1, 3) := by decide +kernel
theorem dX10_partsOf_4 : decode cX10_partsOf 4 = .ok (.iload_n 3, 1) := by decide +kernel
theorem dX10_partsOf_41 : decode cX10_partsOf 41 = .ok (.goto (-37), 3) := by decide +kernel
theorem dX10_partsOf_44 : decode cX10_partsOf 44 = .ok (.iload_n 2, 1) := by decide +kernel
theorem dX10_partsOf_45 : decode cX10_partsOf 45 = .ok (.ireturn, 1) := by decide +kernel
theorem dX10_partsOf_5 : decode cX10_partsOf 5 = .ok (.aload_n 0, 1) := by decide +kernel
theorem dX10_partsOf_6 : decode cX10_partsOf 6 = .ok (.getfield 19, 3) := by decide +kernel
theorem dX10_partsOf_9 : decode cX10_partsOf 9 = .ok (.getfield 97, 3) := by decide +kernel
theorem dX10_place_0 : decode cX10_place 0 = .ok (.iload_n 1, 1) := by decide +kernel
theorem dX10_place_1 : decode cX10_place 1 = .ok (.sipush 300, 3) := by decide +kernel
theorem dX10_place_10 : decode cX10_place 10 = .ok (.iload_n 3, 1) := by decide +kernel
theorem dX10_place_11 : decode cX10_place 11 = .ok (.invokevirtual 118, 3) := by decide +kernel
theorem dX10_place_14 : decode cX10_place 14 = .ok (.iadd, 1) := by decide +kernel
theorem dX10_place_15 : decode cX10_place 15 = .ok (.ireturn, 1) := by decide +kernel
theorem dX10_place_4 : decode cX10_place 4 = .ok (.imul, 1) := by decide +kernel
theorem dX10_place_5 : decode cX10_place 5 = .ok (.aload_n 0, 1) := by decide +kernel
theorem dX10_place_6 : decode cX10_place 6 = .ok (.getfield 19, 3) := by decide +kernel
theorem dX10_place_9 : decode cX10_place 9 = .ok (.iload_n 2, 1) := by decide +kernel
theorem dX10_pure_0 : decode cX10_pure 0 = .ok (.aload_n 0, 1) := by decide +kernel
theorem dX10_pure_1 : decode cX10_pure 1 = .ok (.getfield 19, 3) := by decide +kernel
theorem dX10_pure_10 : decode cX10_pure 10 = .ok (.iload_n 2, 1) := by decide +kernel
theorem dX10_pure_11 : decode cX10_pure 11 = .ok (.bipush 16, 2) := by decide +kernel
theorem dX10_pure_13 : decode cX10_pure 13 = .ok (.if_icmp .ge 72, 3) := by decide +kernel
theorem dX10_pure_16 : decode cX10_pure 16 = .ok (.iconst 0, 1) := by decide +kernel
theorem dX10_pure_17 : decode cX10_pure 17 = .ok (.istore_n 3, 1) := by decide +kernel
theorem dX10_pure_18 : decode cX10_pure 18 = .ok (.iconst 0, 1) := by decide +kernel
theorem dX10_pure_19 : decode cX10_pure 19 = .ok (.istore 4, 2) := by decide +kernel
theorem dX10_pure_21 : decode cX10_pure 21 = .ok (.iload 4, 2) := by decide +kernel
theorem dX10_pure_23 : decode cX10_pure 23 = .ok (.aload_n 0, 1) := by decide +kernel
theorem dX10_pure_24 : decode cX10_pure 24 = .ok (.getfield 19, 3) := by decide +kernel
theorem dX10_pure_27 : decode cX10_pure 27 = .ok (.getfield 84, 3) := by decide +kernel
theorem dX10_pure_30 : decode cX10_pure 30 = .ok (.if_icmp .ge 36, 3) := by decide +kernel
theorem dX10_pure_33 : decode cX10_pure 33 = .ok (.iload_n 1, 1) := by decide +kernel
theorem dX10_pure_34 : decode cX10_pure 34 = .ok (.iload 4, 2) := by decide +kernel
theorem dX10_pure_36 : decode cX10_pure 36 = .ok (.ishr, 1) := by decide +kernel
theorem dX10_pure_37 : decode cX10_pure 37 = .ok (.iconst 1, 1) := by decide +kernel
theorem dX10_pure_38 : decode cX10_pure 38 = .ok (.iand, 1) := by decide +kernel
theorem dX10_pure_39 : decode cX10_pure 39 = .ok (.iconst 1, 1) := by decide +kernel
theorem dX10_pure_4 : decode cX10_pure 4 = .ok (.invokevirtual 140, 3) := by decide +kernel
theorem dX10_pure_40 : decode cX10_pure 40 = .ok (.if_icmp .ne 20, 3) := by decide +kernel
theorem dX10_pure_43 : decode cX10_pure 43 = .ok (.aload_n 0, 1) := by decide +kernel
theorem dX10_pure_44 : decode cX10_pure 44 = .ok (.iload 4, 2) := by decide +kernel
theorem dX10_pure_46 : decode cX10_pure 46 = .ok (.iload_n 1, 1) := by decide +kernel
theorem dX10_pure_47 : decode cX10_pure 47 = .ok (.invokevirtual 147, 3) := by decide +kernel
theorem dX10_pure_50 : decode cX10_pure 50 = .ok (.ifCond .eq 10, 3) := by decide +kernel
theorem dX10_pure_53 : decode cX10_pure 53 = .ok (.iload_n 3, 1) := by decide +kernel
theorem dX10_pure_54 : decode cX10_pure 54 = .ok (.iconst 1, 1) := by decide +kernel
theorem dX10_pure_55 : decode cX10_pure 55 = .ok (.iload 4, 2) := by decide +kernel
theorem dX10_pure_57 : decode cX10_pure 57 = .ok (.ishl, 1) := by decide +kernel
theorem dX10_pure_58 : decode cX10_pure 58 = .ok (.ior, 1) := by decide +kernel
theorem dX10_pure_59 : decode cX10_pure 59 = .ok (.istore_n 3, 1) := by decide +kernel
theorem dX10_pure_60 : decode cX10_pure 60 = .ok (.iinc 4 1, 3) := by decide +kernel
theorem dX10_pure_63 : decode cX10_pure 63 = .ok (.goto (-42), 3) := by decide +kernel
theorem dX10_pure_66 : decode cX10_pure 66 = .ok (.iload_n 3, 1) := by decide +kernel
theorem dX10_pure_67 : decode cX10_pure 67 = .ok (.ifCond .ne 6, 3) := by decide +kernel
theorem dX10_pure_7 : decode cX10_pure 7 = .ok (.istore_n 1, 1) := by decide +kernel
theorem dX10_pure_70 : decode cX10_pure 70 = .ok (.goto 15, 3) := by decide +kernel
theorem dX10_pure_73 : decode cX10_pure 73 = .ok (.iload_n 1, 1) := by decide +kernel
theorem dX10_pure_74 : decode cX10_pure 74 = .ok (.iload_n 3, 1) := by decide +kernel
theorem dX10_pure_75 : decode cX10_pure 75 = .ok (.iconst (-1), 1) := by decide +kernel
theorem dX10_pure_76 : decode cX10_pure 76 = .ok (.ixor, 1) := by decide +kernel
theorem dX10_pure_77 : decode cX10_pure 77 = .ok (.iand, 1) := by decide +kernel
theorem dX10_pure_78 : decode cX10_pure 78 = .ok (.istore_n 1, 1) := by decide +kernel
theorem dX10_pure_79 : decode cX10_pure 79 = .ok (.iinc 2 1, 3) := by decide +kernel
theorem dX10_pure_8 : decode cX10_pure 8 = .ok (.iconst 0, 1) := by decide +kernel
theorem dX10_pure_82 : decode cX10_pure 82 = .ok (.goto (-72), 3) := by decide +kernel
theorem dX10_pure_85 : decode cX10_pure 85 = .ok (.aload_n 0, 1) := by decide +kernel
theorem dX10_pure_86 : decode cX10_pure 86 = .ok (.getfield 19, 3) := by decide +kernel
theorem dX10_pure_89 : decode cX10_pure 89 = .ok (.invokevirtual 140, 3) := by decide +kernel
theorem dX10_pure_9 : decode cX10_pure 9 = .ok (.istore_n 2, 1) := by decide +kernel
theorem dX10_pure_92 : decode cX10_pure 92 = .ok (.iload_n 1, 1) := by decide +kernel
theorem dX10_pure_93 : decode cX10_pure 93 = .ok (.iconst (-1), 1) := by decide +kernel
theorem dX10_pure_94 : decode cX10_pure 94 = .ok (.ixor, 1) := by decide +kernel
theorem dX10_pure_95 : decode cX10_pure 95 = .ok (.iand, 1) := by decide +kernel
theorem dX10_pure_96 : decode cX10_pure 96 = .ok (.ireturn, 1) := by decide +kernel
theorem dX10_show_0 : decode cX10_show 0 = .ok (.aload_n 0, 1) := by decide +kernel
theorem dX10_show_1 : decode cX10_show 1 = .ok (.getfield 19, 3) := by decide +kernel
theorem dX10_show_12 : decode cX10_show 12 = .ok (.iconst (-1), 1) := by decide +kernel
theorem dX10_show_13 : decode cX10_show 13 = .ok (.ireturn, 1) := by decide +kernel
theorem dX10_show_14 : decode cX10_show 14 = .ok (.aload_n 0, 1) := by decide +kernel
theorem dX10_show_15 : decode cX10_show 15 = .ok (.getfield 40, 3) := by decide +kernel
theorem dX10_show_18 : decode cX10_show 18 = .ok (.aload_n 0, 1) := by decide +kernel
theorem dX10_show_19 : decode cX10_show 19 = .ok (.bipush 30, 2) := by decide +kernel
theorem dX10_show_21 : decode cX10_show 21 = .ok (.iload_n 1, 1) := by decide +kernel
theorem dX10_show_22 : decode cX10_show 22 = .ok (.iload_n 2, 1) := by decide +kernel
theorem dX10_show_23 : decode cX10_show 23 = .ok (.invokevirtual 122, 3) := by decide +kernel
theorem dX10_show_26 : decode cX10_show 26 = .ok (.aload_n 0, 1) := by decide +kernel
theorem dX10_show_27 : decode cX10_show 27 = .ok (.getfield 19, 3) := by decide +kernel
theorem dX10_show_30 : decode cX10_show 30 = .ok (.iload_n 1, 1) := by decide +kernel
theorem dX10_show_31 : decode cX10_show 31 = .ok (.iload_n 2, 1) := by decide +kernel
theorem dX10_show_32 : decode cX10_show 32 = .ok (.invokevirtual 125, 3) := by decide +kernel
theorem dX10_show_35 : decode cX10_show 35 = .ok (.ifCond .ne 7, 3) := by decide +kernel
theorem dX10_show_38 : decode cX10_show 38 = .ok (.iconst 1, 1) := by decide +kernel
theorem dX10_show_39 : decode cX10_show 39 = .ok (.goto 4, 3) := by decide +kernel
theorem dX10_show_4 : decode cX10_show 4 = .ok (.iload_n 1, 1) := by decide +kernel
theorem dX10_show_42 : decode cX10_show 42 = .ok (.iconst 0, 1) := by decide +kernel
theorem dX10_show_43 : decode cX10_show 43 = .ok (.sipush 600, 3) := by decide +kernel
theorem dX10_show_46 : decode cX10_show 46 = .ok (.invokevirtual 128, 3) := by decide +kernel
theorem dX10_show_49 : decode cX10_show 49 = .ok (.ireturn, 1) := by decide +kernel
theorem dX10_show_5 : decode cX10_show 5 = .ok (.iload_n 2, 1) := by decide +kernel
theorem dX10_show_6 : decode cX10_show 6 = .ok (.invokevirtual 111, 3) := by decide +kernel
theorem dX10_show_9 : decode cX10_show 9 = .ok (.ifCond .ne 5, 3) := by decide +kernel
theorem dX10_shown_0 : decode cX10_shown 0 = .ok (.aload_n 0, 1) := by decide +kernel
theorem dX10_shown_1 : decode cX10_shown 1 = .ok (.iload_n 1, 1) := by decide +kernel
theorem dX10_shown_10 : decode cX10_shown 10 = .ok (.aload_n 0, 1) := by decide +kernel
theorem dX10_shown_11 : decode cX10_shown 11 = .ok (.getfield 47, 3) := by decide +kernel
theorem dX10_shown_14 : decode cX10_shown 14 = .ok (.getfield 223, 3) := by decide +kernel
theorem dX10_shown_17 : decode cX10_shown 17 = .ok (.iload_n 1, 1) := by decide +kernel
theorem dX10_shown_18 : decode cX10_shown 18 = .ok (.iaload, 1) := by decide +kernel
theorem dX10_shown_19 : decode cX10_shown 19 = .ok (.istore_n 3, 1) := by decide +kernel
theorem dX10_shown_2 : decode cX10_shown 2 = .ok (.invokevirtual 220, 3) := by decide +kernel
theorem dX10_shown_20 : decode cX10_shown 20 = .ok (.aload_n 0, 1) := by decide +kernel
theorem dX10_shown_21 : decode cX10_shown 21 = .ok (.getfield 19, 3) := by decide +kernel
theorem dX10_shown_24 : decode cX10_shown 24 = .ok (.iload_n 3, 1) := by decide +kernel
theorem dX10_shown_25 : decode cX10_shown 25 = .ok (.iload_n 2, 1) := by decide +kernel
theorem dX10_shown_26 : decode cX10_shown 26 = .ok (.invokevirtual 111, 3) := by decide +kernel
theorem dX10_shown_29 : decode cX10_shown 29 = .ok (.ifCond .ne 5, 3) := by decide +kernel
theorem dX10_shown_32 : decode cX10_shown 32 = .ok (.iconst (-1), 1) := by decide +kernel
theorem dX10_shown_33 : decode cX10_shown 33 = .ok (.ireturn, 1) := by decide +kernel
theorem dX10_shown_34 : decode cX10_shown 34 = .ok (.aload_n 0, 1) := by decide +kernel
theorem dX10_shown_35 : decode cX10_shown 35 = .ok (.getfield 40, 3) := by decide +kernel
theorem dX10_shown_38 : decode cX10_shown 38 = .ok (.aload_n 0, 1) := by decide +kernel
theorem dX10_shown_39 : decode cX10_shown 39 = .ok (.iload_n 1, 1) := by decide +kernel
theorem dX10_shown_40 : decode cX10_shown 40 = .ok (.iload_n 3, 1) := by decide +kernel
theorem dX10_shown_41 : decode cX10_shown 41 = .ok (.iload_n 2, 1) := by decide +kernel
theorem dX10_shown_42 : decode cX10_shown 42 = .ok (.invokevirtual 122, 3) := by decide +kernel
theorem dX10_shown_45 : decode cX10_shown 45 = .ok (.aload_n 0, 1) := by decide +kernel
theorem dX10_shown_46 : decode cX10_shown 46 = .ok (.getfield 19, 3) := by decide +kernel
theorem dX10_shown_49 : decode cX10_shown 49 = .ok (.iload_n 3, 1) := by decide +kernel
theorem dX10_shown_5 : decode cX10_shown 5 = .ok (.ifCond .ne 5, 3) := by decide +kernel
theorem dX10_shown_50 : decode cX10_shown 50 = .ok (.iload_n 2, 1) := by decide +kernel
theorem dX10_shown_51 : decode cX10_shown 51 = .ok (.invokevirtual 125, 3) := by decide +kernel
theorem dX10_shown_54 : decode cX10_shown 54 = .ok (.ifCond .ne 7, 3) := by decide +kernel
theorem dX10_shown_57 : decode cX10_shown 57 = .ok (.iconst 1, 1) := by decide +kernel
theorem dX10_shown_58 : decode cX10_shown 58 = .ok (.goto 4, 3) := by decide +kernel
theorem dX10_shown_61 : decode cX10_shown 61 = .ok (.iconst 0, 1) := by decide +kernel
theorem dX10_shown_62 : decode cX10_shown 62 = .ok (.sipush 300, 3) := by decide +kernel
theorem dX10_shown_65 : decode cX10_shown 65 = .ok (.invokevirtual 128, 3) := by decide +kernel
theorem dX10_shown_68 : decode cX10_shown 68 = .ok (.ireturn, 1) := by decide +kernel
theorem dX10_shown_8 : decode cX10_shown 8 = .ok (.iconst (-1), 1) := by decide +kernel
theorem dX10_shown_9 : decode cX10_shown 9 = .ok (.ireturn, 1) := by decide +kernel
theorem dX10_tried_0 : decode cX10_tried 0 = .ok (.iload_n 1, 1) := by decide +kernel
theorem dX10_tried_1 : decode cX10_tried 1 = .ok (.tableswitch 63 0 3 #[31, 39, 47, 55], 31) := by decide +kernel
theorem dX10_tried_32 : decode cX10_tried 32 = .ok (.aload_n 0, 1) := by decide +kernel
theorem dX10_tried_33 : decode cX10_tried 33 = .ok (.getfield 47, 3) := by decide +kernel
theorem dX10_tried_36 : decode cX10_tried 36 = .ok (.getfield 163, 3) := by decide +kernel
theorem dX10_tried_39 : decode cX10_tried 39 = .ok (.ireturn, 1) := by decide +kernel
theorem dX10_tried_40 : decode cX10_tried 40 = .ok (.aload_n 0, 1) := by decide +kernel
theorem dX10_tried_41 : decode cX10_tried 41 = .ok (.getfield 47, 3) := by decide +kernel
theorem dX10_tried_44 : decode cX10_tried 44 = .ok (.getfield 166, 3) := by decide +kernel
theorem dX10_tried_47 : decode cX10_tried 47 = .ok (.ireturn, 1) := by decide +kernel
theorem dX10_tried_48 : decode cX10_tried 48 = .ok (.aload_n 0, 1) := by decide +kernel
theorem dX10_tried_49 : decode cX10_tried 49 = .ok (.getfield 47, 3) := by decide +kernel
theorem dX10_tried_52 : decode cX10_tried 52 = .ok (.getfield 169, 3) := by decide +kernel
theorem dX10_tried_55 : decode cX10_tried 55 = .ok (.ireturn, 1) := by decide +kernel
theorem dX10_tried_56 : decode cX10_tried 56 = .ok (.aload_n 0, 1) := by decide +kernel
theorem dX10_tried_57 : decode cX10_tried 57 = .ok (.getfield 47, 3) := by decide +kernel
theorem dX10_tried_60 : decode cX10_tried 60 = .ok (.getfield 172, 3) := by decide +kernel
theorem dX10_tried_63 : decode cX10_tried 63 = .ok (.ireturn, 1) := by decide +kernel
theorem dX10_tried_64 : decode cX10_tried 64 = .ok (.iconst (-1), 1) := by decide +kernel
theorem dX10_tried_65 : decode cX10_tried 65 = .ok (.ireturn, 1) := by decide +kernel
theorem dX4_forgetCounts_0 : decode cX4_forgetCounts 0 = .ok (.aload_n 0, 1) := by decide +kernel
theorem dX4_forgetCounts_1 : decode cX4_forgetCounts 1 = .ok (.iconst 0, 1) := by decide +kernel
theorem dX4_forgetCounts_10 : decode cX4_forgetCounts 10 = .ok (.aload_n 0, 1) := by decide +kernel
theorem dX4_forgetCounts_11 : decode cX4_forgetCounts 11 = .ok (.iconst 0, 1) := by decide +kernel
theorem dX4_forgetCounts_12 : decode cX4_forgetCounts 12 = .ok (.putfield 49, 3) := by decide +kernel
theorem dX4_forgetCounts_15 : decode cX4_forgetCounts 15 = .ok (.aload_n 0, 1) := by decide +kernel
theorem dX4_forgetCounts_16 : decode cX4_forgetCounts 16 = .ok (.iconst 0, 1) := by decide +kernel
theorem dX4_forgetCounts_17 : decode cX4_forgetCounts 17 = .ok (.putfield 52, 3) := by decide +kernel
theorem dX4_forgetCounts_2 : decode cX4_forgetCounts 2 = .ok (.putfield 41, 3) := by decide +kernel
theorem dX4_forgetCounts_20 : decode cX4_forgetCounts 20 = .ok (.aload_n 0, 1) := by decide +kernel
theorem dX4_forgetCounts_21 : decode cX4_forgetCounts 21 = .ok (.iconst 0, 1) := by decide +kernel
theorem dX4_forgetCounts_22 : decode cX4_forgetCounts 22 = .ok (.putfield 55, 3) := by decide +kernel
theorem dX4_forgetCounts_25 : decode cX4_forgetCounts 25 = .ok (.return_, 1) := by decide +kernel
theorem dX4_forgetCounts_5 : decode cX4_forgetCounts 5 = .ok (.aload_n 0, 1) := by decide +kernel
theorem dX4_forgetCounts_6 : decode cX4_forgetCounts 6 = .ok (.iconst 0, 1) := by decide +kernel
theorem dX4_forgetCounts_7 : decode cX4_forgetCounts 7 = .ok (.putfield 45, 3) := by decide +kernel
abbrev mo59 (v : Nat → Value) (a0 : Value) : List Value := [a0, (v 1), (v 2), (v 3), (v 4), (v 5), (v 6), (v 7)]
abbrev mo60 (v : Nat → Value) (a1 : Value) : List Value := [(v 0), a1, (v 2), (v 3), (v 4), (v 5), (v 6), (v 7), (v 8), (v 9), (v 10)]
abbrev mo61 (v : Nat → Value) (a5 a6 a7 : Value) : List Value := [(v 0), (v 1), (v 2), (v 3), (v 4), a5, a6, a7]
abbrev mo62 (v : Nat → Value) (a17 : Value) : List Value := [(v 0), (v 1), (v 2), (v 3), (v 4), (v 5), (v 6), (v 7), (v 8), (v 9), (v 10), (v 11), (v 12), (v 13), (v 14), (v 15), (v 16), a17]
abbrev mo63 (v : Nat → Value) (a4 : Value) : List Value := [(v 0), (v 1), (v 2), (v 3), a4, (v 5)]
abbrev mo64 (v : Nat → Value) (a0 a1 a2 a5 a6 a7 : Value) : List Value := [a0, a1, a2, (v 3), (v 4), a5, a6, a7]
abbrev mo65 (v : Nat → Value) (a2 a3 : Value) : List Value := [(v 0), (v 1), a2, a3, (v 4), (v 5), (v 6), (v 7), (v 8), (v 9), (v 10)]
abbrev mo66 (v : Nat → Value) (a1 a5 a6 a7 : Value) : List Value := [(v 0), a1, (v 2), (v 3), (v 4), a5, a6, a7]
abbrev mo67 (v : Nat → Value) (a1 : Value) : List Value := [(v 0), a1, (v 2), (v 3), (v 4), (v 5), (v 6), (v 7)]
abbrev mo68 (v : Nat → Value) (a1 a3 : Value) : List Value := [(v 0), a1, (v 2), a3, (v 4), (v 5), (v 6), (v 7)]
abbrev mo69 (v : Nat → Value) (a1 a2 a3 a5 a8 : Value) : List Value := [(v 0), a1, a2, a3, (v 4), a5, (v 6), (v 7), a8, (v 9)]
abbrev mo70 (v : Nat → Value) (a1 a2 a3 a5 a6 a7 a8 a9 : Value) : List Value := [(v 0), a1, a2, a3, (v 4), a5, a6, a7, a8, a9]
abbrev mo71 (v : Nat → Value) (a1 a4 : Value) : List Value := [(v 0), a1, (v 2), (v 3), a4, (v 5), (v 6), (v 7)]
abbrev mo72 (v : Nat → Value) (a0 a1 a2 a3 a5 a6 a7 a8 a9 : Value) : List Value := [a0, a1, a2, a3, (v 4), a5, a6, a7, a8, a9]
abbrev mo73 (v : Nat → Value) (a4 : Value) : List Value := [(v 0), (v 1), (v 2), (v 3), a4, (v 5), (v 6), (v 7)]
abbrev mo74 (v : Nat → Value) (a2 a3 : Value) : List Value := [(v 0), (v 1), a2, a3, (v 4), (v 5), (v 6), (v 7)]
abbrev mo75 (v : Nat → Value) (a0 a1 a2 a3 a5 a7 a8 a9 : Value) : List Value := [a0, a1, a2, a3, (v 4), a5, (v 6), a7, a8, a9]
abbrev mo76 (v : Nat → Value) (a5 : Value) : List Value := [(v 0), (v 1), (v 2), (v 3), (v 4), a5, (v 6), (v 7)]
abbrev mo77 (v : Nat → Value) (a12 a13 a14 a15 : Value) : List Value := [(v 0), (v 1), (v 2), (v 3), (v 4), (v 5), (v 6), (v 7), (v 8), (v 9), (v 10), (v 11), a12, a13, a14, a15, (v 16), (v 17)]
abbrev mo78 (v : Nat → Value) (a9 a17 : Value) : List Value := [(v 0), (v 1), (v 2), (v 3), (v 4), (v 5), (v 6), (v 7), (v 8), a9, (v 10), (v 11), (v 12), (v 13), (v 14), (v 15), (v 16), a17]
abbrev mo79 (v : Nat → Value) (a8 a9 a17 : Value) : List Value := [(v 0), (v 1), (v 2), (v 3), (v 4), (v 5), (v 6), (v 7), a8, a9, (v 10), (v 11), (v 12), (v 13), (v 14), (v 15), (v 16), a17]
abbrev mo80 (v : Nat → Value) (a1 a4 a5 : Value) : List Value := [(v 0), a1, (v 2), (v 3), a4, a5, (v 6), (v 7)]
abbrev mo81 (v : Nat → Value) (a5 a6 : Value) : List Value := [(v 0), (v 1), (v 2), (v 3), (v 4), a5, a6, (v 7)]
abbrev mo82 (v : Nat → Value) (a0 a8 a9 a17 : Value) : List Value := [a0, (v 1), (v 2), (v 3), (v 4), (v 5), (v 6), (v 7), a8, a9, (v 10), (v 11), (v 12), (v 13), (v 14), (v 15), (v 16), a17]
abbrev mo83 (v : Nat → Value) (a7 : Value) : List Value := [(v 0), (v 1), (v 2), (v 3), (v 4), (v 5), (v 6), a7]
abbrev mo84 (v : Nat → Value) (a12 a13 a14 a15 a17 : Value) : List Value := [(v 0), (v 1), (v 2), (v 3), (v 4), (v 5), (v 6), (v 7), (v 8), (v 9), (v 10), (v 11), a12, a13, a14, a15, (v 16), a17]
set_option maxRecDepth 100000 in
theorem mq64_61 (v : Nat → Value) (b0 b1 b2 : Value) : ∃ w : Nat → Value, ∀ (a5 a6 a7 : Value), mo61 w a5 a6 a7 = (mo64 v b0 b1 b2 a5 a6 a7) := ⟨fun k => List.getD (mo64 v b0 b1 b2 .null .null .null) k .null, fun _ _ _ => rfl⟩
set_option maxRecDepth 100000 in
theorem mq25_0 (v : Nat → Value) (b5 b6 b7 b8 : Value) : ∃ w : Nat → Value, ∀ (a9 : Value), mo0 w a9 = (mo25 v b5 b6 b7 b8 a9) := ⟨fun k => List.getD (mo25 v b5 b6 b7 b8 .null) k .null, fun _ => rfl⟩
set_option maxRecDepth 100000 in
theorem mq66_61 (v : Nat → Value) (b1 : Value) : ∃ w : Nat → Value, ∀ (a5 a6 a7 : Value), mo61 w a5 a6 a7 = (mo66 v b1 a5 a6 a7) := ⟨fun k => List.getD (mo66 v b1 .null .null .null) k .null, fun _ _ _ => rfl⟩
set_option maxRecDepth 100000 in
theorem mq68_67 (v : Nat → Value) (b3 : Value) : ∃ w : Nat → Value, ∀ (a1 : Value), mo67 w a1 = (mo68 v a1 b3) := ⟨fun k => List.getD (mo68 v .null b3) k .null, fun _ => rfl⟩
set_option maxRecDepth 100000 in
theorem mq69_3 (v : Nat → Value) (b1 b2 b3 b5 : Value) : ∃ w : Nat → Value, ∀ (a8 : Value), mo3 w a8 = (mo69 v b1 b2 b3 b5 a8) := ⟨fun k => List.getD (mo69 v b1 b2 b3 b5 .null) k .null, fun _ => rfl⟩
set_option maxRecDepth 100000 in
theorem mq69_18 (v : Nat → Value) (b5 b8 : Value) : ∃ w : Nat → Value, ∀ (a1 a2 a3 : Value), mo18 w a1 a2 a3 = (mo69 v a1 a2 a3 b5 b8) := ⟨fun k => List.getD (mo69 v .null .null .null b5 b8) k .null, fun _ _ _ => rfl⟩
set_option maxRecDepth 100000 in
theorem mq70_0 (v : Nat → Value) (b1 b2 b3 b5 b6 b7 b8 : Value) : ∃ w : Nat → Value, ∀ (a9 : Value), mo0 w a9 = (mo70 v b1 b2 b3 b5 b6 b7 b8 a9) := ⟨fun k => List.getD (mo70 v b1 b2 b3 b5 b6 b7 b8 .null) k .null, fun _ => rfl⟩
set_option maxRecDepth 100000 in
theorem mq70_1 (v : Nat → Value) (b1 b2 b3 b6 b7 b8 : Value) : ∃ w : Nat → Value, ∀ (a5 a9 : Value), mo1 w a5 a9 = (mo70 v b1 b2 b3 a5 b6 b7 b8 a9) := ⟨fun k => List.getD (mo70 v b1 b2 b3 .null b6 b7 b8 .null) k .null, fun _ _ => rfl⟩
set_option maxRecDepth 100000 in
theorem mq70_3 (v : Nat → Value) (b1 b2 b3 b5 b6 b7 b9 : Value) : ∃ w : Nat → Value, ∀ (a8 : Value), mo3 w a8 = (mo70 v b1 b2 b3 b5 b6 b7 a8 b9) := ⟨fun k => List.getD (mo70 v b1 b2 b3 b5 b6 b7 .null b9) k .null, fun _ => rfl⟩
set_option maxRecDepth 100000 in
theorem mq70_69 (v : Nat → Value) (b6 b7 b9 : Value) : ∃ w : Nat → Value, ∀ (a1 a2 a3 a5 a8 : Value), mo69 w a1 a2 a3 a5 a8 = (mo70 v a1 a2 a3 a5 b6 b7 a8 b9) := ⟨fun k => List.getD (mo70 v .null .null .null .null b6 b7 .null b9) k .null, fun _ _ _ _ _ => rfl⟩
set_option maxRecDepth 100000 in
theorem mq72_1 (v : Nat → Value) (b0 b1 b2 b3 b6 b7 b8 : Value) : ∃ w : Nat → Value, ∀ (a5 a9 : Value), mo1 w a5 a9 = (mo72 v b0 b1 b2 b3 a5 b6 b7 b8 a9) := ⟨fun k => List.getD (mo72 v b0 b1 b2 b3 .null b6 b7 b8 .null) k .null, fun _ _ => rfl⟩
set_option maxRecDepth 100000 in
theorem mq71_67 (v : Nat → Value) (b4 : Value) : ∃ w : Nat → Value, ∀ (a1 : Value), mo67 w a1 = (mo71 v a1 b4) := ⟨fun k => List.getD (mo71 v .null b4) k .null, fun _ => rfl⟩
set_option maxRecDepth 100000 in
theorem mq72_3 (v : Nat → Value) (b0 b1 b2 b3 b5 b6 b7 b9 : Value) : ∃ w : Nat → Value, ∀ (a8 : Value), mo3 w a8 = (mo72 v b0 b1 b2 b3 b5 b6 b7 a8 b9) := ⟨fun k => List.getD (mo72 v b0 b1 b2 b3 b5 b6 b7 .null b9) k .null, fun _ => rfl⟩
set_option maxRecDepth 100000 in
theorem mq72_2 (v : Nat → Value) (b0 b1 b2 b3 b5 b6 b8 b9 : Value) : ∃ w : Nat → Value, ∀ (a7 : Value), mo2 w a7 = (mo72 v b0 b1 b2 b3 b5 b6 a7 b8 b9) := ⟨fun k => List.getD (mo72 v b0 b1 b2 b3 b5 b6 .null b8 b9) k .null, fun _ => rfl⟩
set_option maxRecDepth 100000 in
theorem mq72_21 (v : Nat → Value) (b5 b6 b7 b8 b9 : Value) : ∃ w : Nat → Value, ∀ (a0 a1 a2 a3 : Value), mo21 w a0 a1 a2 a3 = (mo72 v a0 a1 a2 a3 b5 b6 b7 b8 b9) := ⟨fun k => List.getD (mo72 v .null .null .null .null b5 b6 b7 b8 b9) k .null, fun _ _ _ _ => rfl⟩
set_option maxRecDepth 100000 in
theorem mq75_5 (v : Nat → Value) (b1 b3 b5 b9 : Value) : ∃ w : Nat → Value, ∀ (a0 a2 a7 a8 : Value), mo5 w a0 a2 a7 a8 = (mo75 v a0 b1 a2 b3 b5 a7 a8 b9) := ⟨fun k => List.getD (mo75 v .null b1 .null b3 b5 .null .null b9) k .null, fun _ _ _ _ => rfl⟩
set_option maxRecDepth 100000 in
theorem mq75_3 (v : Nat → Value) (b0 b1 b2 b3 b5 b7 b9 : Value) : ∃ w : Nat → Value, ∀ (a8 : Value), mo3 w a8 = (mo75 v b0 b1 b2 b3 b5 b7 a8 b9) := ⟨fun k => List.getD (mo75 v b0 b1 b2 b3 b5 b7 .null b9) k .null, fun _ => rfl⟩
set_option maxRecDepth 100000 in
theorem mq75_21 (v : Nat → Value) (b5 b7 b8 b9 : Value) : ∃ w : Nat → Value, ∀ (a0 a1 a2 a3 : Value), mo21 w a0 a1 a2 a3 = (mo75 v a0 a1 a2 a3 b5 b7 b8 b9) := ⟨fun k => List.getD (mo75 v .null .null .null .null b5 b7 b8 b9) k .null, fun _ _ _ _ => rfl⟩
set_option maxRecDepth 100000 in
theorem mq22_10 (b0 b4 b5 b6 b7 b8 b9 b10 b11 b12 : Value) : ∃ w : Nat → Value, ∀ (a1 a2 a3 : Value), mo10 w a1 a2 a3 = (mo22 b0 a1 a2 a3 b4 b5 b6 b7 b8 b9 b10 b11 b12) := ⟨fun k => List.getD (mo22 b0 .null .null .null b4 b5 b6 b7 b8 b9 b10 b11 b12) k .null, fun _ _ _ => rfl⟩
set_option maxRecDepth 100000 in
theorem mq75_1 (v : Nat → Value) (b0 b1 b2 b3 b7 b8 : Value) : ∃ w : Nat → Value, ∀ (a5 a9 : Value), mo1 w a5 a9 = (mo75 v b0 b1 b2 b3 a5 b7 b8 a9) := ⟨fun k => List.getD (mo75 v b0 b1 b2 b3 .null b7 b8 .null) k .null, fun _ _ => rfl⟩
set_option maxRecDepth 100000 in
theorem mq75_0 (v : Nat → Value) (b0 b1 b2 b3 b5 b7 b8 : Value) : ∃ w : Nat → Value, ∀ (a9 : Value), mo0 w a9 = (mo75 v b0 b1 b2 b3 b5 b7 b8 a9) := ⟨fun k => List.getD (mo75 v b0 b1 b2 b3 b5 b7 b8 .null) k .null, fun _ => rfl⟩
set_option maxRecDepth 100000 in
theorem mq79_78 (v : Nat → Value) (b8 : Value) : ∃ w : Nat → Value, ∀ (a9 a17 : Value), mo78 w a9 a17 = (mo79 v b8 a9 a17) := ⟨fun k => List.getD (mo79 v b8 .null .null) k .null, fun _ _ => rfl⟩
set_option maxRecDepth 100000 in
theorem mq80_76 (v : Nat → Value) (b1 b4 : Value) : ∃ w : Nat → Value, ∀ (a5 : Value), mo76 w a5 = (mo80 v b1 b4 a5) := ⟨fun k => List.getD (mo80 v b1 b4 .null) k .null, fun _ => rfl⟩
set_option maxRecDepth 100000 in
theorem mq80_67 (v : Nat → Value) (b4 b5 : Value) : ∃ w : Nat → Value, ∀ (a1 : Value), mo67 w a1 = (mo80 v a1 b4 b5) := ⟨fun k => List.getD (mo80 v .null b4 b5) k .null, fun _ => rfl⟩
set_option maxRecDepth 100000 in
theorem mq75_2 (v : Nat → Value) (b0 b1 b2 b3 b5 b8 b9 : Value) : ∃ w : Nat → Value, ∀ (a7 : Value), mo2 w a7 = (mo75 v b0 b1 b2 b3 b5 a7 b8 b9) := ⟨fun k => List.getD (mo75 v b0 b1 b2 b3 b5 .null b8 b9) k .null, fun _ => rfl⟩
set_option maxRecDepth 100000 in
theorem mq82_52 (v : Nat → Value) (b17 : Value) : ∃ w : Nat → Value, ∀ (a0 a8 a9 : Value), mo52 w a0 a8 a9 = (mo82 v a0 a8 a9 b17) := ⟨fun k => List.getD (mo82 v .null .null .null b17) k .null, fun _ _ _ => rfl⟩
set_option maxRecDepth 100000 in
theorem mq81_76 (v : Nat → Value) (b6 : Value) : ∃ w : Nat → Value, ∀ (a5 : Value), mo76 w a5 = (mo81 v a5 b6) := ⟨fun k => List.getD (mo81 v .null b6) k .null, fun _ => rfl⟩
set_option maxRecDepth 100000 in
theorem mq82_78 (v : Nat → Value) (b0 b8 : Value) : ∃ w : Nat → Value, ∀ (a9 a17 : Value), mo78 w a9 a17 = (mo82 v b0 b8 a9 a17) := ⟨fun k => List.getD (mo82 v b0 b8 .null .null) k .null, fun _ _ => rfl⟩
set_option maxHeartbeats 8000000 in
set_option maxRecDepth 100000 in
theorem c_X10_feed (l : Launch) (dC : Nat → ClassId) (dI : Nat → Nat → Nat) (sz : Nat) (h_xx : Nat) (h_rd : Nat) (h_by : Nat) (v_xx : Nat → Value) (v_rd : Nat → Value) (x_rd_length : Int32) (cy_by : ClassId) (f_by : Nat → Int32) (p1 : Int32) (p2 : Int32) (p3 : Int32) (p4 : Int32) (p5 : Int32) (hx_rd_length : 0 ≤ (x_rd_length).toInt ∧ (x_rd_length).toInt ≤ 600) (hf_by : Rg 0 255 f_by) : Met l yX10_feed (Ws yX10_feed cX10_feed 6 (some .int)) (({ frames := 1, cells := 0, slots := 0, locals := 22 } : Room)) (PRE (dC, dI) cls [(cy_by, .int)] [(h_xx, .inr (7, (mo59 v_xx (.ref h_rd)))), (h_rd, .inr (4, (mo26 v_rd (.ref h_by) (.int x_rd_length)))), (h_by, .inl (cy_by, 600, .inl f_by))] sz [.ref h_xx, .int p1, .int p2, .int p3, .int p4, .int p5]) (va_Qi (fun (r : Int32) (u : (Int32) × (Nat → Int32)) => (0 ≤ (u.1).toInt ∧ (u.1).toInt ≤ 600) ∧ (Rg 0 255 u.2) ∧ (((x_rd_length).toInt + 20 > 600 ∧ (u.1).toInt = (x_rd_length).toInt ∧ (r).toInt = -1) ∨ ((x_rd_length).toInt + 20 ≤ 600 ∧ (u.1).toInt = (x_rd_length).toInt + 20 ∧ (r).toInt = (x_rd_length).toInt + 20)) ∧ (((r).toInt = -1 ∧ u.2 = f_by) ∨ FED (x_rd_length).toInt p1 p2 p3 p4 p5 f_by u.2)) (fun (u : (Int32) × (Nat → Int32)) (t : State) => va_P (dC, dI) cls [(h_xx, .inr (7, (mo59 v_xx (.ref h_rd)))), (h_rd, .inr (4, (mo26 v_rd (.ref h_by) (.int u.1)))), (h_by, .inl (cy_by, 600, .inl u.2))] t.heap ∧ va_D (va_A [(h_xx, .inr (7, (mo59 v_xx (.ref h_rd)))), (h_rd, .inr (4, (mo26 v_rd (.ref h_by) (.int x_rd_length)))), (h_by, .inl (cy_by, 600, .inl f_by))] sz) [(h_xx, .inr (7, (mo59 v_xx (.ref h_rd)))), (h_rd, .inr (4, (mo26 v_rd (.ref h_by) (.int u.1)))), (h_by, .inl (cy_by, 600, .inl u.2))]) (va_A [(h_xx, .inr (7, (mo59 v_xx (.ref h_rd)))), (h_rd, .inr (4, (mo26 v_rd (.ref h_by) (.int x_rd_length)))), (h_by, .inl (cy_by, 600, .inl f_by))] sz)) 0 0 (va_A [(h_xx, .inr (7, (mo59 v_xx (.ref h_rd)))), (h_rd, .inr (4, (mo26 v_rd (.ref h_by) (.int x_rd_length)))), (h_by, .inl (cy_by, 600, .inl f_by))] sz) := by
  refine Met.ofW (cc := cX10_feed) (maxL := 6) (ret := (some .int)) (by decide) rfl ?_
  intro p e s m args below meth c s₁ B hml hv
  obtain ⟨rfl, hsz, hP, hK, hD0, hN⟩ := hv
  have hx := B.exec
  have hb := B.bytes
  have hr := B.returns
  have hts := atoms_spec (ws := Ws yX10_feed cX10_feed 6 (some .int)) B.pre
  have hT : ∀ w ∈ WALL, w ∈ Ws yX10_feed cX10_feed 6 (some .int) := fun w h => List.mem_cons_of_mem _ h
  have hw := fun w (h : w ∈ WALL) => hts w (hT w h)
  have hown : s.vm.findClass RX10 = some m.cls := findClass_of_methodNamed B.named
  have hlocks := B.notSynchronized
  subst hsz
  have hD := hD0.self (sz := s.heap.size)
  generalize hAe : va_A [(h_xx, .inr (7, (mo59 v_xx (.ref h_rd)))), (h_rd, .inr (4, (mo26 v_rd (.ref h_by) (.int x_rd_length)))), (h_by, .inl (cy_by, 600, .inl f_by))] s.heap.size = A at hD ⊢
  have hA : ∀ q : Nat, s.heap.size ≤ q → A q := fun q h => by rw [← hAe]; exact Or.inr h
  have hS : va_S A s.heap s.heap [] := va_S.rf
  have hl := lv_entry ([.ref h_xx, .int p1, .int p2, .int p3, .int p4, .int p5]) (n := 6) (Nat.le_of_ble_eq_true rfl)
  rw [lg_entry_eq]
  generalize (lg_sl ([.ref h_xx, .int p1, .int p2, .int p3, .int p4, .int p5]) ++ List.replicate (6 - (lg_sl ([.ref h_xx, .int p1, .int p2, .int p3, .int p4, .int p5])).length) Slot.unset).toArray = ls at hl ⊢
  have hl : lv_has ls 6 [(0, .ref h_xx), (1, .int p1), (2, .int p2), (3, .int p3), (4, .int p4), (5, .int p5)] := hl
  refine lv_aload_n hx hb dX10_feed_0 rfl (lv_at hl 0 rfl) ?_
  refine va_get (D := (dC, dI)) (ci := 7) (v := .ref h_rd) (C := RX10) (T := TX10) (N := 8) hx hb hw iwX10 hown hK hP 0 rfl rfl 0 (by decide) (hw _ w_f_X10_12) (fun _ h9 => h9) rfl dX10_feed_1 ?_
  refine va_getN (D := (dC, dI)) (ci := 4) (v := .int x_rd_length) (C := RX5) (T := TX5) (N := 11) (host := "OppositePairs") hx hb hw iwX5 hown hK hP 1 rfl rfl 1 (by decide) (hN.use n_f_X10_67 rfl) (fun _ h9 => h9) rfl dX10_feed_4 ?_
  refine lv_bipush (v := 20) hx hb dX10_feed_7 (by decide) ?_
  refine lv_iadd hx hb dX10_feed_9 ?_
  refine lv_topi (fun z1 ez1 => ?_)
  have tz1 : (z1).toInt = (x_rd_length).toInt + 20 := by rw [ez1]; exact i_add rfl (by decide) (by omega)
  refine lv_sipush (v := 600) hx hb dX10_feed_10 (by decide) ?_
  refine lv_icmp_le (tgt := 18) hx hb dX10_feed_13 (by decide) (fun c2 => ?_) (fun c2 => ?_)
  · have kc2 := (cv_le (rfl : (z1).toInt = (z1).toInt) (by decide : (600 : Int32).toInt = 600)).mp c2
    refine lv_aload_n hx hb dX10_feed_18 rfl (lv_at hl 0 rfl) ?_
    refine va_get (D := (dC, dI)) (ci := 7) (v := .ref h_rd) (C := RX10) (T := TX10) (N := 8) hx hb hw iwX10 hown hK hP 0 rfl rfl 0 (by decide) (hw _ w_f_X10_12) (fun _ h9 => h9) rfl dX10_feed_19 ?_
    refine lv_iload_n hx hb dX10_feed_22 rfl (lv_at hl 1 rfl) ?_
    have hPc := hP.sub (ws' := [(h_rd, .inr (4, (mo26 v_rd (.ref h_by) (.int x_rd_length)))), (h_by, .inl (cy_by, 600, .inl f_by))]) [1, 2] rfl
    have hDc := hD.sub (ws' := [(h_rd, .inr (4, (mo26 v_rd (.ref h_by) (.int x_rd_length)))), (h_by, .inl (cy_by, 600, .inl f_by))]) [1, 2] (by decide) rfl
    have hKc := hK.sub (tys' := [(cy_by, .int)]) [0] rfl
    have hFc := va_free (wc := [(h_rd, .inr (4, (mo26 v_rd (.ref h_by) (.int x_rd_length)))), (h_by, .inl (cy_by, 600, .inl f_by))]) hD hS hA [1, 2] rfl
    refine va_callv (va_runVN (As := [.int p1]) (rest := []) ⟨hx, hb, hml, hown, hts⟩ (c_X5_take l dC dI s.heap.size h_rd h_by v_rd x_rd_length cy_by f_by p1 (by first | exact hx_rd_length | omega) hf_by (by omega)) ⟨va_cnB (host := "OppositePairs") 1 hts (gd hT w_code_X5_take) rfl rfl rfl (hN _ n_m_X10_71) (hw _ w_ini_X5) (by decide +kernel) ⟨(Nat.le_of_ble_eq_true rfl), (Nat.le_of_ble_eq_true rfl)⟩, hw _ w_instanceMethod_X5_take, hw _ ws_sel_X5_take⟩ ⟨pre_blind, va_recv hK hP (ci := 4) (q0 := 1) rfl rfl, pre_of hPc hKc hDc hN⟩ rfl rfl hl.1 rfl (lv_room (Nat.le_of_ble_eq_true rfl)) dX10_feed_23 ⟨(Nat.le_of_ble_eq_true rfl), (Nat.le_of_ble_eq_true rfl)⟩) hS (fun q _ h => hFc q h) hFc (fun u t H locs ht hvm hq hB hz1 hk1 hS9 => ?_)
    obtain ⟨z4, f5⟩ := u
    obtain ⟨hP1, hD1⟩ := hB
    rw [ht] at hP1
    obtain ⟨hP9, hD9⟩ := va_join (wr := [(h_xx, .inr (7, (mo59 v_xx (.ref h_rd))))]) (w1 := [(h_rd, .inr (4, (mo26 v_rd (.ref h_by) (.int z4)))), (h_by, .inl (cy_by, 600, .inl f5))]) hP hD [1, 2] [0] rfl rfl (by decide) (by decide) hk1 hFc hP1 hD1
    clear hP hD hS hPc hDc hKc hFc hP1 hD1 hk1 hz1 ht hvm
    have hP : va_P (dC, dI) cls [(h_xx, .inr (7, (mo59 v_xx (.ref h_rd)))), (h_rd, .inr (4, (mo26 v_rd (.ref h_by) (.int z4)))), (h_by, .inl (cy_by, 600, .inl f5))] H := hP9
    have hD : va_D A [(h_xx, .inr (7, (mo59 v_xx (.ref h_rd)))), (h_rd, .inr (4, (mo26 v_rd (.ref h_by) (.int z4)))), (h_by, .inl (cy_by, 600, .inl f5))] := hD9
    have hS := hS9
    clear hP9 hD9 hS9
    obtain ⟨k6, hf5, k7, k8⟩ := hq
    replace k6 : 0 ≤ ((z4)).toInt ∧ ((z4)).toInt ≤ 600 := k6
    replace hf5 : Rg 0 255 (f5) := hf5
    replace k7 : ((z4)).toInt = ((x_rd_length)).toInt + 4 := k7
    replace k8 : TKF ((x_rd_length)).toInt (p1) 4 f_by (f5) := k8
    refine lv_aload_n hx hb dX10_feed_26 rfl (lv_at hl 0 rfl) ?_
    refine va_get (D := (dC, dI)) (ci := 7) (v := .ref h_rd) (C := RX10) (T := TX10) (N := 8) hx hb hw iwX10 hown hK hP 0 rfl rfl 0 (by decide) (hw _ w_f_X10_12) (fun _ h9 => h9) rfl dX10_feed_27 ?_
    refine lv_iload_n hx hb dX10_feed_30 rfl (lv_at hl 2 rfl) ?_
    have hPc := hP.sub (ws' := [(h_rd, .inr (4, (mo26 v_rd (.ref h_by) (.int z4)))), (h_by, .inl (cy_by, 600, .inl f5))]) [1, 2] rfl
    have hDc := hD.sub (ws' := [(h_rd, .inr (4, (mo26 v_rd (.ref h_by) (.int z4)))), (h_by, .inl (cy_by, 600, .inl f5))]) [1, 2] (by decide) rfl
    have hKc := hK.sub (tys' := [(cy_by, .int)]) [0] rfl
    have hFc := va_free (wc := [(h_rd, .inr (4, (mo26 v_rd (.ref h_by) (.int z4)))), (h_by, .inl (cy_by, 600, .inl f5))]) hD hS hA [1, 2] rfl
    refine va_callv (va_runVN (As := [.int p2]) (rest := []) ⟨hx, hb, hml, hown, hts⟩ (c_X5_take l dC dI H.size h_rd h_by v_rd z4 cy_by f5 p2 (by first | exact k6 | omega) hf5 (by omega)) ⟨va_cnB (host := "OppositePairs") 1 hts (gd hT w_code_X5_take) rfl rfl rfl (hN _ n_m_X10_71) (hw _ w_ini_X5) (by decide +kernel) ⟨(Nat.le_of_ble_eq_true rfl), (Nat.le_of_ble_eq_true rfl)⟩, hw _ w_instanceMethod_X5_take, hw _ ws_sel_X5_take⟩ ⟨pre_blind, va_recv hK hP (ci := 4) (q0 := 1) rfl rfl, pre_of hPc hKc hDc hN⟩ rfl rfl hl.1 rfl (lv_room (Nat.le_of_ble_eq_true rfl)) dX10_feed_31 ⟨(Nat.le_of_ble_eq_true rfl), (Nat.le_of_ble_eq_true rfl)⟩) hS (fun q _ h => hFc q h) hFc (fun u t H locs ht hvm hq hB hz1 hk1 hS9 => ?_)
    obtain ⟨z10, f11⟩ := u
    obtain ⟨hP1, hD1⟩ := hB
    rw [ht] at hP1
    obtain ⟨hP9, hD9⟩ := va_join (wr := [(h_xx, .inr (7, (mo59 v_xx (.ref h_rd))))]) (w1 := [(h_rd, .inr (4, (mo26 v_rd (.ref h_by) (.int z10)))), (h_by, .inl (cy_by, 600, .inl f11))]) hP hD [1, 2] [0] rfl rfl (by decide) (by decide) hk1 hFc hP1 hD1
    clear hP hD hS hPc hDc hKc hFc hP1 hD1 hk1 hz1 ht hvm
    have hP : va_P (dC, dI) cls [(h_xx, .inr (7, (mo59 v_xx (.ref h_rd)))), (h_rd, .inr (4, (mo26 v_rd (.ref h_by) (.int z10)))), (h_by, .inl (cy_by, 600, .inl f11))] H := hP9
    have hD : va_D A [(h_xx, .inr (7, (mo59 v_xx (.ref h_rd)))), (h_rd, .inr (4, (mo26 v_rd (.ref h_by) (.int z10)))), (h_by, .inl (cy_by, 600, .inl f11))] := hD9
    have hS := hS9
    clear hP9 hD9 hS9
    obtain ⟨k12, hf11, k13, k14⟩ := hq
    replace k12 : 0 ≤ ((z10)).toInt ∧ ((z10)).toInt ≤ 600 := k12
    replace hf11 : Rg 0 255 (f11) := hf11
    replace k13 : ((z10)).toInt = ((z4)).toInt + 4 := k13
    replace k14 : TKF ((z4)).toInt (p2) 4 (f5) (f11) := k14
    refine lv_aload_n hx hb dX10_feed_34 rfl (lv_at hl 0 rfl) ?_
    refine va_get (D := (dC, dI)) (ci := 7) (v := .ref h_rd) (C := RX10) (T := TX10) (N := 8) hx hb hw iwX10 hown hK hP 0 rfl rfl 0 (by decide) (hw _ w_f_X10_12) (fun _ h9 => h9) rfl dX10_feed_35 ?_
    refine lv_iload_n hx hb dX10_feed_38 rfl (lv_at hl 3 rfl) ?_
    have hPc := hP.sub (ws' := [(h_rd, .inr (4, (mo26 v_rd (.ref h_by) (.int z10)))), (h_by, .inl (cy_by, 600, .inl f11))]) [1, 2] rfl
    have hDc := hD.sub (ws' := [(h_rd, .inr (4, (mo26 v_rd (.ref h_by) (.int z10)))), (h_by, .inl (cy_by, 600, .inl f11))]) [1, 2] (by decide) rfl
    have hKc := hK.sub (tys' := [(cy_by, .int)]) [0] rfl
    have hFc := va_free (wc := [(h_rd, .inr (4, (mo26 v_rd (.ref h_by) (.int z10)))), (h_by, .inl (cy_by, 600, .inl f11))]) hD hS hA [1, 2] rfl
    refine va_callv (va_runVN (As := [.int p3]) (rest := []) ⟨hx, hb, hml, hown, hts⟩ (c_X5_take l dC dI H.size h_rd h_by v_rd z10 cy_by f11 p3 (by first | exact k12 | omega) hf11 (by omega)) ⟨va_cnB (host := "OppositePairs") 1 hts (gd hT w_code_X5_take) rfl rfl rfl (hN _ n_m_X10_71) (hw _ w_ini_X5) (by decide +kernel) ⟨(Nat.le_of_ble_eq_true rfl), (Nat.le_of_ble_eq_true rfl)⟩, hw _ w_instanceMethod_X5_take, hw _ ws_sel_X5_take⟩ ⟨pre_blind, va_recv hK hP (ci := 4) (q0 := 1) rfl rfl, pre_of hPc hKc hDc hN⟩ rfl rfl hl.1 rfl (lv_room (Nat.le_of_ble_eq_true rfl)) dX10_feed_39 ⟨(Nat.le_of_ble_eq_true rfl), (Nat.le_of_ble_eq_true rfl)⟩) hS (fun q _ h => hFc q h) hFc (fun u t H locs ht hvm hq hB hz1 hk1 hS9 => ?_)
    obtain ⟨z16, f17⟩ := u
    obtain ⟨hP1, hD1⟩ := hB
    rw [ht] at hP1
    obtain ⟨hP9, hD9⟩ := va_join (wr := [(h_xx, .inr (7, (mo59 v_xx (.ref h_rd))))]) (w1 := [(h_rd, .inr (4, (mo26 v_rd (.ref h_by) (.int z16)))), (h_by, .inl (cy_by, 600, .inl f17))]) hP hD [1, 2] [0] rfl rfl (by decide) (by decide) hk1 hFc hP1 hD1
    clear hP hD hS hPc hDc hKc hFc hP1 hD1 hk1 hz1 ht hvm
    have hP : va_P (dC, dI) cls [(h_xx, .inr (7, (mo59 v_xx (.ref h_rd)))), (h_rd, .inr (4, (mo26 v_rd (.ref h_by) (.int z16)))), (h_by, .inl (cy_by, 600, .inl f17))] H := hP9
    have hD : va_D A [(h_xx, .inr (7, (mo59 v_xx (.ref h_rd)))), (h_rd, .inr (4, (mo26 v_rd (.ref h_by) (.int z16)))), (h_by, .inl (cy_by, 600, .inl f17))] := hD9
    have hS := hS9
    clear hP9 hD9 hS9
    obtain ⟨k18, hf17, k19, k20⟩ := hq
    replace k18 : 0 ≤ ((z16)).toInt ∧ ((z16)).toInt ≤ 600 := k18
    replace hf17 : Rg 0 255 (f17) := hf17
    replace k19 : ((z16)).toInt = ((z10)).toInt + 4 := k19
    replace k20 : TKF ((z10)).toInt (p3) 4 (f11) (f17) := k20
    refine lv_aload_n hx hb dX10_feed_42 rfl (lv_at hl 0 rfl) ?_
    refine va_get (D := (dC, dI)) (ci := 7) (v := .ref h_rd) (C := RX10) (T := TX10) (N := 8) hx hb hw iwX10 hown hK hP 0 rfl rfl 0 (by decide) (hw _ w_f_X10_12) (fun _ h9 => h9) rfl dX10_feed_43 ?_
    refine lv_iload hx hb dX10_feed_46 (lv_at hl 4 rfl) ?_
    have hPc := hP.sub (ws' := [(h_rd, .inr (4, (mo26 v_rd (.ref h_by) (.int z16)))), (h_by, .inl (cy_by, 600, .inl f17))]) [1, 2] rfl
    have hDc := hD.sub (ws' := [(h_rd, .inr (4, (mo26 v_rd (.ref h_by) (.int z16)))), (h_by, .inl (cy_by, 600, .inl f17))]) [1, 2] (by decide) rfl
    have hKc := hK.sub (tys' := [(cy_by, .int)]) [0] rfl
    have hFc := va_free (wc := [(h_rd, .inr (4, (mo26 v_rd (.ref h_by) (.int z16)))), (h_by, .inl (cy_by, 600, .inl f17))]) hD hS hA [1, 2] rfl
    refine va_callv (va_runVN (As := [.int p4]) (rest := []) ⟨hx, hb, hml, hown, hts⟩ (c_X5_take l dC dI H.size h_rd h_by v_rd z16 cy_by f17 p4 (by first | exact k18 | omega) hf17 (by omega)) ⟨va_cnB (host := "OppositePairs") 1 hts (gd hT w_code_X5_take) rfl rfl rfl (hN _ n_m_X10_71) (hw _ w_ini_X5) (by decide +kernel) ⟨(Nat.le_of_ble_eq_true rfl), (Nat.le_of_ble_eq_true rfl)⟩, hw _ w_instanceMethod_X5_take, hw _ ws_sel_X5_take⟩ ⟨pre_blind, va_recv hK hP (ci := 4) (q0 := 1) rfl rfl, pre_of hPc hKc hDc hN⟩ rfl rfl hl.1 rfl (lv_room (Nat.le_of_ble_eq_true rfl)) dX10_feed_48 ⟨(Nat.le_of_ble_eq_true rfl), (Nat.le_of_ble_eq_true rfl)⟩) hS (fun q _ h => hFc q h) hFc (fun u t H locs ht hvm hq hB hz1 hk1 hS9 => ?_)
    obtain ⟨z22, f23⟩ := u
    obtain ⟨hP1, hD1⟩ := hB
    rw [ht] at hP1
    obtain ⟨hP9, hD9⟩ := va_join (wr := [(h_xx, .inr (7, (mo59 v_xx (.ref h_rd))))]) (w1 := [(h_rd, .inr (4, (mo26 v_rd (.ref h_by) (.int z22)))), (h_by, .inl (cy_by, 600, .inl f23))]) hP hD [1, 2] [0] rfl rfl (by decide) (by decide) hk1 hFc hP1 hD1
    clear hP hD hS hPc hDc hKc hFc hP1 hD1 hk1 hz1 ht hvm
    have hP : va_P (dC, dI) cls [(h_xx, .inr (7, (mo59 v_xx (.ref h_rd)))), (h_rd, .inr (4, (mo26 v_rd (.ref h_by) (.int z22)))), (h_by, .inl (cy_by, 600, .inl f23))] H := hP9
    have hD : va_D A [(h_xx, .inr (7, (mo59 v_xx (.ref h_rd)))), (h_rd, .inr (4, (mo26 v_rd (.ref h_by) (.int z22)))), (h_by, .inl (cy_by, 600, .inl f23))] := hD9
    have hS := hS9
    clear hP9 hD9 hS9
    obtain ⟨k24, hf23, k25, k26⟩ := hq
    replace k24 : 0 ≤ ((z22)).toInt ∧ ((z22)).toInt ≤ 600 := k24
    replace hf23 : Rg 0 255 (f23) := hf23
    replace k25 : ((z22)).toInt = ((z16)).toInt + 4 := k25
    replace k26 : TKF ((z16)).toInt (p4) 4 (f17) (f23) := k26
    refine lv_aload_n hx hb dX10_feed_51 rfl (lv_at hl 0 rfl) ?_
    refine va_get (D := (dC, dI)) (ci := 7) (v := .ref h_rd) (C := RX10) (T := TX10) (N := 8) hx hb hw iwX10 hown hK hP 0 rfl rfl 0 (by decide) (hw _ w_f_X10_12) (fun _ h9 => h9) rfl dX10_feed_52 ?_
    refine lv_iload hx hb dX10_feed_55 (lv_at hl 5 rfl) ?_
    have hPc := hP.sub (ws' := [(h_rd, .inr (4, (mo26 v_rd (.ref h_by) (.int z22)))), (h_by, .inl (cy_by, 600, .inl f23))]) [1, 2] rfl
    have hDc := hD.sub (ws' := [(h_rd, .inr (4, (mo26 v_rd (.ref h_by) (.int z22)))), (h_by, .inl (cy_by, 600, .inl f23))]) [1, 2] (by decide) rfl
    have hKc := hK.sub (tys' := [(cy_by, .int)]) [0] rfl
    have hFc := va_free (wc := [(h_rd, .inr (4, (mo26 v_rd (.ref h_by) (.int z22)))), (h_by, .inl (cy_by, 600, .inl f23))]) hD hS hA [1, 2] rfl
    refine va_callv (va_runVN (As := [.int p5]) (rest := []) ⟨hx, hb, hml, hown, hts⟩ (c_X5_take l dC dI H.size h_rd h_by v_rd z22 cy_by f23 p5 (by first | exact k24 | omega) hf23 (by omega)) ⟨va_cnB (host := "OppositePairs") 1 hts (gd hT w_code_X5_take) rfl rfl rfl (hN _ n_m_X10_71) (hw _ w_ini_X5) (by decide +kernel) ⟨(Nat.le_of_ble_eq_true rfl), (Nat.le_of_ble_eq_true rfl)⟩, hw _ w_instanceMethod_X5_take, hw _ ws_sel_X5_take⟩ ⟨pre_blind, va_recv hK hP (ci := 4) (q0 := 1) rfl rfl, pre_of hPc hKc hDc hN⟩ rfl rfl hl.1 rfl (lv_room (Nat.le_of_ble_eq_true rfl)) dX10_feed_57 ⟨(Nat.le_of_ble_eq_true rfl), (Nat.le_of_ble_eq_true rfl)⟩) hS (fun q _ h => hFc q h) hFc (fun u t H locs ht hvm hq hB hz1 hk1 hS9 => ?_)
    obtain ⟨z28, f29⟩ := u
    obtain ⟨hP1, hD1⟩ := hB
    rw [ht] at hP1
    obtain ⟨hP9, hD9⟩ := va_join (wr := [(h_xx, .inr (7, (mo59 v_xx (.ref h_rd))))]) (w1 := [(h_rd, .inr (4, (mo26 v_rd (.ref h_by) (.int z28)))), (h_by, .inl (cy_by, 600, .inl f29))]) hP hD [1, 2] [0] rfl rfl (by decide) (by decide) hk1 hFc hP1 hD1
    clear hP hD hS hPc hDc hKc hFc hP1 hD1 hk1 hz1 ht hvm
    have hP : va_P (dC, dI) cls [(h_xx, .inr (7, (mo59 v_xx (.ref h_rd)))), (h_rd, .inr (4, (mo26 v_rd (.ref h_by) (.int z28)))), (h_by, .inl (cy_by, 600, .inl f29))] H := hP9
    have hD : va_D A [(h_xx, .inr (7, (mo59 v_xx (.ref h_rd)))), (h_rd, .inr (4, (mo26 v_rd (.ref h_by) (.int z28)))), (h_by, .inl (cy_by, 600, .inl f29))] := hD9
    have hS := hS9
    clear hP9 hD9 hS9
    obtain ⟨k30, hf29, k31, k32⟩ := hq
    replace k30 : 0 ≤ ((z28)).toInt ∧ ((z28)).toInt ≤ 600 := k30
    replace hf29 : Rg 0 255 (f29) := hf29
    replace k31 : ((z28)).toInt = ((z22)).toInt + 4 := k31
    replace k32 : TKF ((z22)).toInt (p5) 4 (f23) (f29) := k32
    refine lv_aload_n hx hb dX10_feed_60 rfl (lv_at hl 0 rfl) ?_
    refine va_get (D := (dC, dI)) (ci := 7) (v := .ref h_rd) (C := RX10) (T := TX10) (N := 8) hx hb hw iwX10 hown hK hP 0 rfl rfl 0 (by decide) (hw _ w_f_X10_12) (fun _ h9 => h9) rfl dX10_feed_61 ?_
    refine va_getN (D := (dC, dI)) (ci := 4) (v := .int z28) (C := RX5) (T := TX5) (N := 11) (host := "OppositePairs") hx hb hw iwX5 hown hK hP 1 rfl rfl 1 (by decide) (hN.use n_f_X10_67 rfl) (fun _ h9 => h9) rfl dX10_feed_64 ?_
    refine W.widen (k := 0) (n := 0) (Nat.le_of_ble_eq_true rfl) (Nat.le_of_ble_eq_true rfl) ?_
    have w33 : 0 ≤ ((z28)).toInt ∧ ((z28)).toInt ≤ 600 := by first | exact k30 | omega
    have w34 : ((x_rd_length).toInt + 20 > 600 ∧ ((z28)).toInt = (x_rd_length).toInt ∧ ((z28 : Int32)).toInt = -1) ∨ ((x_rd_length).toInt + 20 ≤ 600 ∧ ((z28)).toInt = (x_rd_length).toInt + 20 ∧ ((z28 : Int32)).toInt = (x_rd_length).toInt + 20) := by omega
    have w35 : (((z28 : Int32)).toInt = -1 ∧ (f29) = f_by) ∨ FED (x_rd_length).toInt p1 p2 p3 p4 p5 f_by (f29) := (Or.inr (fed_five k8 k14 k20 k26 k32 (by omega) (by omega) (by omega) (by omega) (by omega)))
    exact W.iret (v := z28) hx hb hr (fun t ht hW => ⟨⟨z28, (z28, f29), rfl, ⟨w33, hf29, w34, w35⟩, by rw [ht]; exact hP, hD⟩, hS.F ht⟩) hS.2.2 dX10_feed_67
  · have kc2 := (not_congr (cv_le (rfl : (z1).toInt = (z1).toInt) (by decide : (600 : Int32).toInt = 600))).mp c2
    refine lv_iconst (v := (-1)) hx hb dX10_feed_16 (by decide) ?_
    refine W.widen (k := 0) (n := 0) (Nat.le_of_ble_eq_true rfl) (Nat.le_of_ble_eq_true rfl) ?_
    have cstm1 : ((-1) : Int32).toInt = -1 := by decide
    have w36 : 0 ≤ ((x_rd_length)).toInt ∧ ((x_rd_length)).toInt ≤ 600 := by first | exact hx_rd_length | omega
    have w37 : ((x_rd_length).toInt + 20 > 600 ∧ ((x_rd_length)).toInt = (x_rd_length).toInt ∧ (((-1) : Int32)).toInt = -1) ∨ ((x_rd_length).toInt + 20 ≤ 600 ∧ ((x_rd_length)).toInt = (x_rd_length).toInt + 20 ∧ (((-1) : Int32)).toInt = (x_rd_length).toInt + 20) := by omega
    have w38 : ((((-1) : Int32)).toInt = -1 ∧ (f_by) = f_by) ∨ FED (x_rd_length).toInt p1 p2 p3 p4 p5 f_by (f_by) := (Or.inl ⟨by decide, rfl⟩)
    exact W.iret (v := (-1)) hx hb hr (fun t ht hW => ⟨⟨(-1), (x_rd_length, f_by), rfl, ⟨w36, hf_by, w37, w38⟩, by rw [ht]; exact hP, hD⟩, hS.F ht⟩) hS.2.2 dX10_feed_17

set_option maxHeartbeats 8000000 in
set_option maxRecDepth 100000 in
theorem c_X10_end (l : Launch) (dC : Nat → ClassId) (dI : Nat → Nat → Nat) (sz : Nat) (h_xx : Nat) (h_rd : Nat) (v_xx : Nat → Value) (v_rd : Nat → Value) (x_rd_length : Int32) (p1 : Int32) (hx_rd_length : 0 ≤ (x_rd_length).toInt ∧ (x_rd_length).toInt ≤ 600) : Met l yX10_end (Ws yX10_end cX10_end 2 (some .boolean)) (({ frames := 0, cells := 0, slots := 0, locals := 0 } : Room)) (PRE (dC, dI) cls [] [(h_xx, .inr (7, (mo59 v_xx (.ref h_rd)))), (h_rd, .inr (4, (mo60 v_rd (.int x_rd_length))))] sz [.ref h_xx, .int p1]) (va_Qi (fun (r : Int32) (u : (Int32)) => (0 ≤ (u).toInt ∧ (u).toInt ≤ 600) ∧ ((r = 1 ∧ (0 ≤ (p1).toInt) ∧ ((p1).toInt ≤ (x_rd_length).toInt) ∧ ((u).toInt = (p1).toInt)) ∨ (r = 0 ∧ ((p1).toInt < 0 ∨ (x_rd_length).toInt < (p1).toInt) ∧ ((u).toInt = (x_rd_length).toInt)))) (fun (u : (Int32)) (t : State) => va_P (dC, dI) cls [(h_xx, .inr (7, (mo59 v_xx (.ref h_rd)))), (h_rd, .inr (4, (mo60 v_rd (.int u))))] t.heap ∧ va_D (va_A [(h_xx, .inr (7, (mo59 v_xx (.ref h_rd)))), (h_rd, .inr (4, (mo60 v_rd (.int x_rd_length))))] sz) [(h_xx, .inr (7, (mo59 v_xx (.ref h_rd)))), (h_rd, .inr (4, (mo60 v_rd (.int u))))]) (va_A [(h_xx, .inr (7, (mo59 v_xx (.ref h_rd)))), (h_rd, .inr (4, (mo60 v_rd (.int x_rd_length))))] sz)) 0 0 (va_A [(h_xx, .inr (7, (mo59 v_xx (.ref h_rd)))), (h_rd, .inr (4, (mo60 v_rd (.int x_rd_length))))] sz) := by
  refine Met.ofW (cc := cX10_end) (maxL := 2) (ret := (some .boolean)) (by decide) rfl ?_
  intro p e s m args below meth c s₁ B hml hv
  obtain ⟨rfl, hsz, hP, hK, hD0, hN⟩ := hv
  have hx := B.exec
  have hb := B.bytes
  have hr := B.returns
  have hts := atoms_spec (ws := Ws yX10_end cX10_end 2 (some .boolean)) B.pre
  have hT : ∀ w ∈ WALL, w ∈ Ws yX10_end cX10_end 2 (some .boolean) := fun w h => List.mem_cons_of_mem _ h
  have hw := fun w (h : w ∈ WALL) => hts w (hT w h)
  have hown : s.vm.findClass RX10 = some m.cls := findClass_of_methodNamed B.named
  have hlocks := B.notSynchronized
  subst hsz
  have hD := hD0.self (sz := s.heap.size)
  generalize hAe : va_A [(h_xx, .inr (7, (mo59 v_xx (.ref h_rd)))), (h_rd, .inr (4, (mo60 v_rd (.int x_rd_length))))] s.heap.size = A at hD ⊢
  have hA : ∀ q : Nat, s.heap.size ≤ q → A q := fun q h => by rw [← hAe]; exact Or.inr h
  have hS : va_S A s.heap s.heap [] := va_S.rf
  have hl := lv_entry ([.ref h_xx, .int p1]) (n := 2) (Nat.le_of_ble_eq_true rfl)
  rw [lg_entry_eq]
  generalize (lg_sl ([.ref h_xx, .int p1]) ++ List.replicate (2 - (lg_sl ([.ref h_xx, .int p1])).length) Slot.unset).toArray = ls at hl ⊢
  have hl : lv_has ls 2 [(0, .ref h_xx), (1, .int p1)] := hl
  refine lv_iload_n hx hb dX10_end_0 rfl (lv_at hl 1 rfl) ?_
  refine lv_if_lt (tgt := 15) hx hb dX10_end_1 (by decide) (fun c1 => ?_) (fun c1 => ?_)
  · have kc1 := (cv_lt (rfl : (p1).toInt = (p1).toInt) (by decide : (0 : Int32).toInt = 0)).mp c1
    refine lv_iconst (v := 0) hx hb dX10_end_15 (by decide) ?_
    refine W.widen (k := 0) (n := 0) (Nat.le_of_ble_eq_true rfl) (Nat.le_of_ble_eq_true rfl) ?_
    have cst0 : (0 : Int32).toInt = 0 := by decide
    have w2 : 0 ≤ ((x_rd_length)).toInt ∧ ((x_rd_length)).toInt ≤ 600 := by first | exact hx_rd_length | omega
    have : (p1).toInt < 0 ∨ (x_rd_length).toInt < (p1).toInt := by omega
    have : ((x_rd_length)).toInt = (x_rd_length).toInt := by omega
    exact W.zret (v := 0) (ty := .boolean) hx hb hr (by decide) (fun t ht hW => ⟨⟨0, x_rd_length, rfl, ⟨w2, (Or.inr (⟨rfl, by assumption, by assumption⟩))⟩, by rw [ht]; exact hP, hD⟩, hS.F ht⟩) hS.2.2 dX10_end_16
  · have kc1 := (not_congr (cv_lt (rfl : (p1).toInt = (p1).toInt) (by decide : (0 : Int32).toInt = 0))).mp c1
    refine lv_iload_n hx hb dX10_end_4 rfl (lv_at hl 1 rfl) ?_
    refine lv_aload_n hx hb dX10_end_5 rfl (lv_at hl 0 rfl) ?_
    refine va_get (D := (dC, dI)) (ci := 7) (v := .ref h_rd) (C := RX10) (T := TX10) (N := 8) hx hb hw iwX10 hown hK hP 0 rfl rfl 0 (by decide) (hw _ w_f_X10_12) (fun _ h9 => h9) rfl dX10_end_6 ?_
    refine va_getN (D := (dC, dI)) (ci := 4) (v := .int x_rd_length) (C := RX5) (T := TX5) (N := 11) (host := "OppositePairs") hx hb hw iwX5 hown hK hP 1 rfl rfl 1 (by decide) (hN.use n_f_X10_67 rfl) (fun _ h9 => h9) rfl dX10_end_9 ?_
    refine lv_icmp_le (tgt := 17) hx hb dX10_end_12 (by decide) (fun c4 => ?_) (fun c4 => ?_)
    · have kc4 := (cv_le (rfl : (p1).toInt = (p1).toInt) (rfl : (x_rd_length).toInt = (x_rd_length).toInt)).mp c4
      refine lv_aload_n hx hb dX10_end_17 rfl (lv_at hl 0 rfl) ?_
      refine va_get (D := (dC, dI)) (ci := 7) (v := .ref h_rd) (C := RX10) (T := TX10) (N := 8) hx hb hw iwX10 hown hK hP 0 rfl rfl 0 (by decide) (hw _ w_f_X10_12) (fun _ h9 => h9) rfl dX10_end_18 ?_
      refine lv_iload_n hx hb dX10_end_21 rfl (lv_at hl 1 rfl) ?_
      refine va_putN (D := (dC, dI)) (ci := 4) (v := .int p1) (ty := tyX5 1) (C := RX5) (T := TX5) (N := 11) (host := "OppositePairs") hx hb hw iwX5 tyX5 tyX5_ok nmX5 hown hK hP hD hS 1 rfl rfl 1 (by decide) (hN.use n_f_X10_67 rfl) (fun _ h9 => h9) rfl (tyX5_ok 1 (by decide)) rfl rfl (Nat.le_of_ble_eq_true rfl) dX10_end_22 (fun H locs hP9 hD9 hS9 => ?_)
      clear hP hD hS
      have hP : va_P (dC, dI) cls [(h_xx, .inr (7, (mo59 v_xx (.ref h_rd)))), (h_rd, .inr (4, (mo60 v_rd (.int p1))))] H := hP9
      have hD : va_D A [(h_xx, .inr (7, (mo59 v_xx (.ref h_rd)))), (h_rd, .inr (4, (mo60 v_rd (.int p1))))] := hD9
      have hS := hS9
      clear hP9 hD9 hS9
      refine lv_iconst (v := 1) hx hb dX10_end_25 (by decide) ?_
      refine W.widen (k := 0) (n := 0) (Nat.le_of_ble_eq_true rfl) (Nat.le_of_ble_eq_true rfl) ?_
      have cst1 : (1 : Int32).toInt = 1 := by decide
      have w5 : 0 ≤ ((p1)).toInt ∧ ((p1)).toInt ≤ 600 := by omega
      have : 0 ≤ (p1).toInt := by omega
      have : (p1).toInt ≤ (x_rd_length).toInt := by omega
      have : ((p1)).toInt = (p1).toInt := by omega
      exact W.zret (v := 1) (ty := .boolean) hx hb hr (by decide) (fun t ht hW => ⟨⟨1, p1, rfl, ⟨w5, (Or.inl (⟨rfl, by assumption, by assumption, by assumption⟩))⟩, by rw [ht]; exact hP, hD⟩, hS.F ht⟩) hS.2.2 dX10_end_26
    · have kc4 := (not_congr (cv_le (rfl : (p1).toInt = (p1).toInt) (rfl : (x_rd_length).toInt = (x_rd_length).toInt))).mp c4
      refine lv_iconst (v := 0) hx hb dX10_end_15 (by decide) ?_
      refine W.widen (k := 0) (n := 0) (Nat.le_of_ble_eq_true rfl) (Nat.le_of_ble_eq_true rfl) ?_
      have cst0 : (0 : Int32).toInt = 0 := by decide
      have w7 : 0 ≤ ((x_rd_length)).toInt ∧ ((x_rd_length)).toInt ≤ 600 := by first | exact hx_rd_length | omega
      have : (p1).toInt < 0 ∨ (x_rd_length).toInt < (p1).toInt := by omega
      have : ((x_rd_length)).toInt = (x_rd_length).toInt := by omega
      exact W.zret (v := 0) (ty := .boolean) hx hb hr (by decide) (fun t ht hW => ⟨⟨0, x_rd_length, rfl, ⟨w7, (Or.inr (⟨rfl, by assumption, by assumption⟩))⟩, by rw [ht]; exact hP, hD⟩, hS.F ht⟩) hS.2.2 dX10_end_16

set_option maxHeartbeats 8000000 in
set_option maxRecDepth 100000 in
theorem c_X10_forgetAll (l : Launch) (dC : Nat → ClassId) (dI : Nat → Nat → Nat) (sz : Nat) (h_xx : Nat) (h_pv : Nat) (h_mx : Nat) (h_an : Nat) (v_xx : Nat → Value) (v_pv : Nat → Value) (x_pv_proved : Int32) (v_mx : Nat → Value) (x_mx_sorted : Int32) (x_mx_walked : Int32) (v_an : Nat → Value) (x_an_count : Int32) (hx_pv_proved : 0 ≤ (x_pv_proved).toInt ∧ (x_pv_proved).toInt ≤ 1) (hx_an_count : 0 ≤ (x_an_count).toInt ∧ (x_an_count).toInt ≤ 8) : Met l yX10_forgetAll (Ws yX10_forgetAll cX10_forgetAll 1 none) (({ frames := 1, cells := 0, slots := 0, locals := 20 } : Room)) (PRE (dC, dI) cls [] [(h_xx, .inr (7, (mo61 v_xx (.ref h_pv) (.ref h_mx) (.ref h_an)))), (h_pv, .inr (3, (mo62 v_pv (.int x_pv_proved)))), (h_mx, .inr (2, (mo45 v_mx (.int x_mx_sorted) (.int x_mx_walked)))), (h_an, .inr (0, (mo63 v_an (.int x_an_count))))] sz [.ref h_xx]) (va_Qv (fun (u : (Int32) × (Int32) × (Int32) × (Int32)) => (0 ≤ (u.1).toInt ∧ (u.1).toInt ≤ 1) ∧ (0 ≤ (u.2.2.2).toInt ∧ (u.2.2.2).toInt ≤ 8)) (fun (u : (Int32) × (Int32) × (Int32) × (Int32)) (t : State) => va_P (dC, dI) cls [(h_xx, .inr (7, (mo61 v_xx (.ref h_pv) (.ref h_mx) (.ref h_an)))), (h_pv, .inr (3, (mo62 v_pv (.int u.1)))), (h_mx, .inr (2, (mo45 v_mx (.int u.2.1) (.int u.2.2.1)))), (h_an, .inr (0, (mo63 v_an (.int u.2.2.2))))] t.heap ∧ va_D (va_A [(h_xx, .inr (7, (mo61 v_xx (.ref h_pv) (.ref h_mx) (.ref h_an)))), (h_pv, .inr (3, (mo62 v_pv (.int x_pv_proved)))), (h_mx, .inr (2, (mo45 v_mx (.int x_mx_sorted) (.int x_mx_walked)))), (h_an, .inr (0, (mo63 v_an (.int x_an_count))))] sz) [(h_xx, .inr (7, (mo61 v_xx (.ref h_pv) (.ref h_mx) (.ref h_an)))), (h_pv, .inr (3, (mo62 v_pv (.int u.1)))), (h_mx, .inr (2, (mo45 v_mx (.int u.2.1) (.int u.2.2.1)))), (h_an, .inr (0, (mo63 v_an (.int u.2.2.2))))]) (va_A [(h_xx, .inr (7, (mo61 v_xx (.ref h_pv) (.ref h_mx) (.ref h_an)))), (h_pv, .inr (3, (mo62 v_pv (.int x_pv_proved)))), (h_mx, .inr (2, (mo45 v_mx (.int x_mx_sorted) (.int x_mx_walked)))), (h_an, .inr (0, (mo63 v_an (.int x_an_count))))] sz)) 0 0 (va_A [(h_xx, .inr (7, (mo61 v_xx (.ref h_pv) (.ref h_mx) (.ref h_an)))), (h_pv, .inr (3, (mo62 v_pv (.int x_pv_proved)))), (h_mx, .inr (2, (mo45 v_mx (.int x_mx_sorted) (.int x_mx_walked)))), (h_an, .inr (0, (mo63 v_an (.int x_an_count))))] sz) := by
  refine Met.ofW (cc := cX10_forgetAll) (maxL := 1) (ret := none) (by decide) rfl ?_
  intro p e s m args below meth c s₁ B hml hv
  obtain ⟨rfl, hsz, hP, hK, hD0, hN⟩ := hv
  have hx := B.exec
  have hb := B.bytes
  have hr := B.returns
  have hts := atoms_spec (ws := Ws yX10_forgetAll cX10_forgetAll 1 none) B.pre
  have hT : ∀ w ∈ WALL, w ∈ Ws yX10_forgetAll cX10_forgetAll 1 none := fun w h => List.mem_cons_of_mem _ h
  have hw := fun w (h : w ∈ WALL) => hts w (hT w h)
  have hown : s.vm.findClass RX10 = some m.cls := findClass_of_methodNamed B.named
  have hlocks := B.notSynchronized
  subst hsz
  have hD := hD0.self (sz := s.heap.size)
  generalize hAe : va_A [(h_xx, .inr (7, (mo61 v_xx (.ref h_pv) (.ref h_mx) (.ref h_an)))), (h_pv, .inr (3, (mo62 v_pv (.int x_pv_proved)))), (h_mx, .inr (2, (mo45 v_mx (.int x_mx_sorted) (.int x_mx_walked)))), (h_an, .inr (0, (mo63 v_an (.int x_an_count))))] s.heap.size = A at hD ⊢
  have hA : ∀ q : Nat, s.heap.size ≤ q → A q := fun q h => by rw [← hAe]; exact Or.inr h
  have hS : va_S A s.heap s.heap [] := va_S.rf
  have hl := lv_entry ([.ref h_xx]) (n := 1) (Nat.le_of_ble_eq_true rfl)
  rw [lg_entry_eq]
  generalize (lg_sl ([.ref h_xx]) ++ List.replicate (1 - (lg_sl ([.ref h_xx])).length) Slot.unset).toArray = ls at hl ⊢
  have hl : lv_has ls 1 [(0, .ref h_xx)] := hl
  refine lv_aload_n hx hb dX10_forgetAll_0 rfl (lv_at hl 0 rfl) ?_
  refine va_get (D := (dC, dI)) (ci := 7) (v := .ref h_pv) (C := RX10) (T := TX10) (N := 8) hx hb hw iwX10 hown hK hP 0 rfl rfl 5 (by decide) (hw _ w_f_X10_47) (fun _ h9 => h9) rfl dX10_forgetAll_1 ?_
  refine lv_iconst (v := 0) hx hb dX10_forgetAll_4 (by decide) ?_
  refine va_putN (D := (dC, dI)) (ci := 3) (v := .int 0) (ty := tyX4 17) (C := RX4) (T := TX4) (N := 18) (host := "OppositePairs") hx hb hw iwX4 tyX4 tyX4_ok nmX4 hown hK hP hD hS 1 rfl rfl 17 (by decide) (hN.use n_f_X10_175 rfl) (fun _ h9 => h9) rfl (tyX4_ok 17 (by decide)) rfl rfl (Nat.le_of_ble_eq_true rfl) dX10_forgetAll_5 (fun H locs hP9 hD9 hS9 => ?_)
  clear hP hD hS
  have hP : va_P (dC, dI) cls [(h_xx, .inr (7, (mo61 v_xx (.ref h_pv) (.ref h_mx) (.ref h_an)))), (h_pv, .inr (3, (mo62 v_pv (.int 0)))), (h_mx, .inr (2, (mo45 v_mx (.int x_mx_sorted) (.int x_mx_walked)))), (h_an, .inr (0, (mo63 v_an (.int x_an_count))))] H := hP9
  have hD : va_D A [(h_xx, .inr (7, (mo61 v_xx (.ref h_pv) (.ref h_mx) (.ref h_an)))), (h_pv, .inr (3, (mo62 v_pv (.int 0)))), (h_mx, .inr (2, (mo45 v_mx (.int x_mx_sorted) (.int x_mx_walked)))), (h_an, .inr (0, (mo63 v_an (.int x_an_count))))] := hD9
  have hS := hS9
  clear hP9 hD9 hS9
  refine lv_aload_n hx hb dX10_forgetAll_8 rfl (lv_at hl 0 rfl) ?_
  refine va_get (D := (dC, dI)) (ci := 7) (v := .ref h_mx) (C := RX10) (T := TX10) (N := 8) hx hb hw iwX10 hown hK hP 0 rfl rfl 6 (by decide) (hw _ w_f_X10_56) (fun _ h9 => h9) rfl dX10_forgetAll_9 ?_
  have hPc := hP.sub (ws' := [(h_mx, .inr (2, (mo45 v_mx (.int x_mx_sorted) (.int x_mx_walked))))]) [2] rfl
  have hDc := hD.sub (ws' := [(h_mx, .inr (2, (mo45 v_mx (.int x_mx_sorted) (.int x_mx_walked))))]) [2] (by decide) rfl
  have hKc := hK.sub (tys' := []) [] rfl
  have hFc := va_free (wc := [(h_mx, .inr (2, (mo45 v_mx (.int x_mx_sorted) (.int x_mx_walked))))]) hD hS hA [2] rfl
  refine va_callv (va_runVN (As := []) (rest := []) ⟨hx, hb, hml, hown, hts⟩ (c_X3_forget l dC dI H.size h_mx v_mx x_mx_sorted x_mx_walked) ⟨va_cnB (host := "OppositePairs") 0 hts (gd hT w_code_X3_forget) rfl rfl rfl (hN _ n_m_X10_259) (hw _ w_ini_X3) (by decide +kernel) ⟨(Nat.le_of_ble_eq_true rfl), (Nat.le_of_ble_eq_true rfl)⟩, hw _ w_instanceMethod_X3_forget, hw _ ws_sel_X3_forget⟩ ⟨pre_blind, va_recv hK hP (ci := 2) (q0 := 2) rfl rfl, pre_of hPc hKc hDc hN⟩ rfl rfl hl.1 rfl (lv_room (Nat.le_of_ble_eq_true rfl)) dX10_forgetAll_12 ⟨(Nat.le_of_ble_eq_true rfl), (Nat.le_of_ble_eq_true rfl)⟩) hS (fun q _ h => hFc q h) hFc (fun u t H locs ht hvm hq hB hz1 hk1 hS9 => ?_)
  obtain ⟨z2, z3⟩ := u
  obtain ⟨hP1, hD1⟩ := hB
  rw [ht] at hP1
  obtain ⟨hP9, hD9⟩ := va_join (wr := [(h_xx, .inr (7, (mo61 v_xx (.ref h_pv) (.ref h_mx) (.ref h_an)))), (h_pv, .inr (3, (mo62 v_pv (.int 0)))), (h_an, .inr (0, (mo63 v_an (.int x_an_count))))]) (w1 := [(h_mx, .inr (2, (mo45 v_mx (.int z2) (.int z3))))]) hP hD [2] [0, 1, 3] rfl rfl (by decide) (by decide) hk1 hFc hP1 hD1
  clear hP hD hS hPc hDc hKc hFc hP1 hD1 hk1 hz1 ht hvm
  have hP : va_P (dC, dI) cls [(h_xx, .inr (7, (mo61 v_xx (.ref h_pv) (.ref h_mx) (.ref h_an)))), (h_pv, .inr (3, (mo62 v_pv (.int 0)))), (h_an, .inr (0, (mo63 v_an (.int x_an_count)))), (h_mx, .inr (2, (mo45 v_mx (.int z2) (.int z3))))] H := hP9
  have hD : va_D A [(h_xx, .inr (7, (mo61 v_xx (.ref h_pv) (.ref h_mx) (.ref h_an)))), (h_pv, .inr (3, (mo62 v_pv (.int 0)))), (h_an, .inr (0, (mo63 v_an (.int x_an_count)))), (h_mx, .inr (2, (mo45 v_mx (.int z2) (.int z3))))] := hD9
  have hS := hS9
  clear hP9 hD9 hS9
  refine lv_aload_n hx hb dX10_forgetAll_15 rfl (lv_at hl 0 rfl) ?_
  refine va_get (D := (dC, dI)) (ci := 7) (v := .ref h_an) (C := RX10) (T := TX10) (N := 8) hx hb hw iwX10 hown hK hP 0 rfl rfl 7 (by decide) (hw _ w_f_X10_63) (fun _ h9 => h9) rfl dX10_forgetAll_16 ?_
  refine lv_iconst (v := 0) hx hb dX10_forgetAll_19 (by decide) ?_
  refine va_putN (D := (dC, dI)) (ci := 0) (v := .int 0) (ty := tyX0 4) (C := RX0) (T := TX0) (N := 6) (host := "OppositePairs") hx hb hw iwX0 tyX0 tyX0_ok nmX0 hown hK hP hD hS 2 rfl rfl 4 (by decide) (hN.use n_f_X10_232 rfl) (fun _ h9 => h9) rfl (tyX0_ok 4 (by decide)) rfl rfl (Nat.le_of_ble_eq_true rfl) dX10_forgetAll_20 (fun H locs hP9 hD9 hS9 => ?_)
  clear hP hD hS
  have hP : va_P (dC, dI) cls [(h_xx, .inr (7, (mo61 v_xx (.ref h_pv) (.ref h_mx) (.ref h_an)))), (h_pv, .inr (3, (mo62 v_pv (.int 0)))), (h_an, .inr (0, (mo63 v_an (.int 0)))), (h_mx, .inr (2, (mo45 v_mx (.int z2) (.int z3))))] H := hP9
  have hD : va_D A [(h_xx, .inr (7, (mo61 v_xx (.ref h_pv) (.ref h_mx) (.ref h_an)))), (h_pv, .inr (3, (mo62 v_pv (.int 0)))), (h_an, .inr (0, (mo63 v_an (.int 0)))), (h_mx, .inr (2, (mo45 v_mx (.int z2) (.int z3))))] := hD9
  have hS := hS9
  clear hP9 hD9 hS9
  replace hP : va_P (dC, dI) cls [(h_xx, .inr (7, (mo61 v_xx (.ref h_pv) (.ref h_mx) (.ref h_an)))), (h_pv, .inr (3, (mo62 v_pv (.int 0)))), (h_mx, .inr (2, (mo45 v_mx (.int z2) (.int z3)))), (h_an, .inr (0, (mo63 v_an (.int 0))))] H := hP.sub [0, 1, 3, 2] rfl
  replace hD : va_D A [(h_xx, .inr (7, (mo61 v_xx (.ref h_pv) (.ref h_mx) (.ref h_an)))), (h_pv, .inr (3, (mo62 v_pv (.int 0)))), (h_mx, .inr (2, (mo45 v_mx (.int z2) (.int z3)))), (h_an, .inr (0, (mo63 v_an (.int 0))))] := hD.sub [0, 1, 3, 2] (by decide) rfl
  refine W.widen (k := 0) (n := 0) (Nat.le_of_ble_eq_true rfl) (Nat.le_of_ble_eq_true rfl) ?_
  have cst0 : (0 : Int32).toInt = 0 := by decide
  have w4 : 0 ≤ ((0 : Int32)).toInt ∧ ((0 : Int32)).toInt ≤ 1 := by omega
  have w5 : 0 ≤ ((0 : Int32)).toInt ∧ ((0 : Int32)).toInt ≤ 8 := by omega
  exact W.vret hx hb hr (fun t ht hW => ⟨⟨(0, z2, z3, 0), rfl, ⟨w4, w5⟩, by rw [ht]; exact hP, hD⟩, hS.F ht⟩) hS.2.2 dX10_forgetAll_23

set_option maxHeartbeats 8000000 in
set_option maxRecDepth 100000 in
theorem c_X10_clauses (l : Launch) (dC : Nat → ClassId) (dI : Nat → Nat → Nat) (sz : Nat) (h_xx : Nat) (h_rd : Nat) (h_by : Nat) (h_kn : Nat) (h_td : Nat) (h_nam : Nat) (h_var : Nat) (h_trm : Nat) (h_ter : Nat) (h_lit : Nat) (h_vas : Nat) (h_pls : Nat) (h_fst : Nat) (h_dr : Nat) (h_dnam : Nat) (h_dvar : Nat) (h_dtrm : Nat) (h_dter : Nat) (h_dlit : Nat) (h_dvas : Nat) (h_dpls : Nat) (h_dfst : Nat) (h_pv : Nat) (h_mx : Nat) (h_an : Nat) (v_xx : Nat → Value) (v_rd : Nat → Value) (x_rd_length : Int32) (x_rd_fault : Int32) (x_rd_place : Int32) (x_rd_variables : Int32) (x_rd_at : Int32) (x_rd_behind : Int32) (x_rd_token : Int32) (x_rd_letters : Int64) (cy_by : ClassId) (f_by : Nat → Int32) (cy_kn : ClassId) (f_kn : Nat → Int32) (x_td_parts : Int32) (x_td_clauses : Int32) (cy_nam : ClassId) (f_nam : Nat → Int64) (cy_var : ClassId) (f_var : Nat → Int32) (cy_trm : ClassId) (f_trm : Nat → Int32) (cy_ter : ClassId) (f_ter : Nat → Int32) (cy_lit : ClassId) (f_lit : Nat → Int32) (cy_vas : ClassId) (f_vas : Nat → Int32) (cy_pls : ClassId) (f_pls : Nat → Int32) (cy_fst : ClassId) (f_fst : Nat → Int32) (x_dr_parts : Int32) (x_dr_clauses : Int32) (cy_dnam : ClassId) (f_dnam : Nat → Int64) (cy_dvar : ClassId) (f_dvar : Nat → Int32) (cy_dtrm : ClassId) (f_dtrm : Nat → Int32) (cy_dter : ClassId) (f_dter : Nat → Int32) (cy_dlit : ClassId) (f_dlit : Nat → Int32) (cy_dvas : ClassId) (f_dvas : Nat → Int32) (cy_dpls : ClassId) (f_dpls : Nat → Int32) (cy_dfst : ClassId) (f_dfst : Nat → Int32) (v_pv : Nat → Value) (x_pv_proved : Int32) (v_mx : Nat → Value) (x_mx_sorted : Int32) (x_mx_walked : Int32) (v_an : Nat → Value) (x_an_count : Int32) (G : Int → Int) (hx_rd_length : 0 ≤ (x_rd_length).toInt ∧ (x_rd_length).toInt ≤ 600) (hx_rd_variables : 0 ≤ (x_rd_variables).toInt ∧ (x_rd_variables).toInt ≤ 8) (hx_rd_at : 0 ≤ (x_rd_at).toInt ∧ (x_rd_at).toInt ≤ 600) (hx_rd_behind : 0 ≤ (x_rd_behind).toInt ∧ (x_rd_behind).toInt ≤ 600) (hf_by : Rg 0 255 f_by) (hf_kn : Rg 0 299 f_kn) (hx_td_parts : 0 ≤ (x_td_parts).toInt ∧ (x_td_parts).toInt ≤ 300) (hx_td_clauses : 0 ≤ (x_td_clauses).toInt ∧ (x_td_clauses).toInt ≤ 16) (hf_var : Rg (-1) 7 f_var) (hf_trm : Rg 0 3 f_trm) (hf_ter : Rg 0 299 f_ter) (hf_lit : Rg 0 6 f_lit) (hf_fst : Rg 0 299 f_fst) (hx_dr_parts : 0 ≤ (x_dr_parts).toInt ∧ (x_dr_parts).toInt ≤ 300) (hx_dr_clauses : 0 ≤ (x_dr_clauses).toInt ∧ (x_dr_clauses).toInt ≤ 16) (hf_dvar : Rg (-1) 7 f_dvar) (hf_dtrm : Rg 0 3 f_dtrm) (hf_dter : Rg 0 299 f_dter) (hf_dlit : Rg 0 6 f_dlit) (hf_dfst : Rg 0 299 f_dfst) (hx_pv_proved : 0 ≤ (x_pv_proved).toInt ∧ (x_pv_proved).toInt ≤ 1) (hx_an_count : 0 ≤ (x_an_count).toInt ∧ (x_an_count).toInt ≤ 8) (hn_byt : BYT G (x_rd_length).toInt f_by) (hn_tz : TZG f_var f_trm) (hn_dtz : TZG f_dvar f_dtrm) : Met l yX10_clauses (Ws yX10_clauses cX10_clauses 2 (some .int)) (({ frames := 14, cells := 0, slots := 0, locals := 383 } : Room)) (PRE (dC, dI) cls [(cy_by, .int), (cy_kn, .int), (cy_nam, .long), (cy_var, .int), (cy_trm, .int), (cy_ter, .int), (cy_lit, .int), (cy_vas, .int), (cy_pls, .int), (cy_fst, .int), (cy_dnam, .long), (cy_dvar, .int), (cy_dtrm, .int), (cy_dter, .int), (cy_dlit, .int), (cy_dvas, .int), (cy_dpls, .int), (cy_dfst, .int)] [(h_xx, .inr (7, (mo64 v_xx (.ref h_rd) (.ref h_td) (.ref h_dr) (.ref h_pv) (.ref h_mx) (.ref h_an)))), (h_rd, .inr (4, (mo35 v_rd (.ref h_by) (.int x_rd_length) (.int x_rd_fault) (.int x_rd_place) (.ref h_kn) (.int x_rd_variables) (.int x_rd_at) (.int x_rd_behind) (.int x_rd_token) (.long x_rd_letters)))), (h_by, .inl (cy_by, 600, .inl f_by)), (h_kn, .inl (cy_kn, 8, .inl f_kn)), (h_td, .inr (5, (mo34 (.ref h_nam) (.ref h_var) (.ref h_trm) (.ref h_ter) (.int x_td_parts) (.ref h_lit) (.ref h_vas) (.ref h_pls) (.ref h_fst) (.int x_td_clauses)))), (h_nam, .inl (cy_nam, 300, .inr (.inl f_nam))), (h_var, .inl (cy_var, 300, .inl f_var)), (h_trm, .inl (cy_trm, 300, .inl f_trm)), (h_ter, .inl (cy_ter, 900, .inl f_ter)), (h_lit, .inl (cy_lit, 16, .inl f_lit)), (h_vas, .inl (cy_vas, 16, .inl f_vas)), (h_pls, .inl (cy_pls, 16, .inl f_pls)), (h_fst, .inl (cy_fst, 96, .inl f_fst)), (h_dr, .inr (5, (mo34 (.ref h_dnam) (.ref h_dvar) (.ref h_dtrm) (.ref h_dter) (.int x_dr_parts) (.ref h_dlit) (.ref h_dvas) (.ref h_dpls) (.ref h_dfst) (.int x_dr_clauses)))), (h_dnam, .inl (cy_dnam, 300, .inr (.inl f_dnam))), (h_dvar, .inl (cy_dvar, 300, .inl f_dvar)), (h_dtrm, .inl (cy_dtrm, 300, .inl f_dtrm)), (h_dter, .inl (cy_dter, 900, .inl f_dter)), (h_dlit, .inl (cy_dlit, 16, .inl f_dlit)), (h_dvas, .inl (cy_dvas, 16, .inl f_dvas)), (h_dpls, .inl (cy_dpls, 16, .inl f_dpls)), (h_dfst, .inl (cy_dfst, 96, .inl f_dfst)), (h_pv, .inr (3, (mo62 v_pv (.int x_pv_proved)))), (h_mx, .inr (2, (mo45 v_mx (.int x_mx_sorted) (.int x_mx_walked)))), (h_an, .inr (0, (mo63 v_an (.int x_an_count))))] sz [.ref h_xx]) (va_Qi (fun (r : Int32) (u : (Nat → Value) × (Int32) × (Int32) × (Int32) × (Int32) × (Int32) × (Int32) × (Int32) × (Int64) × (Nat → Int32) × (Int32) × (Int32) × (Nat → Int64) × (Nat → Int32) × (Nat → Int32) × (Nat → Int32) × (Nat → Int32) × (Nat → Int32) × (Nat → Int32) × (Nat → Int32) × (Int32) × (Int32) × (Nat → Int64) × (Nat → Int32) × (Nat → Int32) × (Nat → Int32) × (Nat → Int32) × (Nat → Int32) × (Nat → Int32) × (Nat → Int32) × (Int32) × (Int32) × (Int32) × (Int32)) => (0 ≤ (u.2.1).toInt ∧ (u.2.1).toInt ≤ 600) ∧ (0 ≤ (u.2.2.2.2.1).toInt ∧ (u.2.2.2.2.1).toInt ≤ 8) ∧ (0 ≤ (u.2.2.2.2.2.1).toInt ∧ (u.2.2.2.2.2.1).toInt ≤ 600) ∧ (0 ≤ (u.2.2.2.2.2.2.1).toInt ∧ (u.2.2.2.2.2.2.1).toInt ≤ 600) ∧ (Rg 0 299 u.2.2.2.2.2.2.2.2.2.1) ∧ (0 ≤ (u.2.2.2.2.2.2.2.2.2.2.1).toInt ∧ (u.2.2.2.2.2.2.2.2.2.2.1).toInt ≤ 300) ∧ (0 ≤ (u.2.2.2.2.2.2.2.2.2.2.2.1).toInt ∧ (u.2.2.2.2.2.2.2.2.2.2.2.1).toInt ≤ 16) ∧ (Rg (-1) 7 u.2.2.2.2.2.2.2.2.2.2.2.2.2.1) ∧ (Rg 0 3 u.2.2.2.2.2.2.2.2.2.2.2.2.2.2.1) ∧ (Rg 0 299 u.2.2.2.2.2.2.2.2.2.2.2.2.2.2.2.1) ∧ (Rg 0 6 u.2.2.2.2.2.2.2.2.2.2.2.2.2.2.2.2.1) ∧ (Rg 0 299 u.2.2.2.2.2.2.2.2.2.2.2.2.2.2.2.2.2.2.2.1) ∧ (0 ≤ (u.2.2.2.2.2.2.2.2.2.2.2.2.2.2.2.2.2.2.2.2.1).toInt ∧ (u.2.2.2.2.2.2.2.2.2.2.2.2.2.2.2.2.2.2.2.2.1).toInt ≤ 300) ∧ (0 ≤ (u.2.2.2.2.2.2.2.2.2.2.2.2.2.2.2.2.2.2.2.2.2.1).toInt ∧ (u.2.2.2.2.2.2.2.2.2.2.2.2.2.2.2.2.2.2.2.2.2.1).toInt ≤ 16) ∧ (Rg (-1) 7 u.2.2.2.2.2.2.2.2.2.2.2.2.2.2.2.2.2.2.2.2.2.2.2.1) ∧ (Rg 0 3 u.2.2.2.2.2.2.2.2.2.2.2.2.2.2.2.2.2.2.2.2.2.2.2.2.1) ∧ (Rg 0 299 u.2.2.2.2.2.2.2.2.2.2.2.2.2.2.2.2.2.2.2.2.2.2.2.2.2.1) ∧ (Rg 0 6 u.2.2.2.2.2.2.2.2.2.2.2.2.2.2.2.2.2.2.2.2.2.2.2.2.2.2.1) ∧ (Rg 0 299 u.2.2.2.2.2.2.2.2.2.2.2.2.2.2.2.2.2.2.2.2.2.2.2.2.2.2.2.2.2.1) ∧ (0 ≤ (u.2.2.2.2.2.2.2.2.2.2.2.2.2.2.2.2.2.2.2.2.2.2.2.2.2.2.2.2.2.2.1).toInt ∧ (u.2.2.2.2.2.2.2.2.2.2.2.2.2.2.2.2.2.2.2.2.2.2.2.2.2.2.2.2.2.2.1).toInt ≤ 1) ∧ (0 ≤ (u.2.2.2.2.2.2.2.2.2.2.2.2.2.2.2.2.2.2.2.2.2.2.2.2.2.2.2.2.2.2.2.2.2).toInt ∧ (u.2.2.2.2.2.2.2.2.2.2.2.2.2.2.2.2.2.2.2.2.2.2.2.2.2.2.2.2.2.2.2.2.2).toInt ≤ 8) ∧ ((u.2.1).toInt = 0) ∧ (TZG u.2.2.2.2.2.2.2.2.2.2.2.2.2.1 u.2.2.2.2.2.2.2.2.2.2.2.2.2.2.1) ∧ (TZG u.2.2.2.2.2.2.2.2.2.2.2.2.2.2.2.2.2.2.2.2.2.2.2.1 u.2.2.2.2.2.2.2.2.2.2.2.2.2.2.2.2.2.2.2.2.2.2.2.2.1) ∧ (IFZ (u.2.2.1).toInt (PLB u.2.2.2.2.2.2.2.2.2.2.2.2.2.2.2.2.1 u.2.2.2.2.2.2.2.2.2.2.2.2.2.2.2.2.2.2.1 (u.2.2.2.2.2.2.2.2.2.2.2.1).toInt)) ∧ (CLQ G (x_rd_length).toInt (u.2.2.1).toInt (u.2.2.2.1).toInt (u.2.2.2.2.2.2.2.2.2.2.2.1).toInt (x_td_clauses).toInt (r).toInt) ∧ (IFZ (u.2.2.1).toInt (∃ q9 : Int, ALX G (x_rd_length).toInt 32 (CVW u.2.2.2.2.2.2.2.2.2.2.2.2.1 u.2.2.2.2.2.2.2.2.2.2.2.2.2.1 u.2.2.2.2.2.2.2.2.2.2.2.2.2.2.1 u.2.2.2.2.2.2.2.2.2.2.2.2.2.2.2.1) (CLW u.2.2.2.2.2.2.2.2.2.2.2.2.2.2.2.2.1 u.2.2.2.2.2.2.2.2.2.2.2.2.2.2.2.2.2.1 u.2.2.2.2.2.2.2.2.2.2.2.2.2.2.2.2.2.2.1 u.2.2.2.2.2.2.2.2.2.2.2.2.2.2.2.2.2.2.2.1) 0 (u.2.2.2.2.2.2.2.2.2.2.1).toInt.toNat (u.2.2.2.2.2.2.2.2.2.2.2.1).toInt.toNat q9)) ∧ (¬ (u.2.2.1).toInt = 0 → (u.2.2.2.2.2.2.2.2.2.2.2.2.1 = f_nam ∧ u.2.2.2.2.2.2.2.2.2.2.2.2.2.1 = f_var ∧ u.2.2.2.2.2.2.2.2.2.2.2.2.2.2.1 = f_trm ∧ u.2.2.2.2.2.2.2.2.2.2.2.2.2.2.2.1 = f_ter ∧ u.2.2.2.2.2.2.2.2.2.2.2.2.2.2.2.2.1 = f_lit ∧ u.2.2.2.2.2.2.2.2.2.2.2.2.2.2.2.2.2.1 = f_vas ∧ u.2.2.2.2.2.2.2.2.2.2.2.2.2.2.2.2.2.2.1 = f_pls ∧ u.2.2.2.2.2.2.2.2.2.2.2.2.2.2.2.2.2.2.2.1 = f_fst))) (fun (u : (Nat → Value) × (Int32) × (Int32) × (Int32) × (Int32) × (Int32) × (Int32) × (Int32) × (Int64) × (Nat → Int32) × (Int32) × (Int32) × (Nat → Int64) × (Nat → Int32) × (Nat → Int32) × (Nat → Int32) × (Nat → Int32) × (Nat → Int32) × (Nat → Int32) × (Nat → Int32) × (Int32) × (Int32) × (Nat → Int64) × (Nat → Int32) × (Nat → Int32) × (Nat → Int32) × (Nat → Int32) × (Nat → Int32) × (Nat → Int32) × (Nat → Int32) × (Int32) × (Int32) × (Int32) × (Int32)) (t : State) => va_P (dC, dI) cls [(h_xx, .inr (7, (mo64 v_xx (.ref h_rd) (.ref h_td) (.ref h_dr) (.ref h_pv) (.ref h_mx) (.ref h_an)))), (h_rd, .inr (4, (mo35 u.1 (.ref h_by) (.int u.2.1) (.int u.2.2.1) (.int u.2.2.2.1) (.ref h_kn) (.int u.2.2.2.2.1) (.int u.2.2.2.2.2.1) (.int u.2.2.2.2.2.2.1) (.int u.2.2.2.2.2.2.2.1) (.long u.2.2.2.2.2.2.2.2.1)))), (h_by, .inl (cy_by, 600, .inl f_by)), (h_kn, .inl (cy_kn, 8, .inl u.2.2.2.2.2.2.2.2.2.1)), (h_td, .inr (5, (mo34 (.ref h_nam) (.ref h_var) (.ref h_trm) (.ref h_ter) (.int u.2.2.2.2.2.2.2.2.2.2.1) (.ref h_lit) (.ref h_vas) (.ref h_pls) (.ref h_fst) (.int u.2.2.2.2.2.2.2.2.2.2.2.1)))), (h_nam, .inl (cy_nam, 300, .inr (.inl u.2.2.2.2.2.2.2.2.2.2.2.2.1))), (h_var, .inl (cy_var, 300, .inl u.2.2.2.2.2.2.2.2.2.2.2.2.2.1)), (h_trm, .inl (cy_trm, 300, .inl u.2.2.2.2.2.2.2.2.2.2.2.2.2.2.1)), (h_ter, .inl (cy_ter, 900, .inl u.2.2.2.2.2.2.2.2.2.2.2.2.2.2.2.1)), (h_lit, .inl (cy_lit, 16, .inl u.2.2.2.2.2.2.2.2.2.2.2.2.2.2.2.2.1)), (h_vas, .inl (cy_vas, 16, .inl u.2.2.2.2.2.2.2.2.2.2.2.2.2.2.2.2.2.1)), (h_pls, .inl (cy_pls, 16, .inl u.2.2.2.2.2.2.2.2.2.2.2.2.2.2.2.2.2.2.1)), (h_fst, .inl (cy_fst, 96, .inl u.2.2.2.2.2.2.2.2.2.2.2.2.2.2.2.2.2.2.2.1)), (h_dr, .inr (5, (mo34 (.ref h_dnam) (.ref h_dvar) (.ref h_dtrm) (.ref h_dter) (.int u.2.2.2.2.2.2.2.2.2.2.2.2.2.2.2.2.2.2.2.2.1) (.ref h_dlit) (.ref h_dvas) (.ref h_dpls) (.ref h_dfst) (.int u.2.2.2.2.2.2.2.2.2.2.2.2.2.2.2.2.2.2.2.2.2.1)))), (h_dnam, .inl (cy_dnam, 300, .inr (.inl u.2.2.2.2.2.2.2.2.2.2.2.2.2.2.2.2.2.2.2.2.2.2.1))), (h_dvar, .inl (cy_dvar, 300, .inl u.2.2.2.2.2.2.2.2.2.2.2.2.2.2.2.2.2.2.2.2.2.2.2.1)), (h_dtrm, .inl (cy_dtrm, 300, .inl u.2.2.2.2.2.2.2.2.2.2.2.2.2.2.2.2.2.2.2.2.2.2.2.2.1)), (h_dter, .inl (cy_dter, 900, .inl u.2.2.2.2.2.2.2.2.2.2.2.2.2.2.2.2.2.2.2.2.2.2.2.2.2.1)), (h_dlit, .inl (cy_dlit, 16, .inl u.2.2.2.2.2.2.2.2.2.2.2.2.2.2.2.2.2.2.2.2.2.2.2.2.2.2.1)), (h_dvas, .inl (cy_dvas, 16, .inl u.2.2.2.2.2.2.2.2.2.2.2.2.2.2.2.2.2.2.2.2.2.2.2.2.2.2.2.1)), (h_dpls, .inl (cy_dpls, 16, .inl u.2.2.2.2.2.2.2.2.2.2.2.2.2.2.2.2.2.2.2.2.2.2.2.2.2.2.2.2.1)), (h_dfst, .inl (cy_dfst, 96, .inl u.2.2.2.2.2.2.2.2.2.2.2.2.2.2.2.2.2.2.2.2.2.2.2.2.2.2.2.2.2.1)), (h_pv, .inr (3, (mo62 v_pv (.int u.2.2.2.2.2.2.2.2.2.2.2.2.2.2.2.2.2.2.2.2.2.2.2.2.2.2.2.2.2.2.1)))), (h_mx, .inr (2, (mo45 v_mx (.int u.2.2.2.2.2.2.2.2.2.2.2.2.2.2.2.2.2.2.2.2.2.2.2.2.2.2.2.2.2.2.2.1) (.int u.2.2.2.2.2.2.2.2.2.2.2.2.2.2.2.2.2.2.2.2.2.2.2.2.2.2.2.2.2.2.2.2.1)))), (h_an, .inr (0, (mo63 v_an (.int u.2.2.2.2.2.2.2.2.2.2.2.2.2.2.2.2.2.2.2.2.2.2.2.2.2.2.2.2.2.2.2.2.2))))] t.heap ∧ va_D (va_A [(h_xx, .inr (7, (mo64 v_xx (.ref h_rd) (.ref h_td) (.ref h_dr) (.ref h_pv) (.ref h_mx) (.ref h_an)))), (h_rd, .inr (4, (mo35 v_rd (.ref h_by) (.int x_rd_length) (.int x_rd_fault) (.int x_rd_place) (.ref h_kn) (.int x_rd_variables) (.int x_rd_at) (.int x_rd_behind) (.int x_rd_token) (.long x_rd_letters)))), (h_by, .inl (cy_by, 600, .inl f_by)), (h_kn, .inl (cy_kn, 8, .inl f_kn)), (h_td, .inr (5, (mo34 (.ref h_nam) (.ref h_var) (.ref h_trm) (.ref h_ter) (.int x_td_parts) (.ref h_lit) (.ref h_vas) (.ref h_pls) (.ref h_fst) (.int x_td_clauses)))), (h_nam, .inl (cy_nam, 300, .inr (.inl f_nam))), (h_var, .inl (cy_var, 300, .inl f_var)), (h_trm, .inl (cy_trm, 300, .inl f_trm)), (h_ter, .inl (cy_ter, 900, .inl f_ter)), (h_lit, .inl (cy_lit, 16, .inl f_lit)), (h_vas, .inl (cy_vas, 16, .inl f_vas)), (h_pls, .inl (cy_pls, 16, .inl f_pls)), (h_fst, .inl (cy_fst, 96, .inl f_fst)), (h_dr, .inr (5, (mo34 (.ref h_dnam) (.ref h_dvar) (.ref h_dtrm) (.ref h_dter) (.int x_dr_parts) (.ref h_dlit) (.ref h_dvas) (.ref h_dpls) (.ref h_dfst) (.int x_dr_clauses)))), (h_dnam, .inl (cy_dnam, 300, .inr (.inl f_dnam))), (h_dvar, .inl (cy_dvar, 300, .inl f_dvar)), (h_dtrm, .inl (cy_dtrm, 300, .inl f_dtrm)), (h_dter, .inl (cy_dter, 900, .inl f_dter)), (h_dlit, .inl (cy_dlit, 16, .inl f_dlit)), (h_dvas, .inl (cy_dvas, 16, .inl f_dvas)), (h_dpls, .inl (cy_dpls, 16, .inl f_dpls)), (h_dfst, .inl (cy_dfst, 96, .inl f_dfst)), (h_pv, .inr (3, (mo62 v_pv (.int x_pv_proved)))), (h_mx, .inr (2, (mo45 v_mx (.int x_mx_sorted) (.int x_mx_walked)))), (h_an, .inr (0, (mo63 v_an (.int x_an_count))))] sz) [(h_xx, .inr (7, (mo64 v_xx (.ref h_rd) (.ref h_td) (.ref h_dr) (.ref h_pv) (.ref h_mx) (.ref h_an)))), (h_rd, .inr (4, (mo35 u.1 (.ref h_by) (.int u.2.1) (.int u.2.2.1) (.int u.2.2.2.1) (.ref h_kn) (.int u.2.2.2.2.1) (.int u.2.2.2.2.2.1) (.int u.2.2.2.2.2.2.1) (.int u.2.2.2.2.2.2.2.1) (.long u.2.2.2.2.2.2.2.2.1)))), (h_by, .inl (cy_by, 600, .inl f_by)), (h_kn, .inl (cy_kn, 8, .inl u.2.2.2.2.2.2.2.2.2.1)), (h_td, .inr (5, (mo34 (.ref h_nam) (.ref h_var) (.ref h_trm) (.ref h_ter) (.int u.2.2.2.2.2.2.2.2.2.2.1) (.ref h_lit) (.ref h_vas) (.ref h_pls) (.ref h_fst) (.int u.2.2.2.2.2.2.2.2.2.2.2.1)))), (h_nam, .inl (cy_nam, 300, .inr (.inl u.2.2.2.2.2.2.2.2.2.2.2.2.1))), (h_var, .inl (cy_var, 300, .inl u.2.2.2.2.2.2.2.2.2.2.2.2.2.1)), (h_trm, .inl (cy_trm, 300, .inl u.2.2.2.2.2.2.2.2.2.2.2.2.2.2.1)), (h_ter, .inl (cy_ter, 900, .inl u.2.2.2.2.2.2.2.2.2.2.2.2.2.2.2.1)), (h_lit, .inl (cy_lit, 16, .inl u.2.2.2.2.2.2.2.2.2.2.2.2.2.2.2.2.1)), (h_vas, .inl (cy_vas, 16, .inl u.2.2.2.2.2.2.2.2.2.2.2.2.2.2.2.2.2.1)), (h_pls, .inl (cy_pls, 16, .inl u.2.2.2.2.2.2.2.2.2.2.2.2.2.2.2.2.2.2.1)), (h_fst, .inl (cy_fst, 96, .inl u.2.2.2.2.2.2.2.2.2.2.2.2.2.2.2.2.2.2.2.1)), (h_dr, .inr (5, (mo34 (.ref h_dnam) (.ref h_dvar) (.ref h_dtrm) (.ref h_dter) (.int u.2.2.2.2.2.2.2.2.2.2.2.2.2.2.2.2.2.2.2.2.1) (.ref h_dlit) (.ref h_dvas) (.ref h_dpls) (.ref h_dfst) (.int u.2.2.2.2.2.2.2.2.2.2.2.2.2.2.2.2.2.2.2.2.2.1)))), (h_dnam, .inl (cy_dnam, 300, .inr (.inl u.2.2.2.2.2.2.2.2.2.2.2.2.2.2.2.2.2.2.2.2.2.2.1))), (h_dvar, .inl (cy_dvar, 300, .inl u.2.2.2.2.2.2.2.2.2.2.2.2.2.2.2.2.2.2.2.2.2.2.2.1)), (h_dtrm, .inl (cy_dtrm, 300, .inl u.2.2.2.2.2.2.2.2.2.2.2.2.2.2.2.2.2.2.2.2.2.2.2.2.1)), (h_dter, .inl (cy_dter, 900, .inl u.2.2.2.2.2.2.2.2.2.2.2.2.2.2.2.2.2.2.2.2.2.2.2.2.2.1)), (h_dlit, .inl (cy_dlit, 16, .inl u.2.2.2.2.2.2.2.2.2.2.2.2.2.2.2.2.2.2.2.2.2.2.2.2.2.2.1)), (h_dvas, .inl (cy_dvas, 16, .inl u.2.2.2.2.2.2.2.2.2.2.2.2.2.2.2.2.2.2.2.2.2.2.2.2.2.2.2.1)), (h_dpls, .inl (cy_dpls, 16, .inl u.2.2.2.2.2.2.2.2.2.2.2.2.2.2.2.2.2.2.2.2.2.2.2.2.2.2.2.2.1)), (h_dfst, .inl (cy_dfst, 96, .inl u.2.2.2.2.2.2.2.2.2.2.2.2.2.2.2.2.2.2.2.2.2.2.2.2.2.2.2.2.2.1)), (h_pv, .inr (3, (mo62 v_pv (.int u.2.2.2.2.2.2.2.2.2.2.2.2.2.2.2.2.2.2.2.2.2.2.2.2.2.2.2.2.2.2.1)))), (h_mx, .inr (2, (mo45 v_mx (.int u.2.2.2.2.2.2.2.2.2.2.2.2.2.2.2.2.2.2.2.2.2.2.2.2.2.2.2.2.2.2.2.1) (.int u.2.2.2.2.2.2.2.2.2.2.2.2.2.2.2.2.2.2.2.2.2.2.2.2.2.2.2.2.2.2.2.2.1)))), (h_an, .inr (0, (mo63 v_an (.int u.2.2.2.2.2.2.2.2.2.2.2.2.2.2.2.2.2.2.2.2.2.2.2.2.2.2.2.2.2.2.2.2.2))))]) (va_A [(h_xx, .inr (7, (mo64 v_xx (.ref h_rd) (.ref h_td) (.ref h_dr) (.ref h_pv) (.ref h_mx) (.ref h_an)))), (h_rd, .inr (4, (mo35 v_rd (.ref h_by) (.int x_rd_length) (.int x_rd_fault) (.int x_rd_place) (.ref h_kn) (.int x_rd_variables) (.int x_rd_at) (.int x_rd_behind) (.int x_rd_token) (.long x_rd_letters)))), (h_by, .inl (cy_by, 600, .inl f_by)), (h_kn, .inl (cy_kn, 8, .inl f_kn)), (h_td, .inr (5, (mo34 (.ref h_nam) (.ref h_var) (.ref h_trm) (.ref h_ter) (.int x_td_parts) (.ref h_lit) (.ref h_vas) (.ref h_pls) (.ref h_fst) (.int x_td_clauses)))), (h_nam, .inl (cy_nam, 300, .inr (.inl f_nam))), (h_var, .inl (cy_var, 300, .inl f_var)), (h_trm, .inl (cy_trm, 300, .inl f_trm)), (h_ter, .inl (cy_ter, 900, .inl f_ter)), (h_lit, .inl (cy_lit, 16, .inl f_lit)), (h_vas, .inl (cy_vas, 16, .inl f_vas)), (h_pls, .inl (cy_pls, 16, .inl f_pls)), (h_fst, .inl (cy_fst, 96, .inl f_fst)), (h_dr, .inr (5, (mo34 (.ref h_dnam) (.ref h_dvar) (.ref h_dtrm) (.ref h_dter) (.int x_dr_parts) (.ref h_dlit) (.ref h_dvas) (.ref h_dpls) (.ref h_dfst) (.int x_dr_clauses)))), (h_dnam, .inl (cy_dnam, 300, .inr (.inl f_dnam))), (h_dvar, .inl (cy_dvar, 300, .inl f_dvar)), (h_dtrm, .inl (cy_dtrm, 300, .inl f_dtrm)), (h_dter, .inl (cy_dter, 900, .inl f_dter)), (h_dlit, .inl (cy_dlit, 16, .inl f_dlit)), (h_dvas, .inl (cy_dvas, 16, .inl f_dvas)), (h_dpls, .inl (cy_dpls, 16, .inl f_dpls)), (h_dfst, .inl (cy_dfst, 96, .inl f_dfst)), (h_pv, .inr (3, (mo62 v_pv (.int x_pv_proved)))), (h_mx, .inr (2, (mo45 v_mx (.int x_mx_sorted) (.int x_mx_walked)))), (h_an, .inr (0, (mo63 v_an (.int x_an_count))))] sz)) 0 0 (va_A [(h_xx, .inr (7, (mo64 v_xx (.ref h_rd) (.ref h_td) (.ref h_dr) (.ref h_pv) (.ref h_mx) (.ref h_an)))), (h_rd, .inr (4, (mo35 v_rd (.ref h_by) (.int x_rd_length) (.int x_rd_fault) (.int x_rd_place) (.ref h_kn) (.int x_rd_variables) (.int x_rd_at) (.int x_rd_behind) (.int x_rd_token) (.long x_rd_letters)))), (h_by, .inl (cy_by, 600, .inl f_by)), (h_kn, .inl (cy_kn, 8, .inl f_kn)), (h_td, .inr (5, (mo34 (.ref h_nam) (.ref h_var) (.ref h_trm) (.ref h_ter) (.int x_td_parts) (.ref h_lit) (.ref h_vas) (.ref h_pls) (.ref h_fst) (.int x_td_clauses)))), (h_nam, .inl (cy_nam, 300, .inr (.inl f_nam))), (h_var, .inl (cy_var, 300, .inl f_var)), (h_trm, .inl (cy_trm, 300, .inl f_trm)), (h_ter, .inl (cy_ter, 900, .inl f_ter)), (h_lit, .inl (cy_lit, 16, .inl f_lit)), (h_vas, .inl (cy_vas, 16, .inl f_vas)), (h_pls, .inl (cy_pls, 16, .inl f_pls)), (h_fst, .inl (cy_fst, 96, .inl f_fst)), (h_dr, .inr (5, (mo34 (.ref h_dnam) (.ref h_dvar) (.ref h_dtrm) (.ref h_dter) (.int x_dr_parts) (.ref h_dlit) (.ref h_dvas) (.ref h_dpls) (.ref h_dfst) (.int x_dr_clauses)))), (h_dnam, .inl (cy_dnam, 300, .inr (.inl f_dnam))), (h_dvar, .inl (cy_dvar, 300, .inl f_dvar)), (h_dtrm, .inl (cy_dtrm, 300, .inl f_dtrm)), (h_dter, .inl (cy_dter, 900, .inl f_dter)), (h_dlit, .inl (cy_dlit, 16, .inl f_dlit)), (h_dvas, .inl (cy_dvas, 16, .inl f_dvas)), (h_dpls, .inl (cy_dpls, 16, .inl f_dpls)), (h_dfst, .inl (cy_dfst, 96, .inl f_dfst)), (h_pv, .inr (3, (mo62 v_pv (.int x_pv_proved)))), (h_mx, .inr (2, (mo45 v_mx (.int x_mx_sorted) (.int x_mx_walked)))), (h_an, .inr (0, (mo63 v_an (.int x_an_count))))] sz) := by
  refine Met.ofW (cc := cX10_clauses) (maxL := 2) (ret := (some .int)) (by decide) rfl ?_
  intro p e s m args below meth c s₁ B hml hv
  obtain ⟨rfl, hsz, hP, hK, hD0, hN⟩ := hv
  have hx := B.exec
  have hb := B.bytes
  have hr := B.returns
  have hts := atoms_spec (ws := Ws yX10_clauses cX10_clauses 2 (some .int)) B.pre
  have hT : ∀ w ∈ WALL, w ∈ Ws yX10_clauses cX10_clauses 2 (some .int) := fun w h => List.mem_cons_of_mem _ h
  have hw := fun w (h : w ∈ WALL) => hts w (hT w h)
  have hown : s.vm.findClass RX10 = some m.cls := findClass_of_methodNamed B.named
  have hlocks := B.notSynchronized
  subst hsz
  have hD := hD0.self (sz := s.heap.size)
  generalize hAe : va_A [(h_xx, .inr (7, (mo64 v_xx (.ref h_rd) (.ref h_td) (.ref h_dr) (.ref h_pv) (.ref h_mx) (.ref h_an)))), (h_rd, .inr (4, (mo35 v_rd (.ref h_by) (.int x_rd_length) (.int x_rd_fault) (.int x_rd_place) (.ref h_kn) (.int x_rd_variables) (.int x_rd_at) (.int x_rd_behind) (.int x_rd_token) (.long x_rd_letters)))), (h_by, .inl (cy_by, 600, .inl f_by)), (h_kn, .inl (cy_kn, 8, .inl f_kn)), (h_td, .inr (5, (mo34 (.ref h_nam) (.ref h_var) (.ref h_trm) (.ref h_ter) (.int x_td_parts) (.ref h_lit) (.ref h_vas) (.ref h_pls) (.ref h_fst) (.int x_td_clauses)))), (h_nam, .inl (cy_nam, 300, .inr (.inl f_nam))), (h_var, .inl (cy_var, 300, .inl f_var)), (h_trm, .inl (cy_trm, 300, .inl f_trm)), (h_ter, .inl (cy_ter, 900, .inl f_ter)), (h_lit, .inl (cy_lit, 16, .inl f_lit)), (h_vas, .inl (cy_vas, 16, .inl f_vas)), (h_pls, .inl (cy_pls, 16, .inl f_pls)), (h_fst, .inl (cy_fst, 96, .inl f_fst)), (h_dr, .inr (5, (mo34 (.ref h_dnam) (.ref h_dvar) (.ref h_dtrm) (.ref h_dter) (.int x_dr_parts) (.ref h_dlit) (.ref h_dvas) (.ref h_dpls) (.ref h_dfst) (.int x_dr_clauses)))), (h_dnam, .inl (cy_dnam, 300, .inr (.inl f_dnam))), (h_dvar, .inl (cy_dvar, 300, .inl f_dvar)), (h_dtrm, .inl (cy_dtrm, 300, .inl f_dtrm)), (h_dter, .inl (cy_dter, 900, .inl f_dter)), (h_dlit, .inl (cy_dlit, 16, .inl f_dlit)), (h_dvas, .inl (cy_dvas, 16, .inl f_dvas)), (h_dpls, .inl (cy_dpls, 16, .inl f_dpls)), (h_dfst, .inl (cy_dfst, 96, .inl f_dfst)), (h_pv, .inr (3, (mo62 v_pv (.int x_pv_proved)))), (h_mx, .inr (2, (mo45 v_mx (.int x_mx_sorted) (.int x_mx_walked)))), (h_an, .inr (0, (mo63 v_an (.int x_an_count))))] s.heap.size = A at hD ⊢
  have hA : ∀ q : Nat, s.heap.size ≤ q → A q := fun q h => by rw [← hAe]; exact Or.inr h
  have hS : va_S A s.heap s.heap [] := va_S.rf
  have hl := lv_entry ([.ref h_xx]) (n := 2) (Nat.le_of_ble_eq_true rfl)
  rw [lg_entry_eq]
  generalize (lg_sl ([.ref h_xx]) ++ List.replicate (2 - (lg_sl ([.ref h_xx])).length) Slot.unset).toArray = ls at hl ⊢
  have hl : lv_has ls 2 [(0, .ref h_xx)] := hl
  refine lv_aload_n hx hb dX10_clauses_0 rfl (lv_at hl 0 rfl) ?_
  refine va_get (D := (dC, dI)) (ci := 7) (v := .ref h_rd) (C := RX10) (T := TX10) (N := 8) hx hb hw iwX10 hown hK hP 0 rfl rfl 0 (by decide) (hw _ w_f_X10_12) (fun _ h9 => h9) rfl dX10_clauses_1 ?_
  refine lv_aload_n hx hb dX10_clauses_4 rfl (lv_at hl 0 rfl) ?_
  refine va_get (D := (dC, dI)) (ci := 7) (v := .ref h_dr) (C := RX10) (T := TX10) (N := 8) hx hb hw iwX10 hown hK hP 0 rfl rfl 2 (by decide) (hw _ w_f_X10_23) (fun _ h9 => h9) rfl dX10_clauses_5 ?_
  have hPc := hP.sub (ws' := [(h_rd, .inr (4, (mo35 v_rd (.ref h_by) (.int x_rd_length) (.int x_rd_fault) (.int x_rd_place) (.ref h_kn) (.int x_rd_variables) (.int x_rd_at) (.int x_rd_behind) (.int x_rd_token) (.long x_rd_letters)))), (h_by, .inl (cy_by, 600, .inl f_by)), (h_kn, .inl (cy_kn, 8, .inl f_kn)), (h_dr, .inr (5, (mo34 (.ref h_dnam) (.ref h_dvar) (.ref h_dtrm) (.ref h_dter) (.int x_dr_parts) (.ref h_dlit) (.ref h_dvas) (.ref h_dpls) (.ref h_dfst) (.int x_dr_clauses)))), (h_dnam, .inl (cy_dnam, 300, .inr (.inl f_dnam))), (h_dvar, .inl (cy_dvar, 300, .inl f_dvar)), (h_dtrm, .inl (cy_dtrm, 300, .inl f_dtrm)), (h_dter, .inl (cy_dter, 900, .inl f_dter)), (h_dlit, .inl (cy_dlit, 16, .inl f_dlit)), (h_dvas, .inl (cy_dvas, 16, .inl f_dvas)), (h_dpls, .inl (cy_dpls, 16, .inl f_dpls)), (h_dfst, .inl (cy_dfst, 96, .inl f_dfst))]) [1, 2, 3, 13, 14, 15, 16, 17, 18, 19, 20, 21] rfl
  have hDc := hD.sub (ws' := [(h_rd, .inr (4, (mo35 v_rd (.ref h_by) (.int x_rd_length) (.int x_rd_fault) (.int x_rd_place) (.ref h_kn) (.int x_rd_variables) (.int x_rd_at) (.int x_rd_behind) (.int x_rd_token) (.long x_rd_letters)))), (h_by, .inl (cy_by, 600, .inl f_by)), (h_kn, .inl (cy_kn, 8, .inl f_kn)), (h_dr, .inr (5, (mo34 (.ref h_dnam) (.ref h_dvar) (.ref h_dtrm) (.ref h_dter) (.int x_dr_parts) (.ref h_dlit) (.ref h_dvas) (.ref h_dpls) (.ref h_dfst) (.int x_dr_clauses)))), (h_dnam, .inl (cy_dnam, 300, .inr (.inl f_dnam))), (h_dvar, .inl (cy_dvar, 300, .inl f_dvar)), (h_dtrm, .inl (cy_dtrm, 300, .inl f_dtrm)), (h_dter, .inl (cy_dter, 900, .inl f_dter)), (h_dlit, .inl (cy_dlit, 16, .inl f_dlit)), (h_dvas, .inl (cy_dvas, 16, .inl f_dvas)), (h_dpls, .inl (cy_dpls, 16, .inl f_dpls)), (h_dfst, .inl (cy_dfst, 96, .inl f_dfst))]) [1, 2, 3, 13, 14, 15, 16, 17, 18, 19, 20, 21] (by decide) rfl
  have hKc := hK.sub (tys' := [(cy_by, .int), (cy_kn, .int), (cy_dnam, .long), (cy_dvar, .int), (cy_dtrm, .int), (cy_dter, .int), (cy_dlit, .int), (cy_dvas, .int), (cy_dpls, .int), (cy_dfst, .int)]) [0, 1, 10, 11, 12, 13, 14, 15, 16, 17] rfl
  have hFc := va_free (wc := [(h_rd, .inr (4, (mo35 v_rd (.ref h_by) (.int x_rd_length) (.int x_rd_fault) (.int x_rd_place) (.ref h_kn) (.int x_rd_variables) (.int x_rd_at) (.int x_rd_behind) (.int x_rd_token) (.long x_rd_letters)))), (h_by, .inl (cy_by, 600, .inl f_by)), (h_kn, .inl (cy_kn, 8, .inl f_kn)), (h_dr, .inr (5, (mo34 (.ref h_dnam) (.ref h_dvar) (.ref h_dtrm) (.ref h_dter) (.int x_dr_parts) (.ref h_dlit) (.ref h_dvas) (.ref h_dpls) (.ref h_dfst) (.int x_dr_clauses)))), (h_dnam, .inl (cy_dnam, 300, .inr (.inl f_dnam))), (h_dvar, .inl (cy_dvar, 300, .inl f_dvar)), (h_dtrm, .inl (cy_dtrm, 300, .inl f_dtrm)), (h_dter, .inl (cy_dter, 900, .inl f_dter)), (h_dlit, .inl (cy_dlit, 16, .inl f_dlit)), (h_dvas, .inl (cy_dvas, 16, .inl f_dvas)), (h_dpls, .inl (cy_dpls, 16, .inl f_dpls)), (h_dfst, .inl (cy_dfst, 96, .inl f_dfst))]) hD hS hA [1, 2, 3, 13, 14, 15, 16, 17, 18, 19, 20, 21] rfl
  refine va_callv (va_runVN (As := [.ref h_dr]) (rest := []) ⟨hx, hb, hml, hown, hts⟩ (c_X5_read l dC dI s.heap.size h_rd h_by h_kn h_dr h_dnam h_dvar h_dtrm h_dter h_dlit h_dvas h_dpls h_dfst v_rd x_rd_length x_rd_fault x_rd_place x_rd_variables x_rd_at x_rd_behind x_rd_token x_rd_letters cy_by f_by cy_kn f_kn x_dr_parts x_dr_clauses cy_dnam f_dnam cy_dvar f_dvar cy_dtrm f_dtrm cy_dter f_dter cy_dlit f_dlit cy_dvas f_dvas cy_dpls f_dpls cy_dfst f_dfst G (by first | exact hx_rd_length | omega) (by first | exact hx_rd_variables | omega) (by first | exact hx_rd_at | omega) (by first | exact hx_rd_behind | omega) hf_by hf_kn (by first | exact hx_dr_parts | omega) (by first | exact hx_dr_clauses | omega) hf_dvar hf_dtrm hf_dter hf_dlit hf_dfst hn_byt hn_dtz) ⟨va_cnB (host := "OppositePairs") 1 hts (gd hT w_code_X5_read) rfl rfl rfl (hN _ n_m_X10_75) (hw _ w_ini_X5) (by decide +kernel) ⟨(Nat.le_of_ble_eq_true rfl), (Nat.le_of_ble_eq_true rfl)⟩, hw _ w_instanceMethod_X5_read, hw _ ws_sel_X5_read⟩ ⟨pre_blind, va_recv hK hP (ci := 4) (q0 := 1) rfl rfl, pre_of hPc hKc hDc hN⟩ rfl rfl hl.1 rfl (lv_room (Nat.le_of_ble_eq_true rfl)) dX10_clauses_8 ⟨(Nat.le_of_ble_eq_true rfl), (Nat.le_of_ble_eq_true rfl)⟩) hS (fun q _ h => hFc q h) hFc (fun u t H locs ht hvm hq hB hz1 hk1 hS9 => ?_)
  obtain ⟨z2, z3, z4, z5, z6, z7, z8, f9, z10, z11, f12, f13, f14, f15, f16, f17, f18, f19⟩ := u
  obtain ⟨hP1, hD1⟩ := hB
  rw [ht] at hP1
  obtain ⟨hP9, hD9⟩ := va_join (wr := [(h_xx, .inr (7, (mo64 v_xx (.ref h_rd) (.ref h_td) (.ref h_dr) (.ref h_pv) (.ref h_mx) (.ref h_an)))), (h_td, .inr (5, (mo34 (.ref h_nam) (.ref h_var) (.ref h_trm) (.ref h_ter) (.int x_td_parts) (.ref h_lit) (.ref h_vas) (.ref h_pls) (.ref h_fst) (.int x_td_clauses)))), (h_nam, .inl (cy_nam, 300, .inr (.inl f_nam))), (h_var, .inl (cy_var, 300, .inl f_var)), (h_trm, .inl (cy_trm, 300, .inl f_trm)), (h_ter, .inl (cy_ter, 900, .inl f_ter)), (h_lit, .inl (cy_lit, 16, .inl f_lit)), (h_vas, .inl (cy_vas, 16, .inl f_vas)), (h_pls, .inl (cy_pls, 16, .inl f_pls)), (h_fst, .inl (cy_fst, 96, .inl f_fst)), (h_pv, .inr (3, (mo62 v_pv (.int x_pv_proved)))), (h_mx, .inr (2, (mo45 v_mx (.int x_mx_sorted) (.int x_mx_walked)))), (h_an, .inr (0, (mo63 v_an (.int x_an_count))))]) (w1 := [(h_rd, .inr (4, (mo31 (.ref h_by) (.int x_rd_length) (.int z2) (.int z3) (.ref h_dr) (.ref h_kn) (.int z4) (.int z5) (.int z6) (.int z7) (.long z8)))), (h_by, .inl (cy_by, 600, .inl f_by)), (h_kn, .inl (cy_kn, 8, .inl f9)), (h_dr, .inr (5, (mo34 (.ref h_dnam) (.ref h_dvar) (.ref h_dtrm) (.ref h_dter) (.int z10) (.ref h_dlit) (.ref h_dvas) (.ref h_dpls) (.ref h_dfst) (.int z11)))), (h_dnam, .inl (cy_dnam, 300, .inr (.inl f12))), (h_dvar, .inl (cy_dvar, 300, .inl f13)), (h_dtrm, .inl (cy_dtrm, 300, .inl f14)), (h_dter, .inl (cy_dter, 900, .inl f15)), (h_dlit, .inl (cy_dlit, 16, .inl f16)), (h_dvas, .inl (cy_dvas, 16, .inl f17)), (h_dpls, .inl (cy_dpls, 16, .inl f18)), (h_dfst, .inl (cy_dfst, 96, .inl f19))]) hP hD [1, 2, 3, 13, 14, 15, 16, 17, 18, 19, 20, 21] [0, 4, 5, 6, 7, 8, 9, 10, 11, 12, 22, 23, 24] rfl rfl (by decide) (by decide) hk1 hFc hP1 hD1
  clear hP hD hS hPc hDc hKc hFc hP1 hD1 hk1 hz1 ht hvm
  have hP : va_P (dC, dI) cls [(h_xx, .inr (7, (mo64 v_xx (.ref h_rd) (.ref h_td) (.ref h_dr) (.ref h_pv) (.ref h_mx) (.ref h_an)))), (h_td, .inr (5, (mo34 (.ref h_nam) (.ref h_var) (.ref h_trm) (.ref h_ter) (.int x_td_parts) (.ref h_lit) (.ref h_vas) (.ref h_pls) (.ref h_fst) (.int x_td_clauses)))), (h_nam, .inl (cy_nam, 300, .inr (.inl f_nam))), (h_var, .inl (cy_var, 300, .inl f_var)), (h_trm, .inl (cy_trm, 300, .inl f_trm)), (h_ter, .inl (cy_ter, 900, .inl f_ter)), (h_lit, .inl (cy_lit, 16, .inl f_lit)), (h_vas, .inl (cy_vas, 16, .inl f_vas)), (h_pls, .inl (cy_pls, 16, .inl f_pls)), (h_fst, .inl (cy_fst, 96, .inl f_fst)), (h_pv, .inr (3, (mo62 v_pv (.int x_pv_proved)))), (h_mx, .inr (2, (mo45 v_mx (.int x_mx_sorted) (.int x_mx_walked)))), (h_an, .inr (0, (mo63 v_an (.int x_an_count)))), (h_rd, .inr (4, (mo31 (.ref h_by) (.int x_rd_length) (.int z2) (.int z3) (.ref h_dr) (.ref h_kn) (.int z4) (.int z5) (.int z6) (.int z7) (.long z8)))), (h_by, .inl (cy_by, 600, .inl f_by)), (h_kn, .inl (cy_kn, 8, .inl f9)), (h_dr, .inr (5, (mo34 (.ref h_dnam) (.ref h_dvar) (.ref h_dtrm) (.ref h_dter) (.int z10) (.ref h_dlit) (.ref h_dvas) (.ref h_dpls) (.ref h_dfst) (.int z11)))), (h_dnam, .inl (cy_dnam, 300, .inr (.inl f12))), (h_dvar, .inl (cy_dvar, 300, .inl f13)), (h_dtrm, .inl (cy_dtrm, 300, .inl f14)), (h_dter, .inl (cy_dter, 900, .inl f15)), (h_dlit, .inl (cy_dlit, 16, .inl f16)), (h_dvas, .inl (cy_dvas, 16, .inl f17)), (h_dpls, .inl (cy_dpls, 16, .inl f18)), (h_dfst, .inl (cy_dfst, 96, .inl f19))] H := hP9
  have hD : va_D A [(h_xx, .inr (7, (mo64 v_xx (.ref h_rd) (.ref h_td) (.ref h_dr) (.ref h_pv) (.ref h_mx) (.ref h_an)))), (h_td, .inr (5, (mo34 (.ref h_nam) (.ref h_var) (.ref h_trm) (.ref h_ter) (.int x_td_parts) (.ref h_lit) (.ref h_vas) (.ref h_pls) (.ref h_fst) (.int x_td_clauses)))), (h_nam, .inl (cy_nam, 300, .inr (.inl f_nam))), (h_var, .inl (cy_var, 300, .inl f_var)), (h_trm, .inl (cy_trm, 300, .inl f_trm)), (h_ter, .inl (cy_ter, 900, .inl f_ter)), (h_lit, .inl (cy_lit, 16, .inl f_lit)), (h_vas, .inl (cy_vas, 16, .inl f_vas)), (h_pls, .inl (cy_pls, 16, .inl f_pls)), (h_fst, .inl (cy_fst, 96, .inl f_fst)), (h_pv, .inr (3, (mo62 v_pv (.int x_pv_proved)))), (h_mx, .inr (2, (mo45 v_mx (.int x_mx_sorted) (.int x_mx_walked)))), (h_an, .inr (0, (mo63 v_an (.int x_an_count)))), (h_rd, .inr (4, (mo31 (.ref h_by) (.int x_rd_length) (.int z2) (.int z3) (.ref h_dr) (.ref h_kn) (.int z4) (.int z5) (.int z6) (.int z7) (.long z8)))), (h_by, .inl (cy_by, 600, .inl f_by)), (h_kn, .inl (cy_kn, 8, .inl f9)), (h_dr, .inr (5, (mo34 (.ref h_dnam) (.ref h_dvar) (.ref h_dtrm) (.ref h_dter) (.int z10) (.ref h_dlit) (.ref h_dvas) (.ref h_dpls) (.ref h_dfst) (.int z11)))), (h_dnam, .inl (cy_dnam, 300, .inr (.inl f12))), (h_dvar, .inl (cy_dvar, 300, .inl f13)), (h_dtrm, .inl (cy_dtrm, 300, .inl f14)), (h_dter, .inl (cy_dter, 900, .inl f15)), (h_dlit, .inl (cy_dlit, 16, .inl f16)), (h_dvas, .inl (cy_dvas, 16, .inl f17)), (h_dpls, .inl (cy_dpls, 16, .inl f18)), (h_dfst, .inl (cy_dfst, 96, .inl f19))] := hD9
  have hS := hS9
  clear hP9 hD9 hS9
  obtain ⟨k20, k21, k22, hf9, k23, k24, hf13, hf14, hf15, hf16, hf19, k25, k26, k27, k28⟩ := hq
  replace k20 : 0 ≤ ((z4)).toInt ∧ ((z4)).toInt ≤ 8 := k20
  replace k21 : 0 ≤ ((z5)).toInt ∧ ((z5)).toInt ≤ 600 := k21
  replace k22 : 0 ≤ ((z6)).toInt ∧ ((z6)).toInt ≤ 600 := k22
  replace hf9 : Rg 0 299 (f9) := hf9
  replace k23 : 0 ≤ ((z10)).toInt ∧ ((z10)).toInt ≤ 300 := k23
  replace k24 : 0 ≤ ((z11)).toInt ∧ ((z11)).toInt ≤ 16 := k24
  replace hf13 : Rg (-1) 7 (f13) := hf13
  replace hf14 : Rg 0 3 (f14) := hf14
  replace hf15 : Rg 0 299 (f15) := hf15
  replace hf16 : Rg 0 6 (f16) := hf16
  replace hf19 : Rg 0 299 (f19) := hf19
  replace k25 : TZG (f13) (f14) := k25
  replace k26 : IFZ ((z2)).toInt (PLB (f16) (f18) ((z11)).toInt) := k26
  replace k27 : IFZ ((z2)).toInt (∃ q9 : Int, ALX (G) ((x_rd_length)).toInt 32 (CVW (f12) (f13) (f14) (f15)) (CLW (f16) (f17) (f18) (f19)) 0 ((z10)).toInt.toNat ((z11)).toInt.toNat q9) := k27
  replace k28 : RDE (G) ((x_rd_length)).toInt ((z2)).toInt ((z3)).toInt ((z11)).toInt := k28
  refine lv_aload_n hx hb dX10_clauses_11 rfl (lv_at hl 0 rfl) ?_
  refine va_get (D := (dC, dI)) (ci := 7) (v := .ref h_rd) (C := RX10) (T := TX10) (N := 8) hx hb hw iwX10 hown hK hP 0 rfl rfl 0 (by decide) (hw _ w_f_X10_12) (fun _ h9 => h9) rfl dX10_clauses_12 ?_
  refine va_getN (D := (dC, dI)) (ci := 4) (v := .int z2) (C := RX5) (T := TX5) (N := 11) (host := "OppositePairs") hx hb hw iwX5 hown hK hP 13 rfl rfl 2 (by decide) (hN.use n_f_X10_78 rfl) (fun _ h9 => h9) rfl dX10_clauses_15 ?_
  refine lv_if_ne (tgt := 25) hx hb dX10_clauses_18 (by decide) (fun c29 => ?_) (fun c29 => ?_)
  · have kc29 := (not_congr (cv_eq (rfl : (z2).toInt = (z2).toInt) (by decide : (0 : Int32).toInt = 0))).mp c29
    refine lv_iconst (v := 0) hx hb dX10_clauses_25 (by decide) ?_
    refine lv_istore_n (lv' := [(1, .int 0), (0, .ref h_xx)]) hx hb dX10_clauses_26 rfl hl (by decide) rfl (fun ls hl => ?_)
    refine lv_iload_n hx hb dX10_clauses_27 rfl (lv_at hl 0 rfl) ?_
    refine lv_if_eq (tgt := 46) hx hb dX10_clauses_28 (by decide) (fun _ => ?_) (fun c9 => absurd c9 (by decide))
    refine lv_aload_n hx hb dX10_clauses_46 rfl (lv_at hl 1 rfl) ?_
    refine va_get (D := (dC, dI)) (ci := 7) (v := .ref h_rd) (C := RX10) (T := TX10) (N := 8) hx hb hw iwX10 hown hK hP 0 rfl rfl 0 (by decide) (hw _ w_f_X10_12) (fun _ h9 => h9) rfl dX10_clauses_47 ?_
    refine lv_iconst (v := 0) hx hb dX10_clauses_50 (by decide) ?_
    refine va_putN (D := (dC, dI)) (ci := 4) (v := .int 0) (ty := tyX5 1) (C := RX5) (T := TX5) (N := 11) (host := "OppositePairs") hx hb hw iwX5 tyX5 tyX5_ok nmX5 hown hK hP hD hS 13 rfl rfl 1 (by decide) (hN.use n_f_X10_67 rfl) (fun _ h9 => h9) rfl (tyX5_ok 1 (by decide)) rfl rfl (Nat.le_of_ble_eq_true rfl) dX10_clauses_51 (fun H locs hP9 hD9 hS9 => ?_)
    clear hP hD hS
    have hP : va_P (dC, dI) cls [(h_xx, .inr (7, (mo64 v_xx (.ref h_rd) (.ref h_td) (.ref h_dr) (.ref h_pv) (.ref h_mx) (.ref h_an)))), (h_td, .inr (5, (mo34 (.ref h_nam) (.ref h_var) (.ref h_trm) (.ref h_ter) (.int x_td_parts) (.ref h_lit) (.ref h_vas) (.ref h_pls) (.ref h_fst) (.int x_td_clauses)))), (h_nam, .inl (cy_nam, 300, .inr (.inl f_nam))), (h_var, .inl (cy_var, 300, .inl f_var)), (h_trm, .inl (cy_trm, 300, .inl f_trm)), (h_ter, .inl (cy_ter, 900, .inl f_ter)), (h_lit, .inl (cy_lit, 16, .inl f_lit)), (h_vas, .inl (cy_vas, 16, .inl f_vas)), (h_pls, .inl (cy_pls, 16, .inl f_pls)), (h_fst, .inl (cy_fst, 96, .inl f_fst)), (h_pv, .inr (3, (mo62 v_pv (.int x_pv_proved)))), (h_mx, .inr (2, (mo45 v_mx (.int x_mx_sorted) (.int x_mx_walked)))), (h_an, .inr (0, (mo63 v_an (.int x_an_count)))), (h_rd, .inr (4, (mo31 (.ref h_by) (.int 0) (.int z2) (.int z3) (.ref h_dr) (.ref h_kn) (.int z4) (.int z5) (.int z6) (.int z7) (.long z8)))), (h_by, .inl (cy_by, 600, .inl f_by)), (h_kn, .inl (cy_kn, 8, .inl f9)), (h_dr, .inr (5, (mo34 (.ref h_dnam) (.ref h_dvar) (.ref h_dtrm) (.ref h_dter) (.int z10) (.ref h_dlit) (.ref h_dvas) (.ref h_dpls) (.ref h_dfst) (.int z11)))), (h_dnam, .inl (cy_dnam, 300, .inr (.inl f12))), (h_dvar, .inl (cy_dvar, 300, .inl f13)), (h_dtrm, .inl (cy_dtrm, 300, .inl f14)), (h_dter, .inl (cy_dter, 900, .inl f15)), (h_dlit, .inl (cy_dlit, 16, .inl f16)), (h_dvas, .inl (cy_dvas, 16, .inl f17)), (h_dpls, .inl (cy_dpls, 16, .inl f18)), (h_dfst, .inl (cy_dfst, 96, .inl f19))] H := hP9
    have hD : va_D A [(h_xx, .inr (7, (mo64 v_xx (.ref h_rd) (.ref h_td) (.ref h_dr) (.ref h_pv) (.ref h_mx) (.ref h_an)))), (h_td, .inr (5, (mo34 (.ref h_nam) (.ref h_var) (.ref h_trm) (.ref h_ter) (.int x_td_parts) (.ref h_lit) (.ref h_vas) (.ref h_pls) (.ref h_fst) (.int x_td_clauses)))), (h_nam, .inl (cy_nam, 300, .inr (.inl f_nam))), (h_var, .inl (cy_var, 300, .inl f_var)), (h_trm, .inl (cy_trm, 300, .inl f_trm)), (h_ter, .inl (cy_ter, 900, .inl f_ter)), (h_lit, .inl (cy_lit, 16, .inl f_lit)), (h_vas, .inl (cy_vas, 16, .inl f_vas)), (h_pls, .inl (cy_pls, 16, .inl f_pls)), (h_fst, .inl (cy_fst, 96, .inl f_fst)), (h_pv, .inr (3, (mo62 v_pv (.int x_pv_proved)))), (h_mx, .inr (2, (mo45 v_mx (.int x_mx_sorted) (.int x_mx_walked)))), (h_an, .inr (0, (mo63 v_an (.int x_an_count)))), (h_rd, .inr (4, (mo31 (.ref h_by) (.int 0) (.int z2) (.int z3) (.ref h_dr) (.ref h_kn) (.int z4) (.int z5) (.int z6) (.int z7) (.long z8)))), (h_by, .inl (cy_by, 600, .inl f_by)), (h_kn, .inl (cy_kn, 8, .inl f9)), (h_dr, .inr (5, (mo34 (.ref h_dnam) (.ref h_dvar) (.ref h_dtrm) (.ref h_dter) (.int z10) (.ref h_dlit) (.ref h_dvas) (.ref h_dpls) (.ref h_dfst) (.int z11)))), (h_dnam, .inl (cy_dnam, 300, .inr (.inl f12))), (h_dvar, .inl (cy_dvar, 300, .inl f13)), (h_dtrm, .inl (cy_dtrm, 300, .inl f14)), (h_dter, .inl (cy_dter, 900, .inl f15)), (h_dlit, .inl (cy_dlit, 16, .inl f16)), (h_dvas, .inl (cy_dvas, 16, .inl f17)), (h_dpls, .inl (cy_dpls, 16, .inl f18)), (h_dfst, .inl (cy_dfst, 96, .inl f19))] := hD9
    have hS := hS9
    clear hP9 hD9 hS9
    refine lv_iload_n hx hb dX10_clauses_54 rfl (lv_at hl 0 rfl) ?_
    refine lv_if_eq (tgt := 68) hx hb dX10_clauses_55 (by decide) (fun _ => ?_) (fun c9 => absurd c9 (by decide))
    refine lv_iconst (v := (-1)) hx hb dX10_clauses_68 (by decide) ?_
    replace hP : va_P (dC, dI) cls [(h_xx, .inr (7, (mo64 v_xx (.ref h_rd) (.ref h_td) (.ref h_dr) (.ref h_pv) (.ref h_mx) (.ref h_an)))), (h_rd, .inr (4, (mo31 (.ref h_by) (.int 0) (.int z2) (.int z3) (.ref h_dr) (.ref h_kn) (.int z4) (.int z5) (.int z6) (.int z7) (.long z8)))), (h_by, .inl (cy_by, 600, .inl f_by)), (h_kn, .inl (cy_kn, 8, .inl f9)), (h_td, .inr (5, (mo34 (.ref h_nam) (.ref h_var) (.ref h_trm) (.ref h_ter) (.int x_td_parts) (.ref h_lit) (.ref h_vas) (.ref h_pls) (.ref h_fst) (.int x_td_clauses)))), (h_nam, .inl (cy_nam, 300, .inr (.inl f_nam))), (h_var, .inl (cy_var, 300, .inl f_var)), (h_trm, .inl (cy_trm, 300, .inl f_trm)), (h_ter, .inl (cy_ter, 900, .inl f_ter)), (h_lit, .inl (cy_lit, 16, .inl f_lit)), (h_vas, .inl (cy_vas, 16, .inl f_vas)), (h_pls, .inl (cy_pls, 16, .inl f_pls)), (h_fst, .inl (cy_fst, 96, .inl f_fst)), (h_dr, .inr (5, (mo34 (.ref h_dnam) (.ref h_dvar) (.ref h_dtrm) (.ref h_dter) (.int z10) (.ref h_dlit) (.ref h_dvas) (.ref h_dpls) (.ref h_dfst) (.int z11)))), (h_dnam, .inl (cy_dnam, 300, .inr (.inl f12))), (h_dvar, .inl (cy_dvar, 300, .inl f13)), (h_dtrm, .inl (cy_dtrm, 300, .inl f14)), (h_dter, .inl (cy_dter, 900, .inl f15)), (h_dlit, .inl (cy_dlit, 16, .inl f16)), (h_dvas, .inl (cy_dvas, 16, .inl f17)), (h_dpls, .inl (cy_dpls, 16, .inl f18)), (h_dfst, .inl (cy_dfst, 96, .inl f19)), (h_pv, .inr (3, (mo62 v_pv (.int x_pv_proved)))), (h_mx, .inr (2, (mo45 v_mx (.int x_mx_sorted) (.int x_mx_walked)))), (h_an, .inr (0, (mo63 v_an (.int x_an_count))))] H := hP.sub [0, 13, 14, 15, 1, 2, 3, 4, 5, 6, 7, 8, 9, 16, 17, 18, 19, 20, 21, 22, 23, 24, 10, 11, 12] rfl
    replace hD : va_D A [(h_xx, .inr (7, (mo64 v_xx (.ref h_rd) (.ref h_td) (.ref h_dr) (.ref h_pv) (.ref h_mx) (.ref h_an)))), (h_rd, .inr (4, (mo31 (.ref h_by) (.int 0) (.int z2) (.int z3) (.ref h_dr) (.ref h_kn) (.int z4) (.int z5) (.int z6) (.int z7) (.long z8)))), (h_by, .inl (cy_by, 600, .inl f_by)), (h_kn, .inl (cy_kn, 8, .inl f9)), (h_td, .inr (5, (mo34 (.ref h_nam) (.ref h_var) (.ref h_trm) (.ref h_ter) (.int x_td_parts) (.ref h_lit) (.ref h_vas) (.ref h_pls) (.ref h_fst) (.int x_td_clauses)))), (h_nam, .inl (cy_nam, 300, .inr (.inl f_nam))), (h_var, .inl (cy_var, 300, .inl f_var)), (h_trm, .inl (cy_trm, 300, .inl f_trm)), (h_ter, .inl (cy_ter, 900, .inl f_ter)), (h_lit, .inl (cy_lit, 16, .inl f_lit)), (h_vas, .inl (cy_vas, 16, .inl f_vas)), (h_pls, .inl (cy_pls, 16, .inl f_pls)), (h_fst, .inl (cy_fst, 96, .inl f_fst)), (h_dr, .inr (5, (mo34 (.ref h_dnam) (.ref h_dvar) (.ref h_dtrm) (.ref h_dter) (.int z10) (.ref h_dlit) (.ref h_dvas) (.ref h_dpls) (.ref h_dfst) (.int z11)))), (h_dnam, .inl (cy_dnam, 300, .inr (.inl f12))), (h_dvar, .inl (cy_dvar, 300, .inl f13)), (h_dtrm, .inl (cy_dtrm, 300, .inl f14)), (h_dter, .inl (cy_dter, 900, .inl f15)), (h_dlit, .inl (cy_dlit, 16, .inl f16)), (h_dvas, .inl (cy_dvas, 16, .inl f17)), (h_dpls, .inl (cy_dpls, 16, .inl f18)), (h_dfst, .inl (cy_dfst, 96, .inl f19)), (h_pv, .inr (3, (mo62 v_pv (.int x_pv_proved)))), (h_mx, .inr (2, (mo45 v_mx (.int x_mx_sorted) (.int x_mx_walked)))), (h_an, .inr (0, (mo63 v_an (.int x_an_count))))] := hD.sub [0, 13, 14, 15, 1, 2, 3, 4, 5, 6, 7, 8, 9, 16, 17, 18, 19, 20, 21, 22, 23, 24, 10, 11, 12] (by decide) rfl
    refine W.widen (k := 0) (n := 0) (Nat.le_of_ble_eq_true rfl) (Nat.le_of_ble_eq_true rfl) ?_
    have cstm1 : ((-1) : Int32).toInt = -1 := by decide
    have cst0 : (0 : Int32).toInt = 0 := by decide
    have w30 : 0 ≤ ((0 : Int32)).toInt ∧ ((0 : Int32)).toInt ≤ 600 := by omega
    have w31 : 0 ≤ ((z4)).toInt ∧ ((z4)).toInt ≤ 8 := by first | exact k20 | omega
    have w32 : 0 ≤ ((z5)).toInt ∧ ((z5)).toInt ≤ 600 := by first | exact k21 | omega
    have w33 : 0 ≤ ((z6)).toInt ∧ ((z6)).toInt ≤ 600 := by first | exact k22 | omega
    have w34 : 0 ≤ ((x_td_parts)).toInt ∧ ((x_td_parts)).toInt ≤ 300 := by first | exact hx_td_parts | omega
    have w35 : 0 ≤ ((x_td_clauses)).toInt ∧ ((x_td_clauses)).toInt ≤ 16 := by first | exact hx_td_clauses | omega
    have w36 : 0 ≤ ((z10)).toInt ∧ ((z10)).toInt ≤ 300 := by first | exact k23 | omega
    have w37 : 0 ≤ ((z11)).toInt ∧ ((z11)).toInt ≤ 16 := by first | exact k24 | omega
    have w38 : 0 ≤ ((x_pv_proved)).toInt ∧ ((x_pv_proved)).toInt ≤ 1 := by first | exact hx_pv_proved | omega
    have w39 : 0 ≤ ((x_an_count)).toInt ∧ ((x_an_count)).toInt ≤ 8 := by first | exact hx_an_count | omega
    have w40 : ((0 : Int32)).toInt = 0 := by omega
    have w41 : TZG (f_var) (f_trm) := hn_tz
    have w42 : TZG (f13) (f14) := k25
    have w43 : IFZ ((z2)).toInt (PLB (f_lit) (f_pls) ((x_td_clauses)).toInt) := (ifz_no (by omega))
    have w44 : CLQ G (x_rd_length).toInt ((z2)).toInt ((z3)).toInt ((x_td_clauses)).toInt (x_td_clauses).toInt (((-1) : Int32)).toInt := (clq_bad k28 (by omega) rfl (by decide))
    have w45 : IFZ ((z2)).toInt (∃ q9 : Int, ALX G (x_rd_length).toInt 32 (CVW (f_nam) (f_var) (f_trm) (f_ter)) (CLW (f_lit) (f_vas) (f_pls) (f_fst)) 0 ((x_td_parts)).toInt.toNat ((x_td_clauses)).toInt.toNat q9) := (ifz_no (by omega))
    have w46 : ¬ ((z2)).toInt = 0 → ((f_nam) = f_nam ∧ (f_var) = f_var ∧ (f_trm) = f_trm ∧ (f_ter) = f_ter ∧ (f_lit) = f_lit ∧ (f_vas) = f_vas ∧ (f_pls) = f_pls ∧ (f_fst) = f_fst) := (fun _ => ⟨rfl, rfl, rfl, rfl, rfl, rfl, rfl, rfl⟩)
    exact W.iret (v := (-1)) hx hb hr (fun t ht hW => ⟨⟨(-1), ((fun k => List.getD [.ref h_by, .int 0, .int z2, .int z3, .ref h_dr, .ref h_kn, .int z4, .int z5, .int z6, .int z7, .long z8] k .null), 0, z2, z3, z4, z5, z6, z7, z8, f9, x_td_parts, x_td_clauses, f_nam, f_var, f_trm, f_ter, f_lit, f_vas, f_pls, f_fst, z10, z11, f12, f13, f14, f15, f16, f17, f18, f19, x_pv_proved, x_mx_sorted, x_mx_walked, x_an_count), rfl, ⟨w30, w31, w32, w33, hf9, w34, w35, hf_var, hf_trm, hf_ter, hf_lit, hf_fst, w36, w37, hf13, hf14, hf15, hf16, hf19, w38, w39, w40, w41, w42, w43, w44, w45, w46⟩, by rw [ht]; exact hP, hD⟩, hS.F ht⟩) hS.2.2 dX10_clauses_69
  · have kc29 := (cv_eq (rfl : (z2).toInt = (z2).toInt) (by decide : (0 : Int32).toInt = 0)).mp c29
    refine lv_iconst (v := 1) hx hb dX10_clauses_21 (by decide) ?_
    refine lv_goto (tgt := 26) hx hb dX10_clauses_22 (by decide) ?_
    refine lv_istore_n (lv' := [(1, .int 1), (0, .ref h_xx)]) hx hb dX10_clauses_26 rfl hl (by decide) rfl (fun ls hl => ?_)
    refine lv_iload_n hx hb dX10_clauses_27 rfl (lv_at hl 0 rfl) ?_
    refine lv_if_eq (tgt := 46) hx hb dX10_clauses_28 (by decide) (fun c9 => absurd c9 (by decide)) (fun _ => ?_)
    refine lv_aload_n hx hb dX10_clauses_31 rfl (lv_at hl 1 rfl) ?_
    refine va_get (D := (dC, dI)) (ci := 7) (v := .ref h_rd) (C := RX10) (T := TX10) (N := 8) hx hb hw iwX10 hown hK hP 0 rfl rfl 0 (by decide) (hw _ w_f_X10_12) (fun _ h9 => h9) rfl dX10_clauses_32 ?_
    refine lv_aload_n hx hb dX10_clauses_35 rfl (lv_at hl 1 rfl) ?_
    refine va_get (D := (dC, dI)) (ci := 7) (v := .ref h_td) (C := RX10) (T := TX10) (N := 8) hx hb hw iwX10 hown hK hP 0 rfl rfl 1 (by decide) (hw _ w_f_X10_19) (fun _ h9 => h9) rfl dX10_clauses_36 ?_
    have hPc := hP.sub (ws' := [(h_rd, .inr (4, (mo31 (.ref h_by) (.int x_rd_length) (.int z2) (.int z3) (.ref h_dr) (.ref h_kn) (.int z4) (.int z5) (.int z6) (.int z7) (.long z8)))), (h_by, .inl (cy_by, 600, .inl f_by)), (h_kn, .inl (cy_kn, 8, .inl f9)), (h_td, .inr (5, (mo34 (.ref h_nam) (.ref h_var) (.ref h_trm) (.ref h_ter) (.int x_td_parts) (.ref h_lit) (.ref h_vas) (.ref h_pls) (.ref h_fst) (.int x_td_clauses)))), (h_nam, .inl (cy_nam, 300, .inr (.inl f_nam))), (h_var, .inl (cy_var, 300, .inl f_var)), (h_trm, .inl (cy_trm, 300, .inl f_trm)), (h_ter, .inl (cy_ter, 900, .inl f_ter)), (h_lit, .inl (cy_lit, 16, .inl f_lit)), (h_vas, .inl (cy_vas, 16, .inl f_vas)), (h_pls, .inl (cy_pls, 16, .inl f_pls)), (h_fst, .inl (cy_fst, 96, .inl f_fst))]) [13, 14, 15, 1, 2, 3, 4, 5, 6, 7, 8, 9] rfl
    have hDc := hD.sub (ws' := [(h_rd, .inr (4, (mo31 (.ref h_by) (.int x_rd_length) (.int z2) (.int z3) (.ref h_dr) (.ref h_kn) (.int z4) (.int z5) (.int z6) (.int z7) (.long z8)))), (h_by, .inl (cy_by, 600, .inl f_by)), (h_kn, .inl (cy_kn, 8, .inl f9)), (h_td, .inr (5, (mo34 (.ref h_nam) (.ref h_var) (.ref h_trm) (.ref h_ter) (.int x_td_parts) (.ref h_lit) (.ref h_vas) (.ref h_pls) (.ref h_fst) (.int x_td_clauses)))), (h_nam, .inl (cy_nam, 300, .inr (.inl f_nam))), (h_var, .inl (cy_var, 300, .inl f_var)), (h_trm, .inl (cy_trm, 300, .inl f_trm)), (h_ter, .inl (cy_ter, 900, .inl f_ter)), (h_lit, .inl (cy_lit, 16, .inl f_lit)), (h_vas, .inl (cy_vas, 16, .inl f_vas)), (h_pls, .inl (cy_pls, 16, .inl f_pls)), (h_fst, .inl (cy_fst, 96, .inl f_fst))]) [13, 14, 15, 1, 2, 3, 4, 5, 6, 7, 8, 9] (by decide) rfl
    have hKc := hK.sub (tys' := [(cy_by, .int), (cy_kn, .int), (cy_nam, .long), (cy_var, .int), (cy_trm, .int), (cy_ter, .int), (cy_lit, .int), (cy_vas, .int), (cy_pls, .int), (cy_fst, .int)]) [0, 1, 2, 3, 4, 5, 6, 7, 8, 9] rfl
    have hFc := va_free (wc := [(h_rd, .inr (4, (mo31 (.ref h_by) (.int x_rd_length) (.int z2) (.int z3) (.ref h_dr) (.ref h_kn) (.int z4) (.int z5) (.int z6) (.int z7) (.long z8)))), (h_by, .inl (cy_by, 600, .inl f_by)), (h_kn, .inl (cy_kn, 8, .inl f9)), (h_td, .inr (5, (mo34 (.ref h_nam) (.ref h_var) (.ref h_trm) (.ref h_ter) (.int x_td_parts) (.ref h_lit) (.ref h_vas) (.ref h_pls) (.ref h_fst) (.int x_td_clauses)))), (h_nam, .inl (cy_nam, 300, .inr (.inl f_nam))), (h_var, .inl (cy_var, 300, .inl f_var)), (h_trm, .inl (cy_trm, 300, .inl f_trm)), (h_ter, .inl (cy_ter, 900, .inl f_ter)), (h_lit, .inl (cy_lit, 16, .inl f_lit)), (h_vas, .inl (cy_vas, 16, .inl f_vas)), (h_pls, .inl (cy_pls, 16, .inl f_pls)), (h_fst, .inl (cy_fst, 96, .inl f_fst))]) hD hS hA [13, 14, 15, 1, 2, 3, 4, 5, 6, 7, 8, 9] rfl
    refine va_callv (va_runVN (As := [.ref h_td]) (rest := []) ⟨hx, hb, hml, hown, hts⟩ (c_X5_read l dC dI H.size h_rd h_by h_kn h_td h_nam h_var h_trm h_ter h_lit h_vas h_pls h_fst (fun k => List.getD (mo31 (.ref h_by) (.int x_rd_length) (.int z2) (.int z3) (.ref h_dr) (.ref h_kn) (.int z4) (.int z5) (.int z6) (.int z7) (.long z8)) k .null) x_rd_length z2 z3 z4 z5 z6 z7 z8 cy_by f_by cy_kn f9 x_td_parts x_td_clauses cy_nam f_nam cy_var f_var cy_trm f_trm cy_ter f_ter cy_lit f_lit cy_vas f_vas cy_pls f_pls cy_fst f_fst G (by first | exact hx_rd_length | omega) (by first | exact k20 | omega) (by first | exact k21 | omega) (by first | exact k22 | omega) hf_by hf9 (by first | exact hx_td_parts | omega) (by first | exact hx_td_clauses | omega) hf_var hf_trm hf_ter hf_lit hf_fst hn_byt hn_tz) ⟨va_cnB (host := "OppositePairs") 1 hts (gd hT w_code_X5_read) rfl rfl rfl (hN _ n_m_X10_75) (hw _ w_ini_X5) (by decide +kernel) ⟨(Nat.le_of_ble_eq_true rfl), (Nat.le_of_ble_eq_true rfl)⟩, hw _ w_instanceMethod_X5_read, hw _ ws_sel_X5_read⟩ ⟨pre_blind, va_recv hK hP (ci := 4) (q0 := 13) rfl rfl, pre_of hPc hKc hDc hN⟩ rfl rfl hl.1 rfl (lv_room (Nat.le_of_ble_eq_true rfl)) dX10_clauses_39 ⟨(Nat.le_of_ble_eq_true rfl), (Nat.le_of_ble_eq_true rfl)⟩) hS (fun q _ h => hFc q h) hFc (fun u t H locs ht hvm hq hB hz1 hk1 hS9 => ?_)
    obtain ⟨z48, z49, z50, z51, z52, z53, z54, f55, z56, z57, f58, f59, f60, f61, f62, f63, f64, f65⟩ := u
    obtain ⟨hP1, hD1⟩ := hB
    rw [ht] at hP1
    obtain ⟨hP9, hD9⟩ := va_join (wr := [(h_xx, .inr (7, (mo64 v_xx (.ref h_rd) (.ref h_td) (.ref h_dr) (.ref h_pv) (.ref h_mx) (.ref h_an)))), (h_pv, .inr (3, (mo62 v_pv (.int x_pv_proved)))), (h_mx, .inr (2, (mo45 v_mx (.int x_mx_sorted) (.int x_mx_walked)))), (h_an, .inr (0, (mo63 v_an (.int x_an_count)))), (h_dr, .inr (5, (mo34 (.ref h_dnam) (.ref h_dvar) (.ref h_dtrm) (.ref h_dter) (.int z10) (.ref h_dlit) (.ref h_dvas) (.ref h_dpls) (.ref h_dfst) (.int z11)))), (h_dnam, .inl (cy_dnam, 300, .inr (.inl f12))), (h_dvar, .inl (cy_dvar, 300, .inl f13)), (h_dtrm, .inl (cy_dtrm, 300, .inl f14)), (h_dter, .inl (cy_dter, 900, .inl f15)), (h_dlit, .inl (cy_dlit, 16, .inl f16)), (h_dvas, .inl (cy_dvas, 16, .inl f17)), (h_dpls, .inl (cy_dpls, 16, .inl f18)), (h_dfst, .inl (cy_dfst, 96, .inl f19))]) (w1 := [(h_rd, .inr (4, (mo31 (.ref h_by) (.int x_rd_length) (.int z48) (.int z49) (.ref h_td) (.ref h_kn) (.int z50) (.int z51) (.int z52) (.int z53) (.long z54)))), (h_by, .inl (cy_by, 600, .inl f_by)), (h_kn, .inl (cy_kn, 8, .inl f55)), (h_td, .inr (5, (mo34 (.ref h_nam) (.ref h_var) (.ref h_trm) (.ref h_ter) (.int z56) (.ref h_lit) (.ref h_vas) (.ref h_pls) (.ref h_fst) (.int z57)))), (h_nam, .inl (cy_nam, 300, .inr (.inl f58))), (h_var, .inl (cy_var, 300, .inl f59)), (h_trm, .inl (cy_trm, 300, .inl f60)), (h_ter, .inl (cy_ter, 900, .inl f61)), (h_lit, .inl (cy_lit, 16, .inl f62)), (h_vas, .inl (cy_vas, 16, .inl f63)), (h_pls, .inl (cy_pls, 16, .inl f64)), (h_fst, .inl (cy_fst, 96, .inl f65))]) hP hD [13, 14, 15, 1, 2, 3, 4, 5, 6, 7, 8, 9] [0, 10, 11, 12, 16, 17, 18, 19, 20, 21, 22, 23, 24] rfl rfl (by decide) (by decide) hk1 hFc hP1 hD1
    clear hP hD hS hPc hDc hKc hFc hP1 hD1 hk1 hz1 ht hvm
    have hP : va_P (dC, dI) cls [(h_xx, .inr (7, (mo64 v_xx (.ref h_rd) (.ref h_td) (.ref h_dr) (.ref h_pv) (.ref h_mx) (.ref h_an)))), (h_pv, .inr (3, (mo62 v_pv (.int x_pv_proved)))), (h_mx, .inr (2, (mo45 v_mx (.int x_mx_sorted) (.int x_mx_walked)))), (h_an, .inr (0, (mo63 v_an (.int x_an_count)))), (h_dr, .inr (5, (mo34 (.ref h_dnam) (.ref h_dvar) (.ref h_dtrm) (.ref h_dter) (.int z10) (.ref h_dlit) (.ref h_dvas) (.ref h_dpls) (.ref h_dfst) (.int z11)))), (h_dnam, .inl (cy_dnam, 300, .inr (.inl f12))), (h_dvar, .inl (cy_dvar, 300, .inl f13)), (h_dtrm, .inl (cy_dtrm, 300, .inl f14)), (h_dter, .inl (cy_dter, 900, .inl f15)), (h_dlit, .inl (cy_dlit, 16, .inl f16)), (h_dvas, .inl (cy_dvas, 16, .inl f17)), (h_dpls, .inl (cy_dpls, 16, .inl f18)), (h_dfst, .inl (cy_dfst, 96, .inl f19)), (h_rd, .inr (4, (mo31 (.ref h_by) (.int x_rd_length) (.int z48) (.int z49) (.ref h_td) (.ref h_kn) (.int z50) (.int z51) (.int z52) (.int z53) (.long z54)))), (h_by, .inl (cy_by, 600, .inl f_by)), (h_kn, .inl (cy_kn, 8, .inl f55)), (h_td, .inr (5, (mo34 (.ref h_nam) (.ref h_var) (.ref h_trm) (.ref h_ter) (.int z56) (.ref h_lit) (.ref h_vas) (.ref h_pls) (.ref h_fst) (.int z57)))), (h_nam, .inl (cy_nam, 300, .inr (.inl f58))), (h_var, .inl (cy_var, 300, .inl f59)), (h_trm, .inl (cy_trm, 300, .inl f60)), (h_ter, .inl (cy_ter, 900, .inl f61)), (h_lit, .inl (cy_lit, 16, .inl f62)), (h_vas, .inl (cy_vas, 16, .inl f63)), (h_pls, .inl (cy_pls, 16, .inl f64)), (h_fst, .inl (cy_fst, 96, .inl f65))] H := hP9
    have hD : va_D A [(h_xx, .inr (7, (mo64 v_xx (.ref h_rd) (.ref h_td) (.ref h_dr) (.ref h_pv) (.ref h_mx) (.ref h_an)))), (h_pv, .inr (3, (mo62 v_pv (.int x_pv_proved)))), (h_mx, .inr (2, (mo45 v_mx (.int x_mx_sorted) (.int x_mx_walked)))), (h_an, .inr (0, (mo63 v_an (.int x_an_count)))), (h_dr, .inr (5, (mo34 (.ref h_dnam) (.ref h_dvar) (.ref h_dtrm) (.ref h_dter) (.int z10) (.ref h_dlit) (.ref h_dvas) (.ref h_dpls) (.ref h_dfst) (.int z11)))), (h_dnam, .inl (cy_dnam, 300, .inr (.inl f12))), (h_dvar, .inl (cy_dvar, 300, .inl f13)), (h_dtrm, .inl (cy_dtrm, 300, .inl f14)), (h_dter, .inl (cy_dter, 900, .inl f15)), (h_dlit, .inl (cy_dlit, 16, .inl f16)), (h_dvas, .inl (cy_dvas, 16, .inl f17)), (h_dpls, .inl (cy_dpls, 16, .inl f18)), (h_dfst, .inl (cy_dfst, 96, .inl f19)), (h_rd, .inr (4, (mo31 (.ref h_by) (.int x_rd_length) (.int z48) (.int z49) (.ref h_td) (.ref h_kn) (.int z50) (.int z51) (.int z52) (.int z53) (.long z54)))), (h_by, .inl (cy_by, 600, .inl f_by)), (h_kn, .inl (cy_kn, 8, .inl f55)), (h_td, .inr (5, (mo34 (.ref h_nam) (.ref h_var) (.ref h_trm) (.ref h_ter) (.int z56) (.ref h_lit) (.ref h_vas) (.ref h_pls) (.ref h_fst) (.int z57)))), (h_nam, .inl (cy_nam, 300, .inr (.inl f58))), (h_var, .inl (cy_var, 300, .inl f59)), (h_trm, .inl (cy_trm, 300, .inl f60)), (h_ter, .inl (cy_ter, 900, .inl f61)), (h_lit, .inl (cy_lit, 16, .inl f62)), (h_vas, .inl (cy_vas, 16, .inl f63)), (h_pls, .inl (cy_pls, 16, .inl f64)), (h_fst, .inl (cy_fst, 96, .inl f65))] := hD9
    have hS := hS9
    clear hP9 hD9 hS9
    obtain ⟨k66, k67, k68, hf55, k69, k70, hf59, hf60, hf61, hf62, hf65, k71, k72, k73, k74⟩ := hq
    replace k66 : 0 ≤ ((z50)).toInt ∧ ((z50)).toInt ≤ 8 := k66
    replace k67 : 0 ≤ ((z51)).toInt ∧ ((z51)).toInt ≤ 600 := k67
    replace k68 : 0 ≤ ((z52)).toInt ∧ ((z52)).toInt ≤ 600 := k68
    replace hf55 : Rg 0 299 (f55) := hf55
    replace k69 : 0 ≤ ((z56)).toInt ∧ ((z56)).toInt ≤ 300 := k69
    replace k70 : 0 ≤ ((z57)).toInt ∧ ((z57)).toInt ≤ 16 := k70
    replace hf59 : Rg (-1) 7 (f59) := hf59
    replace hf60 : Rg 0 3 (f60) := hf60
    replace hf61 : Rg 0 299 (f61) := hf61
    replace hf62 : Rg 0 6 (f62) := hf62
    replace hf65 : Rg 0 299 (f65) := hf65
    replace k71 : TZG (f59) (f60) := k71
    replace k72 : IFZ ((z48)).toInt (PLB (f62) (f64) ((z57)).toInt) := k72
    replace k73 : IFZ ((z48)).toInt (∃ q9 : Int, ALX (G) ((x_rd_length)).toInt 32 (CVW (f58) (f59) (f60) (f61)) (CLW (f62) (f63) (f64) (f65)) 0 ((z56)).toInt.toNat ((z57)).toInt.toNat q9) := k73
    replace k74 : RDE (G) ((x_rd_length)).toInt ((z48)).toInt ((z49)).toInt ((z57)).toInt := k74
    refine lv_aload_n hx hb dX10_clauses_42 rfl (lv_at hl 1 rfl) ?_
    obtain ⟨vq75, evq75⟩ := mq64_61 v_xx (.ref h_rd) (.ref h_td) (.ref h_dr)
    replace hP : va_P (dC, dI) cls [(h_xx, .inr (7, (mo61 vq75 (.ref h_pv) (.ref h_mx) (.ref h_an)))), (h_pv, .inr (3, (mo62 v_pv (.int x_pv_proved)))), (h_mx, .inr (2, (mo45 v_mx (.int x_mx_sorted) (.int x_mx_walked)))), (h_an, .inr (0, (mo63 v_an (.int x_an_count)))), (h_dr, .inr (5, (mo34 (.ref h_dnam) (.ref h_dvar) (.ref h_dtrm) (.ref h_dter) (.int z10) (.ref h_dlit) (.ref h_dvas) (.ref h_dpls) (.ref h_dfst) (.int z11)))), (h_dnam, .inl (cy_dnam, 300, .inr (.inl f12))), (h_dvar, .inl (cy_dvar, 300, .inl f13)), (h_dtrm, .inl (cy_dtrm, 300, .inl f14)), (h_dter, .inl (cy_dter, 900, .inl f15)), (h_dlit, .inl (cy_dlit, 16, .inl f16)), (h_dvas, .inl (cy_dvas, 16, .inl f17)), (h_dpls, .inl (cy_dpls, 16, .inl f18)), (h_dfst, .inl (cy_dfst, 96, .inl f19)), (h_rd, .inr (4, (mo31 (.ref h_by) (.int x_rd_length) (.int z48) (.int z49) (.ref h_td) (.ref h_kn) (.int z50) (.int z51) (.int z52) (.int z53) (.long z54)))), (h_by, .inl (cy_by, 600, .inl f_by)), (h_kn, .inl (cy_kn, 8, .inl f55)), (h_td, .inr (5, (mo34 (.ref h_nam) (.ref h_var) (.ref h_trm) (.ref h_ter) (.int z56) (.ref h_lit) (.ref h_vas) (.ref h_pls) (.ref h_fst) (.int z57)))), (h_nam, .inl (cy_nam, 300, .inr (.inl f58))), (h_var, .inl (cy_var, 300, .inl f59)), (h_trm, .inl (cy_trm, 300, .inl f60)), (h_ter, .inl (cy_ter, 900, .inl f61)), (h_lit, .inl (cy_lit, 16, .inl f62)), (h_vas, .inl (cy_vas, 16, .inl f63)), (h_pls, .inl (cy_pls, 16, .inl f64)), (h_fst, .inl (cy_fst, 96, .inl f65))] H := by rw [evq75]; exact hP
    replace hD : va_D A [(h_xx, .inr (7, (mo61 vq75 (.ref h_pv) (.ref h_mx) (.ref h_an)))), (h_pv, .inr (3, (mo62 v_pv (.int x_pv_proved)))), (h_mx, .inr (2, (mo45 v_mx (.int x_mx_sorted) (.int x_mx_walked)))), (h_an, .inr (0, (mo63 v_an (.int x_an_count)))), (h_dr, .inr (5, (mo34 (.ref h_dnam) (.ref h_dvar) (.ref h_dtrm) (.ref h_dter) (.int z10) (.ref h_dlit) (.ref h_dvas) (.ref h_dpls) (.ref h_dfst) (.int z11)))), (h_dnam, .inl (cy_dnam, 300, .inr (.inl f12))), (h_dvar, .inl (cy_dvar, 300, .inl f13)), (h_dtrm, .inl (cy_dtrm, 300, .inl f14)), (h_dter, .inl (cy_dter, 900, .inl f15)), (h_dlit, .inl (cy_dlit, 16, .inl f16)), (h_dvas, .inl (cy_dvas, 16, .inl f17)), (h_dpls, .inl (cy_dpls, 16, .inl f18)), (h_dfst, .inl (cy_dfst, 96, .inl f19)), (h_rd, .inr (4, (mo31 (.ref h_by) (.int x_rd_length) (.int z48) (.int z49) (.ref h_td) (.ref h_kn) (.int z50) (.int z51) (.int z52) (.int z53) (.long z54)))), (h_by, .inl (cy_by, 600, .inl f_by)), (h_kn, .inl (cy_kn, 8, .inl f55)), (h_td, .inr (5, (mo34 (.ref h_nam) (.ref h_var) (.ref h_trm) (.ref h_ter) (.int z56) (.ref h_lit) (.ref h_vas) (.ref h_pls) (.ref h_fst) (.int z57)))), (h_nam, .inl (cy_nam, 300, .inr (.inl f58))), (h_var, .inl (cy_var, 300, .inl f59)), (h_trm, .inl (cy_trm, 300, .inl f60)), (h_ter, .inl (cy_ter, 900, .inl f61)), (h_lit, .inl (cy_lit, 16, .inl f62)), (h_vas, .inl (cy_vas, 16, .inl f63)), (h_pls, .inl (cy_pls, 16, .inl f64)), (h_fst, .inl (cy_fst, 96, .inl f65))] := by rw [evq75]; exact hD
    have hPc := hP.sub (ws' := [(h_xx, .inr (7, (mo61 vq75 (.ref h_pv) (.ref h_mx) (.ref h_an)))), (h_pv, .inr (3, (mo62 v_pv (.int x_pv_proved)))), (h_mx, .inr (2, (mo45 v_mx (.int x_mx_sorted) (.int x_mx_walked)))), (h_an, .inr (0, (mo63 v_an (.int x_an_count))))]) [0, 1, 2, 3] rfl
    have hDc := hD.sub (ws' := [(h_xx, .inr (7, (mo61 vq75 (.ref h_pv) (.ref h_mx) (.ref h_an)))), (h_pv, .inr (3, (mo62 v_pv (.int x_pv_proved)))), (h_mx, .inr (2, (mo45 v_mx (.int x_mx_sorted) (.int x_mx_walked)))), (h_an, .inr (0, (mo63 v_an (.int x_an_count))))]) [0, 1, 2, 3] (by decide) rfl
    have hKc := hK.sub (tys' := []) [] rfl
    have hFc := va_free (wc := [(h_xx, .inr (7, (mo61 vq75 (.ref h_pv) (.ref h_mx) (.ref h_an)))), (h_pv, .inr (3, (mo62 v_pv (.int x_pv_proved)))), (h_mx, .inr (2, (mo45 v_mx (.int x_mx_sorted) (.int x_mx_walked)))), (h_an, .inr (0, (mo63 v_an (.int x_an_count))))]) hD hS hA [0, 1, 2, 3] rfl
    refine va_callv (va_runV (As := []) (rest := []) ⟨hx, hb, hml, hown, hts⟩ (c_X10_forgetAll l dC dI H.size h_xx h_pv h_mx h_an vq75 v_pv x_pv_proved v_mx x_mx_sorted x_mx_walked v_an x_an_count (by first | exact hx_pv_proved | omega) (by first | exact hx_an_count | omega)) (cwV 0 hts (gv hT w_m_X10_81 w_instanceMethod_X10_forgetAll ws_sel_X10_forgetAll w_ini_X10 w_code_X10_forgetAll) rfl rfl rfl (by decide +kernel) ⟨(Nat.le_of_ble_eq_true rfl), (Nat.le_of_ble_eq_true rfl)⟩) ⟨pre_blind, va_recv hK hP (ci := 7) (q0 := 0) rfl rfl, pre_of hPc hKc hDc hN⟩ rfl rfl hl.1 rfl (lv_room (Nat.le_of_ble_eq_true rfl)) dX10_clauses_43 ⟨(Nat.le_of_ble_eq_true rfl), (Nat.le_of_ble_eq_true rfl)⟩) hS (fun q _ h => hFc q h) hFc (fun u t H locs ht hvm hq hB hz1 hk1 hS9 => ?_)
    obtain ⟨z77, z78, z79, z80⟩ := u
    obtain ⟨hP1, hD1⟩ := hB
    rw [ht] at hP1
    obtain ⟨hP9, hD9⟩ := va_join (wr := [(h_dr, .inr (5, (mo34 (.ref h_dnam) (.ref h_dvar) (.ref h_dtrm) (.ref h_dter) (.int z10) (.ref h_dlit) (.ref h_dvas) (.ref h_dpls) (.ref h_dfst) (.int z11)))), (h_dnam, .inl (cy_dnam, 300, .inr (.inl f12))), (h_dvar, .inl (cy_dvar, 300, .inl f13)), (h_dtrm, .inl (cy_dtrm, 300, .inl f14)), (h_dter, .inl (cy_dter, 900, .inl f15)), (h_dlit, .inl (cy_dlit, 16, .inl f16)), (h_dvas, .inl (cy_dvas, 16, .inl f17)), (h_dpls, .inl (cy_dpls, 16, .inl f18)), (h_dfst, .inl (cy_dfst, 96, .inl f19)), (h_rd, .inr (4, (mo31 (.ref h_by) (.int x_rd_length) (.int z48) (.int z49) (.ref h_td) (.ref h_kn) (.int z50) (.int z51) (.int z52) (.int z53) (.long z54)))), (h_by, .inl (cy_by, 600, .inl f_by)), (h_kn, .inl (cy_kn, 8, .inl f55)), (h_td, .inr (5, (mo34 (.ref h_nam) (.ref h_var) (.ref h_trm) (.ref h_ter) (.int z56) (.ref h_lit) (.ref h_vas) (.ref h_pls) (.ref h_fst) (.int z57)))), (h_nam, .inl (cy_nam, 300, .inr (.inl f58))), (h_var, .inl (cy_var, 300, .inl f59)), (h_trm, .inl (cy_trm, 300, .inl f60)), (h_ter, .inl (cy_ter, 900, .inl f61)), (h_lit, .inl (cy_lit, 16, .inl f62)), (h_vas, .inl (cy_vas, 16, .inl f63)), (h_pls, .inl (cy_pls, 16, .inl f64)), (h_fst, .inl (cy_fst, 96, .inl f65))]) (w1 := [(h_xx, .inr (7, (mo61 vq75 (.ref h_pv) (.ref h_mx) (.ref h_an)))), (h_pv, .inr (3, (mo62 v_pv (.int z77)))), (h_mx, .inr (2, (mo45 v_mx (.int z78) (.int z79)))), (h_an, .inr (0, (mo63 v_an (.int z80))))]) hP hD [0, 1, 2, 3] [4, 5, 6, 7, 8, 9, 10, 11, 12, 13, 14, 15, 16, 17, 18, 19, 20, 21, 22, 23, 24] rfl rfl (by decide) (by decide) hk1 hFc hP1 hD1
    clear hP hD hS hPc hDc hKc hFc hP1 hD1 hk1 hz1 ht hvm
    have hP : va_P (dC, dI) cls [(h_dr, .inr (5, (mo34 (.ref h_dnam) (.ref h_dvar) (.ref h_dtrm) (.ref h_dter) (.int z10) (.ref h_dlit) (.ref h_dvas) (.ref h_dpls) (.ref h_dfst) (.int z11)))), (h_dnam, .inl (cy_dnam, 300, .inr (.inl f12))), (h_dvar, .inl (cy_dvar, 300, .inl f13)), (h_dtrm, .inl (cy_dtrm, 300, .inl f14)), (h_dter, .inl (cy_dter, 900, .inl f15)), (h_dlit, .inl (cy_dlit, 16, .inl f16)), (h_dvas, .inl (cy_dvas, 16, .inl f17)), (h_dpls, .inl (cy_dpls, 16, .inl f18)), (h_dfst, .inl (cy_dfst, 96, .inl f19)), (h_rd, .inr (4, (mo31 (.ref h_by) (.int x_rd_length) (.int z48) (.int z49) (.ref h_td) (.ref h_kn) (.int z50) (.int z51) (.int z52) (.int z53) (.long z54)))), (h_by, .inl (cy_by, 600, .inl f_by)), (h_kn, .inl (cy_kn, 8, .inl f55)), (h_td, .inr (5, (mo34 (.ref h_nam) (.ref h_var) (.ref h_trm) (.ref h_ter) (.int z56) (.ref h_lit) (.ref h_vas) (.ref h_pls) (.ref h_fst) (.int z57)))), (h_nam, .inl (cy_nam, 300, .inr (.inl f58))), (h_var, .inl (cy_var, 300, .inl f59)), (h_trm, .inl (cy_trm, 300, .inl f60)), (h_ter, .inl (cy_ter, 900, .inl f61)), (h_lit, .inl (cy_lit, 16, .inl f62)), (h_vas, .inl (cy_vas, 16, .inl f63)), (h_pls, .inl (cy_pls, 16, .inl f64)), (h_fst, .inl (cy_fst, 96, .inl f65)), (h_xx, .inr (7, (mo61 vq75 (.ref h_pv) (.ref h_mx) (.ref h_an)))), (h_pv, .inr (3, (mo62 v_pv (.int z77)))), (h_mx, .inr (2, (mo45 v_mx (.int z78) (.int z79)))), (h_an, .inr (0, (mo63 v_an (.int z80))))] H := hP9
    have hD : va_D A [(h_dr, .inr (5, (mo34 (.ref h_dnam) (.ref h_dvar) (.ref h_dtrm) (.ref h_dter) (.int z10) (.ref h_dlit) (.ref h_dvas) (.ref h_dpls) (.ref h_dfst) (.int z11)))), (h_dnam, .inl (cy_dnam, 300, .inr (.inl f12))), (h_dvar, .inl (cy_dvar, 300, .inl f13)), (h_dtrm, .inl (cy_dtrm, 300, .inl f14)), (h_dter, .inl (cy_dter, 900, .inl f15)), (h_dlit, .inl (cy_dlit, 16, .inl f16)), (h_dvas, .inl (cy_dvas, 16, .inl f17)), (h_dpls, .inl (cy_dpls, 16, .inl f18)), (h_dfst, .inl (cy_dfst, 96, .inl f19)), (h_rd, .inr (4, (mo31 (.ref h_by) (.int x_rd_length) (.int z48) (.int z49) (.ref h_td) (.ref h_kn) (.int z50) (.int z51) (.int z52) (.int z53) (.long z54)))), (h_by, .inl (cy_by, 600, .inl f_by)), (h_kn, .inl (cy_kn, 8, .inl f55)), (h_td, .inr (5, (mo34 (.ref h_nam) (.ref h_var) (.ref h_trm) (.ref h_ter) (.int z56) (.ref h_lit) (.ref h_vas) (.ref h_pls) (.ref h_fst) (.int z57)))), (h_nam, .inl (cy_nam, 300, .inr (.inl f58))), (h_var, .inl (cy_var, 300, .inl f59)), (h_trm, .inl (cy_trm, 300, .inl f60)), (h_ter, .inl (cy_ter, 900, .inl f61)), (h_lit, .inl (cy_lit, 16, .inl f62)), (h_vas, .inl (cy_vas, 16, .inl f63)), (h_pls, .inl (cy_pls, 16, .inl f64)), (h_fst, .inl (cy_fst, 96, .inl f65)), (h_xx, .inr (7, (mo61 vq75 (.ref h_pv) (.ref h_mx) (.ref h_an)))), (h_pv, .inr (3, (mo62 v_pv (.int z77)))), (h_mx, .inr (2, (mo45 v_mx (.int z78) (.int z79)))), (h_an, .inr (0, (mo63 v_an (.int z80))))] := hD9
    have hS := hS9
    clear hP9 hD9 hS9
    rw [evq75] at hP hD
    replace hP : va_P (dC, dI) cls [(h_dr, .inr (5, (mo34 (.ref h_dnam) (.ref h_dvar) (.ref h_dtrm) (.ref h_dter) (.int z10) (.ref h_dlit) (.ref h_dvas) (.ref h_dpls) (.ref h_dfst) (.int z11)))), (h_dnam, .inl (cy_dnam, 300, .inr (.inl f12))), (h_dvar, .inl (cy_dvar, 300, .inl f13)), (h_dtrm, .inl (cy_dtrm, 300, .inl f14)), (h_dter, .inl (cy_dter, 900, .inl f15)), (h_dlit, .inl (cy_dlit, 16, .inl f16)), (h_dvas, .inl (cy_dvas, 16, .inl f17)), (h_dpls, .inl (cy_dpls, 16, .inl f18)), (h_dfst, .inl (cy_dfst, 96, .inl f19)), (h_rd, .inr (4, (mo31 (.ref h_by) (.int x_rd_length) (.int z48) (.int z49) (.ref h_td) (.ref h_kn) (.int z50) (.int z51) (.int z52) (.int z53) (.long z54)))), (h_by, .inl (cy_by, 600, .inl f_by)), (h_kn, .inl (cy_kn, 8, .inl f55)), (h_td, .inr (5, (mo34 (.ref h_nam) (.ref h_var) (.ref h_trm) (.ref h_ter) (.int z56) (.ref h_lit) (.ref h_vas) (.ref h_pls) (.ref h_fst) (.int z57)))), (h_nam, .inl (cy_nam, 300, .inr (.inl f58))), (h_var, .inl (cy_var, 300, .inl f59)), (h_trm, .inl (cy_trm, 300, .inl f60)), (h_ter, .inl (cy_ter, 900, .inl f61)), (h_lit, .inl (cy_lit, 16, .inl f62)), (h_vas, .inl (cy_vas, 16, .inl f63)), (h_pls, .inl (cy_pls, 16, .inl f64)), (h_fst, .inl (cy_fst, 96, .inl f65)), (h_xx, .inr (7, (mo64 v_xx (.ref h_rd) (.ref h_td) (.ref h_dr) (.ref h_pv) (.ref h_mx) (.ref h_an)))), (h_pv, .inr (3, (mo62 v_pv (.int z77)))), (h_mx, .inr (2, (mo45 v_mx (.int z78) (.int z79)))), (h_an, .inr (0, (mo63 v_an (.int z80))))] H := hP
    replace hD : va_D A [(h_dr, .inr (5, (mo34 (.ref h_dnam) (.ref h_dvar) (.ref h_dtrm) (.ref h_dter) (.int z10) (.ref h_dlit) (.ref h_dvas) (.ref h_dpls) (.ref h_dfst) (.int z11)))), (h_dnam, .inl (cy_dnam, 300, .inr (.inl f12))), (h_dvar, .inl (cy_dvar, 300, .inl f13)), (h_dtrm, .inl (cy_dtrm, 300, .inl f14)), (h_dter, .inl (cy_dter, 900, .inl f15)), (h_dlit, .inl (cy_dlit, 16, .inl f16)), (h_dvas, .inl (cy_dvas, 16, .inl f17)), (h_dpls, .inl (cy_dpls, 16, .inl f18)), (h_dfst, .inl (cy_dfst, 96, .inl f19)), (h_rd, .inr (4, (mo31 (.ref h_by) (.int x_rd_length) (.int z48) (.int z49) (.ref h_td) (.ref h_kn) (.int z50) (.int z51) (.int z52) (.int z53) (.long z54)))), (h_by, .inl (cy_by, 600, .inl f_by)), (h_kn, .inl (cy_kn, 8, .inl f55)), (h_td, .inr (5, (mo34 (.ref h_nam) (.ref h_var) (.ref h_trm) (.ref h_ter) (.int z56) (.ref h_lit) (.ref h_vas) (.ref h_pls) (.ref h_fst) (.int z57)))), (h_nam, .inl (cy_nam, 300, .inr (.inl f58))), (h_var, .inl (cy_var, 300, .inl f59)), (h_trm, .inl (cy_trm, 300, .inl f60)), (h_ter, .inl (cy_ter, 900, .inl f61)), (h_lit, .inl (cy_lit, 16, .inl f62)), (h_vas, .inl (cy_vas, 16, .inl f63)), (h_pls, .inl (cy_pls, 16, .inl f64)), (h_fst, .inl (cy_fst, 96, .inl f65)), (h_xx, .inr (7, (mo64 v_xx (.ref h_rd) (.ref h_td) (.ref h_dr) (.ref h_pv) (.ref h_mx) (.ref h_an)))), (h_pv, .inr (3, (mo62 v_pv (.int z77)))), (h_mx, .inr (2, (mo45 v_mx (.int z78) (.int z79)))), (h_an, .inr (0, (mo63 v_an (.int z80))))] := hD
    clear evq75 
    obtain ⟨k81, k82⟩ := hq
    replace k81 : 0 ≤ ((z77)).toInt ∧ ((z77)).toInt ≤ 1 := k81
    replace k82 : 0 ≤ ((z80)).toInt ∧ ((z80)).toInt ≤ 8 := k82
    refine lv_aload_n hx hb dX10_clauses_46 rfl (lv_at hl 1 rfl) ?_
    refine va_get (D := (dC, dI)) (ci := 7) (v := .ref h_rd) (C := RX10) (T := TX10) (N := 8) hx hb hw iwX10 hown hK hP 21 rfl rfl 0 (by decide) (hw _ w_f_X10_12) (fun _ h9 => h9) rfl dX10_clauses_47 ?_
    refine lv_iconst (v := 0) hx hb dX10_clauses_50 (by decide) ?_
    refine va_putN (D := (dC, dI)) (ci := 4) (v := .int 0) (ty := tyX5 1) (C := RX5) (T := TX5) (N := 11) (host := "OppositePairs") hx hb hw iwX5 tyX5 tyX5_ok nmX5 hown hK hP hD hS 9 rfl rfl 1 (by decide) (hN.use n_f_X10_67 rfl) (fun _ h9 => h9) rfl (tyX5_ok 1 (by decide)) rfl rfl (Nat.le_of_ble_eq_true rfl) dX10_clauses_51 (fun H locs hP9 hD9 hS9 => ?_)
    clear hP hD hS
    have hP : va_P (dC, dI) cls [(h_dr, .inr (5, (mo34 (.ref h_dnam) (.ref h_dvar) (.ref h_dtrm) (.ref h_dter) (.int z10) (.ref h_dlit) (.ref h_dvas) (.ref h_dpls) (.ref h_dfst) (.int z11)))), (h_dnam, .inl (cy_dnam, 300, .inr (.inl f12))), (h_dvar, .inl (cy_dvar, 300, .inl f13)), (h_dtrm, .inl (cy_dtrm, 300, .inl f14)), (h_dter, .inl (cy_dter, 900, .inl f15)), (h_dlit, .inl (cy_dlit, 16, .inl f16)), (h_dvas, .inl (cy_dvas, 16, .inl f17)), (h_dpls, .inl (cy_dpls, 16, .inl f18)), (h_dfst, .inl (cy_dfst, 96, .inl f19)), (h_rd, .inr (4, (mo31 (.ref h_by) (.int 0) (.int z48) (.int z49) (.ref h_td) (.ref h_kn) (.int z50) (.int z51) (.int z52) (.int z53) (.long z54)))), (h_by, .inl (cy_by, 600, .inl f_by)), (h_kn, .inl (cy_kn, 8, .inl f55)), (h_td, .inr (5, (mo34 (.ref h_nam) (.ref h_var) (.ref h_trm) (.ref h_ter) (.int z56) (.ref h_lit) (.ref h_vas) (.ref h_pls) (.ref h_fst) (.int z57)))), (h_nam, .inl (cy_nam, 300, .inr (.inl f58))), (h_var, .inl (cy_var, 300, .inl f59)), (h_trm, .inl (cy_trm, 300, .inl f60)), (h_ter, .inl (cy_ter, 900, .inl f61)), (h_lit, .inl (cy_lit, 16, .inl f62)), (h_vas, .inl (cy_vas, 16, .inl f63)), (h_pls, .inl (cy_pls, 16, .inl f64)), (h_fst, .inl (cy_fst, 96, .inl f65)), (h_xx, .inr (7, (mo64 v_xx (.ref h_rd) (.ref h_td) (.ref h_dr) (.ref h_pv) (.ref h_mx) (.ref h_an)))), (h_pv, .inr (3, (mo62 v_pv (.int z77)))), (h_mx, .inr (2, (mo45 v_mx (.int z78) (.int z79)))), (h_an, .inr (0, (mo63 v_an (.int z80))))] H := hP9
    have hD : va_D A [(h_dr, .inr (5, (mo34 (.ref h_dnam) (.ref h_dvar) (.ref h_dtrm) (.ref h_dter) (.int z10) (.ref h_dlit) (.ref h_dvas) (.ref h_dpls) (.ref h_dfst) (.int z11)))), (h_dnam, .inl (cy_dnam, 300, .inr (.inl f12))), (h_dvar, .inl (cy_dvar, 300, .inl f13)), (h_dtrm, .inl (cy_dtrm, 300, .inl f14)), (h_dter, .inl (cy_dter, 900, .inl f15)), (h_dlit, .inl (cy_dlit, 16, .inl f16)), (h_dvas, .inl (cy_dvas, 16, .inl f17)), (h_dpls, .inl (cy_dpls, 16, .inl f18)), (h_dfst, .inl (cy_dfst, 96, .inl f19)), (h_rd, .inr (4, (mo31 (.ref h_by) (.int 0) (.int z48) (.int z49) (.ref h_td) (.ref h_kn) (.int z50) (.int z51) (.int z52) (.int z53) (.long z54)))), (h_by, .inl (cy_by, 600, .inl f_by)), (h_kn, .inl (cy_kn, 8, .inl f55)), (h_td, .inr (5, (mo34 (.ref h_nam) (.ref h_var) (.ref h_trm) (.ref h_ter) (.int z56) (.ref h_lit) (.ref h_vas) (.ref h_pls) (.ref h_fst) (.int z57)))), (h_nam, .inl (cy_nam, 300, .inr (.inl f58))), (h_var, .inl (cy_var, 300, .inl f59)), (h_trm, .inl (cy_trm, 300, .inl f60)), (h_ter, .inl (cy_ter, 900, .inl f61)), (h_lit, .inl (cy_lit, 16, .inl f62)), (h_vas, .inl (cy_vas, 16, .inl f63)), (h_pls, .inl (cy_pls, 16, .inl f64)), (h_fst, .inl (cy_fst, 96, .inl f65)), (h_xx, .inr (7, (mo64 v_xx (.ref h_rd) (.ref h_td) (.ref h_dr) (.ref h_pv) (.ref h_mx) (.ref h_an)))), (h_pv, .inr (3, (mo62 v_pv (.int z77)))), (h_mx, .inr (2, (mo45 v_mx (.int z78) (.int z79)))), (h_an, .inr (0, (mo63 v_an (.int z80))))] := hD9
    have hS := hS9
    clear hP9 hD9 hS9
    refine lv_iload_n hx hb dX10_clauses_54 rfl (lv_at hl 0 rfl) ?_
    refine lv_if_eq (tgt := 68) hx hb dX10_clauses_55 (by decide) (fun c9 => absurd c9 (by decide)) (fun _ => ?_)
    refine lv_aload_n hx hb dX10_clauses_58 rfl (lv_at hl 1 rfl) ?_
    refine va_get (D := (dC, dI)) (ci := 7) (v := .ref h_td) (C := RX10) (T := TX10) (N := 8) hx hb hw iwX10 hown hK hP 21 rfl rfl 1 (by decide) (hw _ w_f_X10_19) (fun _ h9 => h9) rfl dX10_clauses_59 ?_
    refine va_getN (D := (dC, dI)) (ci := 5) (v := .int z57) (C := RX8) (T := TX8) (N := 10) (host := "OppositePairs") hx hb hw iwX8 hown hK hP 12 rfl rfl 9 (by decide) (hN.use n_f_X10_84 rfl) (fun _ h9 => h9) rfl dX10_clauses_62 ?_
    refine lv_goto (tgt := 69) hx hb dX10_clauses_65 (by decide) ?_
    replace hP : va_P (dC, dI) cls [(h_xx, .inr (7, (mo64 v_xx (.ref h_rd) (.ref h_td) (.ref h_dr) (.ref h_pv) (.ref h_mx) (.ref h_an)))), (h_rd, .inr (4, (mo31 (.ref h_by) (.int 0) (.int z48) (.int z49) (.ref h_td) (.ref h_kn) (.int z50) (.int z51) (.int z52) (.int z53) (.long z54)))), (h_by, .inl (cy_by, 600, .inl f_by)), (h_kn, .inl (cy_kn, 8, .inl f55)), (h_td, .inr (5, (mo34 (.ref h_nam) (.ref h_var) (.ref h_trm) (.ref h_ter) (.int z56) (.ref h_lit) (.ref h_vas) (.ref h_pls) (.ref h_fst) (.int z57)))), (h_nam, .inl (cy_nam, 300, .inr (.inl f58))), (h_var, .inl (cy_var, 300, .inl f59)), (h_trm, .inl (cy_trm, 300, .inl f60)), (h_ter, .inl (cy_ter, 900, .inl f61)), (h_lit, .inl (cy_lit, 16, .inl f62)), (h_vas, .inl (cy_vas, 16, .inl f63)), (h_pls, .inl (cy_pls, 16, .inl f64)), (h_fst, .inl (cy_fst, 96, .inl f65)), (h_dr, .inr (5, (mo34 (.ref h_dnam) (.ref h_dvar) (.ref h_dtrm) (.ref h_dter) (.int z10) (.ref h_dlit) (.ref h_dvas) (.ref h_dpls) (.ref h_dfst) (.int z11)))), (h_dnam, .inl (cy_dnam, 300, .inr (.inl f12))), (h_dvar, .inl (cy_dvar, 300, .inl f13)), (h_dtrm, .inl (cy_dtrm, 300, .inl f14)), (h_dter, .inl (cy_dter, 900, .inl f15)), (h_dlit, .inl (cy_dlit, 16, .inl f16)), (h_dvas, .inl (cy_dvas, 16, .inl f17)), (h_dpls, .inl (cy_dpls, 16, .inl f18)), (h_dfst, .inl (cy_dfst, 96, .inl f19)), (h_pv, .inr (3, (mo62 v_pv (.int z77)))), (h_mx, .inr (2, (mo45 v_mx (.int z78) (.int z79)))), (h_an, .inr (0, (mo63 v_an (.int z80))))] H := hP.sub [21, 9, 10, 11, 12, 13, 14, 15, 16, 17, 18, 19, 20, 0, 1, 2, 3, 4, 5, 6, 7, 8, 22, 23, 24] rfl
    replace hD : va_D A [(h_xx, .inr (7, (mo64 v_xx (.ref h_rd) (.ref h_td) (.ref h_dr) (.ref h_pv) (.ref h_mx) (.ref h_an)))), (h_rd, .inr (4, (mo31 (.ref h_by) (.int 0) (.int z48) (.int z49) (.ref h_td) (.ref h_kn) (.int z50) (.int z51) (.int z52) (.int z53) (.long z54)))), (h_by, .inl (cy_by, 600, .inl f_by)), (h_kn, .inl (cy_kn, 8, .inl f55)), (h_td, .inr (5, (mo34 (.ref h_nam) (.ref h_var) (.ref h_trm) (.ref h_ter) (.int z56) (.ref h_lit) (.ref h_vas) (.ref h_pls) (.ref h_fst) (.int z57)))), (h_nam, .inl (cy_nam, 300, .inr (.inl f58))), (h_var, .inl (cy_var, 300, .inl f59)), (h_trm, .inl (cy_trm, 300, .inl f60)), (h_ter, .inl (cy_ter, 900, .inl f61)), (h_lit, .inl (cy_lit, 16, .inl f62)), (h_vas, .inl (cy_vas, 16, .inl f63)), (h_pls, .inl (cy_pls, 16, .inl f64)), (h_fst, .inl (cy_fst, 96, .inl f65)), (h_dr, .inr (5, (mo34 (.ref h_dnam) (.ref h_dvar) (.ref h_dtrm) (.ref h_dter) (.int z10) (.ref h_dlit) (.ref h_dvas) (.ref h_dpls) (.ref h_dfst) (.int z11)))), (h_dnam, .inl (cy_dnam, 300, .inr (.inl f12))), (h_dvar, .inl (cy_dvar, 300, .inl f13)), (h_dtrm, .inl (cy_dtrm, 300, .inl f14)), (h_dter, .inl (cy_dter, 900, .inl f15)), (h_dlit, .inl (cy_dlit, 16, .inl f16)), (h_dvas, .inl (cy_dvas, 16, .inl f17)), (h_dpls, .inl (cy_dpls, 16, .inl f18)), (h_dfst, .inl (cy_dfst, 96, .inl f19)), (h_pv, .inr (3, (mo62 v_pv (.int z77)))), (h_mx, .inr (2, (mo45 v_mx (.int z78) (.int z79)))), (h_an, .inr (0, (mo63 v_an (.int z80))))] := hD.sub [21, 9, 10, 11, 12, 13, 14, 15, 16, 17, 18, 19, 20, 0, 1, 2, 3, 4, 5, 6, 7, 8, 22, 23, 24] (by decide) rfl
    refine W.widen (k := 0) (n := 0) (Nat.le_of_ble_eq_true rfl) (Nat.le_of_ble_eq_true rfl) ?_
    have cst0 : (0 : Int32).toInt = 0 := by decide
    have w83 : 0 ≤ ((0 : Int32)).toInt ∧ ((0 : Int32)).toInt ≤ 600 := by omega
    have w84 : 0 ≤ ((z50)).toInt ∧ ((z50)).toInt ≤ 8 := by first | exact k66 | omega
    have w85 : 0 ≤ ((z51)).toInt ∧ ((z51)).toInt ≤ 600 := by first | exact k67 | omega
    have w86 : 0 ≤ ((z52)).toInt ∧ ((z52)).toInt ≤ 600 := by first | exact k68 | omega
    have w87 : 0 ≤ ((z56)).toInt ∧ ((z56)).toInt ≤ 300 := by first | exact k69 | omega
    have w88 : 0 ≤ ((z57)).toInt ∧ ((z57)).toInt ≤ 16 := by first | exact k70 | omega
    have w89 : 0 ≤ ((z10)).toInt ∧ ((z10)).toInt ≤ 300 := by first | exact k23 | omega
    have w90 : 0 ≤ ((z11)).toInt ∧ ((z11)).toInt ≤ 16 := by first | exact k24 | omega
    have w91 : 0 ≤ ((z77)).toInt ∧ ((z77)).toInt ≤ 1 := by first | exact k81 | omega
    have w92 : 0 ≤ ((z80)).toInt ∧ ((z80)).toInt ≤ 8 := by first | exact k82 | omega
    have w93 : ((0 : Int32)).toInt = 0 := by omega
    have w94 : TZG (f59) (f60) := k71
    have w95 : TZG (f13) (f14) := k25
    have w96 : IFZ ((z48)).toInt (PLB (f62) (f64) ((z57)).toInt) := k72
    have w97 : CLQ G (x_rd_length).toInt ((z48)).toInt ((z49)).toInt ((z57)).toInt (x_td_clauses).toInt ((z57 : Int32)).toInt := (clq_ok k28 (by omega) k74 rfl)
    have w98 : IFZ ((z48)).toInt (∃ q9 : Int, ALX G (x_rd_length).toInt 32 (CVW (f58) (f59) (f60) (f61)) (CLW (f62) (f63) (f64) (f65)) 0 ((z56)).toInt.toNat ((z57)).toInt.toNat q9) := k73
    have w99 : ¬ ((z48)).toInt = 0 → ((f58) = f_nam ∧ (f59) = f_var ∧ (f60) = f_trm ∧ (f61) = f_ter ∧ (f62) = f_lit ∧ (f63) = f_vas ∧ (f64) = f_pls ∧ (f65) = f_fst) := (fun h9 => absurd (rde_fine k28 (by omega) k74) h9)
    exact W.iret (v := z57) hx hb hr (fun t ht hW => ⟨⟨z57, ((fun k => List.getD [.ref h_by, .int 0, .int z48, .int z49, .ref h_td, .ref h_kn, .int z50, .int z51, .int z52, .int z53, .long z54] k .null), 0, z48, z49, z50, z51, z52, z53, z54, f55, z56, z57, f58, f59, f60, f61, f62, f63, f64, f65, z10, z11, f12, f13, f14, f15, f16, f17, f18, f19, z77, z78, z79, z80), rfl, ⟨w83, w84, w85, w86, hf55, w87, w88, hf59, hf60, hf61, hf62, hf65, w89, w90, hf13, hf14, hf15, hf16, hf19, w91, w92, w93, w94, w95, w96, w97, w98, w99⟩, by rw [ht]; exact hP, hD⟩, hS.F ht⟩) hS.2.2 dX10_clauses_69

set_option maxHeartbeats 8000000 in
set_option maxRecDepth 100000 in
theorem c_X10_fault (l : Launch) (dC : Nat → ClassId) (dI : Nat → Nat → Nat) (sz : Nat) (h_xx : Nat) (h_rd : Nat) (v_xx : Nat → Value) (v_rd : Nat → Value) (x_rd_fault : Int32) (x_rd_place : Int32) (p1 : Int32)  : Met l yX10_fault (Ws yX10_fault cX10_fault 2 (some .int)) (({ frames := 0, cells := 0, slots := 0, locals := 0 } : Room)) (PRE (dC, dI) cls [] [(h_xx, .inr (7, (mo59 v_xx (.ref h_rd)))), (h_rd, .inr (4, (mo65 v_rd (.int x_rd_fault) (.int x_rd_place))))] sz [.ref h_xx, .int p1]) (va_Qi (fun (r : Int32) (_ : Unit) => (((p1).toInt = 0 ∧ (r).toInt = (x_rd_fault).toInt) ∨ ((p1).toInt = 1 ∧ (r).toInt = (x_rd_place).toInt) ∨ (¬ (p1).toInt = 0 ∧ ¬ (p1).toInt = 1 ∧ (r).toInt = -1))) (fun (_ : Unit) (t : State) => va_P (dC, dI) cls [(h_xx, .inr (7, (mo59 v_xx (.ref h_rd)))), (h_rd, .inr (4, (mo65 v_rd (.int x_rd_fault) (.int x_rd_place))))] t.heap ∧ va_D (va_A [(h_xx, .inr (7, (mo59 v_xx (.ref h_rd)))), (h_rd, .inr (4, (mo65 v_rd (.int x_rd_fault) (.int x_rd_place))))] sz) [(h_xx, .inr (7, (mo59 v_xx (.ref h_rd)))), (h_rd, .inr (4, (mo65 v_rd (.int x_rd_fault) (.int x_rd_place))))]) (va_A [(h_xx, .inr (7, (mo59 v_xx (.ref h_rd)))), (h_rd, .inr (4, (mo65 v_rd (.int x_rd_fault) (.int x_rd_place))))] sz)) 0 0 (va_A [(h_xx, .inr (7, (mo59 v_xx (.ref h_rd)))), (h_rd, .inr (4, (mo65 v_rd (.int x_rd_fault) (.int x_rd_place))))] sz) := by
  refine Met.ofW (cc := cX10_fault) (maxL := 2) (ret := (some .int)) (by decide) rfl ?_
  intro p e s m args below meth c s₁ B hml hv
  obtain ⟨rfl, hsz, hP, hK, hD0, hN⟩ := hv
  have hx := B.exec
  have hb := B.bytes
  have hr := B.returns
  have hts := atoms_spec (ws := Ws yX10_fault cX10_fault 2 (some .int)) B.pre
  have hT : ∀ w ∈ WALL, w ∈ Ws yX10_fault cX10_fault 2 (some .int) := fun w h => List.mem_cons_of_mem _ h
  have hw := fun w (h : w ∈ WALL) => hts w (hT w h)
  have hown : s.vm.findClass RX10 = some m.cls := findClass_of_methodNamed B.named
  have hlocks := B.notSynchronized
  subst hsz
  have hD := hD0.self (sz := s.heap.size)
  generalize hAe : va_A [(h_xx, .inr (7, (mo59 v_xx (.ref h_rd)))), (h_rd, .inr (4, (mo65 v_rd (.int x_rd_fault) (.int x_rd_place))))] s.heap.size = A at hD ⊢
  have hA : ∀ q : Nat, s.heap.size ≤ q → A q := fun q h => by rw [← hAe]; exact Or.inr h
  have hS : va_S A s.heap s.heap [] := va_S.rf
  have hl := lv_entry ([.ref h_xx, .int p1]) (n := 2) (Nat.le_of_ble_eq_true rfl)
  rw [lg_entry_eq]
  generalize (lg_sl ([.ref h_xx, .int p1]) ++ List.replicate (2 - (lg_sl ([.ref h_xx, .int p1])).length) Slot.unset).toArray = ls at hl ⊢
  have hl : lv_has ls 2 [(0, .ref h_xx), (1, .int p1)] := hl
  refine lv_iload_n hx hb dX10_fault_0 rfl (lv_at hl 1 rfl) ?_
  have s1 : (p1).toInt = 0 ∨ (p1).toInt = 1 ∨ (¬ (p1).toInt = 0 ∧ ¬ (p1).toInt = 1) := by omega
  rcases s1 with s1 | s1 | s1
  · refine lv_lookup (off := 27) (tgt := 28) hx hb dX10_fault_1 (by decide) (by rw [s1]; rfl) (by decide) ?_
    refine lv_aload_n hx hb dX10_fault_28 rfl (lv_at hl 0 rfl) ?_
    refine va_get (D := (dC, dI)) (ci := 7) (v := .ref h_rd) (C := RX10) (T := TX10) (N := 8) hx hb hw iwX10 hown hK hP 0 rfl rfl 0 (by decide) (hw _ w_f_X10_12) (fun _ h9 => h9) rfl dX10_fault_29 ?_
    refine va_getN (D := (dC, dI)) (ci := 4) (v := .int x_rd_fault) (C := RX5) (T := TX5) (N := 11) (host := "OppositePairs") hx hb hw iwX5 hown hK hP 1 rfl rfl 2 (by decide) (hN.use n_f_X10_78 rfl) (fun _ h9 => h9) rfl dX10_fault_32 ?_
    refine W.widen (k := 0) (n := 0) (Nat.le_of_ble_eq_true rfl) (Nat.le_of_ble_eq_true rfl) ?_
    have w2 : ((p1).toInt = 0 ∧ ((x_rd_fault : Int32)).toInt = (x_rd_fault).toInt) ∨ ((p1).toInt = 1 ∧ ((x_rd_fault : Int32)).toInt = (x_rd_place).toInt) ∨ (¬ (p1).toInt = 0 ∧ ¬ (p1).toInt = 1 ∧ ((x_rd_fault : Int32)).toInt = -1) := by omega
    exact W.iret (v := x_rd_fault) hx hb hr (fun t ht hW => ⟨⟨x_rd_fault, (), rfl, w2, by rw [ht]; exact hP, hD⟩, hS.F ht⟩) hS.2.2 dX10_fault_35
  · refine lv_lookup (off := 35) (tgt := 36) hx hb dX10_fault_1 (by decide) (by rw [s1]; rfl) (by decide) ?_
    refine lv_aload_n hx hb dX10_fault_36 rfl (lv_at hl 0 rfl) ?_
    refine va_get (D := (dC, dI)) (ci := 7) (v := .ref h_rd) (C := RX10) (T := TX10) (N := 8) hx hb hw iwX10 hown hK hP 0 rfl rfl 0 (by decide) (hw _ w_f_X10_12) (fun _ h9 => h9) rfl dX10_fault_37 ?_
    refine va_getN (D := (dC, dI)) (ci := 4) (v := .int x_rd_place) (C := RX5) (T := TX5) (N := 11) (host := "OppositePairs") hx hb hw iwX5 hown hK hP 1 rfl rfl 3 (by decide) (hN.use n_f_X10_87 rfl) (fun _ h9 => h9) rfl dX10_fault_40 ?_
    refine W.widen (k := 0) (n := 0) (Nat.le_of_ble_eq_true rfl) (Nat.le_of_ble_eq_true rfl) ?_
    have w3 : ((p1).toInt = 0 ∧ ((x_rd_place : Int32)).toInt = (x_rd_fault).toInt) ∨ ((p1).toInt = 1 ∧ ((x_rd_place : Int32)).toInt = (x_rd_place).toInt) ∨ (¬ (p1).toInt = 0 ∧ ¬ (p1).toInt = 1 ∧ ((x_rd_place : Int32)).toInt = -1) := by omega
    exact W.iret (v := x_rd_place) hx hb hr (fun t ht hW => ⟨⟨x_rd_place, (), rfl, w3, by rw [ht]; exact hP, hD⟩, hS.F ht⟩) hS.2.2 dX10_fault_43
  · refine lv_lookup (off := 43) (tgt := 44) hx hb dX10_fault_1 (by decide) (by simp [Op.lookupswitch.offset, s1.1, s1.2] <;> omega) (by decide) ?_
    refine lv_iconst (v := (-1)) hx hb dX10_fault_44 (by decide) ?_
    refine W.widen (k := 0) (n := 0) (Nat.le_of_ble_eq_true rfl) (Nat.le_of_ble_eq_true rfl) ?_
    have cstm1 : ((-1) : Int32).toInt = -1 := by decide
    have w4 : ((p1).toInt = 0 ∧ (((-1) : Int32)).toInt = (x_rd_fault).toInt) ∨ ((p1).toInt = 1 ∧ (((-1) : Int32)).toInt = (x_rd_place).toInt) ∨ (¬ (p1).toInt = 0 ∧ ¬ (p1).toInt = 1 ∧ (((-1) : Int32)).toInt = -1) := by omega
    exact W.iret (v := (-1)) hx hb hr (fun t ht hW => ⟨⟨(-1), (), rfl, w4, by rw [ht]; exact hP, hD⟩, hS.F ht⟩) hS.2.2 dX10_fault_45

set_option maxHeartbeats 8000000 in
set_option maxRecDepth 100000 in
theorem c_X10_drop (l : Launch) (dC : Nat → ClassId) (dI : Nat → Nat → Nat) (sz : Nat) (h_xx : Nat) (h_td : Nat) (h_lit : Nat) (h_vas : Nat) (h_pls : Nat) (h_fst : Nat) (h_pv : Nat) (h_mx : Nat) (h_an : Nat) (v_xx : Nat → Value) (v_td : Nat → Value) (x_td_clauses : Int32) (cy_lit : ClassId) (f_lit : Nat → Int32) (cy_vas : ClassId) (f_vas : Nat → Int32) (cy_pls : ClassId) (f_pls : Nat → Int32) (cy_fst : ClassId) (f_fst : Nat → Int32) (v_pv : Nat → Value) (x_pv_proved : Int32) (v_mx : Nat → Value) (x_mx_sorted : Int32) (x_mx_walked : Int32) (v_an : Nat → Value) (x_an_count : Int32) (p1 : Int32) (hx_td_clauses : 0 ≤ (x_td_clauses).toInt ∧ (x_td_clauses).toInt ≤ 16) (hf_lit : Rg 0 6 f_lit) (hf_fst : Rg 0 299 f_fst) (hx_pv_proved : 0 ≤ (x_pv_proved).toInt ∧ (x_pv_proved).toInt ≤ 1) (hx_an_count : 0 ≤ (x_an_count).toInt ∧ (x_an_count).toInt ≤ 8) : Met l yX10_drop (Ws yX10_drop cX10_drop 2 (some .boolean)) (({ frames := 2, cells := 0, slots := 0, locals := 102 } : Room)) (PRE (dC, dI) cls [(cy_lit, .int), (cy_vas, .int), (cy_pls, .int), (cy_fst, .int)] [(h_xx, .inr (7, (mo66 v_xx (.ref h_td) (.ref h_pv) (.ref h_mx) (.ref h_an)))), (h_td, .inr (5, (mo25 v_td (.ref h_lit) (.ref h_vas) (.ref h_pls) (.ref h_fst) (.int x_td_clauses)))), (h_lit, .inl (cy_lit, 16, .inl f_lit)), (h_vas, .inl (cy_vas, 16, .inl f_vas)), (h_pls, .inl (cy_pls, 16, .inl f_pls)), (h_fst, .inl (cy_fst, 96, .inl f_fst)), (h_pv, .inr (3, (mo62 v_pv (.int x_pv_proved)))), (h_mx, .inr (2, (mo45 v_mx (.int x_mx_sorted) (.int x_mx_walked)))), (h_an, .inr (0, (mo63 v_an (.int x_an_count))))] sz [.ref h_xx, .int p1]) (va_Qi (fun (r : Int32) (u : (Int32) × (Nat → Int32) × (Nat → Int32) × (Nat → Int32) × (Nat → Int32) × (Int32) × (Int32) × (Int32) × (Int32)) => (0 ≤ (u.1).toInt ∧ (u.1).toInt ≤ 16) ∧ (Rg 0 6 u.2.1) ∧ (Rg 0 299 u.2.2.2.2.1) ∧ (0 ≤ (u.2.2.2.2.2.1).toInt ∧ (u.2.2.2.2.2.1).toInt ≤ 1) ∧ (0 ≤ (u.2.2.2.2.2.2.2.2).toInt ∧ (u.2.2.2.2.2.2.2.2).toInt ≤ 8) ∧ (0 ≤ r.toInt ∧ r.toInt ≤ 1) ∧ (((r).toInt = 1 ∧ 0 ≤ (p1).toInt ∧ (p1).toInt < (x_td_clauses).toInt ∧ (u.1).toInt = (x_td_clauses).toInt - 1) ∨ ((r).toInt = 0 ∧ ((p1).toInt < 0 ∨ (x_td_clauses).toInt ≤ (p1).toInt) ∧ (u.1).toInt = (x_td_clauses).toInt)) ∧ (((r).toInt = 0 ∧ u.2.1 = f_lit ∧ u.2.2.1 = f_vas ∧ u.2.2.2.1 = f_pls ∧ u.2.2.2.2.1 = f_fst) ∨ ((r).toInt = 1 ∧ RMC (p1).toInt (u.1).toInt f_lit u.2.1 f_vas u.2.2.1 f_pls u.2.2.2.1 f_fst u.2.2.2.2.1))) (fun (u : (Int32) × (Nat → Int32) × (Nat → Int32) × (Nat → Int32) × (Nat → Int32) × (Int32) × (Int32) × (Int32) × (Int32)) (t : State) => va_P (dC, dI) cls [(h_xx, .inr (7, (mo66 v_xx (.ref h_td) (.ref h_pv) (.ref h_mx) (.ref h_an)))), (h_td, .inr (5, (mo25 v_td (.ref h_lit) (.ref h_vas) (.ref h_pls) (.ref h_fst) (.int u.1)))), (h_lit, .inl (cy_lit, 16, .inl u.2.1)), (h_vas, .inl (cy_vas, 16, .inl u.2.2.1)), (h_pls, .inl (cy_pls, 16, .inl u.2.2.2.1)), (h_fst, .inl (cy_fst, 96, .inl u.2.2.2.2.1)), (h_pv, .inr (3, (mo62 v_pv (.int u.2.2.2.2.2.1)))), (h_mx, .inr (2, (mo45 v_mx (.int u.2.2.2.2.2.2.1) (.int u.2.2.2.2.2.2.2.1)))), (h_an, .inr (0, (mo63 v_an (.int u.2.2.2.2.2.2.2.2))))] t.heap ∧ va_D (va_A [(h_xx, .inr (7, (mo66 v_xx (.ref h_td) (.ref h_pv) (.ref h_mx) (.ref h_an)))), (h_td, .inr (5, (mo25 v_td (.ref h_lit) (.ref h_vas) (.ref h_pls) (.ref h_fst) (.int x_td_clauses)))), (h_lit, .inl (cy_lit, 16, .inl f_lit)), (h_vas, .inl (cy_vas, 16, .inl f_vas)), (h_pls, .inl (cy_pls, 16, .inl f_pls)), (h_fst, .inl (cy_fst, 96, .inl f_fst)), (h_pv, .inr (3, (mo62 v_pv (.int x_pv_proved)))), (h_mx, .inr (2, (mo45 v_mx (.int x_mx_sorted) (.int x_mx_walked)))), (h_an, .inr (0, (mo63 v_an (.int x_an_count))))] sz) [(h_xx, .inr (7, (mo66 v_xx (.ref h_td) (.ref h_pv) (.ref h_mx) (.ref h_an)))), (h_td, .inr (5, (mo25 v_td (.ref h_lit) (.ref h_vas) (.ref h_pls) (.ref h_fst) (.int u.1)))), (h_lit, .inl (cy_lit, 16, .inl u.2.1)), (h_vas, .inl (cy_vas, 16, .inl u.2.2.1)), (h_pls, .inl (cy_pls, 16, .inl u.2.2.2.1)), (h_fst, .inl (cy_fst, 96, .inl u.2.2.2.2.1)), (h_pv, .inr (3, (mo62 v_pv (.int u.2.2.2.2.2.1)))), (h_mx, .inr (2, (mo45 v_mx (.int u.2.2.2.2.2.2.1) (.int u.2.2.2.2.2.2.2.1)))), (h_an, .inr (0, (mo63 v_an (.int u.2.2.2.2.2.2.2.2))))]) (va_A [(h_xx, .inr (7, (mo66 v_xx (.ref h_td) (.ref h_pv) (.ref h_mx) (.ref h_an)))), (h_td, .inr (5, (mo25 v_td (.ref h_lit) (.ref h_vas) (.ref h_pls) (.ref h_fst) (.int x_td_clauses)))), (h_lit, .inl (cy_lit, 16, .inl f_lit)), (h_vas, .inl (cy_vas, 16, .inl f_vas)), (h_pls, .inl (cy_pls, 16, .inl f_pls)), (h_fst, .inl (cy_fst, 96, .inl f_fst)), (h_pv, .inr (3, (mo62 v_pv (.int x_pv_proved)))), (h_mx, .inr (2, (mo45 v_mx (.int x_mx_sorted) (.int x_mx_walked)))), (h_an, .inr (0, (mo63 v_an (.int x_an_count))))] sz)) 0 0 (va_A [(h_xx, .inr (7, (mo66 v_xx (.ref h_td) (.ref h_pv) (.ref h_mx) (.ref h_an)))), (h_td, .inr (5, (mo25 v_td (.ref h_lit) (.ref h_vas) (.ref h_pls) (.ref h_fst) (.int x_td_clauses)))), (h_lit, .inl (cy_lit, 16, .inl f_lit)), (h_vas, .inl (cy_vas, 16, .inl f_vas)), (h_pls, .inl (cy_pls, 16, .inl f_pls)), (h_fst, .inl (cy_fst, 96, .inl f_fst)), (h_pv, .inr (3, (mo62 v_pv (.int x_pv_proved)))), (h_mx, .inr (2, (mo45 v_mx (.int x_mx_sorted) (.int x_mx_walked)))), (h_an, .inr (0, (mo63 v_an (.int x_an_count))))] sz) := by
  refine Met.ofW (cc := cX10_drop) (maxL := 2) (ret := (some .boolean)) (by decide) rfl ?_
  intro p e s m args below meth c s₁ B hml hv
  obtain ⟨rfl, hsz, hP, hK, hD0, hN⟩ := hv
  have hx := B.exec
  have hb := B.bytes
  have hr := B.returns
  have hts := atoms_spec (ws := Ws yX10_drop cX10_drop 2 (some .boolean)) B.pre
  have hT : ∀ w ∈ WALL, w ∈ Ws yX10_drop cX10_drop 2 (some .boolean) := fun w h => List.mem_cons_of_mem _ h
  have hw := fun w (h : w ∈ WALL) => hts w (hT w h)
  have hown : s.vm.findClass RX10 = some m.cls := findClass_of_methodNamed B.named
  have hlocks := B.notSynchronized
  subst hsz
  have hD := hD0.self (sz := s.heap.size)
  generalize hAe : va_A [(h_xx, .inr (7, (mo66 v_xx (.ref h_td) (.ref h_pv) (.ref h_mx) (.ref h_an)))), (h_td, .inr (5, (mo25 v_td (.ref h_lit) (.ref h_vas) (.ref h_pls) (.ref h_fst) (.int x_td_clauses)))), (h_lit, .inl (cy_lit, 16, .inl f_lit)), (h_vas, .inl (cy_vas, 16, .inl f_vas)), (h_pls, .inl (cy_pls, 16, .inl f_pls)), (h_fst, .inl (cy_fst, 96, .inl f_fst)), (h_pv, .inr (3, (mo62 v_pv (.int x_pv_proved)))), (h_mx, .inr (2, (mo45 v_mx (.int x_mx_sorted) (.int x_mx_walked)))), (h_an, .inr (0, (mo63 v_an (.int x_an_count))))] s.heap.size = A at hD ⊢
  have hA : ∀ q : Nat, s.heap.size ≤ q → A q := fun q h => by rw [← hAe]; exact Or.inr h
  have hS : va_S A s.heap s.heap [] := va_S.rf
  have hl := lv_entry ([.ref h_xx, .int p1]) (n := 2) (Nat.le_of_ble_eq_true rfl)
  rw [lg_entry_eq]
  generalize (lg_sl ([.ref h_xx, .int p1]) ++ List.replicate (2 - (lg_sl ([.ref h_xx, .int p1])).length) Slot.unset).toArray = ls at hl ⊢
  have hl : lv_has ls 2 [(0, .ref h_xx), (1, .int p1)] := hl
  refine lv_aload_n hx hb dX10_drop_0 rfl (lv_at hl 0 rfl) ?_
  refine va_get (D := (dC, dI)) (ci := 7) (v := .ref h_td) (C := RX10) (T := TX10) (N := 8) hx hb hw iwX10 hown hK hP 0 rfl rfl 1 (by decide) (hw _ w_f_X10_19) (fun _ h9 => h9) rfl dX10_drop_1 ?_
  refine lv_iload_n hx hb dX10_drop_4 rfl (lv_at hl 1 rfl) ?_
  obtain ⟨vq1, evq1⟩ := mq25_0 v_td (.ref h_lit) (.ref h_vas) (.ref h_pls) (.ref h_fst)
  replace hP : va_P (dC, dI) cls [(h_xx, .inr (7, (mo66 v_xx (.ref h_td) (.ref h_pv) (.ref h_mx) (.ref h_an)))), (h_td, .inr (5, (mo0 vq1 (.int x_td_clauses)))), (h_lit, .inl (cy_lit, 16, .inl f_lit)), (h_vas, .inl (cy_vas, 16, .inl f_vas)), (h_pls, .inl (cy_pls, 16, .inl f_pls)), (h_fst, .inl (cy_fst, 96, .inl f_fst)), (h_pv, .inr (3, (mo62 v_pv (.int x_pv_proved)))), (h_mx, .inr (2, (mo45 v_mx (.int x_mx_sorted) (.int x_mx_walked)))), (h_an, .inr (0, (mo63 v_an (.int x_an_count))))] s.heap := by rw [evq1]; exact hP
  replace hD : va_D A [(h_xx, .inr (7, (mo66 v_xx (.ref h_td) (.ref h_pv) (.ref h_mx) (.ref h_an)))), (h_td, .inr (5, (mo0 vq1 (.int x_td_clauses)))), (h_lit, .inl (cy_lit, 16, .inl f_lit)), (h_vas, .inl (cy_vas, 16, .inl f_vas)), (h_pls, .inl (cy_pls, 16, .inl f_pls)), (h_fst, .inl (cy_fst, 96, .inl f_fst)), (h_pv, .inr (3, (mo62 v_pv (.int x_pv_proved)))), (h_mx, .inr (2, (mo45 v_mx (.int x_mx_sorted) (.int x_mx_walked)))), (h_an, .inr (0, (mo63 v_an (.int x_an_count))))] := by rw [evq1]; exact hD
  have hPc := hP.sub (ws' := [(h_td, .inr (5, (mo0 vq1 (.int x_td_clauses))))]) [1] rfl
  have hDc := hD.sub (ws' := [(h_td, .inr (5, (mo0 vq1 (.int x_td_clauses))))]) [1] (by decide) rfl
  have hKc := hK.sub (tys' := []) [] rfl
  have hFc := va_free (wc := [(h_td, .inr (5, (mo0 vq1 (.int x_td_clauses))))]) hD hS hA [1] rfl
  refine va_calli (va_runVN (As := [.int p1]) (rest := []) ⟨hx, hb, hml, hown, hts⟩ (c_X8_isClause l dC dI s.heap.size h_td vq1 x_td_clauses p1 (by first | exact hx_td_clauses | omega)) ⟨va_cnB (host := "OppositePairs") 1 hts (gd hT w_code_X8_isClause) rfl rfl rfl (hN _ n_m_X10_90) (hw _ w_ini_X8) (by decide +kernel) ⟨(Nat.le_of_ble_eq_true rfl), (Nat.le_of_ble_eq_true rfl)⟩, hw _ w_instanceMethod_X8_isClause, hw _ ws_sel_X8_isClause⟩ ⟨pre_blind, va_recv hK hP (ci := 5) (q0 := 1) rfl rfl, pre_of hPc hKc hDc hN⟩ rfl rfl hl.1 rfl (lv_room (Nat.le_of_ble_eq_true rfl)) dX10_drop_5 ⟨(Nat.le_of_ble_eq_true rfl), (Nat.le_of_ble_eq_true rfl)⟩) hS (fun q _ h => hFc q h) hFc (fun r2 u t H locs ht hvm hq hB hz1 hk1 hS9 => ?_)
  obtain ⟨hP1, hD1⟩ := hB
  rw [ht] at hP1
  obtain ⟨hP9, hD9⟩ := va_join (wr := [(h_xx, .inr (7, (mo66 v_xx (.ref h_td) (.ref h_pv) (.ref h_mx) (.ref h_an)))), (h_lit, .inl (cy_lit, 16, .inl f_lit)), (h_vas, .inl (cy_vas, 16, .inl f_vas)), (h_pls, .inl (cy_pls, 16, .inl f_pls)), (h_fst, .inl (cy_fst, 96, .inl f_fst)), (h_pv, .inr (3, (mo62 v_pv (.int x_pv_proved)))), (h_mx, .inr (2, (mo45 v_mx (.int x_mx_sorted) (.int x_mx_walked)))), (h_an, .inr (0, (mo63 v_an (.int x_an_count))))]) (w1 := [(h_td, .inr (5, (mo0 vq1 (.int x_td_clauses))))]) hP hD [1] [0, 2, 3, 4, 5, 6, 7, 8] rfl rfl (by decide) (by decide) hk1 hFc hP1 hD1
  clear hP hD hS hPc hDc hKc hFc hP1 hD1 hk1 hz1 ht hvm
  have hP : va_P (dC, dI) cls [(h_xx, .inr (7, (mo66 v_xx (.ref h_td) (.ref h_pv) (.ref h_mx) (.ref h_an)))), (h_lit, .inl (cy_lit, 16, .inl f_lit)), (h_vas, .inl (cy_vas, 16, .inl f_vas)), (h_pls, .inl (cy_pls, 16, .inl f_pls)), (h_fst, .inl (cy_fst, 96, .inl f_fst)), (h_pv, .inr (3, (mo62 v_pv (.int x_pv_proved)))), (h_mx, .inr (2, (mo45 v_mx (.int x_mx_sorted) (.int x_mx_walked)))), (h_an, .inr (0, (mo63 v_an (.int x_an_count)))), (h_td, .inr (5, (mo0 vq1 (.int x_td_clauses))))] H := hP9
  have hD : va_D A [(h_xx, .inr (7, (mo66 v_xx (.ref h_td) (.ref h_pv) (.ref h_mx) (.ref h_an)))), (h_lit, .inl (cy_lit, 16, .inl f_lit)), (h_vas, .inl (cy_vas, 16, .inl f_vas)), (h_pls, .inl (cy_pls, 16, .inl f_pls)), (h_fst, .inl (cy_fst, 96, .inl f_fst)), (h_pv, .inr (3, (mo62 v_pv (.int x_pv_proved)))), (h_mx, .inr (2, (mo45 v_mx (.int x_mx_sorted) (.int x_mx_walked)))), (h_an, .inr (0, (mo63 v_an (.int x_an_count)))), (h_td, .inr (5, (mo0 vq1 (.int x_td_clauses))))] := hD9
  have hS := hS9
  clear hP9 hD9 hS9
  rw [evq1] at hP hD
  replace hP : va_P (dC, dI) cls [(h_xx, .inr (7, (mo66 v_xx (.ref h_td) (.ref h_pv) (.ref h_mx) (.ref h_an)))), (h_lit, .inl (cy_lit, 16, .inl f_lit)), (h_vas, .inl (cy_vas, 16, .inl f_vas)), (h_pls, .inl (cy_pls, 16, .inl f_pls)), (h_fst, .inl (cy_fst, 96, .inl f_fst)), (h_pv, .inr (3, (mo62 v_pv (.int x_pv_proved)))), (h_mx, .inr (2, (mo45 v_mx (.int x_mx_sorted) (.int x_mx_walked)))), (h_an, .inr (0, (mo63 v_an (.int x_an_count)))), (h_td, .inr (5, (mo25 v_td (.ref h_lit) (.ref h_vas) (.ref h_pls) (.ref h_fst) (.int x_td_clauses))))] H := hP
  replace hD : va_D A [(h_xx, .inr (7, (mo66 v_xx (.ref h_td) (.ref h_pv) (.ref h_mx) (.ref h_an)))), (h_lit, .inl (cy_lit, 16, .inl f_lit)), (h_vas, .inl (cy_vas, 16, .inl f_vas)), (h_pls, .inl (cy_pls, 16, .inl f_pls)), (h_fst, .inl (cy_fst, 96, .inl f_fst)), (h_pv, .inr (3, (mo62 v_pv (.int x_pv_proved)))), (h_mx, .inr (2, (mo45 v_mx (.int x_mx_sorted) (.int x_mx_walked)))), (h_an, .inr (0, (mo63 v_an (.int x_an_count)))), (h_td, .inr (5, (mo25 v_td (.ref h_lit) (.ref h_vas) (.ref h_pls) (.ref h_fst) (.int x_td_clauses))))] := hD
  clear evq1 
  rcases hq with ⟨rfl, hq⟩ | ⟨rfl, hq⟩
  · replace hq : (0 ≤ (p1).toInt) ∧ ((p1).toInt < (x_td_clauses).toInt) := hq
    refine lv_if_ne (tgt := 13) hx hb dX10_drop_8 (by decide) (fun _ => ?_) (fun c9 => absurd c9 (by decide))
    refine lv_aload_n hx hb dX10_drop_13 rfl (lv_at hl 0 rfl) ?_
    refine va_get (D := (dC, dI)) (ci := 7) (v := .ref h_td) (C := RX10) (T := TX10) (N := 8) hx hb hw iwX10 hown hK hP 0 rfl rfl 1 (by decide) (hw _ w_f_X10_19) (fun _ h9 => h9) rfl dX10_drop_14 ?_
    refine lv_iload_n hx hb dX10_drop_17 rfl (lv_at hl 1 rfl) ?_
    have hPc := hP.sub (ws' := [(h_td, .inr (5, (mo25 v_td (.ref h_lit) (.ref h_vas) (.ref h_pls) (.ref h_fst) (.int x_td_clauses)))), (h_lit, .inl (cy_lit, 16, .inl f_lit)), (h_vas, .inl (cy_vas, 16, .inl f_vas)), (h_pls, .inl (cy_pls, 16, .inl f_pls)), (h_fst, .inl (cy_fst, 96, .inl f_fst))]) [8, 1, 2, 3, 4] rfl
    have hDc := hD.sub (ws' := [(h_td, .inr (5, (mo25 v_td (.ref h_lit) (.ref h_vas) (.ref h_pls) (.ref h_fst) (.int x_td_clauses)))), (h_lit, .inl (cy_lit, 16, .inl f_lit)), (h_vas, .inl (cy_vas, 16, .inl f_vas)), (h_pls, .inl (cy_pls, 16, .inl f_pls)), (h_fst, .inl (cy_fst, 96, .inl f_fst))]) [8, 1, 2, 3, 4] (by decide) rfl
    have hKc := hK.sub (tys' := [(cy_lit, .int), (cy_vas, .int), (cy_pls, .int), (cy_fst, .int)]) [0, 1, 2, 3] rfl
    have hFc := va_free (wc := [(h_td, .inr (5, (mo25 v_td (.ref h_lit) (.ref h_vas) (.ref h_pls) (.ref h_fst) (.int x_td_clauses)))), (h_lit, .inl (cy_lit, 16, .inl f_lit)), (h_vas, .inl (cy_vas, 16, .inl f_vas)), (h_pls, .inl (cy_pls, 16, .inl f_pls)), (h_fst, .inl (cy_fst, 96, .inl f_fst))]) hD hS hA [8, 1, 2, 3, 4] rfl
    refine va_callv (va_runVN (As := [.int p1]) (rest := []) ⟨hx, hb, hml, hown, hts⟩ (c_X8_remove l dC dI H.size h_td h_lit h_vas h_pls h_fst v_td x_td_clauses cy_lit f_lit cy_vas f_vas cy_pls f_pls cy_fst f_fst p1 (by first | exact hx_td_clauses | omega) hf_lit hf_fst (by omega) (by omega)) ⟨va_cnB (host := "OppositePairs") 1 hts (gd hT w_code_X8_remove) rfl rfl rfl (hN _ n_m_X10_94) (hw _ w_ini_X8) (by decide +kernel) ⟨(Nat.le_of_ble_eq_true rfl), (Nat.le_of_ble_eq_true rfl)⟩, hw _ w_instanceMethod_X8_remove, hw _ ws_sel_X8_remove⟩ ⟨pre_blind, va_recv hK hP (ci := 5) (q0 := 8) rfl rfl, pre_of hPc hKc hDc hN⟩ rfl rfl hl.1 rfl (lv_room (Nat.le_of_ble_eq_true rfl)) dX10_drop_18 ⟨(Nat.le_of_ble_eq_true rfl), (Nat.le_of_ble_eq_true rfl)⟩) hS (fun q _ h => hFc q h) hFc (fun u t H locs ht hvm hq hB hz1 hk1 hS9 => ?_)
    obtain ⟨z4, f5, f6, f7, f8⟩ := u
    obtain ⟨hP1, hD1⟩ := hB
    rw [ht] at hP1
    obtain ⟨hP9, hD9⟩ := va_join (wr := [(h_xx, .inr (7, (mo66 v_xx (.ref h_td) (.ref h_pv) (.ref h_mx) (.ref h_an)))), (h_pv, .inr (3, (mo62 v_pv (.int x_pv_proved)))), (h_mx, .inr (2, (mo45 v_mx (.int x_mx_sorted) (.int x_mx_walked)))), (h_an, .inr (0, (mo63 v_an (.int x_an_count))))]) (w1 := [(h_td, .inr (5, (mo25 v_td (.ref h_lit) (.ref h_vas) (.ref h_pls) (.ref h_fst) (.int z4)))), (h_lit, .inl (cy_lit, 16, .inl f5)), (h_vas, .inl (cy_vas, 16, .inl f6)), (h_pls, .inl (cy_pls, 16, .inl f7)), (h_fst, .inl (cy_fst, 96, .inl f8))]) hP hD [8, 1, 2, 3, 4] [0, 5, 6, 7] rfl rfl (by decide) (by decide) hk1 hFc hP1 hD1
    clear hP hD hS hPc hDc hKc hFc hP1 hD1 hk1 hz1 ht hvm
    have hP : va_P (dC, dI) cls [(h_xx, .inr (7, (mo66 v_xx (.ref h_td) (.ref h_pv) (.ref h_mx) (.ref h_an)))), (h_pv, .inr (3, (mo62 v_pv (.int x_pv_proved)))), (h_mx, .inr (2, (mo45 v_mx (.int x_mx_sorted) (.int x_mx_walked)))), (h_an, .inr (0, (mo63 v_an (.int x_an_count)))), (h_td, .inr (5, (mo25 v_td (.ref h_lit) (.ref h_vas) (.ref h_pls) (.ref h_fst) (.int z4)))), (h_lit, .inl (cy_lit, 16, .inl f5)), (h_vas, .inl (cy_vas, 16, .inl f6)), (h_pls, .inl (cy_pls, 16, .inl f7)), (h_fst, .inl (cy_fst, 96, .inl f8))] H := hP9
    have hD : va_D A [(h_xx, .inr (7, (mo66 v_xx (.ref h_td) (.ref h_pv) (.ref h_mx) (.ref h_an)))), (h_pv, .inr (3, (mo62 v_pv (.int x_pv_proved)))), (h_mx, .inr (2, (mo45 v_mx (.int x_mx_sorted) (.int x_mx_walked)))), (h_an, .inr (0, (mo63 v_an (.int x_an_count)))), (h_td, .inr (5, (mo25 v_td (.ref h_lit) (.ref h_vas) (.ref h_pls) (.ref h_fst) (.int z4)))), (h_lit, .inl (cy_lit, 16, .inl f5)), (h_vas, .inl (cy_vas, 16, .inl f6)), (h_pls, .inl (cy_pls, 16, .inl f7)), (h_fst, .inl (cy_fst, 96, .inl f8))] := hD9
    have hS := hS9
    clear hP9 hD9 hS9
    obtain ⟨k9, hf5, hf8, k10, k11⟩ := hq
    replace k9 : 0 ≤ ((z4)).toInt ∧ ((z4)).toInt ≤ 16 := k9
    replace hf5 : Rg 0 6 (f5) := hf5
    replace hf8 : Rg 0 299 (f8) := hf8
    replace k10 : ((z4)).toInt = ((x_td_clauses)).toInt - 1 := k10
    replace k11 : RMC ((p1)).toInt ((z4)).toInt f_lit (f5) f_vas (f6) f_pls (f7) f_fst (f8) := k11
    refine lv_aload_n hx hb dX10_drop_21 rfl (lv_at hl 0 rfl) ?_
    obtain ⟨vq12, evq12⟩ := mq66_61 v_xx (.ref h_td)
    replace hP : va_P (dC, dI) cls [(h_xx, .inr (7, (mo61 vq12 (.ref h_pv) (.ref h_mx) (.ref h_an)))), (h_pv, .inr (3, (mo62 v_pv (.int x_pv_proved)))), (h_mx, .inr (2, (mo45 v_mx (.int x_mx_sorted) (.int x_mx_walked)))), (h_an, .inr (0, (mo63 v_an (.int x_an_count)))), (h_td, .inr (5, (mo25 v_td (.ref h_lit) (.ref h_vas) (.ref h_pls) (.ref h_fst) (.int z4)))), (h_lit, .inl (cy_lit, 16, .inl f5)), (h_vas, .inl (cy_vas, 16, .inl f6)), (h_pls, .inl (cy_pls, 16, .inl f7)), (h_fst, .inl (cy_fst, 96, .inl f8))] H := by rw [evq12]; exact hP
    replace hD : va_D A [(h_xx, .inr (7, (mo61 vq12 (.ref h_pv) (.ref h_mx) (.ref h_an)))), (h_pv, .inr (3, (mo62 v_pv (.int x_pv_proved)))), (h_mx, .inr (2, (mo45 v_mx (.int x_mx_sorted) (.int x_mx_walked)))), (h_an, .inr (0, (mo63 v_an (.int x_an_count)))), (h_td, .inr (5, (mo25 v_td (.ref h_lit) (.ref h_vas) (.ref h_pls) (.ref h_fst) (.int z4)))), (h_lit, .inl (cy_lit, 16, .inl f5)), (h_vas, .inl (cy_vas, 16, .inl f6)), (h_pls, .inl (cy_pls, 16, .inl f7)), (h_fst, .inl (cy_fst, 96, .inl f8))] := by rw [evq12]; exact hD
    have hPc := hP.sub (ws' := [(h_xx, .inr (7, (mo61 vq12 (.ref h_pv) (.ref h_mx) (.ref h_an)))), (h_pv, .inr (3, (mo62 v_pv (.int x_pv_proved)))), (h_mx, .inr (2, (mo45 v_mx (.int x_mx_sorted) (.int x_mx_walked)))), (h_an, .inr (0, (mo63 v_an (.int x_an_count))))]) [0, 1, 2, 3] rfl
    have hDc := hD.sub (ws' := [(h_xx, .inr (7, (mo61 vq12 (.ref h_pv) (.ref h_mx) (.ref h_an)))), (h_pv, .inr (3, (mo62 v_pv (.int x_pv_proved)))), (h_mx, .inr (2, (mo45 v_mx (.int x_mx_sorted) (.int x_mx_walked)))), (h_an, .inr (0, (mo63 v_an (.int x_an_count))))]) [0, 1, 2, 3] (by decide) rfl
    have hKc := hK.sub (tys' := []) [] rfl
    have hFc := va_free (wc := [(h_xx, .inr (7, (mo61 vq12 (.ref h_pv) (.ref h_mx) (.ref h_an)))), (h_pv, .inr (3, (mo62 v_pv (.int x_pv_proved)))), (h_mx, .inr (2, (mo45 v_mx (.int x_mx_sorted) (.int x_mx_walked)))), (h_an, .inr (0, (mo63 v_an (.int x_an_count))))]) hD hS hA [0, 1, 2, 3] rfl
    refine va_callv (va_runV (As := []) (rest := []) ⟨hx, hb, hml, hown, hts⟩ (c_X10_forgetAll l dC dI H.size h_xx h_pv h_mx h_an vq12 v_pv x_pv_proved v_mx x_mx_sorted x_mx_walked v_an x_an_count (by first | exact hx_pv_proved | omega) (by first | exact hx_an_count | omega)) (cwV 0 hts (gv hT w_m_X10_81 w_instanceMethod_X10_forgetAll ws_sel_X10_forgetAll w_ini_X10 w_code_X10_forgetAll) rfl rfl rfl (by decide +kernel) ⟨(Nat.le_of_ble_eq_true rfl), (Nat.le_of_ble_eq_true rfl)⟩) ⟨pre_blind, va_recv hK hP (ci := 7) (q0 := 0) rfl rfl, pre_of hPc hKc hDc hN⟩ rfl rfl hl.1 rfl (lv_room (Nat.le_of_ble_eq_true rfl)) dX10_drop_22 ⟨(Nat.le_of_ble_eq_true rfl), (Nat.le_of_ble_eq_true rfl)⟩) hS (fun q _ h => hFc q h) hFc (fun u t H locs ht hvm hq hB hz1 hk1 hS9 => ?_)
    obtain ⟨z14, z15, z16, z17⟩ := u
    obtain ⟨hP1, hD1⟩ := hB
    rw [ht] at hP1
    obtain ⟨hP9, hD9⟩ := va_join (wr := [(h_td, .inr (5, (mo25 v_td (.ref h_lit) (.ref h_vas) (.ref h_pls) (.ref h_fst) (.int z4)))), (h_lit, .inl (cy_lit, 16, .inl f5)), (h_vas, .inl (cy_vas, 16, .inl f6)), (h_pls, .inl (cy_pls, 16, .inl f7)), (h_fst, .inl (cy_fst, 96, .inl f8))]) (w1 := [(h_xx, .inr (7, (mo61 vq12 (.ref h_pv) (.ref h_mx) (.ref h_an)))), (h_pv, .inr (3, (mo62 v_pv (.int z14)))), (h_mx, .inr (2, (mo45 v_mx (.int z15) (.int z16)))), (h_an, .inr (0, (mo63 v_an (.int z17))))]) hP hD [0, 1, 2, 3] [4, 5, 6, 7, 8] rfl rfl (by decide) (by decide) hk1 hFc hP1 hD1
    clear hP hD hS hPc hDc hKc hFc hP1 hD1 hk1 hz1 ht hvm
    have hP : va_P (dC, dI) cls [(h_td, .inr (5, (mo25 v_td (.ref h_lit) (.ref h_vas) (.ref h_pls) (.ref h_fst) (.int z4)))), (h_lit, .inl (cy_lit, 16, .inl f5)), (h_vas, .inl (cy_vas, 16, .inl f6)), (h_pls, .inl (cy_pls, 16, .inl f7)), (h_fst, .inl (cy_fst, 96, .inl f8)), (h_xx, .inr (7, (mo61 vq12 (.ref h_pv) (.ref h_mx) (.ref h_an)))), (h_pv, .inr (3, (mo62 v_pv (.int z14)))), (h_mx, .inr (2, (mo45 v_mx (.int z15) (.int z16)))), (h_an, .inr (0, (mo63 v_an (.int z17))))] H := hP9
    have hD : va_D A [(h_td, .inr (5, (mo25 v_td (.ref h_lit) (.ref h_vas) (.ref h_pls) (.ref h_fst) (.int z4)))), (h_lit, .inl (cy_lit, 16, .inl f5)), (h_vas, .inl (cy_vas, 16, .inl f6)), (h_pls, .inl (cy_pls, 16, .inl f7)), (h_fst, .inl (cy_fst, 96, .inl f8)), (h_xx, .inr (7, (mo61 vq12 (.ref h_pv) (.ref h_mx) (.ref h_an)))), (h_pv, .inr (3, (mo62 v_pv (.int z14)))), (h_mx, .inr (2, (mo45 v_mx (.int z15) (.int z16)))), (h_an, .inr (0, (mo63 v_an (.int z17))))] := hD9
    have hS := hS9
    clear hP9 hD9 hS9
    rw [evq12] at hP hD
    replace hP : va_P (dC, dI) cls [(h_td, .inr (5, (mo25 v_td (.ref h_lit) (.ref h_vas) (.ref h_pls) (.ref h_fst) (.int z4)))), (h_lit, .inl (cy_lit, 16, .inl f5)), (h_vas, .inl (cy_vas, 16, .inl f6)), (h_pls, .inl (cy_pls, 16, .inl f7)), (h_fst, .inl (cy_fst, 96, .inl f8)), (h_xx, .inr (7, (mo66 v_xx (.ref h_td) (.ref h_pv) (.ref h_mx) (.ref h_an)))), (h_pv, .inr (3, (mo62 v_pv (.int z14)))), (h_mx, .inr (2, (mo45 v_mx (.int z15) (.int z16)))), (h_an, .inr (0, (mo63 v_an (.int z17))))] H := hP
    replace hD : va_D A [(h_td, .inr (5, (mo25 v_td (.ref h_lit) (.ref h_vas) (.ref h_pls) (.ref h_fst) (.int z4)))), (h_lit, .inl (cy_lit, 16, .inl f5)), (h_vas, .inl (cy_vas, 16, .inl f6)), (h_pls, .inl (cy_pls, 16, .inl f7)), (h_fst, .inl (cy_fst, 96, .inl f8)), (h_xx, .inr (7, (mo66 v_xx (.ref h_td) (.ref h_pv) (.ref h_mx) (.ref h_an)))), (h_pv, .inr (3, (mo62 v_pv (.int z14)))), (h_mx, .inr (2, (mo45 v_mx (.int z15) (.int z16)))), (h_an, .inr (0, (mo63 v_an (.int z17))))] := hD
    clear evq12 
    obtain ⟨k18, k19⟩ := hq
    replace k18 : 0 ≤ ((z14)).toInt ∧ ((z14)).toInt ≤ 1 := k18
    replace k19 : 0 ≤ ((z17)).toInt ∧ ((z17)).toInt ≤ 8 := k19
    refine lv_iconst (v := 1) hx hb dX10_drop_25 (by decide) ?_
    replace hP : va_P (dC, dI) cls [(h_xx, .inr (7, (mo66 v_xx (.ref h_td) (.ref h_pv) (.ref h_mx) (.ref h_an)))), (h_td, .inr (5, (mo25 v_td (.ref h_lit) (.ref h_vas) (.ref h_pls) (.ref h_fst) (.int z4)))), (h_lit, .inl (cy_lit, 16, .inl f5)), (h_vas, .inl (cy_vas, 16, .inl f6)), (h_pls, .inl (cy_pls, 16, .inl f7)), (h_fst, .inl (cy_fst, 96, .inl f8)), (h_pv, .inr (3, (mo62 v_pv (.int z14)))), (h_mx, .inr (2, (mo45 v_mx (.int z15) (.int z16)))), (h_an, .inr (0, (mo63 v_an (.int z17))))] H := hP.sub [5, 0, 1, 2, 3, 4, 6, 7, 8] rfl
    replace hD : va_D A [(h_xx, .inr (7, (mo66 v_xx (.ref h_td) (.ref h_pv) (.ref h_mx) (.ref h_an)))), (h_td, .inr (5, (mo25 v_td (.ref h_lit) (.ref h_vas) (.ref h_pls) (.ref h_fst) (.int z4)))), (h_lit, .inl (cy_lit, 16, .inl f5)), (h_vas, .inl (cy_vas, 16, .inl f6)), (h_pls, .inl (cy_pls, 16, .inl f7)), (h_fst, .inl (cy_fst, 96, .inl f8)), (h_pv, .inr (3, (mo62 v_pv (.int z14)))), (h_mx, .inr (2, (mo45 v_mx (.int z15) (.int z16)))), (h_an, .inr (0, (mo63 v_an (.int z17))))] := hD.sub [5, 0, 1, 2, 3, 4, 6, 7, 8] (by decide) rfl
    refine W.widen (k := 0) (n := 0) (Nat.le_of_ble_eq_true rfl) (Nat.le_of_ble_eq_true rfl) ?_
    have cst1 : (1 : Int32).toInt = 1 := by decide
    have w20 : 0 ≤ ((z4)).toInt ∧ ((z4)).toInt ≤ 16 := by first | exact k9 | omega
    have w21 : 0 ≤ ((z14)).toInt ∧ ((z14)).toInt ≤ 1 := by first | exact k18 | omega
    have w22 : 0 ≤ ((z17)).toInt ∧ ((z17)).toInt ≤ 8 := by first | exact k19 | omega
    have w23 : 0 ≤ (1 : Int32).toInt ∧ (1 : Int32).toInt ≤ 1 := by omega
    have w24 : (((1 : Int32)).toInt = 1 ∧ 0 ≤ (p1).toInt ∧ (p1).toInt < (x_td_clauses).toInt ∧ ((z4)).toInt = (x_td_clauses).toInt - 1) ∨ (((1 : Int32)).toInt = 0 ∧ ((p1).toInt < 0 ∨ (x_td_clauses).toInt ≤ (p1).toInt) ∧ ((z4)).toInt = (x_td_clauses).toInt) := by omega
    have w25 : (((1 : Int32)).toInt = 0 ∧ (f5) = f_lit ∧ (f6) = f_vas ∧ (f7) = f_pls ∧ (f8) = f_fst) ∨ (((1 : Int32)).toInt = 1 ∧ RMC (p1).toInt ((z4)).toInt f_lit (f5) f_vas (f6) f_pls (f7) f_fst (f8)) := (Or.inr ⟨by decide, k11⟩)
    exact W.zret (v := 1) (ty := .boolean) hx hb hr (by decide) (fun t ht hW => ⟨⟨1, (z4, f5, f6, f7, f8, z14, z15, z16, z17), rfl, ⟨w20, hf5, hf8, w21, w22, w23, w24, w25⟩, by rw [ht]; exact hP, hD⟩, hS.F ht⟩) hS.2.2 dX10_drop_26
  · replace hq : ((p1).toInt < 0 ∨ (x_td_clauses).toInt ≤ (p1).toInt) := hq
    refine lv_if_ne (tgt := 13) hx hb dX10_drop_8 (by decide) (fun c9 => absurd c9 (by decide)) (fun _ => ?_)
    refine lv_iconst (v := 0) hx hb dX10_drop_11 (by decide) ?_
    replace hP : va_P (dC, dI) cls [(h_xx, .inr (7, (mo66 v_xx (.ref h_td) (.ref h_pv) (.ref h_mx) (.ref h_an)))), (h_td, .inr (5, (mo25 v_td (.ref h_lit) (.ref h_vas) (.ref h_pls) (.ref h_fst) (.int x_td_clauses)))), (h_lit, .inl (cy_lit, 16, .inl f_lit)), (h_vas, .inl (cy_vas, 16, .inl f_vas)), (h_pls, .inl (cy_pls, 16, .inl f_pls)), (h_fst, .inl (cy_fst, 96, .inl f_fst)), (h_pv, .inr (3, (mo62 v_pv (.int x_pv_proved)))), (h_mx, .inr (2, (mo45 v_mx (.int x_mx_sorted) (.int x_mx_walked)))), (h_an, .inr (0, (mo63 v_an (.int x_an_count))))] H := hP.sub [0, 8, 1, 2, 3, 4, 5, 6, 7] rfl
    replace hD : va_D A [(h_xx, .inr (7, (mo66 v_xx (.ref h_td) (.ref h_pv) (.ref h_mx) (.ref h_an)))), (h_td, .inr (5, (mo25 v_td (.ref h_lit) (.ref h_vas) (.ref h_pls) (.ref h_fst) (.int x_td_clauses)))), (h_lit, .inl (cy_lit, 16, .inl f_lit)), (h_vas, .inl (cy_vas, 16, .inl f_vas)), (h_pls, .inl (cy_pls, 16, .inl f_pls)), (h_fst, .inl (cy_fst, 96, .inl f_fst)), (h_pv, .inr (3, (mo62 v_pv (.int x_pv_proved)))), (h_mx, .inr (2, (mo45 v_mx (.int x_mx_sorted) (.int x_mx_walked)))), (h_an, .inr (0, (mo63 v_an (.int x_an_count))))] := hD.sub [0, 8, 1, 2, 3, 4, 5, 6, 7] (by decide) rfl
    refine W.widen (k := 0) (n := 0) (Nat.le_of_ble_eq_true rfl) (Nat.le_of_ble_eq_true rfl) ?_
    have cst0 : (0 : Int32).toInt = 0 := by decide
    have w26 : 0 ≤ ((x_td_clauses)).toInt ∧ ((x_td_clauses)).toInt ≤ 16 := by first | exact hx_td_clauses | omega
    have w27 : 0 ≤ ((x_pv_proved)).toInt ∧ ((x_pv_proved)).toInt ≤ 1 := by first | exact hx_pv_proved | omega
    have w28 : 0 ≤ ((x_an_count)).toInt ∧ ((x_an_count)).toInt ≤ 8 := by first | exact hx_an_count | omega
    have w29 : 0 ≤ (0 : Int32).toInt ∧ (0 : Int32).toInt ≤ 1 := by omega
    have w30 : (((0 : Int32)).toInt = 1 ∧ 0 ≤ (p1).toInt ∧ (p1).toInt < (x_td_clauses).toInt ∧ ((x_td_clauses)).toInt = (x_td_clauses).toInt - 1) ∨ (((0 : Int32)).toInt = 0 ∧ ((p1).toInt < 0 ∨ (x_td_clauses).toInt ≤ (p1).toInt) ∧ ((x_td_clauses)).toInt = (x_td_clauses).toInt) := by omega
    have w31 : (((0 : Int32)).toInt = 0 ∧ (f_lit) = f_lit ∧ (f_vas) = f_vas ∧ (f_pls) = f_pls ∧ (f_fst) = f_fst) ∨ (((0 : Int32)).toInt = 1 ∧ RMC (p1).toInt ((x_td_clauses)).toInt f_lit (f_lit) f_vas (f_vas) f_pls (f_pls) f_fst (f_fst)) := (Or.inl ⟨by decide, rfl, rfl, rfl, rfl⟩)
    exact W.zret (v := 0) (ty := .boolean) hx hb hr (by decide) (fun t ht hW => ⟨⟨0, (x_td_clauses, f_lit, f_vas, f_pls, f_fst, x_pv_proved, x_mx_sorted, x_mx_walked, x_an_count), rfl, ⟨w26, hf_lit, hf_fst, w27, w28, w29, w30, w31⟩, by rw [ht]; exact hP, hD⟩, hS.F ht⟩) hS.2.2 dX10_drop_12

set_option maxHeartbeats 8000000 in
set_option maxRecDepth 100000 in
theorem c_X10_place (l : Launch) (dC : Nat → ClassId) (dI : Nat → Nat → Nat) (sz : Nat) (h_xx : Nat) (h_td : Nat) (h_fst : Nat) (v_xx : Nat → Value) (v_td : Nat → Value) (cy_fst : ClassId) (f_fst : Nat → Int32) (p1 : Int32) (p2 : Int32) (p3 : Int32) (hf_fst : Rg 0 299 f_fst) (q0 : 0 ≤ (p1).toInt ∧ (p1).toInt ≤ 31) (q1 : 0 ≤ (p2).toInt ∧ (p2).toInt ≤ 15) (q2 : 0 ≤ (p3).toInt ∧ (p3).toInt ≤ 5) : Met l yX10_place (Ws yX10_place cX10_place 4 (some .int)) (({ frames := 1, cells := 0, slots := 0, locals := 22 } : Room)) (PRE (dC, dI) cls [(cy_fst, .int)] [(h_xx, .inr (7, (mo67 v_xx (.ref h_td)))), (h_td, .inr (5, (mo3 v_td (.ref h_fst)))), (h_fst, .inl (cy_fst, 96, .inl f_fst))] sz [.ref h_xx, .int p1, .int p2, .int p3]) (va_Qi (fun (r : Int32) (_ : Unit) => (0 ≤ r.toInt ∧ r.toInt ≤ 9599) ∧ ((r).toInt = 300 * (p1).toInt + (f_fst (6 * (p2).toInt.toNat + (p3).toInt.toNat)).toInt) ∧ (0 ≤ (f_fst (6 * (p2).toInt.toNat + (p3).toInt.toNat)).toInt ∧ (f_fst (6 * (p2).toInt.toNat + (p3).toInt.toNat)).toInt ≤ 299)) (fun (_ : Unit) (t : State) => va_P (dC, dI) cls [(h_xx, .inr (7, (mo67 v_xx (.ref h_td)))), (h_td, .inr (5, (mo3 v_td (.ref h_fst)))), (h_fst, .inl (cy_fst, 96, .inl f_fst))] t.heap ∧ va_D (va_A [(h_xx, .inr (7, (mo67 v_xx (.ref h_td)))), (h_td, .inr (5, (mo3 v_td (.ref h_fst)))), (h_fst, .inl (cy_fst, 96, .inl f_fst))] sz) [(h_xx, .inr (7, (mo67 v_xx (.ref h_td)))), (h_td, .inr (5, (mo3 v_td (.ref h_fst)))), (h_fst, .inl (cy_fst, 96, .inl f_fst))]) (va_A [(h_xx, .inr (7, (mo67 v_xx (.ref h_td)))), (h_td, .inr (5, (mo3 v_td (.ref h_fst)))), (h_fst, .inl (cy_fst, 96, .inl f_fst))] sz)) 0 0 (va_A [(h_xx, .inr (7, (mo67 v_xx (.ref h_td)))), (h_td, .inr (5, (mo3 v_td (.ref h_fst)))), (h_fst, .inl (cy_fst, 96, .inl f_fst))] sz) := by
  refine Met.ofW (cc := cX10_place) (maxL := 4) (ret := (some .int)) (by decide) rfl ?_
  intro p e s m args below meth c s₁ B hml hv
  obtain ⟨rfl, hsz, hP, hK, hD0, hN⟩ := hv
  have hx := B.exec
  have hb := B.bytes
  have hr := B.returns
  have hts := atoms_spec (ws := Ws yX10_place cX10_place 4 (some .int)) B.pre
  have hT : ∀ w ∈ WALL, w ∈ Ws yX10_place cX10_place 4 (some .int) := fun w h => List.mem_cons_of_mem _ h
  have hw := fun w (h : w ∈ WALL) => hts w (hT w h)
  have hown : s.vm.findClass RX10 = some m.cls := findClass_of_methodNamed B.named
  have hlocks := B.notSynchronized
  subst hsz
  have hD := hD0.self (sz := s.heap.size)
  generalize hAe : va_A [(h_xx, .inr (7, (mo67 v_xx (.ref h_td)))), (h_td, .inr (5, (mo3 v_td (.ref h_fst)))), (h_fst, .inl (cy_fst, 96, .inl f_fst))] s.heap.size = A at hD ⊢
  have hA : ∀ q : Nat, s.heap.size ≤ q → A q := fun q h => by rw [← hAe]; exact Or.inr h
  have hS : va_S A s.heap s.heap [] := va_S.rf
  have hl := lv_entry ([.ref h_xx, .int p1, .int p2, .int p3]) (n := 4) (Nat.le_of_ble_eq_true rfl)
  rw [lg_entry_eq]
  generalize (lg_sl ([.ref h_xx, .int p1, .int p2, .int p3]) ++ List.replicate (4 - (lg_sl ([.ref h_xx, .int p1, .int p2, .int p3])).length) Slot.unset).toArray = ls at hl ⊢
  have hl : lv_has ls 4 [(0, .ref h_xx), (1, .int p1), (2, .int p2), (3, .int p3)] := hl
  refine lv_iload_n hx hb dX10_place_0 rfl (lv_at hl 1 rfl) ?_
  refine lv_sipush (v := 300) hx hb dX10_place_1 (by decide) ?_
  refine lv_imul hx hb dX10_place_4 ?_
  refine lv_topi (fun z1 ez1 => ?_)
  have tz1 : (z1).toInt = (p1).toInt * 300 := by rw [ez1]; exact i_mul rfl (by decide) (by omega)
  refine lv_aload_n hx hb dX10_place_5 rfl (lv_at hl 0 rfl) ?_
  refine va_get (D := (dC, dI)) (ci := 7) (v := .ref h_td) (C := RX10) (T := TX10) (N := 8) hx hb hw iwX10 hown hK hP 0 rfl rfl 1 (by decide) (hw _ w_f_X10_19) (fun _ h9 => h9) rfl dX10_place_6 ?_
  refine lv_iload_n hx hb dX10_place_9 rfl (lv_at hl 2 rfl) ?_
  refine lv_iload_n hx hb dX10_place_10 rfl (lv_at hl 3 rfl) ?_
  have hPc := hP.sub (ws' := [(h_td, .inr (5, (mo3 v_td (.ref h_fst)))), (h_fst, .inl (cy_fst, 96, .inl f_fst))]) [1, 2] rfl
  have hDc := hD.sub (ws' := [(h_td, .inr (5, (mo3 v_td (.ref h_fst)))), (h_fst, .inl (cy_fst, 96, .inl f_fst))]) [1, 2] (by decide) rfl
  have hKc := hK.sub (tys' := [(cy_fst, .int)]) [0] rfl
  have hFc := va_free (wc := [(h_td, .inr (5, (mo3 v_td (.ref h_fst)))), (h_fst, .inl (cy_fst, 96, .inl f_fst))]) hD hS hA [1, 2] rfl
  refine va_calli (va_runVN (As := [.int p2, .int p3]) (rest := [.int z1]) ⟨hx, hb, hml, hown, hts⟩ (c_X8_part l dC dI s.heap.size h_td h_fst v_td cy_fst f_fst p2 p3 hf_fst (by first | exact q1 | omega) (by first | exact q2 | omega)) ⟨va_cnB (host := "OppositePairs") 2 hts (gd hT w_code_X8_part) rfl rfl rfl (hN _ n_m_X10_118) (hw _ w_ini_X8) (by decide +kernel) ⟨(Nat.le_of_ble_eq_true rfl), (Nat.le_of_ble_eq_true rfl)⟩, hw _ w_instanceMethod_X8_part, hw _ ws_sel_X8_part⟩ ⟨pre_blind, va_recv hK hP (ci := 5) (q0 := 1) rfl rfl, pre_of hPc hKc hDc hN⟩ rfl rfl hl.1 rfl (lv_room (Nat.le_of_ble_eq_true rfl)) dX10_place_11 ⟨(Nat.le_of_ble_eq_true rfl), (Nat.le_of_ble_eq_true rfl)⟩) hS (fun q _ h => hFc q h) hFc (fun r2 u t H locs ht hvm hq hB hz1 hk1 hS9 => ?_)
  obtain ⟨hP1, hD1⟩ := hB
  rw [ht] at hP1
  obtain ⟨hP9, hD9⟩ := va_join (wr := [(h_xx, .inr (7, (mo67 v_xx (.ref h_td))))]) (w1 := [(h_td, .inr (5, (mo3 v_td (.ref h_fst)))), (h_fst, .inl (cy_fst, 96, .inl f_fst))]) hP hD [1, 2] [0] rfl rfl (by decide) (by decide) hk1 hFc hP1 hD1
  clear hP hD hS hPc hDc hKc hFc hP1 hD1 hk1 hz1 ht hvm
  have hP : va_P (dC, dI) cls [(h_xx, .inr (7, (mo67 v_xx (.ref h_td)))), (h_td, .inr (5, (mo3 v_td (.ref h_fst)))), (h_fst, .inl (cy_fst, 96, .inl f_fst))] H := hP9
  have hD : va_D A [(h_xx, .inr (7, (mo67 v_xx (.ref h_td)))), (h_td, .inr (5, (mo3 v_td (.ref h_fst)))), (h_fst, .inl (cy_fst, 96, .inl f_fst))] := hD9
  have hS := hS9
  clear hP9 hD9 hS9
  obtain ⟨k3, k4⟩ := hq
  replace k3 : 0 ≤ (r2).toInt ∧ (r2).toInt ≤ 299 := k3
  replace k4 : (r2) = f_fst (6 * ((p2)).toInt.toNat + ((p3)).toInt.toNat) := k4
  have pl9 := congrArg Int32.toInt k4
  refine lv_iadd hx hb dX10_place_14 ?_
  refine lv_topi (fun z5 ez5 => ?_)
  have tz5 : (z5).toInt = (z1).toInt + (r2).toInt := by rw [ez5]; exact i_add rfl rfl (by omega)
  refine W.widen (k := 0) (n := 0) (Nat.le_of_ble_eq_true rfl) (Nat.le_of_ble_eq_true rfl) ?_
  have w6 : 0 ≤ (z5 : Int32).toInt ∧ (z5 : Int32).toInt ≤ 9599 := by omega
  have w7 : ((z5 : Int32)).toInt = 300 * (p1).toInt + (f_fst (6 * (p2).toInt.toNat + (p3).toInt.toNat)).toInt := by omega
  have w8 : 0 ≤ (f_fst (6 * (p2).toInt.toNat + (p3).toInt.toNat)).toInt ∧ (f_fst (6 * (p2).toInt.toNat + (p3).toInt.toNat)).toInt ≤ 299 := by omega
  exact W.iret (v := z5) hx hb hr (fun t ht hW => ⟨⟨z5, (), rfl, ⟨w6, w7, w8⟩, by rw [ht]; exact hP, hD⟩, hS.F ht⟩) hS.2.2 dX10_place_15

set_option maxHeartbeats 8000000 in
set_option maxRecDepth 100000 in
theorem c_X10_partsOf (l : Launch) (dC : Nat → ClassId) (dI : Nat → Nat → Nat) (sz : Nat) (h_xx : Nat) (h_bd : Nat) (h_bnd : Nat) (h_hol : Nat) (h_td : Nat) (h_var : Nat) (h_trm : Nat) (h_ter : Nat) (h_lit : Nat) (h_fst : Nat) (v_xx : Nat → Value) (v_bd : Nat → Value) (cy_bnd : ClassId) (f_bnd : Nat → Int32) (cy_hol : ClassId) (f_hol : Nat → Int32) (v_td : Nat → Value) (cy_var : ClassId) (f_var : Nat → Int32) (cy_trm : ClassId) (f_trm : Nat → Int32) (cy_ter : ClassId) (f_ter : Nat → Int32) (cy_lit : ClassId) (f_lit : Nat → Int32) (cy_fst : ClassId) (f_fst : Nat → Int32) (p1 : Int32) (nmx : Nat → Int64) (hf_bnd : Rg 0 9600 f_bnd) (hf_hol : Rg 0 9599 f_hol) (hf_var : Rg (-1) 7 f_var) (hf_trm : Rg 0 3 f_trm) (hf_ter : Rg 0 299 f_ter) (hf_lit : Rg 0 6 f_lit) (hf_fst : Rg 0 299 f_fst) (q0 : 0 ≤ (p1).toInt ∧ (p1).toInt ≤ 15) (hn_bhz : BHZ f_bnd) (hn_tz : TZG f_var f_trm) (hn_wfq : WFQ (CVW nmx f_var f_trm f_ter) f_lit f_fst (p1).toInt.toNat) : Met l yX10_partsOf (Ws yX10_partsOf cX10_partsOf 4 (some .int)) (({ frames := 2, cells := 0, slots := 0, locals := 53 } : Room)) (PRE (dC, dI) cls [(cy_bnd, .int), (cy_hol, .int), (cy_var, .int), (cy_trm, .int), (cy_ter, .int), (cy_lit, .int), (cy_fst, .int)] [(h_xx, .inr (7, (mo68 v_xx (.ref h_td) (.ref h_bd)))), (h_bd, .inr (1, (mo19 v_bd (.ref h_td) (.ref h_bnd) (.ref h_hol)))), (h_bnd, .inl (cy_bnd, 256, .inl f_bnd)), (h_hol, .inl (cy_hol, 2048, .inl f_hol)), (h_td, .inr (5, (mo69 v_td (.ref h_var) (.ref h_trm) (.ref h_ter) (.ref h_lit) (.ref h_fst)))), (h_var, .inl (cy_var, 300, .inl f_var)), (h_trm, .inl (cy_trm, 300, .inl f_trm)), (h_ter, .inl (cy_ter, 900, .inl f_ter)), (h_lit, .inl (cy_lit, 16, .inl f_lit)), (h_fst, .inl (cy_fst, 96, .inl f_fst))] sz [.ref h_xx, .int p1]) (va_Qi (fun (r : Int32) (u : (Nat → Int32)) => (Rg 0 9599 u) ∧ ((r).toInt = szL (CVW nmx f_var f_trm f_ter) (fun k => Int32.toNatClampNeg (f_fst (6 * (p1).toInt.toNat + k))) (Int.toNat (f_lit (p1).toInt.toNat).toInt))) (fun (u : (Nat → Int32)) (t : State) => va_P (dC, dI) cls [(h_xx, .inr (7, (mo68 v_xx (.ref h_td) (.ref h_bd)))), (h_bd, .inr (1, (mo19 v_bd (.ref h_td) (.ref h_bnd) (.ref h_hol)))), (h_bnd, .inl (cy_bnd, 256, .inl f_bnd)), (h_hol, .inl (cy_hol, 2048, .inl u)), (h_td, .inr (5, (mo69 v_td (.ref h_var) (.ref h_trm) (.ref h_ter) (.ref h_lit) (.ref h_fst)))), (h_var, .inl (cy_var, 300, .inl f_var)), (h_trm, .inl (cy_trm, 300, .inl f_trm)), (h_ter, .inl (cy_ter, 900, .inl f_ter)), (h_lit, .inl (cy_lit, 16, .inl f_lit)), (h_fst, .inl (cy_fst, 96, .inl f_fst))] t.heap ∧ va_D (va_A [(h_xx, .inr (7, (mo68 v_xx (.ref h_td) (.ref h_bd)))), (h_bd, .inr (1, (mo19 v_bd (.ref h_td) (.ref h_bnd) (.ref h_hol)))), (h_bnd, .inl (cy_bnd, 256, .inl f_bnd)), (h_hol, .inl (cy_hol, 2048, .inl f_hol)), (h_td, .inr (5, (mo69 v_td (.ref h_var) (.ref h_trm) (.ref h_ter) (.ref h_lit) (.ref h_fst)))), (h_var, .inl (cy_var, 300, .inl f_var)), (h_trm, .inl (cy_trm, 300, .inl f_trm)), (h_ter, .inl (cy_ter, 900, .inl f_ter)), (h_lit, .inl (cy_lit, 16, .inl f_lit)), (h_fst, .inl (cy_fst, 96, .inl f_fst))] sz) [(h_xx, .inr (7, (mo68 v_xx (.ref h_td) (.ref h_bd)))), (h_bd, .inr (1, (mo19 v_bd (.ref h_td) (.ref h_bnd) (.ref h_hol)))), (h_bnd, .inl (cy_bnd, 256, .inl f_bnd)), (h_hol, .inl (cy_hol, 2048, .inl u)), (h_td, .inr (5, (mo69 v_td (.ref h_var) (.ref h_trm) (.ref h_ter) (.ref h_lit) (.ref h_fst)))), (h_var, .inl (cy_var, 300, .inl f_var)), (h_trm, .inl (cy_trm, 300, .inl f_trm)), (h_ter, .inl (cy_ter, 900, .inl f_ter)), (h_lit, .inl (cy_lit, 16, .inl f_lit)), (h_fst, .inl (cy_fst, 96, .inl f_fst))]) (va_A [(h_xx, .inr (7, (mo68 v_xx (.ref h_td) (.ref h_bd)))), (h_bd, .inr (1, (mo19 v_bd (.ref h_td) (.ref h_bnd) (.ref h_hol)))), (h_bnd, .inl (cy_bnd, 256, .inl f_bnd)), (h_hol, .inl (cy_hol, 2048, .inl f_hol)), (h_td, .inr (5, (mo69 v_td (.ref h_var) (.ref h_trm) (.ref h_ter) (.ref h_lit) (.ref h_fst)))), (h_var, .inl (cy_var, 300, .inl f_var)), (h_trm, .inl (cy_trm, 300, .inl f_trm)), (h_ter, .inl (cy_ter, 900, .inl f_ter)), (h_lit, .inl (cy_lit, 16, .inl f_lit)), (h_fst, .inl (cy_fst, 96, .inl f_fst))] sz)) 0 0 (va_A [(h_xx, .inr (7, (mo68 v_xx (.ref h_td) (.ref h_bd)))), (h_bd, .inr (1, (mo19 v_bd (.ref h_td) (.ref h_bnd) (.ref h_hol)))), (h_bnd, .inl (cy_bnd, 256, .inl f_bnd)), (h_hol, .inl (cy_hol, 2048, .inl f_hol)), (h_td, .inr (5, (mo69 v_td (.ref h_var) (.ref h_trm) (.ref h_ter) (.ref h_lit) (.ref h_fst)))), (h_var, .inl (cy_var, 300, .inl f_var)), (h_trm, .inl (cy_trm, 300, .inl f_trm)), (h_ter, .inl (cy_ter, 900, .inl f_ter)), (h_lit, .inl (cy_lit, 16, .inl f_lit)), (h_fst, .inl (cy_fst, 96, .inl f_fst))] sz) := by
  refine Met.ofW (cc := cX10_partsOf) (maxL := 4) (ret := (some .int)) (by decide) rfl ?_
  intro p e s m args below meth c s₁ B hml hv
  obtain ⟨rfl, hsz, hP, hK, hD0, hN⟩ := hv
  have hx := B.exec
  have hb := B.bytes
  have hr := B.returns
  have hts := atoms_spec (ws := Ws yX10_partsOf cX10_partsOf 4 (some .int)) B.pre
  have hT : ∀ w ∈ WALL, w ∈ Ws yX10_partsOf cX10_partsOf 4 (some .int) := fun w h => List.mem_cons_of_mem _ h
  have hw := fun w (h : w ∈ WALL) => hts w (hT w h)
  have hown : s.vm.findClass RX10 = some m.cls := findClass_of_methodNamed B.named
  have hlocks := B.notSynchronized
  subst hsz
  have hD := hD0.self (sz := s.heap.size)
  generalize hAe : va_A [(h_xx, .inr (7, (mo68 v_xx (.ref h_td) (.ref h_bd)))), (h_bd, .inr (1, (mo19 v_bd (.ref h_td) (.ref h_bnd) (.ref h_hol)))), (h_bnd, .inl (cy_bnd, 256, .inl f_bnd)), (h_hol, .inl (cy_hol, 2048, .inl f_hol)), (h_td, .inr (5, (mo69 v_td (.ref h_var) (.ref h_trm) (.ref h_ter) (.ref h_lit) (.ref h_fst)))), (h_var, .inl (cy_var, 300, .inl f_var)), (h_trm, .inl (cy_trm, 300, .inl f_trm)), (h_ter, .inl (cy_ter, 900, .inl f_ter)), (h_lit, .inl (cy_lit, 16, .inl f_lit)), (h_fst, .inl (cy_fst, 96, .inl f_fst))] s.heap.size = A at hD ⊢
  have hA : ∀ q : Nat, s.heap.size ≤ q → A q := fun q h => by rw [← hAe]; exact Or.inr h
  have hS : va_S A s.heap s.heap [] := va_S.rf
  have hl := lv_entry ([.ref h_xx, .int p1]) (n := 4) (Nat.le_of_ble_eq_true rfl)
  rw [lg_entry_eq]
  generalize (lg_sl ([.ref h_xx, .int p1]) ++ List.replicate (4 - (lg_sl ([.ref h_xx, .int p1])).length) Slot.unset).toArray = ls at hl ⊢
  have hl : lv_has ls 4 [(0, .ref h_xx), (1, .int p1)] := hl
  refine lv_iconst (v := 0) hx hb dX10_partsOf_0 (by decide) ?_
  refine lv_istore_n (lv' := [(2, .int 0), (0, .ref h_xx), (1, .int p1)]) hx hb dX10_partsOf_1 rfl hl (by decide) rfl (fun ls hl => ?_)
  refine lv_iconst (v := 0) hx hb dX10_partsOf_2 (by decide) ?_
  refine lv_istore_n (lv' := [(3, .int 0), (2, .int 0), (0, .ref h_xx), (1, .int p1)]) hx hb dX10_partsOf_3 rfl hl (by decide) rfl (fun ls hl => ?_)
  have sl0 : szL (CVW nmx f_var f_trm f_ter) (fun k => Int32.toNatClampNeg (f_fst (6 * (p1).toInt.toNat + k))) (Int.toNat ((0 : Int32)).toInt) = 0 := by rw [show ((0 : Int32)).toInt = 0 by decide]; rfl
  have hm0 := hf_lit (p1).toInt.toNat
  have lp4 : ∀ (n : Nat) (x1 : Int32) (x2 : Int32) (f3 : Nat → Int32) (H : Heap) (locs : List Loc) (ls : Array Slot), (0 ≤ (x1).toInt ∧ (x1).toInt ≤ 1800) → (0 ≤ (x2).toInt ∧ (x2).toInt ≤ 6) → (Rg 0 9599 f3) → ((x1).toInt = szL (CVW nmx f_var f_trm f_ter) (fun k => Int32.toNatClampNeg (f_fst (6 * (p1).toInt.toNat + k))) (Int.toNat ((x2).toInt))) → (0 ≤ (x1).toInt ∧ (x1).toInt ≤ 300 * (x2).toInt) → ((x2).toInt ≤ (f_lit (p1).toInt.toNat).toInt) → (6 - (x2).toInt).toNat + 1 ≤ n → va_P (dC, dI) cls [(h_xx, .inr (7, (mo68 v_xx (.ref h_td) (.ref h_bd)))), (h_bd, .inr (1, (mo19 v_bd (.ref h_td) (.ref h_bnd) (.ref h_hol)))), (h_bnd, .inl (cy_bnd, 256, .inl f_bnd)), (h_hol, .inl (cy_hol, 2048, .inl f3)), (h_td, .inr (5, (mo69 v_td (.ref h_var) (.ref h_trm) (.ref h_ter) (.ref h_lit) (.ref h_fst)))), (h_var, .inl (cy_var, 300, .inl f_var)), (h_trm, .inl (cy_trm, 300, .inl f_trm)), (h_ter, .inl (cy_ter, 900, .inl f_ter)), (h_lit, .inl (cy_lit, 16, .inl f_lit)), (h_fst, .inl (cy_fst, 96, .inl f_fst))] H → va_D A [(h_xx, .inr (7, (mo68 v_xx (.ref h_td) (.ref h_bd)))), (h_bd, .inr (1, (mo19 v_bd (.ref h_td) (.ref h_bnd) (.ref h_hol)))), (h_bnd, .inl (cy_bnd, 256, .inl f_bnd)), (h_hol, .inl (cy_hol, 2048, .inl f3)), (h_td, .inr (5, (mo69 v_td (.ref h_var) (.ref h_trm) (.ref h_ter) (.ref h_lit) (.ref h_fst)))), (h_var, .inl (cy_var, 300, .inl f_var)), (h_trm, .inl (cy_trm, 300, .inl f_trm)), (h_ter, .inl (cy_ter, 900, .inl f_ter)), (h_lit, .inl (cy_lit, 16, .inl f_lit)), (h_fst, .inl (cy_fst, 96, .inl f_fst))] → va_S A s.heap H locs → lv_has ls 4 [(0, .ref h_xx), (1, .int p1), (2, .int x1), (3, .int x2)] → W p l e ({ frames := 2, cells := 0, slots := 0, locals := 53 } : Room) s m ([.ref h_xx, .int p1] : List Value).toArray below meth c H locs 0 0 (MQ below (va_Qi (fun (r : Int32) (u : (Nat → Int32)) => (Rg 0 9599 u) ∧ ((r).toInt = szL (CVW nmx f_var f_trm f_ter) (fun k => Int32.toNatClampNeg (f_fst (6 * (p1).toInt.toNat + k))) (Int.toNat (f_lit (p1).toInt.toNat).toInt))) (fun (u : (Nat → Int32)) (t : State) => va_P (dC, dI) cls [(h_xx, .inr (7, (mo68 v_xx (.ref h_td) (.ref h_bd)))), (h_bd, .inr (1, (mo19 v_bd (.ref h_td) (.ref h_bnd) (.ref h_hol)))), (h_bnd, .inl (cy_bnd, 256, .inl f_bnd)), (h_hol, .inl (cy_hol, 2048, .inl u)), (h_td, .inr (5, (mo69 v_td (.ref h_var) (.ref h_trm) (.ref h_ter) (.ref h_lit) (.ref h_fst)))), (h_var, .inl (cy_var, 300, .inl f_var)), (h_trm, .inl (cy_trm, 300, .inl f_trm)), (h_ter, .inl (cy_ter, 900, .inl f_ter)), (h_lit, .inl (cy_lit, 16, .inl f_lit)), (h_fst, .inl (cy_fst, 96, .inl f_fst))] t.heap ∧ va_D A [(h_xx, .inr (7, (mo68 v_xx (.ref h_td) (.ref h_bd)))), (h_bd, .inr (1, (mo19 v_bd (.ref h_td) (.ref h_bnd) (.ref h_hol)))), (h_bnd, .inl (cy_bnd, 256, .inl f_bnd)), (h_hol, .inl (cy_hol, 2048, .inl u)), (h_td, .inr (5, (mo69 v_td (.ref h_var) (.ref h_trm) (.ref h_ter) (.ref h_lit) (.ref h_fst)))), (h_var, .inl (cy_var, 300, .inl f_var)), (h_trm, .inl (cy_trm, 300, .inl f_trm)), (h_ter, .inl (cy_ter, 900, .inl f_ter)), (h_lit, .inl (cy_lit, 16, .inl f_lit)), (h_fst, .inl (cy_fst, 96, .inl f_fst))]) A) ([.ref h_xx, .int p1] : List Value).toArray s 0 0 A) (F0 m 4 ls []) := by
    clear hP hD hS hl
    intro n
    induction n with
    | zero => intro x1 x2 f3 H locs ls klp4_0 klp4_1 hf3 klp4_3 klp4_4 klp4_5 hm hP hD hS hl; exact False.elim (by omega)
    | succ n ih => 
      intro x1 x2 f3 H locs ls klp4_0 klp4_1 hf3 klp4_3 klp4_4 klp4_5 hm hP hD hS hl
      have ih5 := ih
      clear ih
      refine lv_iload_n hx hb dX10_partsOf_4 rfl (lv_at hl 3 rfl) ?_
      refine lv_aload_n hx hb dX10_partsOf_5 rfl (lv_at hl 0 rfl) ?_
      refine va_get (D := (dC, dI)) (ci := 7) (v := .ref h_td) (C := RX10) (T := TX10) (N := 8) hx hb hw iwX10 hown hK hP 0 rfl rfl 1 (by decide) (hw _ w_f_X10_19) (fun _ h9 => h9) rfl dX10_partsOf_6 ?_
      refine va_getN (D := (dC, dI)) (ci := 5) (v := .ref h_lit) (C := RX8) (T := TX8) (N := 10) (host := "OppositePairs") hx hb hw iwX8 hown hK hP 4 rfl rfl 5 (by decide) (hN.use n_f_X10_97 rfl) (fun _ h9 => h9) rfl dX10_partsOf_9 ?_
      refine lv_iload_n hx hb dX10_partsOf_12 rfl (lv_at hl 1 rfl) ?_
      refine va_iald hx hb hK hP 8 5 rfl rfl (i := p1) (vp_in_iff.mpr (by omega)) dX10_partsOf_13 ?_
      refine lv_topi (fun z6 ez6 => ?_)
      have rz6 : 0 ≤ (z6).toInt ∧ (z6).toInt ≤ 6 := by rw [ez6]; exact hf_lit _
      have mlz6 : (f_lit (p1).toInt.toNat).toInt = (z6).toInt := by rw [ez6, clamp_nat (i := p1) (by omega)]
      refine lv_icmp_ge (tgt := 44) hx hb dX10_partsOf_14 (by decide) (fun c7 => ?_) (fun c7 => ?_)
      · have kc7 := (cv_le (rfl : (z6).toInt = (z6).toInt) (rfl : (x2).toInt = (x2).toInt)).mp c7
        have ey9 : szL (CVW nmx f_var f_trm f_ter) (fun k => Int32.toNatClampNeg (f_fst (6 * (p1).toInt.toNat + k))) (Int.toNat (x2).toInt) = szL (CVW nmx f_var f_trm f_ter) (fun k => Int32.toNatClampNeg (f_fst (6 * (p1).toInt.toNat + k))) (Int.toNat (f_lit (p1).toInt.toNat).toInt) := by rw [show Int.toNat (x2).toInt = Int.toNat (f_lit (p1).toInt.toNat).toInt by omega]
        refine lv_iload_n hx hb dX10_partsOf_44 rfl (lv_at hl 2 rfl) ?_
        refine W.widen (k := 0) (n := 0) (Nat.le_of_ble_eq_true rfl) (Nat.le_of_ble_eq_true rfl) ?_
        have w8 : ((x1 : Int32)).toInt = szL (CVW nmx f_var f_trm f_ter) (fun k => Int32.toNatClampNeg (f_fst (6 * (p1).toInt.toNat + k))) (Int.toNat (f_lit (p1).toInt.toNat).toInt) := by omega
        exact W.iret (v := x1) hx hb hr (fun t ht hW => ⟨⟨x1, f3, rfl, ⟨hf3, w8⟩, by rw [ht]; exact hP, hD⟩, hS.F ht⟩) hS.2.2 dX10_partsOf_45
      · have kc7 := (not_congr (cv_le (rfl : (z6).toInt = (z6).toInt) (rfl : (x2).toInt = (x2).toInt))).mp c7
        refine lv_iload_n hx hb dX10_partsOf_17 rfl (lv_at hl 2 rfl) ?_
        refine lv_aload_n hx hb dX10_partsOf_18 rfl (lv_at hl 0 rfl) ?_
        refine va_get (D := (dC, dI)) (ci := 7) (v := .ref h_bd) (C := RX10) (T := TX10) (N := 8) hx hb hw iwX10 hown hK hP 0 rfl rfl 3 (by decide) (hw _ w_f_X10_31) (fun _ h9 => h9) rfl dX10_partsOf_19 ?_
        refine lv_aload_n hx hb dX10_partsOf_22 rfl (lv_at hl 0 rfl) ?_
        refine lv_bipush (v := 30) hx hb dX10_partsOf_23 (by decide) ?_
        refine lv_iload_n hx hb dX10_partsOf_25 rfl (lv_at hl 1 rfl) ?_
        refine lv_iload_n hx hb dX10_partsOf_26 rfl (lv_at hl 3 rfl) ?_
        obtain ⟨vq9, evq9⟩ := mq68_67 v_xx (.ref h_bd)
        replace hP : va_P (dC, dI) cls [(h_xx, .inr (7, (mo67 vq9 (.ref h_td)))), (h_bd, .inr (1, (mo19 v_bd (.ref h_td) (.ref h_bnd) (.ref h_hol)))), (h_bnd, .inl (cy_bnd, 256, .inl f_bnd)), (h_hol, .inl (cy_hol, 2048, .inl f3)), (h_td, .inr (5, (mo69 v_td (.ref h_var) (.ref h_trm) (.ref h_ter) (.ref h_lit) (.ref h_fst)))), (h_var, .inl (cy_var, 300, .inl f_var)), (h_trm, .inl (cy_trm, 300, .inl f_trm)), (h_ter, .inl (cy_ter, 900, .inl f_ter)), (h_lit, .inl (cy_lit, 16, .inl f_lit)), (h_fst, .inl (cy_fst, 96, .inl f_fst))] H := by rw [evq9]; exact hP
        replace hD : va_D A [(h_xx, .inr (7, (mo67 vq9 (.ref h_td)))), (h_bd, .inr (1, (mo19 v_bd (.ref h_td) (.ref h_bnd) (.ref h_hol)))), (h_bnd, .inl (cy_bnd, 256, .inl f_bnd)), (h_hol, .inl (cy_hol, 2048, .inl f3)), (h_td, .inr (5, (mo69 v_td (.ref h_var) (.ref h_trm) (.ref h_ter) (.ref h_lit) (.ref h_fst)))), (h_var, .inl (cy_var, 300, .inl f_var)), (h_trm, .inl (cy_trm, 300, .inl f_trm)), (h_ter, .inl (cy_ter, 900, .inl f_ter)), (h_lit, .inl (cy_lit, 16, .inl f_lit)), (h_fst, .inl (cy_fst, 96, .inl f_fst))] := by rw [evq9]; exact hD
        obtain ⟨vq10, evq10⟩ := mq69_3 v_td (.ref h_var) (.ref h_trm) (.ref h_ter) (.ref h_lit)
        replace hP : va_P (dC, dI) cls [(h_xx, .inr (7, (mo67 vq9 (.ref h_td)))), (h_bd, .inr (1, (mo19 v_bd (.ref h_td) (.ref h_bnd) (.ref h_hol)))), (h_bnd, .inl (cy_bnd, 256, .inl f_bnd)), (h_hol, .inl (cy_hol, 2048, .inl f3)), (h_td, .inr (5, (mo3 vq10 (.ref h_fst)))), (h_var, .inl (cy_var, 300, .inl f_var)), (h_trm, .inl (cy_trm, 300, .inl f_trm)), (h_ter, .inl (cy_ter, 900, .inl f_ter)), (h_lit, .inl (cy_lit, 16, .inl f_lit)), (h_fst, .inl (cy_fst, 96, .inl f_fst))] H := by rw [evq10]; exact hP
        replace hD : va_D A [(h_xx, .inr (7, (mo67 vq9 (.ref h_td)))), (h_bd, .inr (1, (mo19 v_bd (.ref h_td) (.ref h_bnd) (.ref h_hol)))), (h_bnd, .inl (cy_bnd, 256, .inl f_bnd)), (h_hol, .inl (cy_hol, 2048, .inl f3)), (h_td, .inr (5, (mo3 vq10 (.ref h_fst)))), (h_var, .inl (cy_var, 300, .inl f_var)), (h_trm, .inl (cy_trm, 300, .inl f_trm)), (h_ter, .inl (cy_ter, 900, .inl f_ter)), (h_lit, .inl (cy_lit, 16, .inl f_lit)), (h_fst, .inl (cy_fst, 96, .inl f_fst))] := by rw [evq10]; exact hD
        have cst30 : (30 : Int32).toInt = 30 := by decide
        have hPc := hP.sub (ws' := [(h_xx, .inr (7, (mo67 vq9 (.ref h_td)))), (h_td, .inr (5, (mo3 vq10 (.ref h_fst)))), (h_fst, .inl (cy_fst, 96, .inl f_fst))]) [0, 4, 9] rfl
        have hDc := hD.sub (ws' := [(h_xx, .inr (7, (mo67 vq9 (.ref h_td)))), (h_td, .inr (5, (mo3 vq10 (.ref h_fst)))), (h_fst, .inl (cy_fst, 96, .inl f_fst))]) [0, 4, 9] (by decide) rfl
        have hKc := hK.sub (tys' := [(cy_fst, .int)]) [6] rfl
        have hFc := va_free (wc := [(h_xx, .inr (7, (mo67 vq9 (.ref h_td)))), (h_td, .inr (5, (mo3 vq10 (.ref h_fst)))), (h_fst, .inl (cy_fst, 96, .inl f_fst))]) hD hS hA [0, 4, 9] rfl
        refine va_calli (va_runV (As := [.int 30, .int p1, .int x2]) (rest := [.ref h_bd, .int x1]) ⟨hx, hb, hml, hown, hts⟩ (c_X10_place l dC dI H.size h_xx h_td h_fst vq9 vq10 cy_fst f_fst 30 p1 x2 hf_fst (by omega) (by first | exact q0 | omega) (by omega)) (cwV 3 hts (gv hT w_m_X10_122 w_instanceMethod_X10_place ws_sel_X10_place w_ini_X10 w_code_X10_place) rfl rfl rfl (by decide +kernel) ⟨(Nat.le_of_ble_eq_true rfl), (Nat.le_of_ble_eq_true rfl)⟩) ⟨pre_blind, va_recv hK hP (ci := 7) (q0 := 0) rfl rfl, pre_of hPc hKc hDc hN⟩ rfl rfl hl.1 rfl (lv_room (Nat.le_of_ble_eq_true rfl)) dX10_partsOf_27 ⟨(Nat.le_of_ble_eq_true rfl), (Nat.le_of_ble_eq_true rfl)⟩) hS (fun q _ h => hFc q h) hFc (fun r11 u t H locs ht hvm hq hB hz1 hk1 hS9 => ?_)
        obtain ⟨hP1, hD1⟩ := hB
        rw [ht] at hP1
        obtain ⟨hP9, hD9⟩ := va_join (wr := [(h_bd, .inr (1, (mo19 v_bd (.ref h_td) (.ref h_bnd) (.ref h_hol)))), (h_bnd, .inl (cy_bnd, 256, .inl f_bnd)), (h_hol, .inl (cy_hol, 2048, .inl f3)), (h_var, .inl (cy_var, 300, .inl f_var)), (h_trm, .inl (cy_trm, 300, .inl f_trm)), (h_ter, .inl (cy_ter, 900, .inl f_ter)), (h_lit, .inl (cy_lit, 16, .inl f_lit))]) (w1 := [(h_xx, .inr (7, (mo67 vq9 (.ref h_td)))), (h_td, .inr (5, (mo3 vq10 (.ref h_fst)))), (h_fst, .inl (cy_fst, 96, .inl f_fst))]) hP hD [0, 4, 9] [1, 2, 3, 5, 6, 7, 8] rfl rfl (by decide) (by decide) hk1 hFc hP1 hD1
        clear hP hD hS hPc hDc hKc hFc hP1 hD1 hk1 hz1 ht hvm
        have hP : va_P (dC, dI) cls [(h_bd, .inr (1, (mo19 v_bd (.ref h_td) (.ref h_bnd) (.ref h_hol)))), (h_bnd, .inl (cy_bnd, 256, .inl f_bnd)), (h_hol, .inl (cy_hol, 2048, .inl f3)), (h_var, .inl (cy_var, 300, .inl f_var)), (h_trm, .inl (cy_trm, 300, .inl f_trm)), (h_ter, .inl (cy_ter, 900, .inl f_ter)), (h_lit, .inl (cy_lit, 16, .inl f_lit)), (h_xx, .inr (7, (mo67 vq9 (.ref h_td)))), (h_td, .inr (5, (mo3 vq10 (.ref h_fst)))), (h_fst, .inl (cy_fst, 96, .inl f_fst))] H := hP9
        have hD : va_D A [(h_bd, .inr (1, (mo19 v_bd (.ref h_td) (.ref h_bnd) (.ref h_hol)))), (h_bnd, .inl (cy_bnd, 256, .inl f_bnd)), (h_hol, .inl (cy_hol, 2048, .inl f3)), (h_var, .inl (cy_var, 300, .inl f_var)), (h_trm, .inl (cy_trm, 300, .inl f_trm)), (h_ter, .inl (cy_ter, 900, .inl f_ter)), (h_lit, .inl (cy_lit, 16, .inl f_lit)), (h_xx, .inr (7, (mo67 vq9 (.ref h_td)))), (h_td, .inr (5, (mo3 vq10 (.ref h_fst)))), (h_fst, .inl (cy_fst, 96, .inl f_fst))] := hD9
        have hS := hS9
        clear hP9 hD9 hS9
        rw [evq9] at hP hD
        replace hP : va_P (dC, dI) cls [(h_bd, .inr (1, (mo19 v_bd (.ref h_td) (.ref h_bnd) (.ref h_hol)))), (h_bnd, .inl (cy_bnd, 256, .inl f_bnd)), (h_hol, .inl (cy_hol, 2048, .inl f3)), (h_var, .inl (cy_var, 300, .inl f_var)), (h_trm, .inl (cy_trm, 300, .inl f_trm)), (h_ter, .inl (cy_ter, 900, .inl f_ter)), (h_lit, .inl (cy_lit, 16, .inl f_lit)), (h_xx, .inr (7, (mo68 v_xx (.ref h_td) (.ref h_bd)))), (h_td, .inr (5, (mo3 vq10 (.ref h_fst)))), (h_fst, .inl (cy_fst, 96, .inl f_fst))] H := hP
        replace hD : va_D A [(h_bd, .inr (1, (mo19 v_bd (.ref h_td) (.ref h_bnd) (.ref h_hol)))), (h_bnd, .inl (cy_bnd, 256, .inl f_bnd)), (h_hol, .inl (cy_hol, 2048, .inl f3)), (h_var, .inl (cy_var, 300, .inl f_var)), (h_trm, .inl (cy_trm, 300, .inl f_trm)), (h_ter, .inl (cy_ter, 900, .inl f_ter)), (h_lit, .inl (cy_lit, 16, .inl f_lit)), (h_xx, .inr (7, (mo68 v_xx (.ref h_td) (.ref h_bd)))), (h_td, .inr (5, (mo3 vq10 (.ref h_fst)))), (h_fst, .inl (cy_fst, 96, .inl f_fst))] := hD
        clear evq9 
        rw [evq10] at hP hD
        replace hP : va_P (dC, dI) cls [(h_bd, .inr (1, (mo19 v_bd (.ref h_td) (.ref h_bnd) (.ref h_hol)))), (h_bnd, .inl (cy_bnd, 256, .inl f_bnd)), (h_hol, .inl (cy_hol, 2048, .inl f3)), (h_var, .inl (cy_var, 300, .inl f_var)), (h_trm, .inl (cy_trm, 300, .inl f_trm)), (h_ter, .inl (cy_ter, 900, .inl f_ter)), (h_lit, .inl (cy_lit, 16, .inl f_lit)), (h_xx, .inr (7, (mo68 v_xx (.ref h_td) (.ref h_bd)))), (h_td, .inr (5, (mo69 v_td (.ref h_var) (.ref h_trm) (.ref h_ter) (.ref h_lit) (.ref h_fst)))), (h_fst, .inl (cy_fst, 96, .inl f_fst))] H := hP
        replace hD : va_D A [(h_bd, .inr (1, (mo19 v_bd (.ref h_td) (.ref h_bnd) (.ref h_hol)))), (h_bnd, .inl (cy_bnd, 256, .inl f_bnd)), (h_hol, .inl (cy_hol, 2048, .inl f3)), (h_var, .inl (cy_var, 300, .inl f_var)), (h_trm, .inl (cy_trm, 300, .inl f_trm)), (h_ter, .inl (cy_ter, 900, .inl f_ter)), (h_lit, .inl (cy_lit, 16, .inl f_lit)), (h_xx, .inr (7, (mo68 v_xx (.ref h_td) (.ref h_bd)))), (h_td, .inr (5, (mo69 v_td (.ref h_var) (.ref h_trm) (.ref h_ter) (.ref h_lit) (.ref h_fst)))), (h_fst, .inl (cy_fst, 96, .inl f_fst))] := hD
        clear evq10 
        obtain ⟨k12, k13, k14⟩ := hq
        replace k12 : 0 ≤ (r11).toInt ∧ (r11).toInt ≤ 9599 := k12
        replace k13 : ((r11)).toInt = 300 * ((30 : Int32)).toInt + (f_fst (6 * ((p1)).toInt.toNat + ((x2)).toInt.toNat)).toInt := k13
        replace k14 : 0 ≤ (f_fst (6 * ((p1)).toInt.toNat + ((x2)).toInt.toNat)).toInt ∧ (f_fst (6 * ((p1)).toInt.toNat + ((x2)).toInt.toNat)).toInt ≤ 299 := k14
        obtain ⟨wq1, wq2, wq3⟩ := hn_wfq (Int.toNat (x2).toInt) (by omega)
        have kz9 : (x2).toInt.toNat = Int.toNat (x2).toInt := rfl
        have ez9 : ((r11).toInt - 9000).toNat = Int32.toNatClampNeg (f_fst (6 * (p1).toInt.toNat + Int.toNat (x2).toInt)) := by rw [clamp_nat (by omega)]; omega
        have wx9 : WFX (CVW nmx f_var f_trm f_ter) 7 ((r11).toInt - 9000).toNat := by rw [ez9]; exact wq1
        have ws9 : szX (CVW nmx f_var f_trm f_ter) 7 ((r11).toInt - 9000).toNat ≤ 300 := by rw [ez9]; exact wq2
        refine lv_sipush (v := 300) hx hb dX10_partsOf_30 (by decide) ?_
        obtain ⟨vq15, evq15⟩ := mq69_18 v_td (.ref h_lit) (.ref h_fst)
        replace hP : va_P (dC, dI) cls [(h_bd, .inr (1, (mo19 v_bd (.ref h_td) (.ref h_bnd) (.ref h_hol)))), (h_bnd, .inl (cy_bnd, 256, .inl f_bnd)), (h_hol, .inl (cy_hol, 2048, .inl f3)), (h_var, .inl (cy_var, 300, .inl f_var)), (h_trm, .inl (cy_trm, 300, .inl f_trm)), (h_ter, .inl (cy_ter, 900, .inl f_ter)), (h_lit, .inl (cy_lit, 16, .inl f_lit)), (h_xx, .inr (7, (mo68 v_xx (.ref h_td) (.ref h_bd)))), (h_td, .inr (5, (mo18 vq15 (.ref h_var) (.ref h_trm) (.ref h_ter)))), (h_fst, .inl (cy_fst, 96, .inl f_fst))] H := by rw [evq15]; exact hP
        replace hD : va_D A [(h_bd, .inr (1, (mo19 v_bd (.ref h_td) (.ref h_bnd) (.ref h_hol)))), (h_bnd, .inl (cy_bnd, 256, .inl f_bnd)), (h_hol, .inl (cy_hol, 2048, .inl f3)), (h_var, .inl (cy_var, 300, .inl f_var)), (h_trm, .inl (cy_trm, 300, .inl f_trm)), (h_ter, .inl (cy_ter, 900, .inl f_ter)), (h_lit, .inl (cy_lit, 16, .inl f_lit)), (h_xx, .inr (7, (mo68 v_xx (.ref h_td) (.ref h_bd)))), (h_td, .inr (5, (mo18 vq15 (.ref h_var) (.ref h_trm) (.ref h_ter)))), (h_fst, .inl (cy_fst, 96, .inl f_fst))] := by rw [evq15]; exact hD
        have cst300 : (300 : Int32).toInt = 300 := by decide
        have hPc := hP.sub (ws' := [(h_bd, .inr (1, (mo19 v_bd (.ref h_td) (.ref h_bnd) (.ref h_hol)))), (h_bnd, .inl (cy_bnd, 256, .inl f_bnd)), (h_hol, .inl (cy_hol, 2048, .inl f3)), (h_td, .inr (5, (mo18 vq15 (.ref h_var) (.ref h_trm) (.ref h_ter)))), (h_var, .inl (cy_var, 300, .inl f_var)), (h_trm, .inl (cy_trm, 300, .inl f_trm)), (h_ter, .inl (cy_ter, 900, .inl f_ter))]) [0, 1, 2, 8, 3, 4, 5] rfl
        have hDc := hD.sub (ws' := [(h_bd, .inr (1, (mo19 v_bd (.ref h_td) (.ref h_bnd) (.ref h_hol)))), (h_bnd, .inl (cy_bnd, 256, .inl f_bnd)), (h_hol, .inl (cy_hol, 2048, .inl f3)), (h_td, .inr (5, (mo18 vq15 (.ref h_var) (.ref h_trm) (.ref h_ter)))), (h_var, .inl (cy_var, 300, .inl f_var)), (h_trm, .inl (cy_trm, 300, .inl f_trm)), (h_ter, .inl (cy_ter, 900, .inl f_ter))]) [0, 1, 2, 8, 3, 4, 5] (by decide) rfl
        have hKc := hK.sub (tys' := [(cy_bnd, .int), (cy_hol, .int), (cy_var, .int), (cy_trm, .int), (cy_ter, .int)]) [0, 1, 2, 3, 4] rfl
        have hFc := va_free (wc := [(h_bd, .inr (1, (mo19 v_bd (.ref h_td) (.ref h_bnd) (.ref h_hol)))), (h_bnd, .inl (cy_bnd, 256, .inl f_bnd)), (h_hol, .inl (cy_hol, 2048, .inl f3)), (h_td, .inr (5, (mo18 vq15 (.ref h_var) (.ref h_trm) (.ref h_ter)))), (h_var, .inl (cy_var, 300, .inl f_var)), (h_trm, .inl (cy_trm, 300, .inl f_trm)), (h_ter, .inl (cy_ter, 900, .inl f_ter))]) hD hS hA [0, 1, 2, 8, 3, 4, 5] rfl
        refine va_calli (va_runVN (As := [.int r11, .int 300]) (rest := [.int x1]) ⟨hx, hb, hml, hown, hts⟩ (c_X1_parts_a l dC dI H.size h_bd h_bnd h_hol h_td h_var h_trm h_ter v_bd cy_bnd f_bnd cy_hol f3 vq15 cy_var f_var cy_trm f_trm cy_ter f_ter r11 nmx hf_bnd hf3 hf_var hf_trm hf_ter (by omega) (by omega) hn_bhz hn_tz wx9) ⟨va_cnB (host := "OppositePairs") 2 hts (gd hT w_code_X1_parts) rfl rfl rfl (hN _ n_m_X10_265) (hw _ w_ini_X1) (by decide +kernel) ⟨(Nat.le_of_ble_eq_true rfl), (Nat.le_of_ble_eq_true rfl)⟩, hw _ w_instanceMethod_X1_parts, hw _ ws_sel_X1_parts⟩ ⟨pre_blind, va_recv hK hP (ci := 1) (q0 := 0) rfl rfl, pre_of hPc hKc hDc hN⟩ rfl rfl hl.1 rfl (lv_room (Nat.le_of_ble_eq_true rfl)) dX10_partsOf_33 ⟨(Nat.le_of_ble_eq_true rfl), (Nat.le_of_ble_eq_true rfl)⟩) hS (fun q _ h => hFc q h) hFc (fun r16 u t H locs ht hvm hq hB hz1 hk1 hS9 => ?_)
        obtain ⟨f17, rfl⟩ : ∃ z, z = u := ⟨_, rfl⟩
        obtain ⟨hP1, hD1⟩ := hB
        rw [ht] at hP1
        obtain ⟨hP9, hD9⟩ := va_join (wr := [(h_lit, .inl (cy_lit, 16, .inl f_lit)), (h_xx, .inr (7, (mo68 v_xx (.ref h_td) (.ref h_bd)))), (h_fst, .inl (cy_fst, 96, .inl f_fst))]) (w1 := [(h_bd, .inr (1, (mo19 v_bd (.ref h_td) (.ref h_bnd) (.ref h_hol)))), (h_bnd, .inl (cy_bnd, 256, .inl f_bnd)), (h_hol, .inl (cy_hol, 2048, .inl f17)), (h_td, .inr (5, (mo18 vq15 (.ref h_var) (.ref h_trm) (.ref h_ter)))), (h_var, .inl (cy_var, 300, .inl f_var)), (h_trm, .inl (cy_trm, 300, .inl f_trm)), (h_ter, .inl (cy_ter, 900, .inl f_ter))]) hP hD [0, 1, 2, 8, 3, 4, 5] [6, 7, 9] rfl rfl (by decide) (by decide) hk1 hFc hP1 hD1
        clear hP hD hS hPc hDc hKc hFc hP1 hD1 hk1 hz1 ht hvm
        have hP : va_P (dC, dI) cls [(h_lit, .inl (cy_lit, 16, .inl f_lit)), (h_xx, .inr (7, (mo68 v_xx (.ref h_td) (.ref h_bd)))), (h_fst, .inl (cy_fst, 96, .inl f_fst)), (h_bd, .inr (1, (mo19 v_bd (.ref h_td) (.ref h_bnd) (.ref h_hol)))), (h_bnd, .inl (cy_bnd, 256, .inl f_bnd)), (h_hol, .inl (cy_hol, 2048, .inl f17)), (h_td, .inr (5, (mo18 vq15 (.ref h_var) (.ref h_trm) (.ref h_ter)))), (h_var, .inl (cy_var, 300, .inl f_var)), (h_trm, .inl (cy_trm, 300, .inl f_trm)), (h_ter, .inl (cy_ter, 900, .inl f_ter))] H := hP9
        have hD : va_D A [(h_lit, .inl (cy_lit, 16, .inl f_lit)), (h_xx, .inr (7, (mo68 v_xx (.ref h_td) (.ref h_bd)))), (h_fst, .inl (cy_fst, 96, .inl f_fst)), (h_bd, .inr (1, (mo19 v_bd (.ref h_td) (.ref h_bnd) (.ref h_hol)))), (h_bnd, .inl (cy_bnd, 256, .inl f_bnd)), (h_hol, .inl (cy_hol, 2048, .inl f17)), (h_td, .inr (5, (mo18 vq15 (.ref h_var) (.ref h_trm) (.ref h_ter)))), (h_var, .inl (cy_var, 300, .inl f_var)), (h_trm, .inl (cy_trm, 300, .inl f_trm)), (h_ter, .inl (cy_ter, 900, .inl f_ter))] := hD9
        have hS := hS9
        clear hP9 hD9 hS9
        rw [evq15] at hP hD
        replace hP : va_P (dC, dI) cls [(h_lit, .inl (cy_lit, 16, .inl f_lit)), (h_xx, .inr (7, (mo68 v_xx (.ref h_td) (.ref h_bd)))), (h_fst, .inl (cy_fst, 96, .inl f_fst)), (h_bd, .inr (1, (mo19 v_bd (.ref h_td) (.ref h_bnd) (.ref h_hol)))), (h_bnd, .inl (cy_bnd, 256, .inl f_bnd)), (h_hol, .inl (cy_hol, 2048, .inl f17)), (h_td, .inr (5, (mo69 v_td (.ref h_var) (.ref h_trm) (.ref h_ter) (.ref h_lit) (.ref h_fst)))), (h_var, .inl (cy_var, 300, .inl f_var)), (h_trm, .inl (cy_trm, 300, .inl f_trm)), (h_ter, .inl (cy_ter, 900, .inl f_ter))] H := hP
        replace hD : va_D A [(h_lit, .inl (cy_lit, 16, .inl f_lit)), (h_xx, .inr (7, (mo68 v_xx (.ref h_td) (.ref h_bd)))), (h_fst, .inl (cy_fst, 96, .inl f_fst)), (h_bd, .inr (1, (mo19 v_bd (.ref h_td) (.ref h_bnd) (.ref h_hol)))), (h_bnd, .inl (cy_bnd, 256, .inl f_bnd)), (h_hol, .inl (cy_hol, 2048, .inl f17)), (h_td, .inr (5, (mo69 v_td (.ref h_var) (.ref h_trm) (.ref h_ter) (.ref h_lit) (.ref h_fst)))), (h_var, .inl (cy_var, 300, .inl f_var)), (h_trm, .inl (cy_trm, 300, .inl f_trm)), (h_ter, .inl (cy_ter, 900, .inl f_ter))] := hD
        clear evq15 
        obtain ⟨hf17, k18, k19⟩ := hq
        replace hf17 : Rg 0 9599 (f17) := hf17
        replace k18 : 0 ≤ (r16).toInt ∧ (r16).toInt ≤ 300 := k18
        replace k19 : ((r16)).toInt = szX (CVW (nmx) f_var f_trm f_ter) 7 (((r11)).toInt - 9000).toNat := k19
        rw [ez9] at k19
        have sl9 : szL (CVW nmx f_var f_trm f_ter) (fun k => Int32.toNatClampNeg (f_fst (6 * (p1).toInt.toNat + k))) (Int.toNat ((x2).toInt + 1)) = szL (CVW nmx f_var f_trm f_ter) (fun k => Int32.toNatClampNeg (f_fst (6 * (p1).toInt.toNat + k))) (Int.toNat (x2).toInt) + szX (CVW nmx f_var f_trm f_ter) 7 (Int32.toNatClampNeg (f_fst (6 * (p1).toInt.toNat + Int.toNat (x2).toInt))) := by have e9 : Int.toNat ((x2).toInt + 1) = Int.toNat (x2).toInt + 1 := (by omega); rw [e9]; rfl
        have sz9 := szX_ge (V := (CVW nmx f_var f_trm f_ter)) 7 (Int32.toNatClampNeg (f_fst (6 * (p1).toInt.toNat + Int.toNat (x2).toInt)))
        refine lv_iadd hx hb dX10_partsOf_36 ?_
        refine lv_topi (fun z20 ez20 => ?_)
        have tz20 : (z20).toInt = (x1).toInt + (r16).toInt := by rw [ez20]; exact i_add rfl rfl (by omega)
        refine lv_istore_n (lv' := [(2, .int z20), (0, .ref h_xx), (1, .int p1), (3, .int x2)]) hx hb dX10_partsOf_37 rfl hl (by decide) rfl (fun ls hl => ?_)
        obtain ⟨z21, ez21⟩ : ∃ y : Int32, y = x2 + 1 := ⟨_, rfl⟩
        have tz21 : (z21).toInt = (x2).toInt + 1 := by rw [ez21]; exact i_add rfl (by decide) (by omega)
        refine lv_iinc (v := z21) (lv' := [(3, .int z21), (2, .int z20), (0, .ref h_xx), (1, .int p1)]) hx hb dX10_partsOf_38 hl (k := 3) rfl (by rw [ez21]; rfl) (by decide) rfl (fun ls hl => ?_)
        refine lv_goto (tgt := 4) hx hb dX10_partsOf_41 (by decide) ?_
        replace hP : va_P (dC, dI) cls [(h_xx, .inr (7, (mo68 v_xx (.ref h_td) (.ref h_bd)))), (h_bd, .inr (1, (mo19 v_bd (.ref h_td) (.ref h_bnd) (.ref h_hol)))), (h_bnd, .inl (cy_bnd, 256, .inl f_bnd)), (h_hol, .inl (cy_hol, 2048, .inl f17)), (h_td, .inr (5, (mo69 v_td (.ref h_var) (.ref h_trm) (.ref h_ter) (.ref h_lit) (.ref h_fst)))), (h_var, .inl (cy_var, 300, .inl f_var)), (h_trm, .inl (cy_trm, 300, .inl f_trm)), (h_ter, .inl (cy_ter, 900, .inl f_ter)), (h_lit, .inl (cy_lit, 16, .inl f_lit)), (h_fst, .inl (cy_fst, 96, .inl f_fst))] H := hP.sub [1, 3, 4, 5, 6, 7, 8, 9, 0, 2] rfl
        replace hD : va_D A [(h_xx, .inr (7, (mo68 v_xx (.ref h_td) (.ref h_bd)))), (h_bd, .inr (1, (mo19 v_bd (.ref h_td) (.ref h_bnd) (.ref h_hol)))), (h_bnd, .inl (cy_bnd, 256, .inl f_bnd)), (h_hol, .inl (cy_hol, 2048, .inl f17)), (h_td, .inr (5, (mo69 v_td (.ref h_var) (.ref h_trm) (.ref h_ter) (.ref h_lit) (.ref h_fst)))), (h_var, .inl (cy_var, 300, .inl f_var)), (h_trm, .inl (cy_trm, 300, .inl f_trm)), (h_ter, .inl (cy_ter, 900, .inl f_ter)), (h_lit, .inl (cy_lit, 16, .inl f_lit)), (h_fst, .inl (cy_fst, 96, .inl f_fst))] := hD.sub [1, 3, 4, 5, 6, 7, 8, 9, 0, 2] (by decide) rfl
        rw [← tz21] at sl9
        exact ih5 (z20) (z21) (f17) _ _ _ (by omega) (by omega) hf17 (by omega) (by omega) (by omega) (by omega) hP hD hS (lv_sub hl [2, 3, 1, 0] rfl)
  have cst0 : (0 : Int32).toInt = 0 := by decide
  exact lp4 _ (0) (0) (f_hol) _ _ _ (by decide) (by decide) hf_hol (by omega) (by omega) (by omega) (Nat.le_refl _) hP hD hS (lv_sub hl [2, 3, 1, 0] rfl)

set_option maxHeartbeats 8000000 in
set_option maxRecDepth 100000 in
theorem c_X10_clause (l : Launch) (dC : Nat → ClassId) (dI : Nat → Nat → Nat) (sz : Nat) (h_xx : Nat) (h_bd : Nat) (h_bnd : Nat) (h_hol : Nat) (h_td : Nat) (h_var : Nat) (h_trm : Nat) (h_ter : Nat) (h_lit : Nat) (h_vas : Nat) (h_pls : Nat) (h_fst : Nat) (v_xx : Nat → Value) (v_bd : Nat → Value) (cy_bnd : ClassId) (f_bnd : Nat → Int32) (cy_hol : ClassId) (f_hol : Nat → Int32) (v_td : Nat → Value) (x_td_clauses : Int32) (cy_var : ClassId) (f_var : Nat → Int32) (cy_trm : ClassId) (f_trm : Nat → Int32) (cy_ter : ClassId) (f_ter : Nat → Int32) (cy_lit : ClassId) (f_lit : Nat → Int32) (cy_vas : ClassId) (f_vas : Nat → Int32) (cy_pls : ClassId) (f_pls : Nat → Int32) (cy_fst : ClassId) (f_fst : Nat → Int32) (p1 : Int32) (p2 : Int32) (nmx : Nat → Int64) (hf_bnd : Rg 0 9600 f_bnd) (hf_hol : Rg 0 9599 f_hol) (hx_td_clauses : 0 ≤ (x_td_clauses).toInt ∧ (x_td_clauses).toInt ≤ 16) (hf_var : Rg (-1) 7 f_var) (hf_trm : Rg 0 3 f_trm) (hf_ter : Rg 0 299 f_ter) (hf_lit : Rg 0 6 f_lit) (hf_fst : Rg 0 299 f_fst) (hn_bhz : BHZ f_bnd) (hn_tz : TZG f_var f_trm) (hn_wfa : WFA (CVW nmx f_var f_trm f_ter) (CLW f_lit f_vas f_pls f_fst) (x_td_clauses).toInt) : Met l yX10_clause (Ws yX10_clause cX10_clause 3 (some .int)) (({ frames := 3, cells := 0, slots := 0, locals := 76 } : Room)) (PRE (dC, dI) cls [(cy_bnd, .int), (cy_hol, .int), (cy_var, .int), (cy_trm, .int), (cy_ter, .int), (cy_lit, .int), (cy_vas, .int), (cy_pls, .int), (cy_fst, .int)] [(h_xx, .inr (7, (mo68 v_xx (.ref h_td) (.ref h_bd)))), (h_bd, .inr (1, (mo19 v_bd (.ref h_td) (.ref h_bnd) (.ref h_hol)))), (h_bnd, .inl (cy_bnd, 256, .inl f_bnd)), (h_hol, .inl (cy_hol, 2048, .inl f_hol)), (h_td, .inr (5, (mo70 v_td (.ref h_var) (.ref h_trm) (.ref h_ter) (.ref h_lit) (.ref h_vas) (.ref h_pls) (.ref h_fst) (.int x_td_clauses)))), (h_var, .inl (cy_var, 300, .inl f_var)), (h_trm, .inl (cy_trm, 300, .inl f_trm)), (h_ter, .inl (cy_ter, 900, .inl f_ter)), (h_lit, .inl (cy_lit, 16, .inl f_lit)), (h_vas, .inl (cy_vas, 16, .inl f_vas)), (h_pls, .inl (cy_pls, 16, .inl f_pls)), (h_fst, .inl (cy_fst, 96, .inl f_fst))] sz [.ref h_xx, .int p1, .int p2]) (va_Qi (fun (r : Int32) (u : (Nat → Int32)) => (Rg 0 9599 u) ∧ (CLV (CVW nmx f_var f_trm f_ter) (CLW f_lit f_vas f_pls f_fst) (fun j => (f_pls j).toInt) (x_td_clauses).toInt (p1).toInt (p2).toInt (r).toInt)) (fun (u : (Nat → Int32)) (t : State) => va_P (dC, dI) cls [(h_xx, .inr (7, (mo68 v_xx (.ref h_td) (.ref h_bd)))), (h_bd, .inr (1, (mo19 v_bd (.ref h_td) (.ref h_bnd) (.ref h_hol)))), (h_bnd, .inl (cy_bnd, 256, .inl f_bnd)), (h_hol, .inl (cy_hol, 2048, .inl u)), (h_td, .inr (5, (mo70 v_td (.ref h_var) (.ref h_trm) (.ref h_ter) (.ref h_lit) (.ref h_vas) (.ref h_pls) (.ref h_fst) (.int x_td_clauses)))), (h_var, .inl (cy_var, 300, .inl f_var)), (h_trm, .inl (cy_trm, 300, .inl f_trm)), (h_ter, .inl (cy_ter, 900, .inl f_ter)), (h_lit, .inl (cy_lit, 16, .inl f_lit)), (h_vas, .inl (cy_vas, 16, .inl f_vas)), (h_pls, .inl (cy_pls, 16, .inl f_pls)), (h_fst, .inl (cy_fst, 96, .inl f_fst))] t.heap ∧ va_D (va_A [(h_xx, .inr (7, (mo68 v_xx (.ref h_td) (.ref h_bd)))), (h_bd, .inr (1, (mo19 v_bd (.ref h_td) (.ref h_bnd) (.ref h_hol)))), (h_bnd, .inl (cy_bnd, 256, .inl f_bnd)), (h_hol, .inl (cy_hol, 2048, .inl f_hol)), (h_td, .inr (5, (mo70 v_td (.ref h_var) (.ref h_trm) (.ref h_ter) (.ref h_lit) (.ref h_vas) (.ref h_pls) (.ref h_fst) (.int x_td_clauses)))), (h_var, .inl (cy_var, 300, .inl f_var)), (h_trm, .inl (cy_trm, 300, .inl f_trm)), (h_ter, .inl (cy_ter, 900, .inl f_ter)), (h_lit, .inl (cy_lit, 16, .inl f_lit)), (h_vas, .inl (cy_vas, 16, .inl f_vas)), (h_pls, .inl (cy_pls, 16, .inl f_pls)), (h_fst, .inl (cy_fst, 96, .inl f_fst))] sz) [(h_xx, .inr (7, (mo68 v_xx (.ref h_td) (.ref h_bd)))), (h_bd, .inr (1, (mo19 v_bd (.ref h_td) (.ref h_bnd) (.ref h_hol)))), (h_bnd, .inl (cy_bnd, 256, .inl f_bnd)), (h_hol, .inl (cy_hol, 2048, .inl u)), (h_td, .inr (5, (mo70 v_td (.ref h_var) (.ref h_trm) (.ref h_ter) (.ref h_lit) (.ref h_vas) (.ref h_pls) (.ref h_fst) (.int x_td_clauses)))), (h_var, .inl (cy_var, 300, .inl f_var)), (h_trm, .inl (cy_trm, 300, .inl f_trm)), (h_ter, .inl (cy_ter, 900, .inl f_ter)), (h_lit, .inl (cy_lit, 16, .inl f_lit)), (h_vas, .inl (cy_vas, 16, .inl f_vas)), (h_pls, .inl (cy_pls, 16, .inl f_pls)), (h_fst, .inl (cy_fst, 96, .inl f_fst))]) (va_A [(h_xx, .inr (7, (mo68 v_xx (.ref h_td) (.ref h_bd)))), (h_bd, .inr (1, (mo19 v_bd (.ref h_td) (.ref h_bnd) (.ref h_hol)))), (h_bnd, .inl (cy_bnd, 256, .inl f_bnd)), (h_hol, .inl (cy_hol, 2048, .inl f_hol)), (h_td, .inr (5, (mo70 v_td (.ref h_var) (.ref h_trm) (.ref h_ter) (.ref h_lit) (.ref h_vas) (.ref h_pls) (.ref h_fst) (.int x_td_clauses)))), (h_var, .inl (cy_var, 300, .inl f_var)), (h_trm, .inl (cy_trm, 300, .inl f_trm)), (h_ter, .inl (cy_ter, 900, .inl f_ter)), (h_lit, .inl (cy_lit, 16, .inl f_lit)), (h_vas, .inl (cy_vas, 16, .inl f_vas)), (h_pls, .inl (cy_pls, 16, .inl f_pls)), (h_fst, .inl (cy_fst, 96, .inl f_fst))] sz)) 0 0 (va_A [(h_xx, .inr (7, (mo68 v_xx (.ref h_td) (.ref h_bd)))), (h_bd, .inr (1, (mo19 v_bd (.ref h_td) (.ref h_bnd) (.ref h_hol)))), (h_bnd, .inl (cy_bnd, 256, .inl f_bnd)), (h_hol, .inl (cy_hol, 2048, .inl f_hol)), (h_td, .inr (5, (mo70 v_td (.ref h_var) (.ref h_trm) (.ref h_ter) (.ref h_lit) (.ref h_vas) (.ref h_pls) (.ref h_fst) (.int x_td_clauses)))), (h_var, .inl (cy_var, 300, .inl f_var)), (h_trm, .inl (cy_trm, 300, .inl f_trm)), (h_ter, .inl (cy_ter, 900, .inl f_ter)), (h_lit, .inl (cy_lit, 16, .inl f_lit)), (h_vas, .inl (cy_vas, 16, .inl f_vas)), (h_pls, .inl (cy_pls, 16, .inl f_pls)), (h_fst, .inl (cy_fst, 96, .inl f_fst))] sz) := by
  refine Met.ofW (cc := cX10_clause) (maxL := 3) (ret := (some .int)) (by decide) rfl ?_
  intro p e s m args below meth c s₁ B hml hv
  obtain ⟨rfl, hsz, hP, hK, hD0, hN⟩ := hv
  have hx := B.exec
  have hb := B.bytes
  have hr := B.returns
  have hts := atoms_spec (ws := Ws yX10_clause cX10_clause 3 (some .int)) B.pre
  have hT : ∀ w ∈ WALL, w ∈ Ws yX10_clause cX10_clause 3 (some .int) := fun w h => List.mem_cons_of_mem _ h
  have hw := fun w (h : w ∈ WALL) => hts w (hT w h)
  have hown : s.vm.findClass RX10 = some m.cls := findClass_of_methodNamed B.named
  have hlocks := B.notSynchronized
  subst hsz
  have hD := hD0.self (sz := s.heap.size)
  generalize hAe : va_A [(h_xx, .inr (7, (mo68 v_xx (.ref h_td) (.ref h_bd)))), (h_bd, .inr (1, (mo19 v_bd (.ref h_td) (.ref h_bnd) (.ref h_hol)))), (h_bnd, .inl (cy_bnd, 256, .inl f_bnd)), (h_hol, .inl (cy_hol, 2048, .inl f_hol)), (h_td, .inr (5, (mo70 v_td (.ref h_var) (.ref h_trm) (.ref h_ter) (.ref h_lit) (.ref h_vas) (.ref h_pls) (.ref h_fst) (.int x_td_clauses)))), (h_var, .inl (cy_var, 300, .inl f_var)), (h_trm, .inl (cy_trm, 300, .inl f_trm)), (h_ter, .inl (cy_ter, 900, .inl f_ter)), (h_lit, .inl (cy_lit, 16, .inl f_lit)), (h_vas, .inl (cy_vas, 16, .inl f_vas)), (h_pls, .inl (cy_pls, 16, .inl f_pls)), (h_fst, .inl (cy_fst, 96, .inl f_fst))] s.heap.size = A at hD ⊢
  have hA : ∀ q : Nat, s.heap.size ≤ q → A q := fun q h => by rw [← hAe]; exact Or.inr h
  have hS : va_S A s.heap s.heap [] := va_S.rf
  have hl := lv_entry ([.ref h_xx, .int p1, .int p2]) (n := 3) (Nat.le_of_ble_eq_true rfl)
  rw [lg_entry_eq]
  generalize (lg_sl ([.ref h_xx, .int p1, .int p2]) ++ List.replicate (3 - (lg_sl ([.ref h_xx, .int p1, .int p2])).length) Slot.unset).toArray = ls at hl ⊢
  have hl : lv_has ls 3 [(0, .ref h_xx), (1, .int p1), (2, .int p2)] := hl
  refine lv_aload_n hx hb dX10_clause_0 rfl (lv_at hl 0 rfl) ?_
  refine va_get (D := (dC, dI)) (ci := 7) (v := .ref h_td) (C := RX10) (T := TX10) (N := 8) hx hb hw iwX10 hown hK hP 0 rfl rfl 1 (by decide) (hw _ w_f_X10_19) (fun _ h9 => h9) rfl dX10_clause_1 ?_
  refine lv_iload_n hx hb dX10_clause_4 rfl (lv_at hl 1 rfl) ?_
  obtain ⟨vq1, evq1⟩ := mq70_0 v_td (.ref h_var) (.ref h_trm) (.ref h_ter) (.ref h_lit) (.ref h_vas) (.ref h_pls) (.ref h_fst)
  replace hP : va_P (dC, dI) cls [(h_xx, .inr (7, (mo68 v_xx (.ref h_td) (.ref h_bd)))), (h_bd, .inr (1, (mo19 v_bd (.ref h_td) (.ref h_bnd) (.ref h_hol)))), (h_bnd, .inl (cy_bnd, 256, .inl f_bnd)), (h_hol, .inl (cy_hol, 2048, .inl f_hol)), (h_td, .inr (5, (mo0 vq1 (.int x_td_clauses)))), (h_var, .inl (cy_var, 300, .inl f_var)), (h_trm, .inl (cy_trm, 300, .inl f_trm)), (h_ter, .inl (cy_ter, 900, .inl f_ter)), (h_lit, .inl (cy_lit, 16, .inl f_lit)), (h_vas, .inl (cy_vas, 16, .inl f_vas)), (h_pls, .inl (cy_pls, 16, .inl f_pls)), (h_fst, .inl (cy_fst, 96, .inl f_fst))] s.heap := by rw [evq1]; exact hP
  replace hD : va_D A [(h_xx, .inr (7, (mo68 v_xx (.ref h_td) (.ref h_bd)))), (h_bd, .inr (1, (mo19 v_bd (.ref h_td) (.ref h_bnd) (.ref h_hol)))), (h_bnd, .inl (cy_bnd, 256, .inl f_bnd)), (h_hol, .inl (cy_hol, 2048, .inl f_hol)), (h_td, .inr (5, (mo0 vq1 (.int x_td_clauses)))), (h_var, .inl (cy_var, 300, .inl f_var)), (h_trm, .inl (cy_trm, 300, .inl f_trm)), (h_ter, .inl (cy_ter, 900, .inl f_ter)), (h_lit, .inl (cy_lit, 16, .inl f_lit)), (h_vas, .inl (cy_vas, 16, .inl f_vas)), (h_pls, .inl (cy_pls, 16, .inl f_pls)), (h_fst, .inl (cy_fst, 96, .inl f_fst))] := by rw [evq1]; exact hD
  have hPc := hP.sub (ws' := [(h_td, .inr (5, (mo0 vq1 (.int x_td_clauses))))]) [4] rfl
  have hDc := hD.sub (ws' := [(h_td, .inr (5, (mo0 vq1 (.int x_td_clauses))))]) [4] (by decide) rfl
  have hKc := hK.sub (tys' := []) [] rfl
  have hFc := va_free (wc := [(h_td, .inr (5, (mo0 vq1 (.int x_td_clauses))))]) hD hS hA [4] rfl
  refine va_calli (va_runVN (As := [.int p1]) (rest := []) ⟨hx, hb, hml, hown, hts⟩ (c_X8_isClause l dC dI s.heap.size h_td vq1 x_td_clauses p1 (by first | exact hx_td_clauses | omega)) ⟨va_cnB (host := "OppositePairs") 1 hts (gd hT w_code_X8_isClause) rfl rfl rfl (hN _ n_m_X10_90) (hw _ w_ini_X8) (by decide +kernel) ⟨(Nat.le_of_ble_eq_true rfl), (Nat.le_of_ble_eq_true rfl)⟩, hw _ w_instanceMethod_X8_isClause, hw _ ws_sel_X8_isClause⟩ ⟨pre_blind, va_recv hK hP (ci := 5) (q0 := 4) rfl rfl, pre_of hPc hKc hDc hN⟩ rfl rfl hl.1 rfl (lv_room (Nat.le_of_ble_eq_true rfl)) dX10_clause_5 ⟨(Nat.le_of_ble_eq_true rfl), (Nat.le_of_ble_eq_true rfl)⟩) hS (fun q _ h => hFc q h) hFc (fun r2 u t H locs ht hvm hq hB hz1 hk1 hS9 => ?_)
  obtain ⟨hP1, hD1⟩ := hB
  rw [ht] at hP1
  obtain ⟨hP9, hD9⟩ := va_join (wr := [(h_xx, .inr (7, (mo68 v_xx (.ref h_td) (.ref h_bd)))), (h_bd, .inr (1, (mo19 v_bd (.ref h_td) (.ref h_bnd) (.ref h_hol)))), (h_bnd, .inl (cy_bnd, 256, .inl f_bnd)), (h_hol, .inl (cy_hol, 2048, .inl f_hol)), (h_var, .inl (cy_var, 300, .inl f_var)), (h_trm, .inl (cy_trm, 300, .inl f_trm)), (h_ter, .inl (cy_ter, 900, .inl f_ter)), (h_lit, .inl (cy_lit, 16, .inl f_lit)), (h_vas, .inl (cy_vas, 16, .inl f_vas)), (h_pls, .inl (cy_pls, 16, .inl f_pls)), (h_fst, .inl (cy_fst, 96, .inl f_fst))]) (w1 := [(h_td, .inr (5, (mo0 vq1 (.int x_td_clauses))))]) hP hD [4] [0, 1, 2, 3, 5, 6, 7, 8, 9, 10, 11] rfl rfl (by decide) (by decide) hk1 hFc hP1 hD1
  clear hP hD hS hPc hDc hKc hFc hP1 hD1 hk1 hz1 ht hvm
  have hP : va_P (dC, dI) cls [(h_xx, .inr (7, (mo68 v_xx (.ref h_td) (.ref h_bd)))), (h_bd, .inr (1, (mo19 v_bd (.ref h_td) (.ref h_bnd) (.ref h_hol)))), (h_bnd, .inl (cy_bnd, 256, .inl f_bnd)), (h_hol, .inl (cy_hol, 2048, .inl f_hol)), (h_var, .inl (cy_var, 300, .inl f_var)), (h_trm, .inl (cy_trm, 300, .inl f_trm)), (h_ter, .inl (cy_ter, 900, .inl f_ter)), (h_lit, .inl (cy_lit, 16, .inl f_lit)), (h_vas, .inl (cy_vas, 16, .inl f_vas)), (h_pls, .inl (cy_pls, 16, .inl f_pls)), (h_fst, .inl (cy_fst, 96, .inl f_fst)), (h_td, .inr (5, (mo0 vq1 (.int x_td_clauses))))] H := hP9
  have hD : va_D A [(h_xx, .inr (7, (mo68 v_xx (.ref h_td) (.ref h_bd)))), (h_bd, .inr (1, (mo19 v_bd (.ref h_td) (.ref h_bnd) (.ref h_hol)))), (h_bnd, .inl (cy_bnd, 256, .inl f_bnd)), (h_hol, .inl (cy_hol, 2048, .inl f_hol)), (h_var, .inl (cy_var, 300, .inl f_var)), (h_trm, .inl (cy_trm, 300, .inl f_trm)), (h_ter, .inl (cy_ter, 900, .inl f_ter)), (h_lit, .inl (cy_lit, 16, .inl f_lit)), (h_vas, .inl (cy_vas, 16, .inl f_vas)), (h_pls, .inl (cy_pls, 16, .inl f_pls)), (h_fst, .inl (cy_fst, 96, .inl f_fst)), (h_td, .inr (5, (mo0 vq1 (.int x_td_clauses))))] := hD9
  have hS := hS9
  clear hP9 hD9 hS9
  rw [evq1] at hP hD
  replace hP : va_P (dC, dI) cls [(h_xx, .inr (7, (mo68 v_xx (.ref h_td) (.ref h_bd)))), (h_bd, .inr (1, (mo19 v_bd (.ref h_td) (.ref h_bnd) (.ref h_hol)))), (h_bnd, .inl (cy_bnd, 256, .inl f_bnd)), (h_hol, .inl (cy_hol, 2048, .inl f_hol)), (h_var, .inl (cy_var, 300, .inl f_var)), (h_trm, .inl (cy_trm, 300, .inl f_trm)), (h_ter, .inl (cy_ter, 900, .inl f_ter)), (h_lit, .inl (cy_lit, 16, .inl f_lit)), (h_vas, .inl (cy_vas, 16, .inl f_vas)), (h_pls, .inl (cy_pls, 16, .inl f_pls)), (h_fst, .inl (cy_fst, 96, .inl f_fst)), (h_td, .inr (5, (mo70 v_td (.ref h_var) (.ref h_trm) (.ref h_ter) (.ref h_lit) (.ref h_vas) (.ref h_pls) (.ref h_fst) (.int x_td_clauses))))] H := hP
  replace hD : va_D A [(h_xx, .inr (7, (mo68 v_xx (.ref h_td) (.ref h_bd)))), (h_bd, .inr (1, (mo19 v_bd (.ref h_td) (.ref h_bnd) (.ref h_hol)))), (h_bnd, .inl (cy_bnd, 256, .inl f_bnd)), (h_hol, .inl (cy_hol, 2048, .inl f_hol)), (h_var, .inl (cy_var, 300, .inl f_var)), (h_trm, .inl (cy_trm, 300, .inl f_trm)), (h_ter, .inl (cy_ter, 900, .inl f_ter)), (h_lit, .inl (cy_lit, 16, .inl f_lit)), (h_vas, .inl (cy_vas, 16, .inl f_vas)), (h_pls, .inl (cy_pls, 16, .inl f_pls)), (h_fst, .inl (cy_fst, 96, .inl f_fst)), (h_td, .inr (5, (mo70 v_td (.ref h_var) (.ref h_trm) (.ref h_ter) (.ref h_lit) (.ref h_vas) (.ref h_pls) (.ref h_fst) (.int x_td_clauses))))] := hD
  clear evq1 
  rcases hq with ⟨rfl, hq⟩ | ⟨rfl, hq⟩
  · replace hq : (0 ≤ (p1).toInt) ∧ ((p1).toInt < (x_td_clauses).toInt) := hq
    refine lv_if_ne (tgt := 13) hx hb dX10_clause_8 (by decide) (fun _ => ?_) (fun c9 => absurd c9 (by decide))
    refine lv_iload_n hx hb dX10_clause_13 rfl (lv_at hl 2 rfl) ?_
    have s3 : (p2).toInt < 0 ∨ 3 < (p2).toInt ∨ (p2).toInt = 0 ∨ (p2).toInt = 1 ∨ (p2).toInt = 2 ∨ (p2).toInt = 3 := by omega
    rcases s3 with s3 | s3 | s3 | s3 | s3 | s3
    · refine lv_tableOut (tgt := 80) hx hb dX10_clause_14 (Or.inl s3) (by decide) ?_
      refine lv_iload_n hx hb dX10_clause_80 rfl (lv_at hl 2 rfl) ?_
      refine lv_bipush (v := 10) hx hb dX10_clause_81 (by decide) ?_
      refine lv_icmp_lt (tgt := 101) hx hb dX10_clause_83 (by decide) (fun _ => ?_) (fun c4 => False.elim (by have kc4 := (not_congr (cv_lt (rfl : (p2).toInt = (p2).toInt) (by decide : (10 : Int32).toInt = 10))).mp c4; omega))
      refine lv_iconst (v := (-1)) hx hb dX10_clause_101 (by decide) ?_
      have cl9 := congrArg (fun i => (f_lit i).toInt) (clamp_nat (i := p1) (by omega))
      replace hP : va_P (dC, dI) cls [(h_xx, .inr (7, (mo68 v_xx (.ref h_td) (.ref h_bd)))), (h_bd, .inr (1, (mo19 v_bd (.ref h_td) (.ref h_bnd) (.ref h_hol)))), (h_bnd, .inl (cy_bnd, 256, .inl f_bnd)), (h_hol, .inl (cy_hol, 2048, .inl f_hol)), (h_td, .inr (5, (mo70 v_td (.ref h_var) (.ref h_trm) (.ref h_ter) (.ref h_lit) (.ref h_vas) (.ref h_pls) (.ref h_fst) (.int x_td_clauses)))), (h_var, .inl (cy_var, 300, .inl f_var)), (h_trm, .inl (cy_trm, 300, .inl f_trm)), (h_ter, .inl (cy_ter, 900, .inl f_ter)), (h_lit, .inl (cy_lit, 16, .inl f_lit)), (h_vas, .inl (cy_vas, 16, .inl f_vas)), (h_pls, .inl (cy_pls, 16, .inl f_pls)), (h_fst, .inl (cy_fst, 96, .inl f_fst))] H := hP.sub [0, 1, 2, 3, 11, 4, 5, 6, 7, 8, 9, 10] rfl
      replace hD : va_D A [(h_xx, .inr (7, (mo68 v_xx (.ref h_td) (.ref h_bd)))), (h_bd, .inr (1, (mo19 v_bd (.ref h_td) (.ref h_bnd) (.ref h_hol)))), (h_bnd, .inl (cy_bnd, 256, .inl f_bnd)), (h_hol, .inl (cy_hol, 2048, .inl f_hol)), (h_td, .inr (5, (mo70 v_td (.ref h_var) (.ref h_trm) (.ref h_ter) (.ref h_lit) (.ref h_vas) (.ref h_pls) (.ref h_fst) (.int x_td_clauses)))), (h_var, .inl (cy_var, 300, .inl f_var)), (h_trm, .inl (cy_trm, 300, .inl f_trm)), (h_ter, .inl (cy_ter, 900, .inl f_ter)), (h_lit, .inl (cy_lit, 16, .inl f_lit)), (h_vas, .inl (cy_vas, 16, .inl f_vas)), (h_pls, .inl (cy_pls, 16, .inl f_pls)), (h_fst, .inl (cy_fst, 96, .inl f_fst))] := hD.sub [0, 1, 2, 3, 11, 4, 5, 6, 7, 8, 9, 10] (by decide) rfl
      refine W.widen (k := 0) (n := 0) (Nat.le_of_ble_eq_true rfl) (Nat.le_of_ble_eq_true rfl) ?_
      have cstm1 : ((-1) : Int32).toInt = -1 := by decide
      have w5 : CLV (CVW nmx f_var f_trm f_ter) (CLW f_lit f_vas f_pls f_fst) (fun j => (f_pls j).toInt) (x_td_clauses).toInt (p1).toInt (p2).toInt (((-1) : Int32)).toInt := (clv_4 (by omega) (by omega) (show (p2).toInt < 10 ∨ (f_lit (p1).toInt.toNat).toInt ≤ (p2).toInt - 10 by omega) (by decide))
      exact W.iret (v := (-1)) hx hb hr (fun t ht hW => ⟨⟨(-1), f_hol, rfl, ⟨hf_hol, w5⟩, by rw [ht]; exact hP, hD⟩, hS.F ht⟩) hS.2.2 dX10_clause_102
    · refine lv_tableOut (tgt := 80) hx hb dX10_clause_14 (Or.inr s3) (by decide) ?_
      refine lv_iload_n hx hb dX10_clause_80 rfl (lv_at hl 2 rfl) ?_
      refine lv_bipush (v := 10) hx hb dX10_clause_81 (by decide) ?_
      refine lv_icmp_lt (tgt := 101) hx hb dX10_clause_83 (by decide) (fun c6 => ?_) (fun c6 => ?_)
      · have kc6 := (cv_lt (rfl : (p2).toInt = (p2).toInt) (by decide : (10 : Int32).toInt = 10)).mp c6
        refine lv_iconst (v := (-1)) hx hb dX10_clause_101 (by decide) ?_
        have cl9 := congrArg (fun i => (f_lit i).toInt) (clamp_nat (i := p1) (by omega))
        replace hP : va_P (dC, dI) cls [(h_xx, .inr (7, (mo68 v_xx (.ref h_td) (.ref h_bd)))), (h_bd, .inr (1, (mo19 v_bd (.ref h_td) (.ref h_bnd) (.ref h_hol)))), (h_bnd, .inl (cy_bnd, 256, .inl f_bnd)), (h_hol, .inl (cy_hol, 2048, .inl f_hol)), (h_td, .inr (5, (mo70 v_td (.ref h_var) (.ref h_trm) (.ref h_ter) (.ref h_lit) (.ref h_vas) (.ref h_pls) (.ref h_fst) (.int x_td_clauses)))), (h_var, .inl (cy_var, 300, .inl f_var)), (h_trm, .inl (cy_trm, 300, .inl f_trm)), (h_ter, .inl (cy_ter, 900, .inl f_ter)), (h_lit, .inl (cy_lit, 16, .inl f_lit)), (h_vas, .inl (cy_vas, 16, .inl f_vas)), (h_pls, .inl (cy_pls, 16, .inl f_pls)), (h_fst, .inl (cy_fst, 96, .inl f_fst))] H := hP.sub [0, 1, 2, 3, 11, 4, 5, 6, 7, 8, 9, 10] rfl
        replace hD : va_D A [(h_xx, .inr (7, (mo68 v_xx (.ref h_td) (.ref h_bd)))), (h_bd, .inr (1, (mo19 v_bd (.ref h_td) (.ref h_bnd) (.ref h_hol)))), (h_bnd, .inl (cy_bnd, 256, .inl f_bnd)), (h_hol, .inl (cy_hol, 2048, .inl f_hol)), (h_td, .inr (5, (mo70 v_td (.ref h_var) (.ref h_trm) (.ref h_ter) (.ref h_lit) (.ref h_vas) (.ref h_pls) (.ref h_fst) (.int x_td_clauses)))), (h_var, .inl (cy_var, 300, .inl f_var)), (h_trm, .inl (cy_trm, 300, .inl f_trm)), (h_ter, .inl (cy_ter, 900, .inl f_ter)), (h_lit, .inl (cy_lit, 16, .inl f_lit)), (h_vas, .inl (cy_vas, 16, .inl f_vas)), (h_pls, .inl (cy_pls, 16, .inl f_pls)), (h_fst, .inl (cy_fst, 96, .inl f_fst))] := hD.sub [0, 1, 2, 3, 11, 4, 5, 6, 7, 8, 9, 10] (by decide) rfl
        refine W.widen (k := 0) (n := 0) (Nat.le_of_ble_eq_true rfl) (Nat.le_of_ble_eq_true rfl) ?_
        have cstm1 : ((-1) : Int32).toInt = -1 := by decide
        have w7 : CLV (CVW nmx f_var f_trm f_ter) (CLW f_lit f_vas f_pls f_fst) (fun j => (f_pls j).toInt) (x_td_clauses).toInt (p1).toInt (p2).toInt (((-1) : Int32)).toInt := (clv_4 (by omega) (by omega) (show (p2).toInt < 10 ∨ (f_lit (p1).toInt.toNat).toInt ≤ (p2).toInt - 10 by omega) (by decide))
        exact W.iret (v := (-1)) hx hb hr (fun t ht hW => ⟨⟨(-1), f_hol, rfl, ⟨hf_hol, w7⟩, by rw [ht]; exact hP, hD⟩, hS.F ht⟩) hS.2.2 dX10_clause_102
      · have kc6 := (not_congr (cv_lt (rfl : (p2).toInt = (p2).toInt) (by decide : (10 : Int32).toInt = 10))).mp c6
        refine lv_aload_n hx hb dX10_clause_86 rfl (lv_at hl 0 rfl) ?_
        refine va_get (D := (dC, dI)) (ci := 7) (v := .ref h_td) (C := RX10) (T := TX10) (N := 8) hx hb hw iwX10 hown hK hP 0 rfl rfl 1 (by decide) (hw _ w_f_X10_19) (fun _ h9 => h9) rfl dX10_clause_87 ?_
        refine lv_iload_n hx hb dX10_clause_90 rfl (lv_at hl 1 rfl) ?_
        refine lv_iload_n hx hb dX10_clause_91 rfl (lv_at hl 2 rfl) ?_
        refine lv_bipush (v := 10) hx hb dX10_clause_92 (by decide) ?_
        refine lv_isub hx hb dX10_clause_94 ?_
        refine lv_topi (fun z8 ez8 => ?_)
        have bp9 := i_bd p2
        have tpz8 : (z8).toInt = (p2).toInt - 10 := by rw [ez8]; exact i_sub rfl (by decide) (by omega)
        obtain ⟨vq9, evq9⟩ := mq70_1 v_td (.ref h_var) (.ref h_trm) (.ref h_ter) (.ref h_vas) (.ref h_pls) (.ref h_fst)
        replace hP : va_P (dC, dI) cls [(h_xx, .inr (7, (mo68 v_xx (.ref h_td) (.ref h_bd)))), (h_bd, .inr (1, (mo19 v_bd (.ref h_td) (.ref h_bnd) (.ref h_hol)))), (h_bnd, .inl (cy_bnd, 256, .inl f_bnd)), (h_hol, .inl (cy_hol, 2048, .inl f_hol)), (h_var, .inl (cy_var, 300, .inl f_var)), (h_trm, .inl (cy_trm, 300, .inl f_trm)), (h_ter, .inl (cy_ter, 900, .inl f_ter)), (h_lit, .inl (cy_lit, 16, .inl f_lit)), (h_vas, .inl (cy_vas, 16, .inl f_vas)), (h_pls, .inl (cy_pls, 16, .inl f_pls)), (h_fst, .inl (cy_fst, 96, .inl f_fst)), (h_td, .inr (5, (mo1 vq9 (.ref h_lit) (.int x_td_clauses))))] H := by rw [evq9]; exact hP
        replace hD : va_D A [(h_xx, .inr (7, (mo68 v_xx (.ref h_td) (.ref h_bd)))), (h_bd, .inr (1, (mo19 v_bd (.ref h_td) (.ref h_bnd) (.ref h_hol)))), (h_bnd, .inl (cy_bnd, 256, .inl f_bnd)), (h_hol, .inl (cy_hol, 2048, .inl f_hol)), (h_var, .inl (cy_var, 300, .inl f_var)), (h_trm, .inl (cy_trm, 300, .inl f_trm)), (h_ter, .inl (cy_ter, 900, .inl f_ter)), (h_lit, .inl (cy_lit, 16, .inl f_lit)), (h_vas, .inl (cy_vas, 16, .inl f_vas)), (h_pls, .inl (cy_pls, 16, .inl f_pls)), (h_fst, .inl (cy_fst, 96, .inl f_fst)), (h_td, .inr (5, (mo1 vq9 (.ref h_lit) (.int x_td_clauses))))] := by rw [evq9]; exact hD
        have hPc := hP.sub (ws' := [(h_td, .inr (5, (mo1 vq9 (.ref h_lit) (.int x_td_clauses)))), (h_lit, .inl (cy_lit, 16, .inl f_lit))]) [11, 7] rfl
        have hDc := hD.sub (ws' := [(h_td, .inr (5, (mo1 vq9 (.ref h_lit) (.int x_td_clauses)))), (h_lit, .inl (cy_lit, 16, .inl f_lit))]) [11, 7] (by decide) rfl
        have hKc := hK.sub (tys' := [(cy_lit, .int)]) [5] rfl
        have hFc := va_free (wc := [(h_td, .inr (5, (mo1 vq9 (.ref h_lit) (.int x_td_clauses)))), (h_lit, .inl (cy_lit, 16, .inl f_lit))]) hD hS hA [11, 7] rfl
        refine va_calli (va_runVN (As := [.int p1, .int z8]) (rest := []) ⟨hx, hb, hml, hown, hts⟩ (c_X8_isLiteral_e l dC dI H.size h_td h_lit vq9 x_td_clauses cy_lit f_lit p1 z8 (by first | exact hx_td_clauses | omega) hf_lit) ⟨va_cnB (host := "OppositePairs") 2 hts (gd hT w_code_X8_isLiteral) rfl rfl rfl (hN _ n_m_X10_111) (hw _ w_ini_X8) (by decide +kernel) ⟨(Nat.le_of_ble_eq_true rfl), (Nat.le_of_ble_eq_true rfl)⟩, hw _ w_instanceMethod_X8_isLiteral, hw _ ws_sel_X8_isLiteral⟩ ⟨pre_blind, va_recv hK hP (ci := 5) (q0 := 11) rfl rfl, pre_of hPc hKc hDc hN⟩ rfl rfl hl.1 rfl (lv_room (Nat.le_of_ble_eq_true rfl)) dX10_clause_95 ⟨(Nat.le_of_ble_eq_true rfl), (Nat.le_of_ble_eq_true rfl)⟩) hS (fun q _ h => hFc q h) hFc (fun r10 u t H locs ht hvm hq hB hz1 hk1 hS9 => ?_)
        obtain ⟨hP1, hD1⟩ := hB
        rw [ht] at hP1
        obtain ⟨hP9, hD9⟩ := va_join (wr := [(h_xx, .inr (7, (mo68 v_xx (.ref h_td) (.ref h_bd)))), (h_bd, .inr (1, (mo19 v_bd (.ref h_td) (.ref h_bnd) (.ref h_hol)))), (h_bnd, .inl (cy_bnd, 256, .inl f_bnd)), (h_hol, .inl (cy_hol, 2048, .inl f_hol)), (h_var, .inl (cy_var, 300, .inl f_var)), (h_trm, .inl (cy_trm, 300, .inl f_trm)), (h_ter, .inl (cy_ter, 900, .inl f_ter)), (h_vas, .inl (cy_vas, 16, .inl f_vas)), (h_pls, .inl (cy_pls, 16, .inl f_pls)), (h_fst, .inl (cy_fst, 96, .inl f_fst))]) (w1 := [(h_td, .inr (5, (mo1 vq9 (.ref h_lit) (.int x_td_clauses)))), (h_lit, .inl (cy_lit, 16, .inl f_lit))]) hP hD [11, 7] [0, 1, 2, 3, 4, 5, 6, 8, 9, 10] rfl rfl (by decide) (by decide) hk1 hFc hP1 hD1
        clear hP hD hS hPc hDc hKc hFc hP1 hD1 hk1 hz1 ht hvm
        have hP : va_P (dC, dI) cls [(h_xx, .inr (7, (mo68 v_xx (.ref h_td) (.ref h_bd)))), (h_bd, .inr (1, (mo19 v_bd (.ref h_td) (.ref h_bnd) (.ref h_hol)))), (h_bnd, .inl (cy_bnd, 256, .inl f_bnd)), (h_hol, .inl (cy_hol, 2048, .inl f_hol)), (h_var, .inl (cy_var, 300, .inl f_var)), (h_trm, .inl (cy_trm, 300, .inl f_trm)), (h_ter, .inl (cy_ter, 900, .inl f_ter)), (h_vas, .inl (cy_vas, 16, .inl f_vas)), (h_pls, .inl (cy_pls, 16, .inl f_pls)), (h_fst, .inl (cy_fst, 96, .inl f_fst)), (h_td, .inr (5, (mo1 vq9 (.ref h_lit) (.int x_td_clauses)))), (h_lit, .inl (cy_lit, 16, .inl f_lit))] H := hP9
        have hD : va_D A [(h_xx, .inr (7, (mo68 v_xx (.ref h_td) (.ref h_bd)))), (h_bd, .inr (1, (mo19 v_bd (.ref h_td) (.ref h_bnd) (.ref h_hol)))), (h_bnd, .inl (cy_bnd, 256, .inl f_bnd)), (h_hol, .inl (cy_hol, 2048, .inl f_hol)), (h_var, .inl (cy_var, 300, .inl f_var)), (h_trm, .inl (cy_trm, 300, .inl f_trm)), (h_ter, .inl (cy_ter, 900, .inl f_ter)), (h_vas, .inl (cy_vas, 16, .inl f_vas)), (h_pls, .inl (cy_pls, 16, .inl f_pls)), (h_fst, .inl (cy_fst, 96, .inl f_fst)), (h_td, .inr (5, (mo1 vq9 (.ref h_lit) (.int x_td_clauses)))), (h_lit, .inl (cy_lit, 16, .inl f_lit))] := hD9
        have hS := hS9
        clear hP9 hD9 hS9
        rw [evq9] at hP hD
        replace hP : va_P (dC, dI) cls [(h_xx, .inr (7, (mo68 v_xx (.ref h_td) (.ref h_bd)))), (h_bd, .inr (1, (mo19 v_bd (.ref h_td) (.ref h_bnd) (.ref h_hol)))), (h_bnd, .inl (cy_bnd, 256, .inl f_bnd)), (h_hol, .inl (cy_hol, 2048, .inl f_hol)), (h_var, .inl (cy_var, 300, .inl f_var)), (h_trm, .inl (cy_trm, 300, .inl f_trm)), (h_ter, .inl (cy_ter, 900, .inl f_ter)), (h_vas, .inl (cy_vas, 16, .inl f_vas)), (h_pls, .inl (cy_pls, 16, .inl f_pls)), (h_fst, .inl (cy_fst, 96, .inl f_fst)), (h_td, .inr (5, (mo70 v_td (.ref h_var) (.ref h_trm) (.ref h_ter) (.ref h_lit) (.ref h_vas) (.ref h_pls) (.ref h_fst) (.int x_td_clauses)))), (h_lit, .inl (cy_lit, 16, .inl f_lit))] H := hP
        replace hD : va_D A [(h_xx, .inr (7, (mo68 v_xx (.ref h_td) (.ref h_bd)))), (h_bd, .inr (1, (mo19 v_bd (.ref h_td) (.ref h_bnd) (.ref h_hol)))), (h_bnd, .inl (cy_bnd, 256, .inl f_bnd)), (h_hol, .inl (cy_hol, 2048, .inl f_hol)), (h_var, .inl (cy_var, 300, .inl f_var)), (h_trm, .inl (cy_trm, 300, .inl f_trm)), (h_ter, .inl (cy_ter, 900, .inl f_ter)), (h_vas, .inl (cy_vas, 16, .inl f_vas)), (h_pls, .inl (cy_pls, 16, .inl f_pls)), (h_fst, .inl (cy_fst, 96, .inl f_fst)), (h_td, .inr (5, (mo70 v_td (.ref h_var) (.ref h_trm) (.ref h_ter) (.ref h_lit) (.ref h_vas) (.ref h_pls) (.ref h_fst) (.int x_td_clauses)))), (h_lit, .inl (cy_lit, 16, .inl f_lit))] := hD
        clear evq9 
        rcases hq with ⟨rfl, hq⟩ | ⟨rfl, hq⟩
        · replace hq : (0 ≤ ((p1)).toInt) ∧ (((p1)).toInt < ((x_td_clauses)).toInt) ∧ (0 ≤ ((z8)).toInt) ∧ (((z8)).toInt ≤ 5) ∧ (((z8)).toInt < (f_lit (Int32.toNatClampNeg (p1))).toInt) := hq
          refine lv_if_ne (tgt := 103) hx hb dX10_clause_98 (by decide) (fun _ => ?_) (fun c9 => absurd c9 (by decide))
          refine lv_aload_n hx hb dX10_clause_103 rfl (lv_at hl 0 rfl) ?_
          refine va_get (D := (dC, dI)) (ci := 7) (v := .ref h_td) (C := RX10) (T := TX10) (N := 8) hx hb hw iwX10 hown hK hP 0 rfl rfl 1 (by decide) (hw _ w_f_X10_19) (fun _ h9 => h9) rfl dX10_clause_104 ?_
          refine va_getN (D := (dC, dI)) (ci := 5) (v := .ref h_trm) (C := RX8) (T := TX8) (N := 10) (host := "OppositePairs") hx hb hw iwX8 hown hK hP 10 rfl rfl 2 (by decide) (hN.use n_f_X10_115 rfl) (fun _ h9 => h9) rfl dX10_clause_107 ?_
          refine lv_aload_n hx hb dX10_clause_110 rfl (lv_at hl 0 rfl) ?_
          refine va_get (D := (dC, dI)) (ci := 7) (v := .ref h_td) (C := RX10) (T := TX10) (N := 8) hx hb hw iwX10 hown hK hP 0 rfl rfl 1 (by decide) (hw _ w_f_X10_19) (fun _ h9 => h9) rfl dX10_clause_111 ?_
          refine lv_iload_n hx hb dX10_clause_114 rfl (lv_at hl 1 rfl) ?_
          refine lv_iload_n hx hb dX10_clause_115 rfl (lv_at hl 2 rfl) ?_
          refine lv_bipush (v := 10) hx hb dX10_clause_116 (by decide) ?_
          refine lv_isub hx hb dX10_clause_118 ?_
          refine lv_topi (fun z11 ez11 => ?_)
          have qz11 : (z11).toInt = (z8).toInt := by rw [ez11, ez8]
          have bp9 := i_bd p2
          have tpz11 : (z11).toInt = (p2).toInt - 10 := by rw [ez11]; exact i_sub rfl (by decide) (by omega)
          obtain ⟨vq12, evq12⟩ := mq70_3 v_td (.ref h_var) (.ref h_trm) (.ref h_ter) (.ref h_lit) (.ref h_vas) (.ref h_pls) (.int x_td_clauses)
          replace hP : va_P (dC, dI) cls [(h_xx, .inr (7, (mo68 v_xx (.ref h_td) (.ref h_bd)))), (h_bd, .inr (1, (mo19 v_bd (.ref h_td) (.ref h_bnd) (.ref h_hol)))), (h_bnd, .inl (cy_bnd, 256, .inl f_bnd)), (h_hol, .inl (cy_hol, 2048, .inl f_hol)), (h_var, .inl (cy_var, 300, .inl f_var)), (h_trm, .inl (cy_trm, 300, .inl f_trm)), (h_ter, .inl (cy_ter, 900, .inl f_ter)), (h_vas, .inl (cy_vas, 16, .inl f_vas)), (h_pls, .inl (cy_pls, 16, .inl f_pls)), (h_fst, .inl (cy_fst, 96, .inl f_fst)), (h_td, .inr (5, (mo3 vq12 (.ref h_fst)))), (h_lit, .inl (cy_lit, 16, .inl f_lit))] H := by rw [evq12]; exact hP
          replace hD : va_D A [(h_xx, .inr (7, (mo68 v_xx (.ref h_td) (.ref h_bd)))), (h_bd, .inr (1, (mo19 v_bd (.ref h_td) (.ref h_bnd) (.ref h_hol)))), (h_bnd, .inl (cy_bnd, 256, .inl f_bnd)), (h_hol, .inl (cy_hol, 2048, .inl f_hol)), (h_var, .inl (cy_var, 300, .inl f_var)), (h_trm, .inl (cy_trm, 300, .inl f_trm)), (h_ter, .inl (cy_ter, 900, .inl f_ter)), (h_vas, .inl (cy_vas, 16, .inl f_vas)), (h_pls, .inl (cy_pls, 16, .inl f_pls)), (h_fst, .inl (cy_fst, 96, .inl f_fst)), (h_td, .inr (5, (mo3 vq12 (.ref h_fst)))), (h_lit, .inl (cy_lit, 16, .inl f_lit))] := by rw [evq12]; exact hD
          have hPc := hP.sub (ws' := [(h_td, .inr (5, (mo3 vq12 (.ref h_fst)))), (h_fst, .inl (cy_fst, 96, .inl f_fst))]) [10, 9] rfl
          have hDc := hD.sub (ws' := [(h_td, .inr (5, (mo3 vq12 (.ref h_fst)))), (h_fst, .inl (cy_fst, 96, .inl f_fst))]) [10, 9] (by decide) rfl
          have hKc := hK.sub (tys' := [(cy_fst, .int)]) [8] rfl
          have hFc := va_free (wc := [(h_td, .inr (5, (mo3 vq12 (.ref h_fst)))), (h_fst, .inl (cy_fst, 96, .inl f_fst))]) hD hS hA [10, 9] rfl
          refine va_calli (va_runVN (As := [.int p1, .int z11]) (rest := [.ref h_trm]) ⟨hx, hb, hml, hown, hts⟩ (c_X8_part l dC dI H.size h_td h_fst vq12 cy_fst f_fst p1 z11 hf_fst (by omega) (by omega)) ⟨va_cnB (host := "OppositePairs") 2 hts (gd hT w_code_X8_part) rfl rfl rfl (hN _ n_m_X10_118) (hw _ w_ini_X8) (by decide +kernel) ⟨(Nat.le_of_ble_eq_true rfl), (Nat.le_of_ble_eq_true rfl)⟩, hw _ w_instanceMethod_X8_part, hw _ ws_sel_X8_part⟩ ⟨pre_blind, va_recv hK hP (ci := 5) (q0 := 10) rfl rfl, pre_of hPc hKc hDc hN⟩ rfl rfl hl.1 rfl (lv_room (Nat.le_of_ble_eq_true rfl)) dX10_clause_119 ⟨(Nat.le_of_ble_eq_true rfl), (Nat.le_of_ble_eq_true rfl)⟩) hS (fun q _ h => hFc q h) hFc (fun r13 u t H locs ht hvm hq hB hz1 hk1 hS9 => ?_)
          obtain ⟨hP1, hD1⟩ := hB
          rw [ht] at hP1
          obtain ⟨hP9, hD9⟩ := va_join (wr := [(h_xx, .inr (7, (mo68 v_xx (.ref h_td) (.ref h_bd)))), (h_bd, .inr (1, (mo19 v_bd (.ref h_td) (.ref h_bnd) (.ref h_hol)))), (h_bnd, .inl (cy_bnd, 256, .inl f_bnd)), (h_hol, .inl (cy_hol, 2048, .inl f_hol)), (h_var, .inl (cy_var, 300, .inl f_var)), (h_trm, .inl (cy_trm, 300, .inl f_trm)), (h_ter, .inl (cy_ter, 900, .inl f_ter)), (h_vas, .inl (cy_vas, 16, .inl f_vas)), (h_pls, .inl (cy_pls, 16, .inl f_pls)), (h_lit, .inl (cy_lit, 16, .inl f_lit))]) (w1 := [(h_td, .inr (5, (mo3 vq12 (.ref h_fst)))), (h_fst, .inl (cy_fst, 96, .inl f_fst))]) hP hD [10, 9] [0, 1, 2, 3, 4, 5, 6, 7, 8, 11] rfl rfl (by decide) (by decide) hk1 hFc hP1 hD1
          clear hP hD hS hPc hDc hKc hFc hP1 hD1 hk1 hz1 ht hvm
          have hP : va_P (dC, dI) cls [(h_xx, .inr (7, (mo68 v_xx (.ref h_td) (.ref h_bd)))), (h_bd, .inr (1, (mo19 v_bd (.ref h_td) (.ref h_bnd) (.ref h_hol)))), (h_bnd, .inl (cy_bnd, 256, .inl f_bnd)), (h_hol, .inl (cy_hol, 2048, .inl f_hol)), (h_var, .inl (cy_var, 300, .inl f_var)), (h_trm, .inl (cy_trm, 300, .inl f_trm)), (h_ter, .inl (cy_ter, 900, .inl f_ter)), (h_vas, .inl (cy_vas, 16, .inl f_vas)), (h_pls, .inl (cy_pls, 16, .inl f_pls)), (h_lit, .inl (cy_lit, 16, .inl f_lit)), (h_td, .inr (5, (mo3 vq12 (.ref h_fst)))), (h_fst, .inl (cy_fst, 96, .inl f_fst))] H := hP9
          have hD : va_D A [(h_xx, .inr (7, (mo68 v_xx (.ref h_td) (.ref h_bd)))), (h_bd, .inr (1, (mo19 v_bd (.ref h_td) (.ref h_bnd) (.ref h_hol)))), (h_bnd, .inl (cy_bnd, 256, .inl f_bnd)), (h_hol, .inl (cy_hol, 2048, .inl f_hol)), (h_var, .inl (cy_var, 300, .inl f_var)), (h_trm, .inl (cy_trm, 300, .inl f_trm)), (h_ter, .inl (cy_ter, 900, .inl f_ter)), (h_vas, .inl (cy_vas, 16, .inl f_vas)), (h_pls, .inl (cy_pls, 16, .inl f_pls)), (h_lit, .inl (cy_lit, 16, .inl f_lit)), (h_td, .inr (5, (mo3 vq12 (.ref h_fst)))), (h_fst, .inl (cy_fst, 96, .inl f_fst))] := hD9
          have hS := hS9
          clear hP9 hD9 hS9
          rw [evq12] at hP hD
          replace hP : va_P (dC, dI) cls [(h_xx, .inr (7, (mo68 v_xx (.ref h_td) (.ref h_bd)))), (h_bd, .inr (1, (mo19 v_bd (.ref h_td) (.ref h_bnd) (.ref h_hol)))), (h_bnd, .inl (cy_bnd, 256, .inl f_bnd)), (h_hol, .inl (cy_hol, 2048, .inl f_hol)), (h_var, .inl (cy_var, 300, .inl f_var)), (h_trm, .inl (cy_trm, 300, .inl f_trm)), (h_ter, .inl (cy_ter, 900, .inl f_ter)), (h_vas, .inl (cy_vas, 16, .inl f_vas)), (h_pls, .inl (cy_pls, 16, .inl f_pls)), (h_lit, .inl (cy_lit, 16, .inl f_lit)), (h_td, .inr (5, (mo70 v_td (.ref h_var) (.ref h_trm) (.ref h_ter) (.ref h_lit) (.ref h_vas) (.ref h_pls) (.ref h_fst) (.int x_td_clauses)))), (h_fst, .inl (cy_fst, 96, .inl f_fst))] H := hP
          replace hD : va_D A [(h_xx, .inr (7, (mo68 v_xx (.ref h_td) (.ref h_bd)))), (h_bd, .inr (1, (mo19 v_bd (.ref h_td) (.ref h_bnd) (.ref h_hol)))), (h_bnd, .inl (cy_bnd, 256, .inl f_bnd)), (h_hol, .inl (cy_hol, 2048, .inl f_hol)), (h_var, .inl (cy_var, 300, .inl f_var)), (h_trm, .inl (cy_trm, 300, .inl f_trm)), (h_ter, .inl (cy_ter, 900, .inl f_ter)), (h_vas, .inl (cy_vas, 16, .inl f_vas)), (h_pls, .inl (cy_pls, 16, .inl f_pls)), (h_lit, .inl (cy_lit, 16, .inl f_lit)), (h_td, .inr (5, (mo70 v_td (.ref h_var) (.ref h_trm) (.ref h_ter) (.ref h_lit) (.ref h_vas) (.ref h_pls) (.ref h_fst) (.int x_td_clauses)))), (h_fst, .inl (cy_fst, 96, .inl f_fst))] := hD
          clear evq12 
          obtain ⟨k14, k15⟩ := hq
          replace k14 : 0 ≤ (r13).toInt ∧ (r13).toInt ≤ 299 := k14
          replace k15 : (r13) = f_fst (6 * ((p1)).toInt.toNat + ((z11)).toInt.toNat) := k15
          refine va_iald hx hb hK hP 5 3 rfl rfl (i := r13) (vp_in_iff.mpr (by omega)) dX10_clause_122 ?_
          refine lv_topi (fun z16 ez16 => ?_)
          have rz16 : 0 ≤ (z16).toInt ∧ (z16).toInt ≤ 3 := by rw [ez16]; exact hf_trm _
          have cl9 := congrArg (fun i => (f_lit i).toInt) (clamp_nat (i := p1) (by omega))
          have kx9 : (z11).toInt.toNat = ((p2).toInt - 10).toNat := by rw [tpz11]
          have px9 := k15
          rw [kx9] at px9
          have cv9 : (z16).toInt = (f_trm (Int32.toNatClampNeg (f_fst (6 * (p1).toInt.toNat + ((p2).toInt - 10).toNat)))).toInt := by rw [ez16, px9]
          replace hP : va_P (dC, dI) cls [(h_xx, .inr (7, (mo68 v_xx (.ref h_td) (.ref h_bd)))), (h_bd, .inr (1, (mo19 v_bd (.ref h_td) (.ref h_bnd) (.ref h_hol)))), (h_bnd, .inl (cy_bnd, 256, .inl f_bnd)), (h_hol, .inl (cy_hol, 2048, .inl f_hol)), (h_td, .inr (5, (mo70 v_td (.ref h_var) (.ref h_trm) (.ref h_ter) (.ref h_lit) (.ref h_vas) (.ref h_pls) (.ref h_fst) (.int x_td_clauses)))), (h_var, .inl (cy_var, 300, .inl f_var)), (h_trm, .inl (cy_trm, 300, .inl f_trm)), (h_ter, .inl (cy_ter, 900, .inl f_ter)), (h_lit, .inl (cy_lit, 16, .inl f_lit)), (h_vas, .inl (cy_vas, 16, .inl f_vas)), (h_pls, .inl (cy_pls, 16, .inl f_pls)), (h_fst, .inl (cy_fst, 96, .inl f_fst))] H := hP.sub [0, 1, 2, 3, 10, 4, 5, 6, 9, 7, 8, 11] rfl
          replace hD : va_D A [(h_xx, .inr (7, (mo68 v_xx (.ref h_td) (.ref h_bd)))), (h_bd, .inr (1, (mo19 v_bd (.ref h_td) (.ref h_bnd) (.ref h_hol)))), (h_bnd, .inl (cy_bnd, 256, .inl f_bnd)), (h_hol, .inl (cy_hol, 2048, .inl f_hol)), (h_td, .inr (5, (mo70 v_td (.ref h_var) (.ref h_trm) (.ref h_ter) (.ref h_lit) (.ref h_vas) (.ref h_pls) (.ref h_fst) (.int x_td_clauses)))), (h_var, .inl (cy_var, 300, .inl f_var)), (h_trm, .inl (cy_trm, 300, .inl f_trm)), (h_ter, .inl (cy_ter, 900, .inl f_ter)), (h_lit, .inl (cy_lit, 16, .inl f_lit)), (h_vas, .inl (cy_vas, 16, .inl f_vas)), (h_pls, .inl (cy_pls, 16, .inl f_pls)), (h_fst, .inl (cy_fst, 96, .inl f_fst))] := hD.sub [0, 1, 2, 3, 10, 4, 5, 6, 9, 7, 8, 11] (by decide) rfl
          refine W.widen (k := 0) (n := 0) (Nat.le_of_ble_eq_true rfl) (Nat.le_of_ble_eq_true rfl) ?_
          have w17 : CLV (CVW nmx f_var f_trm f_ter) (CLW f_lit f_vas f_pls f_fst) (fun j => (f_pls j).toInt) (x_td_clauses).toInt (p1).toInt (p2).toInt ((z16 : Int32)).toInt := (clv_5 (by omega) (show 10 ≤ (p2).toInt ∧ (p2).toInt - 10 < (f_lit (p1).toInt.toNat).toInt by omega) cv9)
          exact W.iret (v := z16) hx hb hr (fun t ht hW => ⟨⟨z16, f_hol, rfl, ⟨hf_hol, w17⟩, by rw [ht]; exact hP, hD⟩, hS.F ht⟩) hS.2.2 dX10_clause_123
        · replace hq : (((p1)).toInt < 0 ∨ ((x_td_clauses)).toInt ≤ ((p1)).toInt ∨ ((z8)).toInt < 0 ∨ (f_lit (Int32.toNatClampNeg (p1))).toInt ≤ ((z8)).toInt) := hq
          refine lv_if_ne (tgt := 103) hx hb dX10_clause_98 (by decide) (fun c9 => absurd c9 (by decide)) (fun _ => ?_)
          refine lv_iconst (v := (-1)) hx hb dX10_clause_101 (by decide) ?_
          have cl9 := congrArg (fun i => (f_lit i).toInt) (clamp_nat (i := p1) (by omega))
          replace hP : va_P (dC, dI) cls [(h_xx, .inr (7, (mo68 v_xx (.ref h_td) (.ref h_bd)))), (h_bd, .inr (1, (mo19 v_bd (.ref h_td) (.ref h_bnd) (.ref h_hol)))), (h_bnd, .inl (cy_bnd, 256, .inl f_bnd)), (h_hol, .inl (cy_hol, 2048, .inl f_hol)), (h_td, .inr (5, (mo70 v_td (.ref h_var) (.ref h_trm) (.ref h_ter) (.ref h_lit) (.ref h_vas) (.ref h_pls) (.ref h_fst) (.int x_td_clauses)))), (h_var, .inl (cy_var, 300, .inl f_var)), (h_trm, .inl (cy_trm, 300, .inl f_trm)), (h_ter, .inl (cy_ter, 900, .inl f_ter)), (h_lit, .inl (cy_lit, 16, .inl f_lit)), (h_vas, .inl (cy_vas, 16, .inl f_vas)), (h_pls, .inl (cy_pls, 16, .inl f_pls)), (h_fst, .inl (cy_fst, 96, .inl f_fst))] H := hP.sub [0, 1, 2, 3, 10, 4, 5, 6, 11, 7, 8, 9] rfl
          replace hD : va_D A [(h_xx, .inr (7, (mo68 v_xx (.ref h_td) (.ref h_bd)))), (h_bd, .inr (1, (mo19 v_bd (.ref h_td) (.ref h_bnd) (.ref h_hol)))), (h_bnd, .inl (cy_bnd, 256, .inl f_bnd)), (h_hol, .inl (cy_hol, 2048, .inl f_hol)), (h_td, .inr (5, (mo70 v_td (.ref h_var) (.ref h_trm) (.ref h_ter) (.ref h_lit) (.ref h_vas) (.ref h_pls) (.ref h_fst) (.int x_td_clauses)))), (h_var, .inl (cy_var, 300, .inl f_var)), (h_trm, .inl (cy_trm, 300, .inl f_trm)), (h_ter, .inl (cy_ter, 900, .inl f_ter)), (h_lit, .inl (cy_lit, 16, .inl f_lit)), (h_vas, .inl (cy_vas, 16, .inl f_vas)), (h_pls, .inl (cy_pls, 16, .inl f_pls)), (h_fst, .inl (cy_fst, 96, .inl f_fst))] := hD.sub [0, 1, 2, 3, 10, 4, 5, 6, 11, 7, 8, 9] (by decide) rfl
          refine W.widen (k := 0) (n := 0) (Nat.le_of_ble_eq_true rfl) (Nat.le_of_ble_eq_true rfl) ?_
          have cstm1 : ((-1) : Int32).toInt = -1 := by decide
          have w18 : CLV (CVW nmx f_var f_trm f_ter) (CLW f_lit f_vas f_pls f_fst) (fun j => (f_pls j).toInt) (x_td_clauses).toInt (p1).toInt (p2).toInt (((-1) : Int32)).toInt := (clv_4 (by omega) (by omega) (show (p2).toInt < 10 ∨ (f_lit (p1).toInt.toNat).toInt ≤ (p2).toInt - 10 by omega) (by decide))
          exact W.iret (v := (-1)) hx hb hr (fun t ht hW => ⟨⟨(-1), f_hol, rfl, ⟨hf_hol, w18⟩, by rw [ht]; exact hP, hD⟩, hS.F ht⟩) hS.2.2 dX10_clause_102
    · refine lv_tableIn (off := 30) (tgt := 44) hx hb dX10_clause_14 (by omega) (by omega) (by rw [s3]; rfl) (by decide) ?_
      refine lv_aload_n hx hb dX10_clause_44 rfl (lv_at hl 0 rfl) ?_
      refine va_get (D := (dC, dI)) (ci := 7) (v := .ref h_td) (C := RX10) (T := TX10) (N := 8) hx hb hw iwX10 hown hK hP 0 rfl rfl 1 (by decide) (hw _ w_f_X10_19) (fun _ h9 => h9) rfl dX10_clause_45 ?_
      refine va_getN (D := (dC, dI)) (ci := 5) (v := .ref h_lit) (C := RX8) (T := TX8) (N := 10) (host := "OppositePairs") hx hb hw iwX8 hown hK hP 11 rfl rfl 5 (by decide) (hN.use n_f_X10_97 rfl) (fun _ h9 => h9) rfl dX10_clause_48 ?_
      refine lv_iload_n hx hb dX10_clause_51 rfl (lv_at hl 1 rfl) ?_
      refine va_iald hx hb hK hP 7 5 rfl rfl (i := p1) (vp_in_iff.mpr (by omega)) dX10_clause_52 ?_
      refine lv_topi (fun z19 ez19 => ?_)
      have rz19 : 0 ≤ (z19).toInt ∧ (z19).toInt ≤ 6 := by rw [ez19]; exact hf_lit _
      have cv9 : (z19).toInt = (f_lit (p1).toInt.toNat).toInt := by rw [ez19, clamp_nat (i := p1) (by omega)]
      replace hP : va_P (dC, dI) cls [(h_xx, .inr (7, (mo68 v_xx (.ref h_td) (.ref h_bd)))), (h_bd, .inr (1, (mo19 v_bd (.ref h_td) (.ref h_bnd) (.ref h_hol)))), (h_bnd, .inl (cy_bnd, 256, .inl f_bnd)), (h_hol, .inl (cy_hol, 2048, .inl f_hol)), (h_td, .inr (5, (mo70 v_td (.ref h_var) (.ref h_trm) (.ref h_ter) (.ref h_lit) (.ref h_vas) (.ref h_pls) (.ref h_fst) (.int x_td_clauses)))), (h_var, .inl (cy_var, 300, .inl f_var)), (h_trm, .inl (cy_trm, 300, .inl f_trm)), (h_ter, .inl (cy_ter, 900, .inl f_ter)), (h_lit, .inl (cy_lit, 16, .inl f_lit)), (h_vas, .inl (cy_vas, 16, .inl f_vas)), (h_pls, .inl (cy_pls, 16, .inl f_pls)), (h_fst, .inl (cy_fst, 96, .inl f_fst))] H := hP.sub [0, 1, 2, 3, 11, 4, 5, 6, 7, 8, 9, 10] rfl
      replace hD : va_D A [(h_xx, .inr (7, (mo68 v_xx (.ref h_td) (.ref h_bd)))), (h_bd, .inr (1, (mo19 v_bd (.ref h_td) (.ref h_bnd) (.ref h_hol)))), (h_bnd, .inl (cy_bnd, 256, .inl f_bnd)), (h_hol, .inl (cy_hol, 2048, .inl f_hol)), (h_td, .inr (5, (mo70 v_td (.ref h_var) (.ref h_trm) (.ref h_ter) (.ref h_lit) (.ref h_vas) (.ref h_pls) (.ref h_fst) (.int x_td_clauses)))), (h_var, .inl (cy_var, 300, .inl f_var)), (h_trm, .inl (cy_trm, 300, .inl f_trm)), (h_ter, .inl (cy_ter, 900, .inl f_ter)), (h_lit, .inl (cy_lit, 16, .inl f_lit)), (h_vas, .inl (cy_vas, 16, .inl f_vas)), (h_pls, .inl (cy_pls, 16, .inl f_pls)), (h_fst, .inl (cy_fst, 96, .inl f_fst))] := hD.sub [0, 1, 2, 3, 11, 4, 5, 6, 7, 8, 9, 10] (by decide) rfl
      refine W.widen (k := 0) (n := 0) (Nat.le_of_ble_eq_true rfl) (Nat.le_of_ble_eq_true rfl) ?_
      have w20 : CLV (CVW nmx f_var f_trm f_ter) (CLW f_lit f_vas f_pls f_fst) (fun j => (f_pls j).toInt) (x_td_clauses).toInt (p1).toInt (p2).toInt ((z19 : Int32)).toInt := (clv_0 (by omega) (by omega) cv9)
      exact W.iret (v := z19) hx hb hr (fun t ht hW => ⟨⟨z19, f_hol, rfl, ⟨hf_hol, w20⟩, by rw [ht]; exact hP, hD⟩, hS.F ht⟩) hS.2.2 dX10_clause_53
    · refine lv_tableIn (off := 40) (tgt := 54) hx hb dX10_clause_14 (by omega) (by omega) (by rw [s3]; rfl) (by decide) ?_
      refine lv_aload_n hx hb dX10_clause_54 rfl (lv_at hl 0 rfl) ?_
      refine va_get (D := (dC, dI)) (ci := 7) (v := .ref h_td) (C := RX10) (T := TX10) (N := 8) hx hb hw iwX10 hown hK hP 0 rfl rfl 1 (by decide) (hw _ w_f_X10_19) (fun _ h9 => h9) rfl dX10_clause_55 ?_
      refine va_getN (D := (dC, dI)) (ci := 5) (v := .ref h_vas) (C := RX8) (T := TX8) (N := 10) (host := "OppositePairs") hx hb hw iwX8 hown hK hP 11 rfl rfl 6 (by decide) (hN.use n_f_X10_101 rfl) (fun _ h9 => h9) rfl dX10_clause_58 ?_
      refine lv_iload_n hx hb dX10_clause_61 rfl (lv_at hl 1 rfl) ?_
      refine va_iald hx hb hK hP 8 6 rfl rfl (i := p1) (vp_in_iff.mpr (by omega)) dX10_clause_62 ?_
      refine lv_topi (fun z21 ez21 => ?_)
      have cv9 : (z21).toInt = (f_vas (p1).toInt.toNat).toInt := by rw [ez21, clamp_nat (i := p1) (by omega)]
      replace hP : va_P (dC, dI) cls [(h_xx, .inr (7, (mo68 v_xx (.ref h_td) (.ref h_bd)))), (h_bd, .inr (1, (mo19 v_bd (.ref h_td) (.ref h_bnd) (.ref h_hol)))), (h_bnd, .inl (cy_bnd, 256, .inl f_bnd)), (h_hol, .inl (cy_hol, 2048, .inl f_hol)), (h_td, .inr (5, (mo70 v_td (.ref h_var) (.ref h_trm) (.ref h_ter) (.ref h_lit) (.ref h_vas) (.ref h_pls) (.ref h_fst) (.int x_td_clauses)))), (h_var, .inl (cy_var, 300, .inl f_var)), (h_trm, .inl (cy_trm, 300, .inl f_trm)), (h_ter, .inl (cy_ter, 900, .inl f_ter)), (h_lit, .inl (cy_lit, 16, .inl f_lit)), (h_vas, .inl (cy_vas, 16, .inl f_vas)), (h_pls, .inl (cy_pls, 16, .inl f_pls)), (h_fst, .inl (cy_fst, 96, .inl f_fst))] H := hP.sub [0, 1, 2, 3, 11, 4, 5, 6, 7, 8, 9, 10] rfl
      replace hD : va_D A [(h_xx, .inr (7, (mo68 v_xx (.ref h_td) (.ref h_bd)))), (h_bd, .inr (1, (mo19 v_bd (.ref h_td) (.ref h_bnd) (.ref h_hol)))), (h_bnd, .inl (cy_bnd, 256, .inl f_bnd)), (h_hol, .inl (cy_hol, 2048, .inl f_hol)), (h_td, .inr (5, (mo70 v_td (.ref h_var) (.ref h_trm) (.ref h_ter) (.ref h_lit) (.ref h_vas) (.ref h_pls) (.ref h_fst) (.int x_td_clauses)))), (h_var, .inl (cy_var, 300, .inl f_var)), (h_trm, .inl (cy_trm, 300, .inl f_trm)), (h_ter, .inl (cy_ter, 900, .inl f_ter)), (h_lit, .inl (cy_lit, 16, .inl f_lit)), (h_vas, .inl (cy_vas, 16, .inl f_vas)), (h_pls, .inl (cy_pls, 16, .inl f_pls)), (h_fst, .inl (cy_fst, 96, .inl f_fst))] := hD.sub [0, 1, 2, 3, 11, 4, 5, 6, 7, 8, 9, 10] (by decide) rfl
      refine W.widen (k := 0) (n := 0) (Nat.le_of_ble_eq_true rfl) (Nat.le_of_ble_eq_true rfl) ?_
      have w22 : CLV (CVW nmx f_var f_trm f_ter) (CLW f_lit f_vas f_pls f_fst) (fun j => (f_pls j).toInt) (x_td_clauses).toInt (p1).toInt (p2).toInt ((z21 : Int32)).toInt := (clv_1 (by omega) (by omega) cv9)
      exact W.iret (v := z21) hx hb hr (fun t ht hW => ⟨⟨z21, f_hol, rfl, ⟨hf_hol, w22⟩, by rw [ht]; exact hP, hD⟩, hS.F ht⟩) hS.2.2 dX10_clause_63
    · refine lv_tableIn (off := 50) (tgt := 64) hx hb dX10_clause_14 (by omega) (by omega) (by rw [s3]; rfl) (by decide) ?_
      refine lv_aload_n hx hb dX10_clause_64 rfl (lv_at hl 0 rfl) ?_
      refine lv_iload_n hx hb dX10_clause_65 rfl (lv_at hl 1 rfl) ?_
      have wq9 : WFQ (CVW nmx f_var f_trm f_ter) f_lit f_fst (p1).toInt.toNat := hn_wfa (p1).toInt.toNat (by omega)
      obtain ⟨vq23, evq23⟩ := mq70_69 v_td (.ref h_vas) (.ref h_pls) (.int x_td_clauses)
      replace hP : va_P (dC, dI) cls [(h_xx, .inr (7, (mo68 v_xx (.ref h_td) (.ref h_bd)))), (h_bd, .inr (1, (mo19 v_bd (.ref h_td) (.ref h_bnd) (.ref h_hol)))), (h_bnd, .inl (cy_bnd, 256, .inl f_bnd)), (h_hol, .inl (cy_hol, 2048, .inl f_hol)), (h_var, .inl (cy_var, 300, .inl f_var)), (h_trm, .inl (cy_trm, 300, .inl f_trm)), (h_ter, .inl (cy_ter, 900, .inl f_ter)), (h_lit, .inl (cy_lit, 16, .inl f_lit)), (h_vas, .inl (cy_vas, 16, .inl f_vas)), (h_pls, .inl (cy_pls, 16, .inl f_pls)), (h_fst, .inl (cy_fst, 96, .inl f_fst)), (h_td, .inr (5, (mo69 vq23 (.ref h_var) (.ref h_trm) (.ref h_ter) (.ref h_lit) (.ref h_fst))))] H := by rw [evq23]; exact hP
      replace hD : va_D A [(h_xx, .inr (7, (mo68 v_xx (.ref h_td) (.ref h_bd)))), (h_bd, .inr (1, (mo19 v_bd (.ref h_td) (.ref h_bnd) (.ref h_hol)))), (h_bnd, .inl (cy_bnd, 256, .inl f_bnd)), (h_hol, .inl (cy_hol, 2048, .inl f_hol)), (h_var, .inl (cy_var, 300, .inl f_var)), (h_trm, .inl (cy_trm, 300, .inl f_trm)), (h_ter, .inl (cy_ter, 900, .inl f_ter)), (h_lit, .inl (cy_lit, 16, .inl f_lit)), (h_vas, .inl (cy_vas, 16, .inl f_vas)), (h_pls, .inl (cy_pls, 16, .inl f_pls)), (h_fst, .inl (cy_fst, 96, .inl f_fst)), (h_td, .inr (5, (mo69 vq23 (.ref h_var) (.ref h_trm) (.ref h_ter) (.ref h_lit) (.ref h_fst))))] := by rw [evq23]; exact hD
      have hPc := hP.sub (ws' := [(h_xx, .inr (7, (mo68 v_xx (.ref h_td) (.ref h_bd)))), (h_bd, .inr (1, (mo19 v_bd (.ref h_td) (.ref h_bnd) (.ref h_hol)))), (h_bnd, .inl (cy_bnd, 256, .inl f_bnd)), (h_hol, .inl (cy_hol, 2048, .inl f_hol)), (h_td, .inr (5, (mo69 vq23 (.ref h_var) (.ref h_trm) (.ref h_ter) (.ref h_lit) (.ref h_fst)))), (h_var, .inl (cy_var, 300, .inl f_var)), (h_trm, .inl (cy_trm, 300, .inl f_trm)), (h_ter, .inl (cy_ter, 900, .inl f_ter)), (h_lit, .inl (cy_lit, 16, .inl f_lit)), (h_fst, .inl (cy_fst, 96, .inl f_fst))]) [0, 1, 2, 3, 11, 4, 5, 6, 7, 10] rfl
      have hDc := hD.sub (ws' := [(h_xx, .inr (7, (mo68 v_xx (.ref h_td) (.ref h_bd)))), (h_bd, .inr (1, (mo19 v_bd (.ref h_td) (.ref h_bnd) (.ref h_hol)))), (h_bnd, .inl (cy_bnd, 256, .inl f_bnd)), (h_hol, .inl (cy_hol, 2048, .inl f_hol)), (h_td, .inr (5, (mo69 vq23 (.ref h_var) (.ref h_trm) (.ref h_ter) (.ref h_lit) (.ref h_fst)))), (h_var, .inl (cy_var, 300, .inl f_var)), (h_trm, .inl (cy_trm, 300, .inl f_trm)), (h_ter, .inl (cy_ter, 900, .inl f_ter)), (h_lit, .inl (cy_lit, 16, .inl f_lit)), (h_fst, .inl (cy_fst, 96, .inl f_fst))]) [0, 1, 2, 3, 11, 4, 5, 6, 7, 10] (by decide) rfl
      have hKc := hK.sub (tys' := [(cy_bnd, .int), (cy_hol, .int), (cy_var, .int), (cy_trm, .int), (cy_ter, .int), (cy_lit, .int), (cy_fst, .int)]) [0, 1, 2, 3, 4, 5, 8] rfl
      have hFc := va_free (wc := [(h_xx, .inr (7, (mo68 v_xx (.ref h_td) (.ref h_bd)))), (h_bd, .inr (1, (mo19 v_bd (.ref h_td) (.ref h_bnd) (.ref h_hol)))), (h_bnd, .inl (cy_bnd, 256, .inl f_bnd)), (h_hol, .inl (cy_hol, 2048, .inl f_hol)), (h_td, .inr (5, (mo69 vq23 (.ref h_var) (.ref h_trm) (.ref h_ter) (.ref h_lit) (.ref h_fst)))), (h_var, .inl (cy_var, 300, .inl f_var)), (h_trm, .inl (cy_trm, 300, .inl f_trm)), (h_ter, .inl (cy_ter, 900, .inl f_ter)), (h_lit, .inl (cy_lit, 16, .inl f_lit)), (h_fst, .inl (cy_fst, 96, .inl f_fst))]) hD hS hA [0, 1, 2, 3, 11, 4, 5, 6, 7, 10] rfl
      refine va_calli (va_runV (As := [.int p1]) (rest := []) ⟨hx, hb, hml, hown, hts⟩ (c_X10_partsOf l dC dI H.size h_xx h_bd h_bnd h_hol h_td h_var h_trm h_ter h_lit h_fst v_xx v_bd cy_bnd f_bnd cy_hol f_hol vq23 cy_var f_var cy_trm f_trm cy_ter f_ter cy_lit f_lit cy_fst f_fst p1 nmx hf_bnd hf_hol hf_var hf_trm hf_ter hf_lit hf_fst (by omega) hn_bhz hn_tz wq9) (cwV 1 hts (gv hT w_m_X10_104 w_instanceMethod_X10_partsOf ws_sel_X10_partsOf w_ini_X10 w_code_X10_partsOf) rfl rfl rfl (by decide +kernel) ⟨(Nat.le_of_ble_eq_true rfl), (Nat.le_of_ble_eq_true rfl)⟩) ⟨pre_blind, va_recv hK hP (ci := 7) (q0 := 0) rfl rfl, pre_of hPc hKc hDc hN⟩ rfl rfl hl.1 rfl (lv_room (Nat.le_of_ble_eq_true rfl)) dX10_clause_66 ⟨(Nat.le_of_ble_eq_true rfl), (Nat.le_of_ble_eq_true rfl)⟩) hS (fun q _ h => hFc q h) hFc (fun r24 u t H locs ht hvm hq hB hz1 hk1 hS9 => ?_)
      obtain ⟨f25, rfl⟩ : ∃ z, z = u := ⟨_, rfl⟩
      obtain ⟨hP1, hD1⟩ := hB
      rw [ht] at hP1
      obtain ⟨hP9, hD9⟩ := va_join (wr := [(h_vas, .inl (cy_vas, 16, .inl f_vas)), (h_pls, .inl (cy_pls, 16, .inl f_pls))]) (w1 := [(h_xx, .inr (7, (mo68 v_xx (.ref h_td) (.ref h_bd)))), (h_bd, .inr (1, (mo19 v_bd (.ref h_td) (.ref h_bnd) (.ref h_hol)))), (h_bnd, .inl (cy_bnd, 256, .inl f_bnd)), (h_hol, .inl (cy_hol, 2048, .inl f25)), (h_td, .inr (5, (mo69 vq23 (.ref h_var) (.ref h_trm) (.ref h_ter) (.ref h_lit) (.ref h_fst)))), (h_var, .inl (cy_var, 300, .inl f_var)), (h_trm, .inl (cy_trm, 300, .inl f_trm)), (h_ter, .inl (cy_ter, 900, .inl f_ter)), (h_lit, .inl (cy_lit, 16, .inl f_lit)), (h_fst, .inl (cy_fst, 96, .inl f_fst))]) hP hD [0, 1, 2, 3, 11, 4, 5, 6, 7, 10] [8, 9] rfl rfl (by decide) (by decide) hk1 hFc hP1 hD1
      clear hP hD hS hPc hDc hKc hFc hP1 hD1 hk1 hz1 ht hvm
      have hP : va_P (dC, dI) cls [(h_vas, .inl (cy_vas, 16, .inl f_vas)), (h_pls, .inl (cy_pls, 16, .inl f_pls)), (h_xx, .inr (7, (mo68 v_xx (.ref h_td) (.ref h_bd)))), (h_bd, .inr (1, (mo19 v_bd (.ref h_td) (.ref h_bnd) (.ref h_hol)))), (h_bnd, .inl (cy_bnd, 256, .inl f_bnd)), (h_hol, .inl (cy_hol, 2048, .inl f25)), (h_td, .inr (5, (mo69 vq23 (.ref h_var) (.ref h_trm) (.ref h_ter) (.ref h_lit) (.ref h_fst)))), (h_var, .inl (cy_var, 300, .inl f_var)), (h_trm, .inl (cy_trm, 300, .inl f_trm)), (h_ter, .inl (cy_ter, 900, .inl f_ter)), (h_lit, .inl (cy_lit, 16, .inl f_lit)), (h_fst, .inl (cy_fst, 96, .inl f_fst))] H := hP9
      have hD : va_D A [(h_vas, .inl (cy_vas, 16, .inl f_vas)), (h_pls, .inl (cy_pls, 16, .inl f_pls)), (h_xx, .inr (7, (mo68 v_xx (.ref h_td) (.ref h_bd)))), (h_bd, .inr (1, (mo19 v_bd (.ref h_td) (.ref h_bnd) (.ref h_hol)))), (h_bnd, .inl (cy_bnd, 256, .inl f_bnd)), (h_hol, .inl (cy_hol, 2048, .inl f25)), (h_td, .inr (5, (mo69 vq23 (.ref h_var) (.ref h_trm) (.ref h_ter) (.ref h_lit) (.ref h_fst)))), (h_var, .inl (cy_var, 300, .inl f_var)), (h_trm, .inl (cy_trm, 300, .inl f_trm)), (h_ter, .inl (cy_ter, 900, .inl f_ter)), (h_lit, .inl (cy_lit, 16, .inl f_lit)), (h_fst, .inl (cy_fst, 96, .inl f_fst))] := hD9
      have hS := hS9
      clear hP9 hD9 hS9
      rw [evq23] at hP hD
      replace hP : va_P (dC, dI) cls [(h_vas, .inl (cy_vas, 16, .inl f_vas)), (h_pls, .inl (cy_pls, 16, .inl f_pls)), (h_xx, .inr (7, (mo68 v_xx (.ref h_td) (.ref h_bd)))), (h_bd, .inr (1, (mo19 v_bd (.ref h_td) (.ref h_bnd) (.ref h_hol)))), (h_bnd, .inl (cy_bnd, 256, .inl f_bnd)), (h_hol, .inl (cy_hol, 2048, .inl f25)), (h_td, .inr (5, (mo70 v_td (.ref h_var) (.ref h_trm) (.ref h_ter) (.ref h_lit) (.ref h_vas) (.ref h_pls) (.ref h_fst) (.int x_td_clauses)))), (h_var, .inl (cy_var, 300, .inl f_var)), (h_trm, .inl (cy_trm, 300, .inl f_trm)), (h_ter, .inl (cy_ter, 900, .inl f_ter)), (h_lit, .inl (cy_lit, 16, .inl f_lit)), (h_fst, .inl (cy_fst, 96, .inl f_fst))] H := hP
      replace hD : va_D A [(h_vas, .inl (cy_vas, 16, .inl f_vas)), (h_pls, .inl (cy_pls, 16, .inl f_pls)), (h_xx, .inr (7, (mo68 v_xx (.ref h_td) (.ref h_bd)))), (h_bd, .inr (1, (mo19 v_bd (.ref h_td) (.ref h_bnd) (.ref h_hol)))), (h_bnd, .inl (cy_bnd, 256, .inl f_bnd)), (h_hol, .inl (cy_hol, 2048, .inl f25)), (h_td, .inr (5, (mo70 v_td (.ref h_var) (.ref h_trm) (.ref h_ter) (.ref h_lit) (.ref h_vas) (.ref h_pls) (.ref h_fst) (.int x_td_clauses)))), (h_var, .inl (cy_var, 300, .inl f_var)), (h_trm, .inl (cy_trm, 300, .inl f_trm)), (h_ter, .inl (cy_ter, 900, .inl f_ter)), (h_lit, .inl (cy_lit, 16, .inl f_lit)), (h_fst, .inl (cy_fst, 96, .inl f_fst))] := hD
      clear evq23 
      obtain ⟨hf25, k26⟩ := hq
      replace hf25 : Rg 0 9599 (f25) := hf25
      replace k26 : ((r24)).toInt = szL (CVW (nmx) f_var f_trm f_ter) (fun k => Int32.toNatClampNeg (f_fst (6 * ((p1)).toInt.toNat + k))) (Int.toNat (f_lit ((p1)).toInt.toNat).toInt) := k26
      replace hP : va_P (dC, dI) cls [(h_xx, .inr (7, (mo68 v_xx (.ref h_td) (.ref h_bd)))), (h_bd, .inr (1, (mo19 v_bd (.ref h_td) (.ref h_bnd) (.ref h_hol)))), (h_bnd, .inl (cy_bnd, 256, .inl f_bnd)), (h_hol, .inl (cy_hol, 2048, .inl f25)), (h_td, .inr (5, (mo70 v_td (.ref h_var) (.ref h_trm) (.ref h_ter) (.ref h_lit) (.ref h_vas) (.ref h_pls) (.ref h_fst) (.int x_td_clauses)))), (h_var, .inl (cy_var, 300, .inl f_var)), (h_trm, .inl (cy_trm, 300, .inl f_trm)), (h_ter, .inl (cy_ter, 900, .inl f_ter)), (h_lit, .inl (cy_lit, 16, .inl f_lit)), (h_vas, .inl (cy_vas, 16, .inl f_vas)), (h_pls, .inl (cy_pls, 16, .inl f_pls)), (h_fst, .inl (cy_fst, 96, .inl f_fst))] H := hP.sub [2, 3, 4, 5, 6, 7, 8, 9, 10, 0, 1, 11] rfl
      replace hD : va_D A [(h_xx, .inr (7, (mo68 v_xx (.ref h_td) (.ref h_bd)))), (h_bd, .inr (1, (mo19 v_bd (.ref h_td) (.ref h_bnd) (.ref h_hol)))), (h_bnd, .inl (cy_bnd, 256, .inl f_bnd)), (h_hol, .inl (cy_hol, 2048, .inl f25)), (h_td, .inr (5, (mo70 v_td (.ref h_var) (.ref h_trm) (.ref h_ter) (.ref h_lit) (.ref h_vas) (.ref h_pls) (.ref h_fst) (.int x_td_clauses)))), (h_var, .inl (cy_var, 300, .inl f_var)), (h_trm, .inl (cy_trm, 300, .inl f_trm)), (h_ter, .inl (cy_ter, 900, .inl f_ter)), (h_lit, .inl (cy_lit, 16, .inl f_lit)), (h_vas, .inl (cy_vas, 16, .inl f_vas)), (h_pls, .inl (cy_pls, 16, .inl f_pls)), (h_fst, .inl (cy_fst, 96, .inl f_fst))] := hD.sub [2, 3, 4, 5, 6, 7, 8, 9, 10, 0, 1, 11] (by decide) rfl
      refine W.widen (k := 0) (n := 0) (Nat.le_of_ble_eq_true rfl) (Nat.le_of_ble_eq_true rfl) ?_
      have w27 : CLV (CVW nmx f_var f_trm f_ter) (CLW f_lit f_vas f_pls f_fst) (fun j => (f_pls j).toInt) (x_td_clauses).toInt (p1).toInt (p2).toInt ((r24 : Int32)).toInt := (clv_2 (by omega) (by omega) k26)
      exact W.iret (v := r24) hx hb hr (fun t ht hW => ⟨⟨r24, f25, rfl, ⟨hf25, w27⟩, by rw [ht]; exact hP, hD⟩, hS.F ht⟩) hS.2.2 dX10_clause_69
    · refine lv_tableIn (off := 56) (tgt := 70) hx hb dX10_clause_14 (by omega) (by omega) (by rw [s3]; rfl) (by decide) ?_
      refine lv_aload_n hx hb dX10_clause_70 rfl (lv_at hl 0 rfl) ?_
      refine va_get (D := (dC, dI)) (ci := 7) (v := .ref h_td) (C := RX10) (T := TX10) (N := 8) hx hb hw iwX10 hown hK hP 0 rfl rfl 1 (by decide) (hw _ w_f_X10_19) (fun _ h9 => h9) rfl dX10_clause_71 ?_
      refine va_getN (D := (dC, dI)) (ci := 5) (v := .ref h_pls) (C := RX8) (T := TX8) (N := 10) (host := "OppositePairs") hx hb hw iwX8 hown hK hP 11 rfl rfl 7 (by decide) (hN.use n_f_X10_108 rfl) (fun _ h9 => h9) rfl dX10_clause_74 ?_
      refine lv_iload_n hx hb dX10_clause_77 rfl (lv_at hl 1 rfl) ?_
      refine va_iald hx hb hK hP 9 7 rfl rfl (i := p1) (vp_in_iff.mpr (by omega)) dX10_clause_78 ?_
      refine lv_topi (fun z28 ez28 => ?_)
      have cv9 : (z28).toInt = (f_pls (p1).toInt.toNat).toInt := by rw [ez28, clamp_nat (i := p1) (by omega)]
      replace hP : va_P (dC, dI) cls [(h_xx, .inr (7, (mo68 v_xx (.ref h_td) (.ref h_bd)))), (h_bd, .inr (1, (mo19 v_bd (.ref h_td) (.ref h_bnd) (.ref h_hol)))), (h_bnd, .inl (cy_bnd, 256, .inl f_bnd)), (h_hol, .inl (cy_hol, 2048, .inl f_hol)), (h_td, .inr (5, (mo70 v_td (.ref h_var) (.ref h_trm) (.ref h_ter) (.ref h_lit) (.ref h_vas) (.ref h_pls) (.ref h_fst) (.int x_td_clauses)))), (h_var, .inl (cy_var, 300, .inl f_var)), (h_trm, .inl (cy_trm, 300, .inl f_trm)), (h_ter, .inl (cy_ter, 900, .inl f_ter)), (h_lit, .inl (cy_lit, 16, .inl f_lit)), (h_vas, .inl (cy_vas, 16, .inl f_vas)), (h_pls, .inl (cy_pls, 16, .inl f_pls)), (h_fst, .inl (cy_fst, 96, .inl f_fst))] H := hP.sub [0, 1, 2, 3, 11, 4, 5, 6, 7, 8, 9, 10] rfl
      replace hD : va_D A [(h_xx, .inr (7, (mo68 v_xx (.ref h_td) (.ref h_bd)))), (h_bd, .inr (1, (mo19 v_bd (.ref h_td) (.ref h_bnd) (.ref h_hol)))), (h_bnd, .inl (cy_bnd, 256, .inl f_bnd)), (h_hol, .inl (cy_hol, 2048, .inl f_hol)), (h_td, .inr (5, (mo70 v_td (.ref h_var) (.ref h_trm) (.ref h_ter) (.ref h_lit) (.ref h_vas) (.ref h_pls) (.ref h_fst) (.int x_td_clauses)))), (h_var, .inl (cy_var, 300, .inl f_var)), (h_trm, .inl (cy_trm, 300, .inl f_trm)), (h_ter, .inl (cy_ter, 900, .inl f_ter)), (h_lit, .inl (cy_lit, 16, .inl f_lit)), (h_vas, .inl (cy_vas, 16, .inl f_vas)), (h_pls, .inl (cy_pls, 16, .inl f_pls)), (h_fst, .inl (cy_fst, 96, .inl f_fst))] := hD.sub [0, 1, 2, 3, 11, 4, 5, 6, 7, 8, 9, 10] (by decide) rfl
      refine W.widen (k := 0) (n := 0) (Nat.le_of_ble_eq_true rfl) (Nat.le_of_ble_eq_true rfl) ?_
      have w29 : CLV (CVW nmx f_var f_trm f_ter) (CLW f_lit f_vas f_pls f_fst) (fun j => (f_pls j).toInt) (x_td_clauses).toInt (p1).toInt (p2).toInt ((z28 : Int32)).toInt := (clv_3 (by omega) (by omega) cv9)
      exact W.iret (v := z28) hx hb hr (fun t ht hW => ⟨⟨z28, f_hol, rfl, ⟨hf_hol, w29⟩, by rw [ht]; exact hP, hD⟩, hS.F ht⟩) hS.2.2 dX10_clause_79
  · replace hq : ((p1).toInt < 0 ∨ (x_td_clauses).toInt ≤ (p1).toInt) := hq
    refine lv_if_ne (tgt := 13) hx hb dX10_clause_8 (by decide) (fun c9 => absurd c9 (by decide)) (fun _ => ?_)
    refine lv_iconst (v := (-1)) hx hb dX10_clause_11 (by decide) ?_
    replace hP : va_P (dC, dI) cls [(h_xx, .inr (7, (mo68 v_xx (.ref h_td) (.ref h_bd)))), (h_bd, .inr (1, (mo19 v_bd (.ref h_td) (.ref h_bnd) (.ref h_hol)))), (h_bnd, .inl (cy_bnd, 256, .inl f_bnd)), (h_hol, .inl (cy_hol, 2048, .inl f_hol)), (h_td, .inr (5, (mo70 v_td (.ref h_var) (.ref h_trm) (.ref h_ter) (.ref h_lit) (.ref h_vas) (.ref h_pls) (.ref h_fst) (.int x_td_clauses)))), (h_var, .inl (cy_var, 300, .inl f_var)), (h_trm, .inl (cy_trm, 300, .inl f_trm)), (h_ter, .inl (cy_ter, 900, .inl f_ter)), (h_lit, .inl (cy_lit, 16, .inl f_lit)), (h_vas, .inl (cy_vas, 16, .inl f_vas)), (h_pls, .inl (cy_pls, 16, .inl f_pls)), (h_fst, .inl (cy_fst, 96, .inl f_fst))] H := hP.sub [0, 1, 2, 3, 11, 4, 5, 6, 7, 8, 9, 10] rfl
    replace hD : va_D A [(h_xx, .inr (7, (mo68 v_xx (.ref h_td) (.ref h_bd)))), (h_bd, .inr (1, (mo19 v_bd (.ref h_td) (.ref h_bnd) (.ref h_hol)))), (h_bnd, .inl (cy_bnd, 256, .inl f_bnd)), (h_hol, .inl (cy_hol, 2048, .inl f_hol)), (h_td, .inr (5, (mo70 v_td (.ref h_var) (.ref h_trm) (.ref h_ter) (.ref h_lit) (.ref h_vas) (.ref h_pls) (.ref h_fst) (.int x_td_clauses)))), (h_var, .inl (cy_var, 300, .inl f_var)), (h_trm, .inl (cy_trm, 300, .inl f_trm)), (h_ter, .inl (cy_ter, 900, .inl f_ter)), (h_lit, .inl (cy_lit, 16, .inl f_lit)), (h_vas, .inl (cy_vas, 16, .inl f_vas)), (h_pls, .inl (cy_pls, 16, .inl f_pls)), (h_fst, .inl (cy_fst, 96, .inl f_fst))] := hD.sub [0, 1, 2, 3, 11, 4, 5, 6, 7, 8, 9, 10] (by decide) rfl
    refine W.widen (k := 0) (n := 0) (Nat.le_of_ble_eq_true rfl) (Nat.le_of_ble_eq_true rfl) ?_
    have cstm1 : ((-1) : Int32).toInt = -1 := by decide
    have w30 : CLV (CVW nmx f_var f_trm f_ter) (CLW f_lit f_vas f_pls f_fst) (fun j => (f_pls j).toInt) (x_td_clauses).toInt (p1).toInt (p2).toInt (((-1) : Int32)).toInt := (clv_no (by omega) (by decide))
    exact W.iret (v := (-1)) hx hb hr (fun t ht hW => ⟨⟨(-1), f_hol, rfl, ⟨hf_hol, w30⟩, by rw [ht]; exact hP, hD⟩, hS.F ht⟩) hS.2.2 dX10_clause_12

set_option maxHeartbeats 8000000 in
set_option maxRecDepth 100000 in
theorem c_X8_isPlus_e (l : Launch) (dC : Nat → ClassId) (dI : Nat → Nat → Nat) (sz : Nat) (h_td : Nat) (h_pls : Nat) (v_td : Nat → Value) (cy_pls : ClassId) (f_pls : Nat → Int32) (p1 : Int32) (p2 : Int32) (q0 : 0 ≤ (p1).toInt ∧ (p1).toInt ≤ 15) (q1 : 0 ≤ (p2).toInt ∧ (p2).toInt ≤ 5) (hn_ppl : 0 ≤ (f_pls (p1).toInt.toNat).toInt ∧ (f_pls (p1).toInt.toNat).toInt < 64) : Met l yX8_isPlus (Ws yX8_isPlus cX8_isPlus 3 (some .boolean)) (({ frames := 0, cells := 0, slots := 0, locals := 0 } : Room)) (PRE (dC, dI) cls [(cy_pls, .int)] [(h_td, .inr (5, (mo2 v_td (.ref h_pls)))), (h_pls, .inl (cy_pls, 16, .inl f_pls))] sz [.ref h_td, .int p1, .int p2]) (va_Qi (fun (r : Int32) (_ : Unit) => (0 ≤ r.toInt ∧ r.toInt ≤ 1) ∧ ((r).toInt = (f_pls (p1).toInt.toNat).toInt / (2 : Int) ^ (p2).toInt.toNat % 2)) (fun (_ : Unit) (t : State) => va_P (dC, dI) cls [(h_td, .inr (5, (mo2 v_td (.ref h_pls)))), (h_pls, .inl (cy_pls, 16, .inl f_pls))] t.heap ∧ va_D (va_A [(h_td, .inr (5, (mo2 v_td (.ref h_pls)))), (h_pls, .inl (cy_pls, 16, .inl f_pls))] sz) [(h_td, .inr (5, (mo2 v_td (.ref h_pls)))), (h_pls, .inl (cy_pls, 16, .inl f_pls))]) (va_A [(h_td, .inr (5, (mo2 v_td (.ref h_pls)))), (h_pls, .inl (cy_pls, 16, .inl f_pls))] sz)) 0 0 (va_A [(h_td, .inr (5, (mo2 v_td (.ref h_pls)))), (h_pls, .inl (cy_pls, 16, .inl f_pls))] sz) := by
  refine Met.ofW (cc := cX8_isPlus) (maxL := 3) (ret := (some .boolean)) (by decide) rfl ?_
  intro p e s m args below meth c s₁ B hml hv
  obtain ⟨rfl, hsz, hP, hK, hD0, hN⟩ := hv
  have hx := B.exec
  have hb := B.bytes
  have hr := B.returns
  have hts := atoms_spec (ws := Ws yX8_isPlus cX8_isPlus 3 (some .boolean)) B.pre
  have hT : ∀ w ∈ WALL, w ∈ Ws yX8_isPlus cX8_isPlus 3 (some .boolean) := fun w h => List.mem_cons_of_mem _ h
  have hw := fun w (h : w ∈ WALL) => hts w (hT w h)
  have hown : s.vm.findClass RX8 = some m.cls := findClass_of_methodNamed B.named
  have hlocks := B.notSynchronized
  subst hsz
  have hD := hD0.self (sz := s.heap.size)
  generalize hAe : va_A [(h_td, .inr (5, (mo2 v_td (.ref h_pls)))), (h_pls, .inl (cy_pls, 16, .inl f_pls))] s.heap.size = A at hD ⊢
  have hA : ∀ q : Nat, s.heap.size ≤ q → A q := fun q h => by rw [← hAe]; exact Or.inr h
  have hS : va_S A s.heap s.heap [] := va_S.rf
  have hl := lv_entry ([.ref h_td, .int p1, .int p2]) (n := 3) (Nat.le_of_ble_eq_true rfl)
  rw [lg_entry_eq]
  generalize (lg_sl ([.ref h_td, .int p1, .int p2]) ++ List.replicate (3 - (lg_sl ([.ref h_td, .int p1, .int p2])).length) Slot.unset).toArray = ls at hl ⊢
  have hl : lv_has ls 3 [(0, .ref h_td), (1, .int p1), (2, .int p2)] := hl
  refine lv_aload_n hx hb dX8_isPlus_0 rfl (lv_at hl 0 rfl) ?_
  refine va_get (D := (dC, dI)) (ci := 5) (v := .ref h_pls) (C := RX8) (T := TX8) (N := 10) hx hb hw iwX8 hown hK hP 0 rfl rfl 7 (by decide) (hw _ w_f_X8_31) (fun _ h9 => h9) rfl dX8_isPlus_1 ?_
  refine lv_iload_n hx hb dX8_isPlus_4 rfl (lv_at hl 1 rfl) ?_
  refine va_iald hx hb hK hP 1 0 rfl rfl (i := p1) (vp_in_iff.mpr (by omega)) dX8_isPlus_5 ?_
  refine lv_topi (fun z1 ez1 => ?_)
  refine lv_iload_n hx hb dX8_isPlus_6 rfl (lv_at hl 2 rfl) ?_
  refine lv_ishr hx hb dX8_isPlus_7 ?_
  refine lv_topi (fun z2 ez2 => ?_)
  refine lv_iconst (v := 1) hx hb dX8_isPlus_8 (by decide) ?_
  refine lv_iand hx hb dX8_isPlus_9 ?_
  refine lv_topi (fun z3 ez3 => ?_)
  have tz3 : 0 ≤ (z3).toInt ∧ (z3).toInt ≤ 1 := by rw [ez3]; exact i_andr 1 (by decide) (by decide) (by decide)
  have pv9 : (f_pls (p1).toInt.toNat) = z1 := by rw [ez1, clamp_nat (i := p1) (by omega)]
  have pr9 := hn_ppl
  rw [pv9] at pr9
  have bt9 := bt_64 (v := z1) (k := p2) pr9 (by omega) ez2 ez3
  refine lv_iconst (v := 1) hx hb dX8_isPlus_10 (by decide) ?_
  refine lv_icmp_ne (tgt := 18) hx hb dX8_isPlus_11 (by decide) (fun c4 => ?_) (fun c4 => ?_)
  · have kc4 := (not_congr (cv_eq (rfl : (z3).toInt = (z3).toInt) (by decide : (1 : Int32).toInt = 1))).mp c4
    refine lv_iconst (v := 0) hx hb dX8_isPlus_18 (by decide) ?_
    refine W.widen (k := 0) (n := 0) (Nat.le_of_ble_eq_true rfl) (Nat.le_of_ble_eq_true rfl) ?_
    have cst0 : (0 : Int32).toInt = 0 := by decide
    have w5 : 0 ≤ (0 : Int32).toInt ∧ (0 : Int32).toInt ≤ 1 := by omega
    have w6 : ((0 : Int32)).toInt = (f_pls (p1).toInt.toNat).toInt / (2 : Int) ^ (p2).toInt.toNat % 2 := (by rw [pv9]; omega)
    exact W.zret (v := 0) (ty := .boolean) hx hb hr (by decide) (fun t ht hW => ⟨⟨0, (), rfl, ⟨w5, w6⟩, by rw [ht]; exact hP, hD⟩, hS.F ht⟩) hS.2.2 dX8_isPlus_19
  · have kc4 := (cv_eq (rfl : (z3).toInt = (z3).toInt) (by decide : (1 : Int32).toInt = 1)).mp c4
    refine lv_iconst (v := 1) hx hb dX8_isPlus_14 (by decide) ?_
    refine lv_goto (tgt := 19) hx hb dX8_isPlus_15 (by decide) ?_
    refine W.widen (k := 0) (n := 0) (Nat.le_of_ble_eq_true rfl) (Nat.le_of_ble_eq_true rfl) ?_
    have cst1 : (1 : Int32).toInt = 1 := by decide
    have w7 : 0 ≤ (1 : Int32).toInt ∧ (1 : Int32).toInt ≤ 1 := by omega
    have w8 : ((1 : Int32)).toInt = (f_pls (p1).toInt.toNat).toInt / (2 : Int) ^ (p2).toInt.toNat % 2 := (by rw [pv9]; omega)
    exact W.zret (v := 1) (ty := .boolean) hx hb hr (by decide) (fun t ht hW => ⟨⟨1, (), rfl, ⟨w7, w8⟩, by rw [ht]; exact hP, hD⟩, hS.F ht⟩) hS.2.2 dX8_isPlus_19

set_option maxHeartbeats 8000000 in
set_option maxRecDepth 100000 in
theorem c_X10_show (l : Launch) (dC : Nat → ClassId) (dI : Nat → Nat → Nat) (sz : Nat) (h_xx : Nat) (h_wr : Nat) (h_wb : Nat) (h_wd : Nat) (h_wh : Nat) (h_bd : Nat) (h_bnd : Nat) (h_td : Nat) (h_nam : Nat) (h_var : Nat) (h_trm : Nat) (h_ter : Nat) (h_lit : Nat) (h_vas : Nat) (h_pls : Nat) (h_fst : Nat) (v_xx : Nat → Value) (x_wr_length : Int32) (x_wr_drafted : Int32) (x_wr_held : Int32) (cy_wb : ClassId) (f_wb : Nat → Int32) (cy_wd : ClassId) (f_wd : Nat → Int32) (cy_wh : ClassId) (f_wh : Nat → Int32) (v_bd : Nat → Value) (cy_bnd : ClassId) (f_bnd : Nat → Int32) (v_td : Nat → Value) (x_td_clauses : Int32) (cy_nam : ClassId) (f_nam : Nat → Int64) (cy_var : ClassId) (f_var : Nat → Int32) (cy_trm : ClassId) (f_trm : Nat → Int32) (cy_ter : ClassId) (f_ter : Nat → Int32) (cy_lit : ClassId) (f_lit : Nat → Int32) (cy_vas : ClassId) (f_vas : Nat → Int32) (cy_pls : ClassId) (f_pls : Nat → Int32) (cy_fst : ClassId) (f_fst : Nat → Int32) (p1 : Int32) (p2 : Int32) (hx_wr_length : 0 ≤ (x_wr_length).toInt ∧ (x_wr_length).toInt ≤ 600) (hx_wr_drafted : 0 ≤ (x_wr_drafted).toInt ∧ (x_wr_drafted).toInt ≤ 616) (hx_wr_held : 0 ≤ (x_wr_held).toInt ∧ (x_wr_held).toInt ≤ 2048) (hf_wh : Rg (-127) 9599 f_wh) (hf_bnd : Rg 0 9600 f_bnd) (hx_td_clauses : 0 ≤ (x_td_clauses).toInt ∧ (x_td_clauses).toInt ≤ 16) (hf_var : Rg (-1) 7 f_var) (hf_trm : Rg 0 3 f_trm) (hf_ter : Rg 0 299 f_ter) (hf_lit : Rg 0 6 f_lit) (hf_fst : Rg 0 299 f_fst) (hn_bhz : BHZ f_bnd) (hn_tz : TZG f_var f_trm) (hn_plb : PLB f_lit f_pls (x_td_clauses).toInt) (hn_wfs : WFS (CVW f_nam f_var f_trm f_ter) (CLW f_lit f_vas f_pls f_fst) (x_td_clauses).toInt) : Met l yX10_show (Ws yX10_show cX10_show 3 (some .int)) (({ frames := 4, cells := 0, slots := 0, locals := 104 } : Room)) (PRE (dC, dI) cls [(cy_wb, .int), (cy_wd, .int), (cy_wh, .int), (cy_bnd, .int), (cy_nam, .long), (cy_var, .int), (cy_trm, .int), (cy_ter, .int), (cy_lit, .int), (cy_vas, .int), (cy_pls, .int), (cy_fst, .int)] [(h_xx, .inr (7, (mo71 v_xx (.ref h_td) (.ref h_wr)))), (h_wr, .inr (6, (mo39 (.ref h_td) (.ref h_bd) (.ref h_wb) (.int x_wr_length) (.ref h_wd) (.int x_wr_drafted) (.ref h_wh) (.int x_wr_held)))), (h_wb, .inl (cy_wb, 600, .inl f_wb)), (h_wd, .inl (cy_wd, 616, .inl f_wd)), (h_wh, .inl (cy_wh, 2048, .inl f_wh)), (h_bd, .inr (1, (mo9 v_bd (.ref h_td) (.ref h_bnd)))), (h_bnd, .inl (cy_bnd, 256, .inl f_bnd)), (h_td, .inr (5, (mo72 v_td (.ref h_nam) (.ref h_var) (.ref h_trm) (.ref h_ter) (.ref h_lit) (.ref h_vas) (.ref h_pls) (.ref h_fst) (.int x_td_clauses)))), (h_nam, .inl (cy_nam, 300, .inr (.inl f_nam))), (h_var, .inl (cy_var, 300, .inl f_var)), (h_trm, .inl (cy_trm, 300, .inl f_trm)), (h_ter, .inl (cy_ter, 900, .inl f_ter)), (h_lit, .inl (cy_lit, 16, .inl f_lit)), (h_vas, .inl (cy_vas, 16, .inl f_vas)), (h_pls, .inl (cy_pls, 16, .inl f_pls)), (h_fst, .inl (cy_fst, 96, .inl f_fst))] sz [.ref h_xx, .int p1, .int p2]) (va_Qi (fun (r : Int32) (u : (Int32) × (Int32) × (Int32) × (Nat → Int32) × (Nat → Int32) × (Nat → Int32)) => (0 ≤ (u.1).toInt ∧ (u.1).toInt ≤ 600) ∧ (0 ≤ (u.2.1).toInt ∧ (u.2.1).toInt ≤ 616) ∧ (0 ≤ (u.2.2.1).toInt ∧ (u.2.2.1).toInt ≤ 2048) ∧ (Rg (-127) 9599 u.2.2.2.2.2) ∧ (SHV (nlQ 8) (CVW f_nam f_var f_trm f_ter) (CLW f_lit f_vas f_pls f_fst) (x_td_clauses).toInt (p1).toInt (p2).toInt (r).toInt)) (fun (u : (Int32) × (Int32) × (Int32) × (Nat → Int32) × (Nat → Int32) × (Nat → Int32)) (t : State) => va_P (dC, dI) cls [(h_xx, .inr (7, (mo71 v_xx (.ref h_td) (.ref h_wr)))), (h_wr, .inr (6, (mo39 (.ref h_td) (.ref h_bd) (.ref h_wb) (.int u.1) (.ref h_wd) (.int u.2.1) (.ref h_wh) (.int u.2.2.1)))), (h_wb, .inl (cy_wb, 600, .inl u.2.2.2.1)), (h_wd, .inl (cy_wd, 616, .inl u.2.2.2.2.1)), (h_wh, .inl (cy_wh, 2048, .inl u.2.2.2.2.2)), (h_bd, .inr (1, (mo9 v_bd (.ref h_td) (.ref h_bnd)))), (h_bnd, .inl (cy_bnd, 256, .inl f_bnd)), (h_td, .inr (5, (mo72 v_td (.ref h_nam) (.ref h_var) (.ref h_trm) (.ref h_ter) (.ref h_lit) (.ref h_vas) (.ref h_pls) (.ref h_fst) (.int x_td_clauses)))), (h_nam, .inl (cy_nam, 300, .inr (.inl f_nam))), (h_var, .inl (cy_var, 300, .inl f_var)), (h_trm, .inl (cy_trm, 300, .inl f_trm)), (h_ter, .inl (cy_ter, 900, .inl f_ter)), (h_lit, .inl (cy_lit, 16, .inl f_lit)), (h_vas, .inl (cy_vas, 16, .inl f_vas)), (h_pls, .inl (cy_pls, 16, .inl f_pls)), (h_fst, .inl (cy_fst, 96, .inl f_fst))] t.heap ∧ va_D (va_A [(h_xx, .inr (7, (mo71 v_xx (.ref h_td) (.ref h_wr)))), (h_wr, .inr (6, (mo39 (.ref h_td) (.ref h_bd) (.ref h_wb) (.int x_wr_length) (.ref h_wd) (.int x_wr_drafted) (.ref h_wh) (.int x_wr_held)))), (h_wb, .inl (cy_wb, 600, .inl f_wb)), (h_wd, .inl (cy_wd, 616, .inl f_wd)), (h_wh, .inl (cy_wh, 2048, .inl f_wh)), (h_bd, .inr (1, (mo9 v_bd (.ref h_td) (.ref h_bnd)))), (h_bnd, .inl (cy_bnd, 256, .inl f_bnd)), (h_td, .inr (5, (mo72 v_td (.ref h_nam) (.ref h_var) (.ref h_trm) (.ref h_ter) (.ref h_lit) (.ref h_vas) (.ref h_pls) (.ref h_fst) (.int x_td_clauses)))), (h_nam, .inl (cy_nam, 300, .inr (.inl f_nam))), (h_var, .inl (cy_var, 300, .inl f_var)), (h_trm, .inl (cy_trm, 300, .inl f_trm)), (h_ter, .inl (cy_ter, 900, .inl f_ter)), (h_lit, .inl (cy_lit, 16, .inl f_lit)), (h_vas, .inl (cy_vas, 16, .inl f_vas)), (h_pls, .inl (cy_pls, 16, .inl f_pls)), (h_fst, .inl (cy_fst, 96, .inl f_fst))] sz) [(h_xx, .inr (7, (mo71 v_xx (.ref h_td) (.ref h_wr)))), (h_wr, .inr (6, (mo39 (.ref h_td) (.ref h_bd) (.ref h_wb) (.int u.1) (.ref h_wd) (.int u.2.1) (.ref h_wh) (.int u.2.2.1)))), (h_wb, .inl (cy_wb, 600, .inl u.2.2.2.1)), (h_wd, .inl (cy_wd, 616, .inl u.2.2.2.2.1)), (h_wh, .inl (cy_wh, 2048, .inl u.2.2.2.2.2)), (h_bd, .inr (1, (mo9 v_bd (.ref h_td) (.ref h_bnd)))), (h_bnd, .inl (cy_bnd, 256, .inl f_bnd)), (h_td, .inr (5, (mo72 v_td (.ref h_nam) (.ref h_var) (.ref h_trm) (.ref h_ter) (.ref h_lit) (.ref h_vas) (.ref h_pls) (.ref h_fst) (.int x_td_clauses)))), (h_nam, .inl (cy_nam, 300, .inr (.inl f_nam))), (h_var, .inl (cy_var, 300, .inl f_var)), (h_trm, .inl (cy_trm, 300, .inl f_trm)), (h_ter, .inl (cy_ter, 900, .inl f_ter)), (h_lit, .inl (cy_lit, 16, .inl f_lit)), (h_vas, .inl (cy_vas, 16, .inl f_vas)), (h_pls, .inl (cy_pls, 16, .inl f_pls)), (h_fst, .inl (cy_fst, 96, .inl f_fst))]) (va_A [(h_xx, .inr (7, (mo71 v_xx (.ref h_td) (.ref h_wr)))), (h_wr, .inr (6, (mo39 (.ref h_td) (.ref h_bd) (.ref h_wb) (.int x_wr_length) (.ref h_wd) (.int x_wr_drafted) (.ref h_wh) (.int x_wr_held)))), (h_wb, .inl (cy_wb, 600, .inl f_wb)), (h_wd, .inl (cy_wd, 616, .inl f_wd)), (h_wh, .inl (cy_wh, 2048, .inl f_wh)), (h_bd, .inr (1, (mo9 v_bd (.ref h_td) (.ref h_bnd)))), (h_bnd, .inl (cy_bnd, 256, .inl f_bnd)), (h_td, .inr (5, (mo72 v_td (.ref h_nam) (.ref h_var) (.ref h_trm) (.ref h_ter) (.ref h_lit) (.ref h_vas) (.ref h_pls) (.ref h_fst) (.int x_td_clauses)))), (h_nam, .inl (cy_nam, 300, .inr (.inl f_nam))), (h_var, .inl (cy_var, 300, .inl f_var)), (h_trm, .inl (cy_trm, 300, .inl f_trm)), (h_ter, .inl (cy_ter, 900, .inl f_ter)), (h_lit, .inl (cy_lit, 16, .inl f_lit)), (h_vas, .inl (cy_vas, 16, .inl f_vas)), (h_pls, .inl (cy_pls, 16, .inl f_pls)), (h_fst, .inl (cy_fst, 96, .inl f_fst))] sz)) 0 0 (va_A [(h_xx, .inr (7, (mo71 v_xx (.ref h_td) (.ref h_wr)))), (h_wr, .inr (6, (mo39 (.ref h_td) (.ref h_bd) (.ref h_wb) (.int x_wr_length) (.ref h_wd) (.int x_wr_drafted) (.ref h_wh) (.int x_wr_held)))), (h_wb, .inl (cy_wb, 600, .inl f_wb)), (h_wd, .inl (cy_wd, 616, .inl f_wd)), (h_wh, .inl (cy_wh, 2048, .inl f_wh)), (h_bd, .inr (1, (mo9 v_bd (.ref h_td) (.ref h_bnd)))), (h_bnd, .inl (cy_bnd, 256, .inl f_bnd)), (h_td, .inr (5, (mo72 v_td (.ref h_nam) (.ref h_var) (.ref h_trm) (.ref h_ter) (.ref h_lit) (.ref h_vas) (.ref h_pls) (.ref h_fst) (.int x_td_clauses)))), (h_nam, .inl (cy_nam, 300, .inr (.inl f_nam))), (h_var, .inl (cy_var, 300, .inl f_var)), (h_trm, .inl (cy_trm, 300, .inl f_trm)), (h_ter, .inl (cy_ter, 900, .inl f_ter)), (h_lit, .inl (cy_lit, 16, .inl f_lit)), (h_vas, .inl (cy_vas, 16, .inl f_vas)), (h_pls, .inl (cy_pls, 16, .inl f_pls)), (h_fst, .inl (cy_fst, 96, .inl f_fst))] sz) := by
  refine Met.ofW (cc := cX10_show) (maxL := 3) (ret := (some .int)) (by decide) rfl ?_
  intro p e s m args below meth c s₁ B hml hv
  obtain ⟨rfl, hsz, hP, hK, hD0, hN⟩ := hv
  have hx := B.exec
  have hb := B.bytes
  have hr := B.returns
  have hts := atoms_spec (ws := Ws yX10_show cX10_show 3 (some .int)) B.pre
  have hT : ∀ w ∈ WALL, w ∈ Ws yX10_show cX10_show 3 (some .int) := fun w h => List.mem_cons_of_mem _ h
  have hw := fun w (h : w ∈ WALL) => hts w (hT w h)
  have hown : s.vm.findClass RX10 = some m.cls := findClass_of_methodNamed B.named
  have hlocks := B.notSynchronized
  subst hsz
  have hD := hD0.self (sz := s.heap.size)
  generalize hAe : va_A [(h_xx, .inr (7, (mo71 v_xx (.ref h_td) (.ref h_wr)))), (h_wr, .inr (6, (mo39 (.ref h_td) (.ref h_bd) (.ref h_wb) (.int x_wr_length) (.ref h_wd) (.int x_wr_drafted) (.ref h_wh) (.int x_wr_held)))), (h_wb, .inl (cy_wb, 600, .inl f_wb)), (h_wd, .inl (cy_wd, 616, .inl f_wd)), (h_wh, .inl (cy_wh, 2048, .inl f_wh)), (h_bd, .inr (1, (mo9 v_bd (.ref h_td) (.ref h_bnd)))), (h_bnd, .inl (cy_bnd, 256, .inl f_bnd)), (h_td, .inr (5, (mo72 v_td (.ref h_nam) (.ref h_var) (.ref h_trm) (.ref h_ter) (.ref h_lit) (.ref h_vas) (.ref h_pls) (.ref h_fst) (.int x_td_clauses)))), (h_nam, .inl (cy_nam, 300, .inr (.inl f_nam))), (h_var, .inl (cy_var, 300, .inl f_var)), (h_trm, .inl (cy_trm, 300, .inl f_trm)), (h_ter, .inl (cy_ter, 900, .inl f_ter)), (h_lit, .inl (cy_lit, 16, .inl f_lit)), (h_vas, .inl (cy_vas, 16, .inl f_vas)), (h_pls, .inl (cy_pls, 16, .inl f_pls)), (h_fst, .inl (cy_fst, 96, .inl f_fst))] s.heap.size = A at hD ⊢
  have hA : ∀ q : Nat, s.heap.size ≤ q → A q := fun q h => by rw [← hAe]; exact Or.inr h
  have hS : va_S A s.heap s.heap [] := va_S.rf
  have hl := lv_entry ([.ref h_xx, .int p1, .int p2]) (n := 3) (Nat.le_of_ble_eq_true rfl)
  rw [lg_entry_eq]
  generalize (lg_sl ([.ref h_xx, .int p1, .int p2]) ++ List.replicate (3 - (lg_sl ([.ref h_xx, .int p1, .int p2])).length) Slot.unset).toArray = ls at hl ⊢
  have hl : lv_has ls 3 [(0, .ref h_xx), (1, .int p1), (2, .int p2)] := hl
  refine lv_aload_n hx hb dX10_show_0 rfl (lv_at hl 0 rfl) ?_
  refine va_get (D := (dC, dI)) (ci := 7) (v := .ref h_td) (C := RX10) (T := TX10) (N := 8) hx hb hw iwX10 hown hK hP 0 rfl rfl 1 (by decide) (hw _ w_f_X10_19) (fun _ h9 => h9) rfl dX10_show_1 ?_
  refine lv_iload_n hx hb dX10_show_4 rfl (lv_at hl 1 rfl) ?_
  refine lv_iload_n hx hb dX10_show_5 rfl (lv_at hl 2 rfl) ?_
  obtain ⟨vq1, evq1⟩ := mq72_1 v_td (.ref h_nam) (.ref h_var) (.ref h_trm) (.ref h_ter) (.ref h_vas) (.ref h_pls) (.ref h_fst)
  replace hP : va_P (dC, dI) cls [(h_xx, .inr (7, (mo71 v_xx (.ref h_td) (.ref h_wr)))), (h_wr, .inr (6, (mo39 (.ref h_td) (.ref h_bd) (.ref h_wb) (.int x_wr_length) (.ref h_wd) (.int x_wr_drafted) (.ref h_wh) (.int x_wr_held)))), (h_wb, .inl (cy_wb, 600, .inl f_wb)), (h_wd, .inl (cy_wd, 616, .inl f_wd)), (h_wh, .inl (cy_wh, 2048, .inl f_wh)), (h_bd, .inr (1, (mo9 v_bd (.ref h_td) (.ref h_bnd)))), (h_bnd, .inl (cy_bnd, 256, .inl f_bnd)), (h_td, .inr (5, (mo1 vq1 (.ref h_lit) (.int x_td_clauses)))), (h_nam, .inl (cy_nam, 300, .inr (.inl f_nam))), (h_var, .inl (cy_var, 300, .inl f_var)), (h_trm, .inl (cy_trm, 300, .inl f_trm)), (h_ter, .inl (cy_ter, 900, .inl f_ter)), (h_lit, .inl (cy_lit, 16, .inl f_lit)), (h_vas, .inl (cy_vas, 16, .inl f_vas)), (h_pls, .inl (cy_pls, 16, .inl f_pls)), (h_fst, .inl (cy_fst, 96, .inl f_fst))] s.heap := by rw [evq1]; exact hP
  replace hD : va_D A [(h_xx, .inr (7, (mo71 v_xx (.ref h_td) (.ref h_wr)))), (h_wr, .inr (6, (mo39 (.ref h_td) (.ref h_bd) (.ref h_wb) (.int x_wr_length) (.ref h_wd) (.int x_wr_drafted) (.ref h_wh) (.int x_wr_held)))), (h_wb, .inl (cy_wb, 600, .inl f_wb)), (h_wd, .inl (cy_wd, 616, .inl f_wd)), (h_wh, .inl (cy_wh, 2048, .inl f_wh)), (h_bd, .inr (1, (mo9 v_bd (.ref h_td) (.ref h_bnd)))), (h_bnd, .inl (cy_bnd, 256, .inl f_bnd)), (h_td, .inr (5, (mo1 vq1 (.ref h_lit) (.int x_td_clauses)))), (h_nam, .inl (cy_nam, 300, .inr (.inl f_nam))), (h_var, .inl (cy_var, 300, .inl f_var)), (h_trm, .inl (cy_trm, 300, .inl f_trm)), (h_ter, .inl (cy_ter, 900, .inl f_ter)), (h_lit, .inl (cy_lit, 16, .inl f_lit)), (h_vas, .inl (cy_vas, 16, .inl f_vas)), (h_pls, .inl (cy_pls, 16, .inl f_pls)), (h_fst, .inl (cy_fst, 96, .inl f_fst))] := by rw [evq1]; exact hD
  have hPc := hP.sub (ws' := [(h_td, .inr (5, (mo1 vq1 (.ref h_lit) (.int x_td_clauses)))), (h_lit, .inl (cy_lit, 16, .inl f_lit))]) [7, 12] rfl
  have hDc := hD.sub (ws' := [(h_td, .inr (5, (mo1 vq1 (.ref h_lit) (.int x_td_clauses)))), (h_lit, .inl (cy_lit, 16, .inl f_lit))]) [7, 12] (by decide) rfl
  have hKc := hK.sub (tys' := [(cy_lit, .int)]) [8] rfl
  have hFc := va_free (wc := [(h_td, .inr (5, (mo1 vq1 (.ref h_lit) (.int x_td_clauses)))), (h_lit, .inl (cy_lit, 16, .inl f_lit))]) hD hS hA [7, 12] rfl
  refine va_calli (va_runVN (As := [.int p1, .int p2]) (rest := []) ⟨hx, hb, hml, hown, hts⟩ (c_X8_isLiteral_e l dC dI s.heap.size h_td h_lit vq1 x_td_clauses cy_lit f_lit p1 p2 (by first | exact hx_td_clauses | omega) hf_lit) ⟨va_cnB (host := "OppositePairs") 2 hts (gd hT w_code_X8_isLiteral) rfl rfl rfl (hN _ n_m_X10_111) (hw _ w_ini_X8) (by decide +kernel) ⟨(Nat.le_of_ble_eq_true rfl), (Nat.le_of_ble_eq_true rfl)⟩, hw _ w_instanceMethod_X8_isLiteral, hw _ ws_sel_X8_isLiteral⟩ ⟨pre_blind, va_recv hK hP (ci := 5) (q0 := 7) rfl rfl, pre_of hPc hKc hDc hN⟩ rfl rfl hl.1 rfl (lv_room (Nat.le_of_ble_eq_true rfl)) dX10_show_6 ⟨(Nat.le_of_ble_eq_true rfl), (Nat.le_of_ble_eq_true rfl)⟩) hS (fun q _ h => hFc q h) hFc (fun r2 u t H locs ht hvm hq hB hz1 hk1 hS9 => ?_)
  obtain ⟨hP1, hD1⟩ := hB
  rw [ht] at hP1
  obtain ⟨hP9, hD9⟩ := va_join (wr := [(h_xx, .inr (7, (mo71 v_xx (.ref h_td) (.ref h_wr)))), (h_wr, .inr (6, (mo39 (.ref h_td) (.ref h_bd) (.ref h_wb) (.int x_wr_length) (.ref h_wd) (.int x_wr_drafted) (.ref h_wh) (.int x_wr_held)))), (h_wb, .inl (cy_wb, 600, .inl f_wb)), (h_wd, .inl (cy_wd, 616, .inl f_wd)), (h_wh, .inl (cy_wh, 2048, .inl f_wh)), (h_bd, .inr (1, (mo9 v_bd (.ref h_td) (.ref h_bnd)))), (h_bnd, .inl (cy_bnd, 256, .inl f_bnd)), (h_nam, .inl (cy_nam, 300, .inr (.inl f_nam))), (h_var, .inl (cy_var, 300, .inl f_var)), (h_trm, .inl (cy_trm, 300, .inl f_trm)), (h_ter, .inl (cy_ter, 900, .inl f_ter)), (h_vas, .inl (cy_vas, 16, .inl f_vas)), (h_pls, .inl (cy_pls, 16, .inl f_pls)), (h_fst, .inl (cy_fst, 96, .inl f_fst))]) (w1 := [(h_td, .inr (5, (mo1 vq1 (.ref h_lit) (.int x_td_clauses)))), (h_lit, .inl (cy_lit, 16, .inl f_lit))]) hP hD [7, 12] [0, 1, 2, 3, 4, 5, 6, 8, 9, 10, 11, 13, 14, 15] rfl rfl (by decide) (by decide) hk1 hFc hP1 hD1
  clear hP hD hS hPc hDc hKc hFc hP1 hD1 hk1 hz1 ht hvm
  have hP : va_P (dC, dI) cls [(h_xx, .inr (7, (mo71 v_xx (.ref h_td) (.ref h_wr)))), (h_wr, .inr (6, (mo39 (.ref h_td) (.ref h_bd) (.ref h_wb) (.int x_wr_length) (.ref h_wd) (.int x_wr_drafted) (.ref h_wh) (.int x_wr_held)))), (h_wb, .inl (cy_wb, 600, .inl f_wb)), (h_wd, .inl (cy_wd, 616, .inl f_wd)), (h_wh, .inl (cy_wh, 2048, .inl f_wh)), (h_bd, .inr (1, (mo9 v_bd (.ref h_td) (.ref h_bnd)))), (h_bnd, .inl (cy_bnd, 256, .inl f_bnd)), (h_nam, .inl (cy_nam, 300, .inr (.inl f_nam))), (h_var, .inl (cy_var, 300, .inl f_var)), (h_trm, .inl (cy_trm, 300, .inl f_trm)), (h_ter, .inl (cy_ter, 900, .inl f_ter)), (h_vas, .inl (cy_vas, 16, .inl f_vas)), (h_pls, .inl (cy_pls, 16, .inl f_pls)), (h_fst, .inl (cy_fst, 96, .inl f_fst)), (h_td, .inr (5, (mo1 vq1 (.ref h_lit) (.int x_td_clauses)))), (h_lit, .inl (cy_lit, 16, .inl f_lit))] H := hP9
  have hD : va_D A [(h_xx, .inr (7, (mo71 v_xx (.ref h_td) (.ref h_wr)))), (h_wr, .inr (6, (mo39 (.ref h_td) (.ref h_bd) (.ref h_wb) (.int x_wr_length) (.ref h_wd) (.int x_wr_drafted) (.ref h_wh) (.int x_wr_held)))), (h_wb, .inl (cy_wb, 600, .inl f_wb)), (h_wd, .inl (cy_wd, 616, .inl f_wd)), (h_wh, .inl (cy_wh, 2048, .inl f_wh)), (h_bd, .inr (1, (mo9 v_bd (.ref h_td) (.ref h_bnd)))), (h_bnd, .inl (cy_bnd, 256, .inl f_bnd)), (h_nam, .inl (cy_nam, 300, .inr (.inl f_nam))), (h_var, .inl (cy_var, 300, .inl f_var)), (h_trm, .inl (cy_trm, 300, .inl f_trm)), (h_ter, .inl (cy_ter, 900, .inl f_ter)), (h_vas, .inl (cy_vas, 16, .inl f_vas)), (h_pls, .inl (cy_pls, 16, .inl f_pls)), (h_fst, .inl (cy_fst, 96, .inl f_fst)), (h_td, .inr (5, (mo1 vq1 (.ref h_lit) (.int x_td_clauses)))), (h_lit, .inl (cy_lit, 16, .inl f_lit))] := hD9
  have hS := hS9
  clear hP9 hD9 hS9
  rw [evq1] at hP hD
  replace hP : va_P (dC, dI) cls [(h_xx, .inr (7, (mo71 v_xx (.ref h_td) (.ref h_wr)))), (h_wr, .inr (6, (mo39 (.ref h_td) (.ref h_bd) (.ref h_wb) (.int x_wr_length) (.ref h_wd) (.int x_wr_drafted) (.ref h_wh) (.int x_wr_held)))), (h_wb, .inl (cy_wb, 600, .inl f_wb)), (h_wd, .inl (cy_wd, 616, .inl f_wd)), (h_wh, .inl (cy_wh, 2048, .inl f_wh)), (h_bd, .inr (1, (mo9 v_bd (.ref h_td) (.ref h_bnd)))), (h_bnd, .inl (cy_bnd, 256, .inl f_bnd)), (h_nam, .inl (cy_nam, 300, .inr (.inl f_nam))), (h_var, .inl (cy_var, 300, .inl f_var)), (h_trm, .inl (cy_trm, 300, .inl f_trm)), (h_ter, .inl (cy_ter, 900, .inl f_ter)), (h_vas, .inl (cy_vas, 16, .inl f_vas)), (h_pls, .inl (cy_pls, 16, .inl f_pls)), (h_fst, .inl (cy_fst, 96, .inl f_fst)), (h_td, .inr (5, (mo72 v_td (.ref h_nam) (.ref h_var) (.ref h_trm) (.ref h_ter) (.ref h_lit) (.ref h_vas) (.ref h_pls) (.ref h_fst) (.int x_td_clauses)))), (h_lit, .inl (cy_lit, 16, .inl f_lit))] H := hP
  replace hD : va_D A [(h_xx, .inr (7, (mo71 v_xx (.ref h_td) (.ref h_wr)))), (h_wr, .inr (6, (mo39 (.ref h_td) (.ref h_bd) (.ref h_wb) (.int x_wr_length) (.ref h_wd) (.int x_wr_drafted) (.ref h_wh) (.int x_wr_held)))), (h_wb, .inl (cy_wb, 600, .inl f_wb)), (h_wd, .inl (cy_wd, 616, .inl f_wd)), (h_wh, .inl (cy_wh, 2048, .inl f_wh)), (h_bd, .inr (1, (mo9 v_bd (.ref h_td) (.ref h_bnd)))), (h_bnd, .inl (cy_bnd, 256, .inl f_bnd)), (h_nam, .inl (cy_nam, 300, .inr (.inl f_nam))), (h_var, .inl (cy_var, 300, .inl f_var)), (h_trm, .inl (cy_trm, 300, .inl f_trm)), (h_ter, .inl (cy_ter, 900, .inl f_ter)), (h_vas, .inl (cy_vas, 16, .inl f_vas)), (h_pls, .inl (cy_pls, 16, .inl f_pls)), (h_fst, .inl (cy_fst, 96, .inl f_fst)), (h_td, .inr (5, (mo72 v_td (.ref h_nam) (.ref h_var) (.ref h_trm) (.ref h_ter) (.ref h_lit) (.ref h_vas) (.ref h_pls) (.ref h_fst) (.int x_td_clauses)))), (h_lit, .inl (cy_lit, 16, .inl f_lit))] := hD
  clear evq1 
  rcases hq with ⟨rfl, hq⟩ | ⟨rfl, hq⟩
  · replace hq : (0 ≤ ((p1)).toInt) ∧ (((p1)).toInt < ((x_td_clauses)).toInt) ∧ (0 ≤ ((p2)).toInt) ∧ (((p2)).toInt ≤ 5) ∧ (((p2)).toInt < (f_lit (Int32.toNatClampNeg (p1))).toInt) := hq
    refine lv_if_ne (tgt := 14) hx hb dX10_show_9 (by decide) (fun _ => ?_) (fun c9 => absurd c9 (by decide))
    have cl9 : (f_lit (Int32.toNatClampNeg p1)).toInt = (f_lit (p1).toInt.toNat).toInt := by rw [clamp_nat (by omega)]
    obtain ⟨ws1, ws2⟩ := hn_wfs (p1).toInt.toNat (by omega) (p2).toInt.toNat (show (((p2).toInt.toNat : Nat) : Int) < (f_lit (p1).toInt.toNat).toInt by omega)
    have pb9 : 0 ≤ (f_pls (p1).toInt.toNat).toInt ∧ (f_pls (p1).toInt.toNat).toInt < 64 := plb_64 hn_plb (by omega) (by have := hf_lit (p1).toInt.toNat; omega)
    refine lv_aload_n hx hb dX10_show_14 rfl (lv_at hl 0 rfl) ?_
    refine va_get (D := (dC, dI)) (ci := 7) (v := .ref h_wr) (C := RX10) (T := TX10) (N := 8) hx hb hw iwX10 hown hK hP 0 rfl rfl 4 (by decide) (hw _ w_f_X10_40) (fun _ h9 => h9) rfl dX10_show_15 ?_
    refine lv_aload_n hx hb dX10_show_18 rfl (lv_at hl 0 rfl) ?_
    refine lv_bipush (v := 30) hx hb dX10_show_19 (by decide) ?_
    refine lv_iload_n hx hb dX10_show_21 rfl (lv_at hl 1 rfl) ?_
    refine lv_iload_n hx hb dX10_show_22 rfl (lv_at hl 2 rfl) ?_
    obtain ⟨vq3, evq3⟩ := mq71_67 v_xx (.ref h_wr)
    replace hP : va_P (dC, dI) cls [(h_xx, .inr (7, (mo67 vq3 (.ref h_td)))), (h_wr, .inr (6, (mo39 (.ref h_td) (.ref h_bd) (.ref h_wb) (.int x_wr_length) (.ref h_wd) (.int x_wr_drafted) (.ref h_wh) (.int x_wr_held)))), (h_wb, .inl (cy_wb, 600, .inl f_wb)), (h_wd, .inl (cy_wd, 616, .inl f_wd)), (h_wh, .inl (cy_wh, 2048, .inl f_wh)), (h_bd, .inr (1, (mo9 v_bd (.ref h_td) (.ref h_bnd)))), (h_bnd, .inl (cy_bnd, 256, .inl f_bnd)), (h_nam, .inl (cy_nam, 300, .inr (.inl f_nam))), (h_var, .inl (cy_var, 300, .inl f_var)), (h_trm, .inl (cy_trm, 300, .inl f_trm)), (h_ter, .inl (cy_ter, 900, .inl f_ter)), (h_vas, .inl (cy_vas, 16, .inl f_vas)), (h_pls, .inl (cy_pls, 16, .inl f_pls)), (h_fst, .inl (cy_fst, 96, .inl f_fst)), (h_td, .inr (5, (mo72 v_td (.ref h_nam) (.ref h_var) (.ref h_trm) (.ref h_ter) (.ref h_lit) (.ref h_vas) (.ref h_pls) (.ref h_fst) (.int x_td_clauses)))), (h_lit, .inl (cy_lit, 16, .inl f_lit))] H := by rw [evq3]; exact hP
    replace hD : va_D A [(h_xx, .inr (7, (mo67 vq3 (.ref h_td)))), (h_wr, .inr (6, (mo39 (.ref h_td) (.ref h_bd) (.ref h_wb) (.int x_wr_length) (.ref h_wd) (.int x_wr_drafted) (.ref h_wh) (.int x_wr_held)))), (h_wb, .inl (cy_wb, 600, .inl f_wb)), (h_wd, .inl (cy_wd, 616, .inl f_wd)), (h_wh, .inl (cy_wh, 2048, .inl f_wh)), (h_bd, .inr (1, (mo9 v_bd (.ref h_td) (.ref h_bnd)))), (h_bnd, .inl (cy_bnd, 256, .inl f_bnd)), (h_nam, .inl (cy_nam, 300, .inr (.inl f_nam))), (h_var, .inl (cy_var, 300, .inl f_var)), (h_trm, .inl (cy_trm, 300, .inl f_trm)), (h_ter, .inl (cy_ter, 900, .inl f_ter)), (h_vas, .inl (cy_vas, 16, .inl f_vas)), (h_pls, .inl (cy_pls, 16, .inl f_pls)), (h_fst, .inl (cy_fst, 96, .inl f_fst)), (h_td, .inr (5, (mo72 v_td (.ref h_nam) (.ref h_var) (.ref h_trm) (.ref h_ter) (.ref h_lit) (.ref h_vas) (.ref h_pls) (.ref h_fst) (.int x_td_clauses)))), (h_lit, .inl (cy_lit, 16, .inl f_lit))] := by rw [evq3]; exact hD
    obtain ⟨vq4, evq4⟩ := mq72_3 v_td (.ref h_nam) (.ref h_var) (.ref h_trm) (.ref h_ter) (.ref h_lit) (.ref h_vas) (.ref h_pls) (.int x_td_clauses)
    replace hP : va_P (dC, dI) cls [(h_xx, .inr (7, (mo67 vq3 (.ref h_td)))), (h_wr, .inr (6, (mo39 (.ref h_td) (.ref h_bd) (.ref h_wb) (.int x_wr_length) (.ref h_wd) (.int x_wr_drafted) (.ref h_wh) (.int x_wr_held)))), (h_wb, .inl (cy_wb, 600, .inl f_wb)), (h_wd, .inl (cy_wd, 616, .inl f_wd)), (h_wh, .inl (cy_wh, 2048, .inl f_wh)), (h_bd, .inr (1, (mo9 v_bd (.ref h_td) (.ref h_bnd)))), (h_bnd, .inl (cy_bnd, 256, .inl f_bnd)), (h_nam, .inl (cy_nam, 300, .inr (.inl f_nam))), (h_var, .inl (cy_var, 300, .inl f_var)), (h_trm, .inl (cy_trm, 300, .inl f_trm)), (h_ter, .inl (cy_ter, 900, .inl f_ter)), (h_vas, .inl (cy_vas, 16, .inl f_vas)), (h_pls, .inl (cy_pls, 16, .inl f_pls)), (h_fst, .inl (cy_fst, 96, .inl f_fst)), (h_td, .inr (5, (mo3 vq4 (.ref h_fst)))), (h_lit, .inl (cy_lit, 16, .inl f_lit))] H := by rw [evq4]; exact hP
    replace hD : va_D A [(h_xx, .inr (7, (mo67 vq3 (.ref h_td)))), (h_wr, .inr (6, (mo39 (.ref h_td) (.ref h_bd) (.ref h_wb) (.int x_wr_length) (.ref h_wd) (.int x_wr_drafted) (.ref h_wh) (.int x_wr_held)))), (h_wb, .inl (cy_wb, 600, .inl f_wb)), (h_wd, .inl (cy_wd, 616, .inl f_wd)), (h_wh, .inl (cy_wh, 2048, .inl f_wh)), (h_bd, .inr (1, (mo9 v_bd (.ref h_td) (.ref h_bnd)))), (h_bnd, .inl (cy_bnd, 256, .inl f_bnd)), (h_nam, .inl (cy_nam, 300, .inr (.inl f_nam))), (h_var, .inl (cy_var, 300, .inl f_var)), (h_trm, .inl (cy_trm, 300, .inl f_trm)), (h_ter, .inl (cy_ter, 900, .inl f_ter)), (h_vas, .inl (cy_vas, 16, .inl f_vas)), (h_pls, .inl (cy_pls, 16, .inl f_pls)), (h_fst, .inl (cy_fst, 96, .inl f_fst)), (h_td, .inr (5, (mo3 vq4 (.ref h_fst)))), (h_lit, .inl (cy_lit, 16, .inl f_lit))] := by rw [evq4]; exact hD
    have cst30 : (30 : Int32).toInt = 30 := by decide
    have hPc := hP.sub (ws' := [(h_xx, .inr (7, (mo67 vq3 (.ref h_td)))), (h_td, .inr (5, (mo3 vq4 (.ref h_fst)))), (h_fst, .inl (cy_fst, 96, .inl f_fst))]) [0, 14, 13] rfl
    have hDc := hD.sub (ws' := [(h_xx, .inr (7, (mo67 vq3 (.ref h_td)))), (h_td, .inr (5, (mo3 vq4 (.ref h_fst)))), (h_fst, .inl (cy_fst, 96, .inl f_fst))]) [0, 14, 13] (by decide) rfl
    have hKc := hK.sub (tys' := [(cy_fst, .int)]) [11] rfl
    have hFc := va_free (wc := [(h_xx, .inr (7, (mo67 vq3 (.ref h_td)))), (h_td, .inr (5, (mo3 vq4 (.ref h_fst)))), (h_fst, .inl (cy_fst, 96, .inl f_fst))]) hD hS hA [0, 14, 13] rfl
    refine va_calli (va_runV (As := [.int 30, .int p1, .int p2]) (rest := [.ref h_wr]) ⟨hx, hb, hml, hown, hts⟩ (c_X10_place l dC dI H.size h_xx h_td h_fst vq3 vq4 cy_fst f_fst 30 p1 p2 hf_fst (by omega) (by omega) (by omega)) (cwV 3 hts (gv hT w_m_X10_122 w_instanceMethod_X10_place ws_sel_X10_place w_ini_X10 w_code_X10_place) rfl rfl rfl (by decide +kernel) ⟨(Nat.le_of_ble_eq_true rfl), (Nat.le_of_ble_eq_true rfl)⟩) ⟨pre_blind, va_recv hK hP (ci := 7) (q0 := 0) rfl rfl, pre_of hPc hKc hDc hN⟩ rfl rfl hl.1 rfl (lv_room (Nat.le_of_ble_eq_true rfl)) dX10_show_23 ⟨(Nat.le_of_ble_eq_true rfl), (Nat.le_of_ble_eq_true rfl)⟩) hS (fun q _ h => hFc q h) hFc (fun r5 u t H locs ht hvm hq hB hz1 hk1 hS9 => ?_)
    obtain ⟨hP1, hD1⟩ := hB
    rw [ht] at hP1
    obtain ⟨hP9, hD9⟩ := va_join (wr := [(h_wr, .inr (6, (mo39 (.ref h_td) (.ref h_bd) (.ref h_wb) (.int x_wr_length) (.ref h_wd) (.int x_wr_drafted) (.ref h_wh) (.int x_wr_held)))), (h_wb, .inl (cy_wb, 600, .inl f_wb)), (h_wd, .inl (cy_wd, 616, .inl f_wd)), (h_wh, .inl (cy_wh, 2048, .inl f_wh)), (h_bd, .inr (1, (mo9 v_bd (.ref h_td) (.ref h_bnd)))), (h_bnd, .inl (cy_bnd, 256, .inl f_bnd)), (h_nam, .inl (cy_nam, 300, .inr (.inl f_nam))), (h_var, .inl (cy_var, 300, .inl f_var)), (h_trm, .inl (cy_trm, 300, .inl f_trm)), (h_ter, .inl (cy_ter, 900, .inl f_ter)), (h_vas, .inl (cy_vas, 16, .inl f_vas)), (h_pls, .inl (cy_pls, 16, .inl f_pls)), (h_lit, .inl (cy_lit, 16, .inl f_lit))]) (w1 := [(h_xx, .inr (7, (mo67 vq3 (.ref h_td)))), (h_td, .inr (5, (mo3 vq4 (.ref h_fst)))), (h_fst, .inl (cy_fst, 96, .inl f_fst))]) hP hD [0, 14, 13] [1, 2, 3, 4, 5, 6, 7, 8, 9, 10, 11, 12, 15] rfl rfl (by decide) (by decide) hk1 hFc hP1 hD1
    clear hP hD hS hPc hDc hKc hFc hP1 hD1 hk1 hz1 ht hvm
    have hP : va_P (dC, dI) cls [(h_wr, .inr (6, (mo39 (.ref h_td) (.ref h_bd) (.ref h_wb) (.int x_wr_length) (.ref h_wd) (.int x_wr_drafted) (.ref h_wh) (.int x_wr_held)))), (h_wb, .inl (cy_wb, 600, .inl f_wb)), (h_wd, .inl (cy_wd, 616, .inl f_wd)), (h_wh, .inl (cy_wh, 2048, .inl f_wh)), (h_bd, .inr (1, (mo9 v_bd (.ref h_td) (.ref h_bnd)))), (h_bnd, .inl (cy_bnd, 256, .inl f_bnd)), (h_nam, .inl (cy_nam, 300, .inr (.inl f_nam))), (h_var, .inl (cy_var, 300, .inl f_var)), (h_trm, .inl (cy_trm, 300, .inl f_trm)), (h_ter, .inl (cy_ter, 900, .inl f_ter)), (h_vas, .inl (cy_vas, 16, .inl f_vas)), (h_pls, .inl (cy_pls, 16, .inl f_pls)), (h_lit, .inl (cy_lit, 16, .inl f_lit)), (h_xx, .inr (7, (mo67 vq3 (.ref h_td)))), (h_td, .inr (5, (mo3 vq4 (.ref h_fst)))), (h_fst, .inl (cy_fst, 96, .inl f_fst))] H := hP9
    have hD : va_D A [(h_wr, .inr (6, (mo39 (.ref h_td) (.ref h_bd) (.ref h_wb) (.int x_wr_length) (.ref h_wd) (.int x_wr_drafted) (.ref h_wh) (.int x_wr_held)))), (h_wb, .inl (cy_wb, 600, .inl f_wb)), (h_wd, .inl (cy_wd, 616, .inl f_wd)), (h_wh, .inl (cy_wh, 2048, .inl f_wh)), (h_bd, .inr (1, (mo9 v_bd (.ref h_td) (.ref h_bnd)))), (h_bnd, .inl (cy_bnd, 256, .inl f_bnd)), (h_nam, .inl (cy_nam, 300, .inr (.inl f_nam))), (h_var, .inl (cy_var, 300, .inl f_var)), (h_trm, .inl (cy_trm, 300, .inl f_trm)), (h_ter, .inl (cy_ter, 900, .inl f_ter)), (h_vas, .inl (cy_vas, 16, .inl f_vas)), (h_pls, .inl (cy_pls, 16, .inl f_pls)), (h_lit, .inl (cy_lit, 16, .inl f_lit)), (h_xx, .inr (7, (mo67 vq3 (.ref h_td)))), (h_td, .inr (5, (mo3 vq4 (.ref h_fst)))), (h_fst, .inl (cy_fst, 96, .inl f_fst))] := hD9
    have hS := hS9
    clear hP9 hD9 hS9
    rw [evq3] at hP hD
    replace hP : va_P (dC, dI) cls [(h_wr, .inr (6, (mo39 (.ref h_td) (.ref h_bd) (.ref h_wb) (.int x_wr_length) (.ref h_wd) (.int x_wr_drafted) (.ref h_wh) (.int x_wr_held)))), (h_wb, .inl (cy_wb, 600, .inl f_wb)), (h_wd, .inl (cy_wd, 616, .inl f_wd)), (h_wh, .inl (cy_wh, 2048, .inl f_wh)), (h_bd, .inr (1, (mo9 v_bd (.ref h_td) (.ref h_bnd)))), (h_bnd, .inl (cy_bnd, 256, .inl f_bnd)), (h_nam, .inl (cy_nam, 300, .inr (.inl f_nam))), (h_var, .inl (cy_var, 300, .inl f_var)), (h_trm, .inl (cy_trm, 300, .inl f_trm)), (h_ter, .inl (cy_ter, 900, .inl f_ter)), (h_vas, .inl (cy_vas, 16, .inl f_vas)), (h_pls, .inl (cy_pls, 16, .inl f_pls)), (h_lit, .inl (cy_lit, 16, .inl f_lit)), (h_xx, .inr (7, (mo71 v_xx (.ref h_td) (.ref h_wr)))), (h_td, .inr (5, (mo3 vq4 (.ref h_fst)))), (h_fst, .inl (cy_fst, 96, .inl f_fst))] H := hP
    replace hD : va_D A [(h_wr, .inr (6, (mo39 (.ref h_td) (.ref h_bd) (.ref h_wb) (.int x_wr_length) (.ref h_wd) (.int x_wr_drafted) (.ref h_wh) (.int x_wr_held)))), (h_wb, .inl (cy_wb, 600, .inl f_wb)), (h_wd, .inl (cy_wd, 616, .inl f_wd)), (h_wh, .inl (cy_wh, 2048, .inl f_wh)), (h_bd, .inr (1, (mo9 v_bd (.ref h_td) (.ref h_bnd)))), (h_bnd, .inl (cy_bnd, 256, .inl f_bnd)), (h_nam, .inl (cy_nam, 300, .inr (.inl f_nam))), (h_var, .inl (cy_var, 300, .inl f_var)), (h_trm, .inl (cy_trm, 300, .inl f_trm)), (h_ter, .inl (cy_ter, 900, .inl f_ter)), (h_vas, .inl (cy_vas, 16, .inl f_vas)), (h_pls, .inl (cy_pls, 16, .inl f_pls)), (h_lit, .inl (cy_lit, 16, .inl f_lit)), (h_xx, .inr (7, (mo71 v_xx (.ref h_td) (.ref h_wr)))), (h_td, .inr (5, (mo3 vq4 (.ref h_fst)))), (h_fst, .inl (cy_fst, 96, .inl f_fst))] := hD
    clear evq3 
    rw [evq4] at hP hD
    replace hP : va_P (dC, dI) cls [(h_wr, .inr (6, (mo39 (.ref h_td) (.ref h_bd) (.ref h_wb) (.int x_wr_length) (.ref h_wd) (.int x_wr_drafted) (.ref h_wh) (.int x_wr_held)))), (h_wb, .inl (cy_wb, 600, .inl f_wb)), (h_wd, .inl (cy_wd, 616, .inl f_wd)), (h_wh, .inl (cy_wh, 2048, .inl f_wh)), (h_bd, .inr (1, (mo9 v_bd (.ref h_td) (.ref h_bnd)))), (h_bnd, .inl (cy_bnd, 256, .inl f_bnd)), (h_nam, .inl (cy_nam, 300, .inr (.inl f_nam))), (h_var, .inl (cy_var, 300, .inl f_var)), (h_trm, .inl (cy_trm, 300, .inl f_trm)), (h_ter, .inl (cy_ter, 900, .inl f_ter)), (h_vas, .inl (cy_vas, 16, .inl f_vas)), (h_pls, .inl (cy_pls, 16, .inl f_pls)), (h_lit, .inl (cy_lit, 16, .inl f_lit)), (h_xx, .inr (7, (mo71 v_xx (.ref h_td) (.ref h_wr)))), (h_td, .inr (5, (mo72 v_td (.ref h_nam) (.ref h_var) (.ref h_trm) (.ref h_ter) (.ref h_lit) (.ref h_vas) (.ref h_pls) (.ref h_fst) (.int x_td_clauses)))), (h_fst, .inl (cy_fst, 96, .inl f_fst))] H := hP
    replace hD : va_D A [(h_wr, .inr (6, (mo39 (.ref h_td) (.ref h_bd) (.ref h_wb) (.int x_wr_length) (.ref h_wd) (.int x_wr_drafted) (.ref h_wh) (.int x_wr_held)))), (h_wb, .inl (cy_wb, 600, .inl f_wb)), (h_wd, .inl (cy_wd, 616, .inl f_wd)), (h_wh, .inl (cy_wh, 2048, .inl f_wh)), (h_bd, .inr (1, (mo9 v_bd (.ref h_td) (.ref h_bnd)))), (h_bnd, .inl (cy_bnd, 256, .inl f_bnd)), (h_nam, .inl (cy_nam, 300, .inr (.inl f_nam))), (h_var, .inl (cy_var, 300, .inl f_var)), (h_trm, .inl (cy_trm, 300, .inl f_trm)), (h_ter, .inl (cy_ter, 900, .inl f_ter)), (h_vas, .inl (cy_vas, 16, .inl f_vas)), (h_pls, .inl (cy_pls, 16, .inl f_pls)), (h_lit, .inl (cy_lit, 16, .inl f_lit)), (h_xx, .inr (7, (mo71 v_xx (.ref h_td) (.ref h_wr)))), (h_td, .inr (5, (mo72 v_td (.ref h_nam) (.ref h_var) (.ref h_trm) (.ref h_ter) (.ref h_lit) (.ref h_vas) (.ref h_pls) (.ref h_fst) (.int x_td_clauses)))), (h_fst, .inl (cy_fst, 96, .inl f_fst))] := hD
    clear evq4 
    obtain ⟨k6, k7, k8⟩ := hq
    replace k6 : 0 ≤ (r5).toInt ∧ (r5).toInt ≤ 9599 := k6
    replace k7 : ((r5)).toInt = 300 * ((30 : Int32)).toInt + (f_fst (6 * ((p1)).toInt.toNat + ((p2)).toInt.toNat)).toInt := k7
    replace k8 : 0 ≤ (f_fst (6 * ((p1)).toInt.toNat + ((p2)).toInt.toNat)).toInt ∧ (f_fst (6 * ((p1)).toInt.toNat + ((p2)).toInt.toNat)).toInt ≤ 299 := k8
    have pz9 : ((r5).toInt - 9000).toNat = Int32.toNatClampNeg (f_fst (6 * (p1).toInt.toNat + (p2).toInt.toNat)) := by rw [clamp_nat (by omega)]; omega
    have wg9 : WGX (CVW f_nam f_var f_trm f_ter) 7 ((r5).toInt - 9000).toNat := by rw [pz9]; exact ws1
    have wl9 : lnX (nlQ 8) (CVW f_nam f_var f_trm f_ter) 7 ((r5).toInt - 9000).toNat ≤ 599 + (f_pls (p1).toInt.toNat).toInt / (2 : Int) ^ (p2).toInt.toNat % 2 := by rw [pz9]; exact ws2
    refine lv_aload_n hx hb dX10_show_26 rfl (lv_at hl 0 rfl) ?_
    refine va_get (D := (dC, dI)) (ci := 7) (v := .ref h_td) (C := RX10) (T := TX10) (N := 8) hx hb hw iwX10 hown hK hP 13 rfl rfl 1 (by decide) (hw _ w_f_X10_19) (fun _ h9 => h9) rfl dX10_show_27 ?_
    refine lv_iload_n hx hb dX10_show_30 rfl (lv_at hl 1 rfl) ?_
    refine lv_iload_n hx hb dX10_show_31 rfl (lv_at hl 2 rfl) ?_
    obtain ⟨vq9, evq9⟩ := mq72_2 v_td (.ref h_nam) (.ref h_var) (.ref h_trm) (.ref h_ter) (.ref h_lit) (.ref h_vas) (.ref h_fst) (.int x_td_clauses)
    replace hP : va_P (dC, dI) cls [(h_wr, .inr (6, (mo39 (.ref h_td) (.ref h_bd) (.ref h_wb) (.int x_wr_length) (.ref h_wd) (.int x_wr_drafted) (.ref h_wh) (.int x_wr_held)))), (h_wb, .inl (cy_wb, 600, .inl f_wb)), (h_wd, .inl (cy_wd, 616, .inl f_wd)), (h_wh, .inl (cy_wh, 2048, .inl f_wh)), (h_bd, .inr (1, (mo9 v_bd (.ref h_td) (.ref h_bnd)))), (h_bnd, .inl (cy_bnd, 256, .inl f_bnd)), (h_nam, .inl (cy_nam, 300, .inr (.inl f_nam))), (h_var, .inl (cy_var, 300, .inl f_var)), (h_trm, .inl (cy_trm, 300, .inl f_trm)), (h_ter, .inl (cy_ter, 900, .inl f_ter)), (h_vas, .inl (cy_vas, 16, .inl f_vas)), (h_pls, .inl (cy_pls, 16, .inl f_pls)), (h_lit, .inl (cy_lit, 16, .inl f_lit)), (h_xx, .inr (7, (mo71 v_xx (.ref h_td) (.ref h_wr)))), (h_td, .inr (5, (mo2 vq9 (.ref h_pls)))), (h_fst, .inl (cy_fst, 96, .inl f_fst))] H := by rw [evq9]; exact hP
    replace hD : va_D A [(h_wr, .inr (6, (mo39 (.ref h_td) (.ref h_bd) (.ref h_wb) (.int x_wr_length) (.ref h_wd) (.int x_wr_drafted) (.ref h_wh) (.int x_wr_held)))), (h_wb, .inl (cy_wb, 600, .inl f_wb)), (h_wd, .inl (cy_wd, 616, .inl f_wd)), (h_wh, .inl (cy_wh, 2048, .inl f_wh)), (h_bd, .inr (1, (mo9 v_bd (.ref h_td) (.ref h_bnd)))), (h_bnd, .inl (cy_bnd, 256, .inl f_bnd)), (h_nam, .inl (cy_nam, 300, .inr (.inl f_nam))), (h_var, .inl (cy_var, 300, .inl f_var)), (h_trm, .inl (cy_trm, 300, .inl f_trm)), (h_ter, .inl (cy_ter, 900, .inl f_ter)), (h_vas, .inl (cy_vas, 16, .inl f_vas)), (h_pls, .inl (cy_pls, 16, .inl f_pls)), (h_lit, .inl (cy_lit, 16, .inl f_lit)), (h_xx, .inr (7, (mo71 v_xx (.ref h_td) (.ref h_wr)))), (h_td, .inr (5, (mo2 vq9 (.ref h_pls)))), (h_fst, .inl (cy_fst, 96, .inl f_fst))] := by rw [evq9]; exact hD
    have hPc := hP.sub (ws' := [(h_td, .inr (5, (mo2 vq9 (.ref h_pls)))), (h_pls, .inl (cy_pls, 16, .inl f_pls))]) [14, 11] rfl
    have hDc := hD.sub (ws' := [(h_td, .inr (5, (mo2 vq9 (.ref h_pls)))), (h_pls, .inl (cy_pls, 16, .inl f_pls))]) [14, 11] (by decide) rfl
    have hKc := hK.sub (tys' := [(cy_pls, .int)]) [10] rfl
    have hFc := va_free (wc := [(h_td, .inr (5, (mo2 vq9 (.ref h_pls)))), (h_pls, .inl (cy_pls, 16, .inl f_pls))]) hD hS hA [14, 11] rfl
    refine va_calli (va_runVN (As := [.int p1, .int p2]) (rest := [.int r5, .ref h_wr]) ⟨hx, hb, hml, hown, hts⟩ (c_X8_isPlus_e l dC dI H.size h_td h_pls vq9 cy_pls f_pls p1 p2 (by omega) (by omega) pb9) ⟨va_cnB (host := "OppositePairs") 2 hts (gd hT w_code_X8_isPlus) rfl rfl rfl (hN _ n_m_X10_125) (hw _ w_ini_X8) (by decide +kernel) ⟨(Nat.le_of_ble_eq_true rfl), (Nat.le_of_ble_eq_true rfl)⟩, hw _ w_instanceMethod_X8_isPlus, hw _ ws_sel_X8_isPlus⟩ ⟨pre_blind, va_recv hK hP (ci := 5) (q0 := 14) rfl rfl, pre_of hPc hKc hDc hN⟩ rfl rfl hl.1 rfl (lv_room (Nat.le_of_ble_eq_true rfl)) dX10_show_32 ⟨(Nat.le_of_ble_eq_true rfl), (Nat.le_of_ble_eq_true rfl)⟩) hS (fun q _ h => hFc q h) hFc (fun r10 u t H locs ht hvm hq hB hz1 hk1 hS9 => ?_)
    obtain ⟨hP1, hD1⟩ := hB
    rw [ht] at hP1
    obtain ⟨hP9, hD9⟩ := va_join (wr := [(h_wr, .inr (6, (mo39 (.ref h_td) (.ref h_bd) (.ref h_wb) (.int x_wr_length) (.ref h_wd) (.int x_wr_drafted) (.ref h_wh) (.int x_wr_held)))), (h_wb, .inl (cy_wb, 600, .inl f_wb)), (h_wd, .inl (cy_wd, 616, .inl f_wd)), (h_wh, .inl (cy_wh, 2048, .inl f_wh)), (h_bd, .inr (1, (mo9 v_bd (.ref h_td) (.ref h_bnd)))), (h_bnd, .inl (cy_bnd, 256, .inl f_bnd)), (h_nam, .inl (cy_nam, 300, .inr (.inl f_nam))), (h_var, .inl (cy_var, 300, .inl f_var)), (h_trm, .inl (cy_trm, 300, .inl f_trm)), (h_ter, .inl (cy_ter, 900, .inl f_ter)), (h_vas, .inl (cy_vas, 16, .inl f_vas)), (h_lit, .inl (cy_lit, 16, .inl f_lit)), (h_xx, .inr (7, (mo71 v_xx (.ref h_td) (.ref h_wr)))), (h_fst, .inl (cy_fst, 96, .inl f_fst))]) (w1 := [(h_td, .inr (5, (mo2 vq9 (.ref h_pls)))), (h_pls, .inl (cy_pls, 16, .inl f_pls))]) hP hD [14, 11] [0, 1, 2, 3, 4, 5, 6, 7, 8, 9, 10, 12, 13, 15] rfl rfl (by decide) (by decide) hk1 hFc hP1 hD1
    clear hP hD hS hPc hDc hKc hFc hP1 hD1 hk1 hz1 ht hvm
    have hP : va_P (dC, dI) cls [(h_wr, .inr (6, (mo39 (.ref h_td) (.ref h_bd) (.ref h_wb) (.int x_wr_length) (.ref h_wd) (.int x_wr_drafted) (.ref h_wh) (.int x_wr_held)))), (h_wb, .inl (cy_wb, 600, .inl f_wb)), (h_wd, .inl (cy_wd, 616, .inl f_wd)), (h_wh, .inl (cy_wh, 2048, .inl f_wh)), (h_bd, .inr (1, (mo9 v_bd (.ref h_td) (.ref h_bnd)))), (h_bnd, .inl (cy_bnd, 256, .inl f_bnd)), (h_nam, .inl (cy_nam, 300, .inr (.inl f_nam))), (h_var, .inl (cy_var, 300, .inl f_var)), (h_trm, .inl (cy_trm, 300, .inl f_trm)), (h_ter, .inl (cy_ter, 900, .inl f_ter)), (h_vas, .inl (cy_vas, 16, .inl f_vas)), (h_lit, .inl (cy_lit, 16, .inl f_lit)), (h_xx, .inr (7, (mo71 v_xx (.ref h_td) (.ref h_wr)))), (h_fst, .inl (cy_fst, 96, .inl f_fst)), (h_td, .inr (5, (mo2 vq9 (.ref h_pls)))), (h_pls, .inl (cy_pls, 16, .inl f_pls))] H := hP9
    have hD : va_D A [(h_wr, .inr (6, (mo39 (.ref h_td) (.ref h_bd) (.ref h_wb) (.int x_wr_length) (.ref h_wd) (.int x_wr_drafted) (.ref h_wh) (.int x_wr_held)))), (h_wb, .inl (cy_wb, 600, .inl f_wb)), (h_wd, .inl (cy_wd, 616, .inl f_wd)), (h_wh, .inl (cy_wh, 2048, .inl f_wh)), (h_bd, .inr (1, (mo9 v_bd (.ref h_td) (.ref h_bnd)))), (h_bnd, .inl (cy_bnd, 256, .inl f_bnd)), (h_nam, .inl (cy_nam, 300, .inr (.inl f_nam))), (h_var, .inl (cy_var, 300, .inl f_var)), (h_trm, .inl (cy_trm, 300, .inl f_trm)), (h_ter, .inl (cy_ter, 900, .inl f_ter)), (h_vas, .inl (cy_vas, 16, .inl f_vas)), (h_lit, .inl (cy_lit, 16, .inl f_lit)), (h_xx, .inr (7, (mo71 v_xx (.ref h_td) (.ref h_wr)))), (h_fst, .inl (cy_fst, 96, .inl f_fst)), (h_td, .inr (5, (mo2 vq9 (.ref h_pls)))), (h_pls, .inl (cy_pls, 16, .inl f_pls))] := hD9
    have hS := hS9
    clear hP9 hD9 hS9
    rw [evq9] at hP hD
    replace hP : va_P (dC, dI) cls [(h_wr, .inr (6, (mo39 (.ref h_td) (.ref h_bd) (.ref h_wb) (.int x_wr_length) (.ref h_wd) (.int x_wr_drafted) (.ref h_wh) (.int x_wr_held)))), (h_wb, .inl (cy_wb, 600, .inl f_wb)), (h_wd, .inl (cy_wd, 616, .inl f_wd)), (h_wh, .inl (cy_wh, 2048, .inl f_wh)), (h_bd, .inr (1, (mo9 v_bd (.ref h_td) (.ref h_bnd)))), (h_bnd, .inl (cy_bnd, 256, .inl f_bnd)), (h_nam, .inl (cy_nam, 300, .inr (.inl f_nam))), (h_var, .inl (cy_var, 300, .inl f_var)), (h_trm, .inl (cy_trm, 300, .inl f_trm)), (h_ter, .inl (cy_ter, 900, .inl f_ter)), (h_vas, .inl (cy_vas, 16, .inl f_vas)), (h_lit, .inl (cy_lit, 16, .inl f_lit)), (h_xx, .inr (7, (mo71 v_xx (.ref h_td) (.ref h_wr)))), (h_fst, .inl (cy_fst, 96, .inl f_fst)), (h_td, .inr (5, (mo72 v_td (.ref h_nam) (.ref h_var) (.ref h_trm) (.ref h_ter) (.ref h_lit) (.ref h_vas) (.ref h_pls) (.ref h_fst) (.int x_td_clauses)))), (h_pls, .inl (cy_pls, 16, .inl f_pls))] H := hP
    replace hD : va_D A [(h_wr, .inr (6, (mo39 (.ref h_td) (.ref h_bd) (.ref h_wb) (.int x_wr_length) (.ref h_wd) (.int x_wr_drafted) (.ref h_wh) (.int x_wr_held)))), (h_wb, .inl (cy_wb, 600, .inl f_wb)), (h_wd, .inl (cy_wd, 616, .inl f_wd)), (h_wh, .inl (cy_wh, 2048, .inl f_wh)), (h_bd, .inr (1, (mo9 v_bd (.ref h_td) (.ref h_bnd)))), (h_bnd, .inl (cy_bnd, 256, .inl f_bnd)), (h_nam, .inl (cy_nam, 300, .inr (.inl f_nam))), (h_var, .inl (cy_var, 300, .inl f_var)), (h_trm, .inl (cy_trm, 300, .inl f_trm)), (h_ter, .inl (cy_ter, 900, .inl f_ter)), (h_vas, .inl (cy_vas, 16, .inl f_vas)), (h_lit, .inl (cy_lit, 16, .inl f_lit)), (h_xx, .inr (7, (mo71 v_xx (.ref h_td) (.ref h_wr)))), (h_fst, .inl (cy_fst, 96, .inl f_fst)), (h_td, .inr (5, (mo72 v_td (.ref h_nam) (.ref h_var) (.ref h_trm) (.ref h_ter) (.ref h_lit) (.ref h_vas) (.ref h_pls) (.ref h_fst) (.int x_td_clauses)))), (h_pls, .inl (cy_pls, 16, .inl f_pls))] := hD
    clear evq9 
    obtain ⟨k11, k12⟩ := hq
    replace k11 : 0 ≤ (r10).toInt ∧ (r10).toInt ≤ 1 := k11
    replace k12 : ((r10)).toInt = (f_pls ((p1)).toInt.toNat).toInt / (2 : Int) ^ ((p2)).toInt.toNat % 2 := k12
    have ip9 := k12
    rw [← ip9] at wl9
    refine lv_if_ne (tgt := 42) hx hb dX10_show_35 (by decide) (fun c13 => ?_) (fun c13 => ?_)
    · have kc13 := (not_congr (cv_eq (rfl : (r10).toInt = (r10).toInt) (by decide : (0 : Int32).toInt = 0))).mp c13
      refine lv_iconst (v := 0) hx hb dX10_show_42 (by decide) ?_
      refine lv_sipush (v := 600) hx hb dX10_show_43 (by decide) ?_
      obtain ⟨vq14, evq14⟩ := mq72_21 v_td (.ref h_lit) (.ref h_vas) (.ref h_pls) (.ref h_fst) (.int x_td_clauses)
      replace hP : va_P (dC, dI) cls [(h_wr, .inr (6, (mo39 (.ref h_td) (.ref h_bd) (.ref h_wb) (.int x_wr_length) (.ref h_wd) (.int x_wr_drafted) (.ref h_wh) (.int x_wr_held)))), (h_wb, .inl (cy_wb, 600, .inl f_wb)), (h_wd, .inl (cy_wd, 616, .inl f_wd)), (h_wh, .inl (cy_wh, 2048, .inl f_wh)), (h_bd, .inr (1, (mo9 v_bd (.ref h_td) (.ref h_bnd)))), (h_bnd, .inl (cy_bnd, 256, .inl f_bnd)), (h_nam, .inl (cy_nam, 300, .inr (.inl f_nam))), (h_var, .inl (cy_var, 300, .inl f_var)), (h_trm, .inl (cy_trm, 300, .inl f_trm)), (h_ter, .inl (cy_ter, 900, .inl f_ter)), (h_vas, .inl (cy_vas, 16, .inl f_vas)), (h_lit, .inl (cy_lit, 16, .inl f_lit)), (h_xx, .inr (7, (mo71 v_xx (.ref h_td) (.ref h_wr)))), (h_fst, .inl (cy_fst, 96, .inl f_fst)), (h_td, .inr (5, (mo21 vq14 (.ref h_nam) (.ref h_var) (.ref h_trm) (.ref h_ter)))), (h_pls, .inl (cy_pls, 16, .inl f_pls))] H := by rw [evq14]; exact hP
      replace hD : va_D A [(h_wr, .inr (6, (mo39 (.ref h_td) (.ref h_bd) (.ref h_wb) (.int x_wr_length) (.ref h_wd) (.int x_wr_drafted) (.ref h_wh) (.int x_wr_held)))), (h_wb, .inl (cy_wb, 600, .inl f_wb)), (h_wd, .inl (cy_wd, 616, .inl f_wd)), (h_wh, .inl (cy_wh, 2048, .inl f_wh)), (h_bd, .inr (1, (mo9 v_bd (.ref h_td) (.ref h_bnd)))), (h_bnd, .inl (cy_bnd, 256, .inl f_bnd)), (h_nam, .inl (cy_nam, 300, .inr (.inl f_nam))), (h_var, .inl (cy_var, 300, .inl f_var)), (h_trm, .inl (cy_trm, 300, .inl f_trm)), (h_ter, .inl (cy_ter, 900, .inl f_ter)), (h_vas, .inl (cy_vas, 16, .inl f_vas)), (h_lit, .inl (cy_lit, 16, .inl f_lit)), (h_xx, .inr (7, (mo71 v_xx (.ref h_td) (.ref h_wr)))), (h_fst, .inl (cy_fst, 96, .inl f_fst)), (h_td, .inr (5, (mo21 vq14 (.ref h_nam) (.ref h_var) (.ref h_trm) (.ref h_ter)))), (h_pls, .inl (cy_pls, 16, .inl f_pls))] := by rw [evq14]; exact hD
      have cst0 : (0 : Int32).toInt = 0 := by decide
      have cst600 : (600 : Int32).toInt = 600 := by decide
      have hPc := hP.sub (ws' := [(h_wr, .inr (6, (mo39 (.ref h_td) (.ref h_bd) (.ref h_wb) (.int x_wr_length) (.ref h_wd) (.int x_wr_drafted) (.ref h_wh) (.int x_wr_held)))), (h_wb, .inl (cy_wb, 600, .inl f_wb)), (h_wd, .inl (cy_wd, 616, .inl f_wd)), (h_wh, .inl (cy_wh, 2048, .inl f_wh)), (h_bd, .inr (1, (mo9 v_bd (.ref h_td) (.ref h_bnd)))), (h_bnd, .inl (cy_bnd, 256, .inl f_bnd)), (h_td, .inr (5, (mo21 vq14 (.ref h_nam) (.ref h_var) (.ref h_trm) (.ref h_ter)))), (h_nam, .inl (cy_nam, 300, .inr (.inl f_nam))), (h_var, .inl (cy_var, 300, .inl f_var)), (h_trm, .inl (cy_trm, 300, .inl f_trm)), (h_ter, .inl (cy_ter, 900, .inl f_ter))]) [0, 1, 2, 3, 4, 5, 14, 6, 7, 8, 9] rfl
      have hDc := hD.sub (ws' := [(h_wr, .inr (6, (mo39 (.ref h_td) (.ref h_bd) (.ref h_wb) (.int x_wr_length) (.ref h_wd) (.int x_wr_drafted) (.ref h_wh) (.int x_wr_held)))), (h_wb, .inl (cy_wb, 600, .inl f_wb)), (h_wd, .inl (cy_wd, 616, .inl f_wd)), (h_wh, .inl (cy_wh, 2048, .inl f_wh)), (h_bd, .inr (1, (mo9 v_bd (.ref h_td) (.ref h_bnd)))), (h_bnd, .inl (cy_bnd, 256, .inl f_bnd)), (h_td, .inr (5, (mo21 vq14 (.ref h_nam) (.ref h_var) (.ref h_trm) (.ref h_ter)))), (h_nam, .inl (cy_nam, 300, .inr (.inl f_nam))), (h_var, .inl (cy_var, 300, .inl f_var)), (h_trm, .inl (cy_trm, 300, .inl f_trm)), (h_ter, .inl (cy_ter, 900, .inl f_ter))]) [0, 1, 2, 3, 4, 5, 14, 6, 7, 8, 9] (by decide) rfl
      have hKc := hK.sub (tys' := [(cy_wb, .int), (cy_wd, .int), (cy_wh, .int), (cy_bnd, .int), (cy_nam, .long), (cy_var, .int), (cy_trm, .int), (cy_ter, .int)]) [0, 1, 2, 3, 4, 5, 6, 7] rfl
      have hFc := va_free (wc := [(h_wr, .inr (6, (mo39 (.ref h_td) (.ref h_bd) (.ref h_wb) (.int x_wr_length) (.ref h_wd) (.int x_wr_drafted) (.ref h_wh) (.int x_wr_held)))), (h_wb, .inl (cy_wb, 600, .inl f_wb)), (h_wd, .inl (cy_wd, 616, .inl f_wd)), (h_wh, .inl (cy_wh, 2048, .inl f_wh)), (h_bd, .inr (1, (mo9 v_bd (.ref h_td) (.ref h_bnd)))), (h_bnd, .inl (cy_bnd, 256, .inl f_bnd)), (h_td, .inr (5, (mo21 vq14 (.ref h_nam) (.ref h_var) (.ref h_trm) (.ref h_ter)))), (h_nam, .inl (cy_nam, 300, .inr (.inl f_nam))), (h_var, .inl (cy_var, 300, .inl f_var)), (h_trm, .inl (cy_trm, 300, .inl f_trm)), (h_ter, .inl (cy_ter, 900, .inl f_ter))]) hD hS hA [0, 1, 2, 3, 4, 5, 14, 6, 7, 8, 9] rfl
      refine va_calli (va_runVN (As := [.int r5, .int 0, .int 600]) (rest := []) ⟨hx, hb, hml, hown, hts⟩ (c_X9_write_a l dC dI H.size h_wr h_wb h_wd h_wh h_bd h_bnd h_td h_nam h_var h_trm h_ter x_wr_length x_wr_drafted x_wr_held cy_wb f_wb cy_wd f_wd cy_wh f_wh v_bd cy_bnd f_bnd vq14 cy_nam f_nam cy_var f_var cy_trm f_trm cy_ter f_ter r5 0 (by first | exact hx_wr_length | omega) (by first | exact hx_wr_drafted | omega) (by first | exact hx_wr_held | omega) hf_wh hf_bnd hf_var hf_trm hf_ter (by omega) (by omega) (by omega) hn_bhz hn_tz wg9) ⟨va_cnB (host := "OppositePairs") 3 hts (gd hT w_code_X9_write) rfl rfl rfl (hN _ n_m_X10_128) (hw _ w_ini_X9) (by decide +kernel) ⟨(Nat.le_of_ble_eq_true rfl), (Nat.le_of_ble_eq_true rfl)⟩, hw _ w_instanceMethod_X9_write, hw _ ws_sel_X9_write⟩ ⟨pre_blind, va_recv hK hP (ci := 6) (q0 := 0) rfl rfl, pre_of hPc hKc hDc hN⟩ rfl rfl hl.1 rfl (lv_room (Nat.le_of_ble_eq_true rfl)) dX10_show_46 ⟨(Nat.le_of_ble_eq_true rfl), (Nat.le_of_ble_eq_true rfl)⟩) hS (fun q _ h => hFc q h) hFc (fun r15 u t H locs ht hvm hq hB hz1 hk1 hS9 => ?_)
      obtain ⟨z16, z17, z18, f19, f20, f21⟩ := u
      obtain ⟨hP1, hD1⟩ := hB
      rw [ht] at hP1
      obtain ⟨hP9, hD9⟩ := va_join (wr := [(h_vas, .inl (cy_vas, 16, .inl f_vas)), (h_lit, .inl (cy_lit, 16, .inl f_lit)), (h_xx, .inr (7, (mo71 v_xx (.ref h_td) (.ref h_wr)))), (h_fst, .inl (cy_fst, 96, .inl f_fst)), (h_pls, .inl (cy_pls, 16, .inl f_pls))]) (w1 := [(h_wr, .inr (6, (mo39 (.ref h_td) (.ref h_bd) (.ref h_wb) (.int z16) (.ref h_wd) (.int z17) (.ref h_wh) (.int z18)))), (h_wb, .inl (cy_wb, 600, .inl f19)), (h_wd, .inl (cy_wd, 616, .inl f20)), (h_wh, .inl (cy_wh, 2048, .inl f21)), (h_bd, .inr (1, (mo9 v_bd (.ref h_td) (.ref h_bnd)))), (h_bnd, .inl (cy_bnd, 256, .inl f_bnd)), (h_td, .inr (5, (mo21 vq14 (.ref h_nam) (.ref h_var) (.ref h_trm) (.ref h_ter)))), (h_nam, .inl (cy_nam, 300, .inr (.inl f_nam))), (h_var, .inl (cy_var, 300, .inl f_var)), (h_trm, .inl (cy_trm, 300, .inl f_trm)), (h_ter, .inl (cy_ter, 900, .inl f_ter))]) hP hD [0, 1, 2, 3, 4, 5, 14, 6, 7, 8, 9] [10, 11, 12, 13, 15] rfl rfl (by decide) (by decide) hk1 hFc hP1 hD1
      clear hP hD hS hPc hDc hKc hFc hP1 hD1 hk1 hz1 ht hvm
      have hP : va_P (dC, dI) cls [(h_vas, .inl (cy_vas, 16, .inl f_vas)), (h_lit, .inl (cy_lit, 16, .inl f_lit)), (h_xx, .inr (7, (mo71 v_xx (.ref h_td) (.ref h_wr)))), (h_fst, .inl (cy_fst, 96, .inl f_fst)), (h_pls, .inl (cy_pls, 16, .inl f_pls)), (h_wr, .inr (6, (mo39 (.ref h_td) (.ref h_bd) (.ref h_wb) (.int z16) (.ref h_wd) (.int z17) (.ref h_wh) (.int z18)))), (h_wb, .inl (cy_wb, 600, .inl f19)), (h_wd, .inl (cy_wd, 616, .inl f20)), (h_wh, .inl (cy_wh, 2048, .inl f21)), (h_bd, .inr (1, (mo9 v_bd (.ref h_td) (.ref h_bnd)))), (h_bnd, .inl (cy_bnd, 256, .inl f_bnd)), (h_td, .inr (5, (mo21 vq14 (.ref h_nam) (.ref h_var) (.ref h_trm) (.ref h_ter)))), (h_nam, .inl (cy_nam, 300, .inr (.inl f_nam))), (h_var, .inl (cy_var, 300, .inl f_var)), (h_trm, .inl (cy_trm, 300, .inl f_trm)), (h_ter, .inl (cy_ter, 900, .inl f_ter))] H := hP9
      have hD : va_D A [(h_vas, .inl (cy_vas, 16, .inl f_vas)), (h_lit, .inl (cy_lit, 16, .inl f_lit)), (h_xx, .inr (7, (mo71 v_xx (.ref h_td) (.ref h_wr)))), (h_fst, .inl (cy_fst, 96, .inl f_fst)), (h_pls, .inl (cy_pls, 16, .inl f_pls)), (h_wr, .inr (6, (mo39 (.ref h_td) (.ref h_bd) (.ref h_wb) (.int z16) (.ref h_wd) (.int z17) (.ref h_wh) (.int z18)))), (h_wb, .inl (cy_wb, 600, .inl f19)), (h_wd, .inl (cy_wd, 616, .inl f20)), (h_wh, .inl (cy_wh, 2048, .inl f21)), (h_bd, .inr (1, (mo9 v_bd (.ref h_td) (.ref h_bnd)))), (h_bnd, .inl (cy_bnd, 256, .inl f_bnd)), (h_td, .inr (5, (mo21 vq14 (.ref h_nam) (.ref h_var) (.ref h_trm) (.ref h_ter)))), (h_nam, .inl (cy_nam, 300, .inr (.inl f_nam))), (h_var, .inl (cy_var, 300, .inl f_var)), (h_trm, .inl (cy_trm, 300, .inl f_trm)), (h_ter, .inl (cy_ter, 900, .inl f_ter))] := hD9
      have hS := hS9
      clear hP9 hD9 hS9
      rw [evq14] at hP hD
      replace hP : va_P (dC, dI) cls [(h_vas, .inl (cy_vas, 16, .inl f_vas)), (h_lit, .inl (cy_lit, 16, .inl f_lit)), (h_xx, .inr (7, (mo71 v_xx (.ref h_td) (.ref h_wr)))), (h_fst, .inl (cy_fst, 96, .inl f_fst)), (h_pls, .inl (cy_pls, 16, .inl f_pls)), (h_wr, .inr (6, (mo39 (.ref h_td) (.ref h_bd) (.ref h_wb) (.int z16) (.ref h_wd) (.int z17) (.ref h_wh) (.int z18)))), (h_wb, .inl (cy_wb, 600, .inl f19)), (h_wd, .inl (cy_wd, 616, .inl f20)), (h_wh, .inl (cy_wh, 2048, .inl f21)), (h_bd, .inr (1, (mo9 v_bd (.ref h_td) (.ref h_bnd)))), (h_bnd, .inl (cy_bnd, 256, .inl f_bnd)), (h_td, .inr (5, (mo72 v_td (.ref h_nam) (.ref h_var) (.ref h_trm) (.ref h_ter) (.ref h_lit) (.ref h_vas) (.ref h_pls) (.ref h_fst) (.int x_td_clauses)))), (h_nam, .inl (cy_nam, 300, .inr (.inl f_nam))), (h_var, .inl (cy_var, 300, .inl f_var)), (h_trm, .inl (cy_trm, 300, .inl f_trm)), (h_ter, .inl (cy_ter, 900, .inl f_ter))] H := hP
      replace hD : va_D A [(h_vas, .inl (cy_vas, 16, .inl f_vas)), (h_lit, .inl (cy_lit, 16, .inl f_lit)), (h_xx, .inr (7, (mo71 v_xx (.ref h_td) (.ref h_wr)))), (h_fst, .inl (cy_fst, 96, .inl f_fst)), (h_pls, .inl (cy_pls, 16, .inl f_pls)), (h_wr, .inr (6, (mo39 (.ref h_td) (.ref h_bd) (.ref h_wb) (.int z16) (.ref h_wd) (.int z17) (.ref h_wh) (.int z18)))), (h_wb, .inl (cy_wb, 600, .inl f19)), (h_wd, .inl (cy_wd, 616, .inl f20)), (h_wh, .inl (cy_wh, 2048, .inl f21)), (h_bd, .inr (1, (mo9 v_bd (.ref h_td) (.ref h_bnd)))), (h_bnd, .inl (cy_bnd, 256, .inl f_bnd)), (h_td, .inr (5, (mo72 v_td (.ref h_nam) (.ref h_var) (.ref h_trm) (.ref h_ter) (.ref h_lit) (.ref h_vas) (.ref h_pls) (.ref h_fst) (.int x_td_clauses)))), (h_nam, .inl (cy_nam, 300, .inr (.inl f_nam))), (h_var, .inl (cy_var, 300, .inl f_var)), (h_trm, .inl (cy_trm, 300, .inl f_trm)), (h_ter, .inl (cy_ter, 900, .inl f_ter))] := hD
      clear evq14 
      obtain ⟨k22, k23, k24, hf21, k25⟩ := hq
      replace k22 : 0 ≤ ((z16)).toInt ∧ ((z16)).toInt ≤ 600 := k22
      replace k23 : 0 ≤ ((z17)).toInt ∧ ((z17)).toInt ≤ 616 := k23
      replace k24 : 0 ≤ ((z18)).toInt ∧ ((z18)).toInt ≤ 2048 := k24
      replace hf21 : Rg (-127) 9599 (f21) := hf21
      replace k25 : ((r15)).toInt = ((0 : Int32)).toInt + lnX (nlQ 8) (CVW f_nam f_var f_trm f_ter) 7 (((r5)).toInt - 9000).toNat := k25
      have sv9 : SHV (nlQ 8) (CVW f_nam f_var f_trm f_ter) (CLW f_lit f_vas f_pls f_fst) (x_td_clauses).toInt (p1).toInt (p2).toInt (r15).toInt := Or.inr ⟨⟨by omega, by omega, show (p2).toInt < (f_lit (p1).toInt.toNat).toInt by omega⟩, by show (r15).toInt = 1 - (f_pls (p1).toInt.toNat).toInt / (2 : Int) ^ (p2).toInt.toNat % 2 + lnX (nlQ 8) (CVW f_nam f_var f_trm f_ter) 7 (Int32.toNatClampNeg (f_fst (6 * (p1).toInt.toNat + (p2).toInt.toNat))); rw [← ip9, ← pz9]; omega⟩
      replace hP : va_P (dC, dI) cls [(h_xx, .inr (7, (mo71 v_xx (.ref h_td) (.ref h_wr)))), (h_wr, .inr (6, (mo39 (.ref h_td) (.ref h_bd) (.ref h_wb) (.int z16) (.ref h_wd) (.int z17) (.ref h_wh) (.int z18)))), (h_wb, .inl (cy_wb, 600, .inl f19)), (h_wd, .inl (cy_wd, 616, .inl f20)), (h_wh, .inl (cy_wh, 2048, .inl f21)), (h_bd, .inr (1, (mo9 v_bd (.ref h_td) (.ref h_bnd)))), (h_bnd, .inl (cy_bnd, 256, .inl f_bnd)), (h_td, .inr (5, (mo72 v_td (.ref h_nam) (.ref h_var) (.ref h_trm) (.ref h_ter) (.ref h_lit) (.ref h_vas) (.ref h_pls) (.ref h_fst) (.int x_td_clauses)))), (h_nam, .inl (cy_nam, 300, .inr (.inl f_nam))), (h_var, .inl (cy_var, 300, .inl f_var)), (h_trm, .inl (cy_trm, 300, .inl f_trm)), (h_ter, .inl (cy_ter, 900, .inl f_ter)), (h_lit, .inl (cy_lit, 16, .inl f_lit)), (h_vas, .inl (cy_vas, 16, .inl f_vas)), (h_pls, .inl (cy_pls, 16, .inl f_pls)), (h_fst, .inl (cy_fst, 96, .inl f_fst))] H := hP.sub [2, 5, 6, 7, 8, 9, 10, 11, 12, 13, 14, 15, 1, 0, 4, 3] rfl
      replace hD : va_D A [(h_xx, .inr (7, (mo71 v_xx (.ref h_td) (.ref h_wr)))), (h_wr, .inr (6, (mo39 (.ref h_td) (.ref h_bd) (.ref h_wb) (.int z16) (.ref h_wd) (.int z17) (.ref h_wh) (.int z18)))), (h_wb, .inl (cy_wb, 600, .inl f19)), (h_wd, .inl (cy_wd, 616, .inl f20)), (h_wh, .inl (cy_wh, 2048, .inl f21)), (h_bd, .inr (1, (mo9 v_bd (.ref h_td) (.ref h_bnd)))), (h_bnd, .inl (cy_bnd, 256, .inl f_bnd)), (h_td, .inr (5, (mo72 v_td (.ref h_nam) (.ref h_var) (.ref h_trm) (.ref h_ter) (.ref h_lit) (.ref h_vas) (.ref h_pls) (.ref h_fst) (.int x_td_clauses)))), (h_nam, .inl (cy_nam, 300, .inr (.inl f_nam))), (h_var, .inl (cy_var, 300, .inl f_var)), (h_trm, .inl (cy_trm, 300, .inl f_trm)), (h_ter, .inl (cy_ter, 900, .inl f_ter)), (h_lit, .inl (cy_lit, 16, .inl f_lit)), (h_vas, .inl (cy_vas, 16, .inl f_vas)), (h_pls, .inl (cy_pls, 16, .inl f_pls)), (h_fst, .inl (cy_fst, 96, .inl f_fst))] := hD.sub [2, 5, 6, 7, 8, 9, 10, 11, 12, 13, 14, 15, 1, 0, 4, 3] (by decide) rfl
      refine W.widen (k := 0) (n := 0) (Nat.le_of_ble_eq_true rfl) (Nat.le_of_ble_eq_true rfl) ?_
      have w26 : 0 ≤ ((z16)).toInt ∧ ((z16)).toInt ≤ 600 := by first | exact k22 | omega
      have w27 : 0 ≤ ((z17)).toInt ∧ ((z17)).toInt ≤ 616 := by first | exact k23 | omega
      have w28 : 0 ≤ ((z18)).toInt ∧ ((z18)).toInt ≤ 2048 := by first | exact k24 | omega
      have w29 : SHV (nlQ 8) (CVW f_nam f_var f_trm f_ter) (CLW f_lit f_vas f_pls f_fst) (x_td_clauses).toInt (p1).toInt (p2).toInt ((r15 : Int32)).toInt := sv9
      exact W.iret (v := r15) hx hb hr (fun t ht hW => ⟨⟨r15, (z16, z17, z18, f19, f20, f21), rfl, ⟨w26, w27, w28, hf21, w29⟩, by rw [ht]; exact hP, hD⟩, hS.F ht⟩) hS.2.2 dX10_show_49
    · have kc13 := (cv_eq (rfl : (r10).toInt = (r10).toInt) (by decide : (0 : Int32).toInt = 0)).mp c13
      refine lv_iconst (v := 1) hx hb dX10_show_38 (by decide) ?_
      refine lv_goto (tgt := 43) hx hb dX10_show_39 (by decide) ?_
      refine lv_sipush (v := 600) hx hb dX10_show_43 (by decide) ?_
      obtain ⟨vq30, evq30⟩ := mq72_21 v_td (.ref h_lit) (.ref h_vas) (.ref h_pls) (.ref h_fst) (.int x_td_clauses)
      replace hP : va_P (dC, dI) cls [(h_wr, .inr (6, (mo39 (.ref h_td) (.ref h_bd) (.ref h_wb) (.int x_wr_length) (.ref h_wd) (.int x_wr_drafted) (.ref h_wh) (.int x_wr_held)))), (h_wb, .inl (cy_wb, 600, .inl f_wb)), (h_wd, .inl (cy_wd, 616, .inl f_wd)), (h_wh, .inl (cy_wh, 2048, .inl f_wh)), (h_bd, .inr (1, (mo9 v_bd (.ref h_td) (.ref h_bnd)))), (h_bnd, .inl (cy_bnd, 256, .inl f_bnd)), (h_nam, .inl (cy_nam, 300, .inr (.inl f_nam))), (h_var, .inl (cy_var, 300, .inl f_var)), (h_trm, .inl (cy_trm, 300, .inl f_trm)), (h_ter, .inl (cy_ter, 900, .inl f_ter)), (h_vas, .inl (cy_vas, 16, .inl f_vas)), (h_lit, .inl (cy_lit, 16, .inl f_lit)), (h_xx, .inr (7, (mo71 v_xx (.ref h_td) (.ref h_wr)))), (h_fst, .inl (cy_fst, 96, .inl f_fst)), (h_td, .inr (5, (mo21 vq30 (.ref h_nam) (.ref h_var) (.ref h_trm) (.ref h_ter)))), (h_pls, .inl (cy_pls, 16, .inl f_pls))] H := by rw [evq30]; exact hP
      replace hD : va_D A [(h_wr, .inr (6, (mo39 (.ref h_td) (.ref h_bd) (.ref h_wb) (.int x_wr_length) (.ref h_wd) (.int x_wr_drafted) (.ref h_wh) (.int x_wr_held)))), (h_wb, .inl (cy_wb, 600, .inl f_wb)), (h_wd, .inl (cy_wd, 616, .inl f_wd)), (h_wh, .inl (cy_wh, 2048, .inl f_wh)), (h_bd, .inr (1, (mo9 v_bd (.ref h_td) (.ref h_bnd)))), (h_bnd, .inl (cy_bnd, 256, .inl f_bnd)), (h_nam, .inl (cy_nam, 300, .inr (.inl f_nam))), (h_var, .inl (cy_var, 300, .inl f_var)), (h_trm, .inl (cy_trm, 300, .inl f_trm)), (h_ter, .inl (cy_ter, 900, .inl f_ter)), (h_vas, .inl (cy_vas, 16, .inl f_vas)), (h_lit, .inl (cy_lit, 16, .inl f_lit)), (h_xx, .inr (7, (mo71 v_xx (.ref h_td) (.ref h_wr)))), (h_fst, .inl (cy_fst, 96, .inl f_fst)), (h_td, .inr (5, (mo21 vq30 (.ref h_nam) (.ref h_var) (.ref h_trm) (.ref h_ter)))), (h_pls, .inl (cy_pls, 16, .inl f_pls))] := by rw [evq30]; exact hD
      have cst1 : (1 : Int32).toInt = 1 := by decide
      have cst600 : (600 : Int32).toInt = 600 := by decide
      have hPc := hP.sub (ws' := [(h_wr, .inr (6, (mo39 (.ref h_td) (.ref h_bd) (.ref h_wb) (.int x_wr_length) (.ref h_wd) (.int x_wr_drafted) (.ref h_wh) (.int x_wr_held)))), (h_wb, .inl (cy_wb, 600, .inl f_wb)), (h_wd, .inl (cy_wd, 616, .inl f_wd)), (h_wh, .inl (cy_wh, 2048, .inl f_wh)), (h_bd, .inr (1, (mo9 v_bd (.ref h_td) (.ref h_bnd)))), (h_bnd, .inl (cy_bnd, 256, .inl f_bnd)), (h_td, .inr (5, (mo21 vq30 (.ref h_nam) (.ref h_var) (.ref h_trm) (.ref h_ter)))), (h_nam, .inl (cy_nam, 300, .inr (.inl f_nam))), (h_var, .inl (cy_var, 300, .inl f_var)), (h_trm, .inl (cy_trm, 300, .inl f_trm)), (h_ter, .inl (cy_ter, 900, .inl f_ter))]) [0, 1, 2, 3, 4, 5, 14, 6, 7, 8, 9] rfl
      have hDc := hD.sub (ws' := [(h_wr, .inr (6, (mo39 (.ref h_td) (.ref h_bd) (.ref h_wb) (.int x_wr_length) (.ref h_wd) (.int x_wr_drafted) (.ref h_wh) (.int x_wr_held)))), (h_wb, .inl (cy_wb, 600, .inl f_wb)), (h_wd, .inl (cy_wd, 616, .inl f_wd)), (h_wh, .inl (cy_wh, 2048, .inl f_wh)), (h_bd, .inr (1, (mo9 v_bd (.ref h_td) (.ref h_bnd)))), (h_bnd, .inl (cy_bnd, 256, .inl f_bnd)), (h_td, .inr (5, (mo21 vq30 (.ref h_nam) (.ref h_var) (.ref h_trm) (.ref h_ter)))), (h_nam, .inl (cy_nam, 300, .inr (.inl f_nam))), (h_var, .inl (cy_var, 300, .inl f_var)), (h_trm, .inl (cy_trm, 300, .inl f_trm)), (h_ter, .inl (cy_ter, 900, .inl f_ter))]) [0, 1, 2, 3, 4, 5, 14, 6, 7, 8, 9] (by decide) rfl
      have hKc := hK.sub (tys' := [(cy_wb, .int), (cy_wd, .int), (cy_wh, .int), (cy_bnd, .int), (cy_nam, .long), (cy_var, .int), (cy_trm, .int), (cy_ter, .int)]) [0, 1, 2, 3, 4, 5, 6, 7] rfl
      have hFc := va_free (wc := [(h_wr, .inr (6, (mo39 (.ref h_td) (.ref h_bd) (.ref h_wb) (.int x_wr_length) (.ref h_wd) (.int x_wr_drafted) (.ref h_wh) (.int x_wr_held)))), (h_wb, .inl (cy_wb, 600, .inl f_wb)), (h_wd, .inl (cy_wd, 616, .inl f_wd)), (h_wh, .inl (cy_wh, 2048, .inl f_wh)), (h_bd, .inr (1, (mo9 v_bd (.ref h_td) (.ref h_bnd)))), (h_bnd, .inl (cy_bnd, 256, .inl f_bnd)), (h_td, .inr (5, (mo21 vq30 (.ref h_nam) (.ref h_var) (.ref h_trm) (.ref h_ter)))), (h_nam, .inl (cy_nam, 300, .inr (.inl f_nam))), (h_var, .inl (cy_var, 300, .inl f_var)), (h_trm, .inl (cy_trm, 300, .inl f_trm)), (h_ter, .inl (cy_ter, 900, .inl f_ter))]) hD hS hA [0, 1, 2, 3, 4, 5, 14, 6, 7, 8, 9] rfl
      refine va_calli (va_runVN (As := [.int r5, .int 1, .int 600]) (rest := []) ⟨hx, hb, hml, hown, hts⟩ (c_X9_write_a l dC dI H.size h_wr h_wb h_wd h_wh h_bd h_bnd h_td h_nam h_var h_trm h_ter x_wr_length x_wr_drafted x_wr_held cy_wb f_wb cy_wd f_wd cy_wh f_wh v_bd cy_bnd f_bnd vq30 cy_nam f_nam cy_var f_var cy_trm f_trm cy_ter f_ter r5 1 (by first | exact hx_wr_length | omega) (by first | exact hx_wr_drafted | omega) (by first | exact hx_wr_held | omega) hf_wh hf_bnd hf_var hf_trm hf_ter (by omega) (by omega) (by omega) hn_bhz hn_tz wg9) ⟨va_cnB (host := "OppositePairs") 3 hts (gd hT w_code_X9_write) rfl rfl rfl (hN _ n_m_X10_128) (hw _ w_ini_X9) (by decide +kernel) ⟨(Nat.le_of_ble_eq_true rfl), (Nat.le_of_ble_eq_true rfl)⟩, hw _ w_instanceMethod_X9_write, hw _ ws_sel_X9_write⟩ ⟨pre_blind, va_recv hK hP (ci := 6) (q0 := 0) rfl rfl, pre_of hPc hKc hDc hN⟩ rfl rfl hl.1 rfl (lv_room (Nat.le_of_ble_eq_true rfl)) dX10_show_46 ⟨(Nat.le_of_ble_eq_true rfl), (Nat.le_of_ble_eq_true rfl)⟩) hS (fun q _ h => hFc q h) hFc (fun r31 u t H locs ht hvm hq hB hz1 hk1 hS9 => ?_)
      obtain ⟨z32, z33, z34, f35, f36, f37⟩ := u
      obtain ⟨hP1, hD1⟩ := hB
      rw [ht] at hP1
      obtain ⟨hP9, hD9⟩ := va_join (wr := [(h_vas, .inl (cy_vas, 16, .inl f_vas)), (h_lit, .inl (cy_lit, 16, .inl f_lit)), (h_xx, .inr (7, (mo71 v_xx (.ref h_td) (.ref h_wr)))), (h_fst, .inl (cy_fst, 96, .inl f_fst)), (h_pls, .inl (cy_pls, 16, .inl f_pls))]) (w1 := [(h_wr, .inr (6, (mo39 (.ref h_td) (.ref h_bd) (.ref h_wb) (.int z32) (.ref h_wd) (.int z33) (.ref h_wh) (.int z34)))), (h_wb, .inl (cy_wb, 600, .inl f35)), (h_wd, .inl (cy_wd, 616, .inl f36)), (h_wh, .inl (cy_wh, 2048, .inl f37)), (h_bd, .inr (1, (mo9 v_bd (.ref h_td) (.ref h_bnd)))), (h_bnd, .inl (cy_bnd, 256, .inl f_bnd)), (h_td, .inr (5, (mo21 vq30 (.ref h_nam) (.ref h_var) (.ref h_trm) (.ref h_ter)))), (h_nam, .inl (cy_nam, 300, .inr (.inl f_nam))), (h_var, .inl (cy_var, 300, .inl f_var)), (h_trm, .inl (cy_trm, 300, .inl f_trm)), (h_ter, .inl (cy_ter, 900, .inl f_ter))]) hP hD [0, 1, 2, 3, 4, 5, 14, 6, 7, 8, 9] [10, 11, 12, 13, 15] rfl rfl (by decide) (by decide) hk1 hFc hP1 hD1
      clear hP hD hS hPc hDc hKc hFc hP1 hD1 hk1 hz1 ht hvm
      have hP : va_P (dC, dI) cls [(h_vas, .inl (cy_vas, 16, .inl f_vas)), (h_lit, .inl (cy_lit, 16, .inl f_lit)), (h_xx, .inr (7, (mo71 v_xx (.ref h_td) (.ref h_wr)))), (h_fst, .inl (cy_fst, 96, .inl f_fst)), (h_pls, .inl (cy_pls, 16, .inl f_pls)), (h_wr, .inr (6, (mo39 (.ref h_td) (.ref h_bd) (.ref h_wb) (.int z32) (.ref h_wd) (.int z33) (.ref h_wh) (.int z34)))), (h_wb, .inl (cy_wb, 600, .inl f35)), (h_wd, .inl (cy_wd, 616, .inl f36)), (h_wh, .inl (cy_wh, 2048, .inl f37)), (h_bd, .inr (1, (mo9 v_bd (.ref h_td) (.ref h_bnd)))), (h_bnd, .inl (cy_bnd, 256, .inl f_bnd)), (h_td, .inr (5, (mo21 vq30 (.ref h_nam) (.ref h_var) (.ref h_trm) (.ref h_ter)))), (h_nam, .inl (cy_nam, 300, .inr (.inl f_nam))), (h_var, .inl (cy_var, 300, .inl f_var)), (h_trm, .inl (cy_trm, 300, .inl f_trm)), (h_ter, .inl (cy_ter, 900, .inl f_ter))] H := hP9
      have hD : va_D A [(h_vas, .inl (cy_vas, 16, .inl f_vas)), (h_lit, .inl (cy_lit, 16, .inl f_lit)), (h_xx, .inr (7, (mo71 v_xx (.ref h_td) (.ref h_wr)))), (h_fst, .inl (cy_fst, 96, .inl f_fst)), (h_pls, .inl (cy_pls, 16, .inl f_pls)), (h_wr, .inr (6, (mo39 (.ref h_td) (.ref h_bd) (.ref h_wb) (.int z32) (.ref h_wd) (.int z33) (.ref h_wh) (.int z34)))), (h_wb, .inl (cy_wb, 600, .inl f35)), (h_wd, .inl (cy_wd, 616, .inl f36)), (h_wh, .inl (cy_wh, 2048, .inl f37)), (h_bd, .inr (1, (mo9 v_bd (.ref h_td) (.ref h_bnd)))), (h_bnd, .inl (cy_bnd, 256, .inl f_bnd)), (h_td, .inr (5, (mo21 vq30 (.ref h_nam) (.ref h_var) (.ref h_trm) (.ref h_ter)))), (h_nam, .inl (cy_nam, 300, .inr (.inl f_nam))), (h_var, .inl (cy_var, 300, .inl f_var)), (h_trm, .inl (cy_trm, 300, .inl f_trm)), (h_ter, .inl (cy_ter, 900, .inl f_ter))] := hD9
      have hS := hS9
      clear hP9 hD9 hS9
      rw [evq30] at hP hD
      replace hP : va_P (dC, dI) cls [(h_vas, .inl (cy_vas, 16, .inl f_vas)), (h_lit, .inl (cy_lit, 16, .inl f_lit)), (h_xx, .inr (7, (mo71 v_xx (.ref h_td) (.ref h_wr)))), (h_fst, .inl (cy_fst, 96, .inl f_fst)), (h_pls, .inl (cy_pls, 16, .inl f_pls)), (h_wr, .inr (6, (mo39 (.ref h_td) (.ref h_bd) (.ref h_wb) (.int z32) (.ref h_wd) (.int z33) (.ref h_wh) (.int z34)))), (h_wb, .inl (cy_wb, 600, .inl f35)), (h_wd, .inl (cy_wd, 616, .inl f36)), (h_wh, .inl (cy_wh, 2048, .inl f37)), (h_bd, .inr (1, (mo9 v_bd (.ref h_td) (.ref h_bnd)))), (h_bnd, .inl (cy_bnd, 256, .inl f_bnd)), (h_td, .inr (5, (mo72 v_td (.ref h_nam) (.ref h_var) (.ref h_trm) (.ref h_ter) (.ref h_lit) (.ref h_vas) (.ref h_pls) (.ref h_fst) (.int x_td_clauses)))), (h_nam, .inl (cy_nam, 300, .inr (.inl f_nam))), (h_var, .inl (cy_var, 300, .inl f_var)), (h_trm, .inl (cy_trm, 300, .inl f_trm)), (h_ter, .inl (cy_ter, 900, .inl f_ter))] H := hP
      replace hD : va_D A [(h_vas, .inl (cy_vas, 16, .inl f_vas)), (h_lit, .inl (cy_lit, 16, .inl f_lit)), (h_xx, .inr (7, (mo71 v_xx (.ref h_td) (.ref h_wr)))), (h_fst, .inl (cy_fst, 96, .inl f_fst)), (h_pls, .inl (cy_pls, 16, .inl f_pls)), (h_wr, .inr (6, (mo39 (.ref h_td) (.ref h_bd) (.ref h_wb) (.int z32) (.ref h_wd) (.int z33) (.ref h_wh) (.int z34)))), (h_wb, .inl (cy_wb, 600, .inl f35)), (h_wd, .inl (cy_wd, 616, .inl f36)), (h_wh, .inl (cy_wh, 2048, .inl f37)), (h_bd, .inr (1, (mo9 v_bd (.ref h_td) (.ref h_bnd)))), (h_bnd, .inl (cy_bnd, 256, .inl f_bnd)), (h_td, .inr (5, (mo72 v_td (.ref h_nam) (.ref h_var) (.ref h_trm) (.ref h_ter) (.ref h_lit) (.ref h_vas) (.ref h_pls) (.ref h_fst) (.int x_td_clauses)))), (h_nam, .inl (cy_nam, 300, .inr (.inl f_nam))), (h_var, .inl (cy_var, 300, .inl f_var)), (h_trm, .inl (cy_trm, 300, .inl f_trm)), (h_ter, .inl (cy_ter, 900, .inl f_ter))] := hD
      clear evq30 
      obtain ⟨k38, k39, k40, hf37, k41⟩ := hq
      replace k38 : 0 ≤ ((z32)).toInt ∧ ((z32)).toInt ≤ 600 := k38
      replace k39 : 0 ≤ ((z33)).toInt ∧ ((z33)).toInt ≤ 616 := k39
      replace k40 : 0 ≤ ((z34)).toInt ∧ ((z34)).toInt ≤ 2048 := k40
      replace hf37 : Rg (-127) 9599 (f37) := hf37
      replace k41 : ((r31)).toInt = ((1 : Int32)).toInt + lnX (nlQ 8) (CVW f_nam f_var f_trm f_ter) 7 (((r5)).toInt - 9000).toNat := k41
      have sv9 : SHV (nlQ 8) (CVW f_nam f_var f_trm f_ter) (CLW f_lit f_vas f_pls f_fst) (x_td_clauses).toInt (p1).toInt (p2).toInt (r31).toInt := Or.inr ⟨⟨by omega, by omega, show (p2).toInt < (f_lit (p1).toInt.toNat).toInt by omega⟩, by show (r31).toInt = 1 - (f_pls (p1).toInt.toNat).toInt / (2 : Int) ^ (p2).toInt.toNat % 2 + lnX (nlQ 8) (CVW f_nam f_var f_trm f_ter) 7 (Int32.toNatClampNeg (f_fst (6 * (p1).toInt.toNat + (p2).toInt.toNat))); rw [← ip9, ← pz9]; omega⟩
      replace hP : va_P (dC, dI) cls [(h_xx, .inr (7, (mo71 v_xx (.ref h_td) (.ref h_wr)))), (h_wr, .inr (6, (mo39 (.ref h_td) (.ref h_bd) (.ref h_wb) (.int z32) (.ref h_wd) (.int z33) (.ref h_wh) (.int z34)))), (h_wb, .inl (cy_wb, 600, .inl f35)), (h_wd, .inl (cy_wd, 616, .inl f36)), (h_wh, .inl (cy_wh, 2048, .inl f37)), (h_bd, .inr (1, (mo9 v_bd (.ref h_td) (.ref h_bnd)))), (h_bnd, .inl (cy_bnd, 256, .inl f_bnd)), (h_td, .inr (5, (mo72 v_td (.ref h_nam) (.ref h_var) (.ref h_trm) (.ref h_ter) (.ref h_lit) (.ref h_vas) (.ref h_pls) (.ref h_fst) (.int x_td_clauses)))), (h_nam, .inl (cy_nam, 300, .inr (.inl f_nam))), (h_var, .inl (cy_var, 300, .inl f_var)), (h_trm, .inl (cy_trm, 300, .inl f_trm)), (h_ter, .inl (cy_ter, 900, .inl f_ter)), (h_lit, .inl (cy_lit, 16, .inl f_lit)), (h_vas, .inl (cy_vas, 16, .inl f_vas)), (h_pls, .inl (cy_pls, 16, .inl f_pls)), (h_fst, .inl (cy_fst, 96, .inl f_fst))] H := hP.sub [2, 5, 6, 7, 8, 9, 10, 11, 12, 13, 14, 15, 1, 0, 4, 3] rfl
      replace hD : va_D A [(h_xx, .inr (7, (mo71 v_xx (.ref h_td) (.ref h_wr)))), (h_wr, .inr (6, (mo39 (.ref h_td) (.ref h_bd) (.ref h_wb) (.int z32) (.ref h_wd) (.int z33) (.ref h_wh) (.int z34)))), (h_wb, .inl (cy_wb, 600, .inl f35)), (h_wd, .inl (cy_wd, 616, .inl f36)), (h_wh, .inl (cy_wh, 2048, .inl f37)), (h_bd, .inr (1, (mo9 v_bd (.ref h_td) (.ref h_bnd)))), (h_bnd, .inl (cy_bnd, 256, .inl f_bnd)), (h_td, .inr (5, (mo72 v_td (.ref h_nam) (.ref h_var) (.ref h_trm) (.ref h_ter) (.ref h_lit) (.ref h_vas) (.ref h_pls) (.ref h_fst) (.int x_td_clauses)))), (h_nam, .inl (cy_nam, 300, .inr (.inl f_nam))), (h_var, .inl (cy_var, 300, .inl f_var)), (h_trm, .inl (cy_trm, 300, .inl f_trm)), (h_ter, .inl (cy_ter, 900, .inl f_ter)), (h_lit, .inl (cy_lit, 16, .inl f_lit)), (h_vas, .inl (cy_vas, 16, .inl f_vas)), (h_pls, .inl (cy_pls, 16, .inl f_pls)), (h_fst, .inl (cy_fst, 96, .inl f_fst))] := hD.sub [2, 5, 6, 7, 8, 9, 10, 11, 12, 13, 14, 15, 1, 0, 4, 3] (by decide) rfl
      refine W.widen (k := 0) (n := 0) (Nat.le_of_ble_eq_true rfl) (Nat.le_of_ble_eq_true rfl) ?_
      have w42 : 0 ≤ ((z32)).toInt ∧ ((z32)).toInt ≤ 600 := by first | exact k38 | omega
      have w43 : 0 ≤ ((z33)).toInt ∧ ((z33)).toInt ≤ 616 := by first | exact k39 | omega
      have w44 : 0 ≤ ((z34)).toInt ∧ ((z34)).toInt ≤ 2048 := by first | exact k40 | omega
      have w45 : SHV (nlQ 8) (CVW f_nam f_var f_trm f_ter) (CLW f_lit f_vas f_pls f_fst) (x_td_clauses).toInt (p1).toInt (p2).toInt ((r31 : Int32)).toInt := sv9
      exact W.iret (v := r31) hx hb hr (fun t ht hW => ⟨⟨r31, (z32, z33, z34, f35, f36, f37), rfl, ⟨w42, w43, w44, hf37, w45⟩, by rw [ht]; exact hP, hD⟩, hS.F ht⟩) hS.2.2 dX10_show_49
  · replace hq : (((p1)).toInt < 0 ∨ ((x_td_clauses)).toInt ≤ ((p1)).toInt ∨ ((p2)).toInt < 0 ∨ (f_lit (Int32.toNatClampNeg (p1))).toInt ≤ ((p2)).toInt) := hq
    refine lv_if_ne (tgt := 14) hx hb dX10_show_9 (by decide) (fun c9 => absurd c9 (by decide)) (fun _ => ?_)
    refine lv_iconst (v := (-1)) hx hb dX10_show_12 (by decide) ?_
    replace hP : va_P (dC, dI) cls [(h_xx, .inr (7, (mo71 v_xx (.ref h_td) (.ref h_wr)))), (h_wr, .inr (6, (mo39 (.ref h_td) (.ref h_bd) (.ref h_wb) (.int x_wr_length) (.ref h_wd) (.int x_wr_drafted) (.ref h_wh) (.int x_wr_held)))), (h_wb, .inl (cy_wb, 600, .inl f_wb)), (h_wd, .inl (cy_wd, 616, .inl f_wd)), (h_wh, .inl (cy_wh, 2048, .inl f_wh)), (h_bd, .inr (1, (mo9 v_bd (.ref h_td) (.ref h_bnd)))), (h_bnd, .inl (cy_bnd, 256, .inl f_bnd)), (h_td, .inr (5, (mo72 v_td (.ref h_nam) (.ref h_var) (.ref h_trm) (.ref h_ter) (.ref h_lit) (.ref h_vas) (.ref h_pls) (.ref h_fst) (.int x_td_clauses)))), (h_nam, .inl (cy_nam, 300, .inr (.inl f_nam))), (h_var, .inl (cy_var, 300, .inl f_var)), (h_trm, .inl (cy_trm, 300, .inl f_trm)), (h_ter, .inl (cy_ter, 900, .inl f_ter)), (h_lit, .inl (cy_lit, 16, .inl f_lit)), (h_vas, .inl (cy_vas, 16, .inl f_vas)), (h_pls, .inl (cy_pls, 16, .inl f_pls)), (h_fst, .inl (cy_fst, 96, .inl f_fst))] H := hP.sub [0, 1, 2, 3, 4, 5, 6, 14, 7, 8, 9, 10, 15, 11, 12, 13] rfl
    replace hD : va_D A [(h_xx, .inr (7, (mo71 v_xx (.ref h_td) (.ref h_wr)))), (h_wr, .inr (6, (mo39 (.ref h_td) (.ref h_bd) (.ref h_wb) (.int x_wr_length) (.ref h_wd) (.int x_wr_drafted) (.ref h_wh) (.int x_wr_held)))), (h_wb, .inl (cy_wb, 600, .inl f_wb)), (h_wd, .inl (cy_wd, 616, .inl f_wd)), (h_wh, .inl (cy_wh, 2048, .inl f_wh)), (h_bd, .inr (1, (mo9 v_bd (.ref h_td) (.ref h_bnd)))), (h_bnd, .inl (cy_bnd, 256, .inl f_bnd)), (h_td, .inr (5, (mo72 v_td (.ref h_nam) (.ref h_var) (.ref h_trm) (.ref h_ter) (.ref h_lit) (.ref h_vas) (.ref h_pls) (.ref h_fst) (.int x_td_clauses)))), (h_nam, .inl (cy_nam, 300, .inr (.inl f_nam))), (h_var, .inl (cy_var, 300, .inl f_var)), (h_trm, .inl (cy_trm, 300, .inl f_trm)), (h_ter, .inl (cy_ter, 900, .inl f_ter)), (h_lit, .inl (cy_lit, 16, .inl f_lit)), (h_vas, .inl (cy_vas, 16, .inl f_vas)), (h_pls, .inl (cy_pls, 16, .inl f_pls)), (h_fst, .inl (cy_fst, 96, .inl f_fst))] := hD.sub [0, 1, 2, 3, 4, 5, 6, 14, 7, 8, 9, 10, 15, 11, 12, 13] (by decide) rfl
    refine W.widen (k := 0) (n := 0) (Nat.le_of_ble_eq_true rfl) (Nat.le_of_ble_eq_true rfl) ?_
    have cstm1 : ((-1) : Int32).toInt = -1 := by decide
    have w46 : 0 ≤ ((x_wr_length)).toInt ∧ ((x_wr_length)).toInt ≤ 600 := by first | exact hx_wr_length | omega
    have w47 : 0 ≤ ((x_wr_drafted)).toInt ∧ ((x_wr_drafted)).toInt ≤ 616 := by first | exact hx_wr_drafted | omega
    have w48 : 0 ≤ ((x_wr_held)).toInt ∧ ((x_wr_held)).toInt ≤ 2048 := by first | exact hx_wr_held | omega
    have w49 : SHV (nlQ 8) (CVW f_nam f_var f_trm f_ter) (CLW f_lit f_vas f_pls f_fst) (x_td_clauses).toInt (p1).toInt (p2).toInt (((-1) : Int32)).toInt := (Or.inl ⟨fun q9 => by have cl9 : (f_lit (Int32.toNatClampNeg p1)).toInt = (f_lit (p1).toInt.toNat).toInt := (by rw [clamp_nat (by omega)]); have q8 : (p2).toInt < (f_lit (p1).toInt.toNat).toInt := q9.2.2; omega, by decide⟩)
    exact W.iret (v := (-1)) hx hb hr (fun t ht hW => ⟨⟨(-1), (x_wr_length, x_wr_drafted, x_wr_held, f_wb, f_wd, f_wh), rfl, ⟨w46, w47, w48, hf_wh, w49⟩, by rw [ht]; exact hP, hD⟩, hS.F ht⟩) hS.2.2 dX10_show_13

set_option maxHeartbeats 8000000 in
set_option maxRecDepth 100000 in
theorem c_X10_out (l : Launch) (dC : Nat → ClassId) (dI : Nat → Nat → Nat) (sz : Nat) (h_xx : Nat) (h_wr : Nat) (h_wb : Nat) (v_xx : Nat → Value) (v_wr : Nat → Value) (x_wr_length : Int32) (cy_wb : ClassId) (f_wb : Nat → Int32) (p1 : Int32) (hx_wr_length : 0 ≤ (x_wr_length).toInt ∧ (x_wr_length).toInt ≤ 600) : Met l yX10_out (Ws yX10_out cX10_out 2 (some .int)) (({ frames := 0, cells := 0, slots := 0, locals := 0 } : Room)) (PRE (dC, dI) cls [(cy_wb, .int)] [(h_xx, .inr (7, (mo73 v_xx (.ref h_wr)))), (h_wr, .inr (6, (mo74 v_wr (.ref h_wb) (.int x_wr_length)))), (h_wb, .inl (cy_wb, 600, .inl f_wb))] sz [.ref h_xx, .int p1]) (va_Qi (fun (r : Int32) (_ : Unit) => True) (fun (_ : Unit) (t : State) => va_P (dC, dI) cls [(h_xx, .inr (7, (mo73 v_xx (.ref h_wr)))), (h_wr, .inr (6, (mo74 v_wr (.ref h_wb) (.int x_wr_length)))), (h_wb, .inl (cy_wb, 600, .inl f_wb))] t.heap ∧ va_D (va_A [(h_xx, .inr (7, (mo73 v_xx (.ref h_wr)))), (h_wr, .inr (6, (mo74 v_wr (.ref h_wb) (.int x_wr_length)))), (h_wb, .inl (cy_wb, 600, .inl f_wb))] sz) [(h_xx, .inr (7, (mo73 v_xx (.ref h_wr)))), (h_wr, .inr (6, (mo74 v_wr (.ref h_wb) (.int x_wr_length)))), (h_wb, .inl (cy_wb, 600, .inl f_wb))]) (va_A [(h_xx, .inr (7, (mo73 v_xx (.ref h_wr)))), (h_wr, .inr (6, (mo74 v_wr (.ref h_wb) (.int x_wr_length)))), (h_wb, .inl (cy_wb, 600, .inl f_wb))] sz)) 0 0 (va_A [(h_xx, .inr (7, (mo73 v_xx (.ref h_wr)))), (h_wr, .inr (6, (mo74 v_wr (.ref h_wb) (.int x_wr_length)))), (h_wb, .inl (cy_wb, 600, .inl f_wb))] sz) := by
  refine Met.ofW (cc := cX10_out) (maxL := 2) (ret := (some .int)) (by decide) rfl ?_
  intro p e s m args below meth c s₁ B hml hv
  obtain ⟨rfl, hsz, hP, hK, hD0, hN⟩ := hv
  have hx := B.exec
  have hb := B.bytes
  have hr := B.returns
  have hts := atoms_spec (ws := Ws yX10_out cX10_out 2 (some .int)) B.pre
  have hT : ∀ w ∈ WALL, w ∈ Ws yX10_out cX10_out 2 (some .int) := fun w h => List.mem_cons_of_mem _ h
  have hw := fun w (h : w ∈ WALL) => hts w (hT w h)
  have hown : s.vm.findClass RX10 = some m.cls := findClass_of_methodNamed B.named
  have hlocks := B.notSynchronized
  subst hsz
  have hD := hD0.self (sz := s.heap.size)
  generalize hAe : va_A [(h_xx, .inr (7, (mo73 v_xx (.ref h_wr)))), (h_wr, .inr (6, (mo74 v_wr (.ref h_wb) (.int x_wr_length)))), (h_wb, .inl (cy_wb, 600, .inl f_wb))] s.heap.size = A at hD ⊢
  have hA : ∀ q : Nat, s.heap.size ≤ q → A q := fun q h => by rw [← hAe]; exact Or.inr h
  have hS : va_S A s.heap s.heap [] := va_S.rf
  have hl := lv_entry ([.ref h_xx, .int p1]) (n := 2) (Nat.le_of_ble_eq_true rfl)
  rw [lg_entry_eq]
  generalize (lg_sl ([.ref h_xx, .int p1]) ++ List.replicate (2 - (lg_sl ([.ref h_xx, .int p1])).length) Slot.unset).toArray = ls at hl ⊢
  have hl : lv_has ls 2 [(0, .ref h_xx), (1, .int p1)] := hl
  refine lv_iload_n hx hb dX10_out_0 rfl (lv_at hl 1 rfl) ?_
  refine lv_if_lt (tgt := 15) hx hb dX10_out_1 (by decide) (fun c1 => ?_) (fun c1 => ?_)
  · have kc1 := (cv_lt (rfl : (p1).toInt = (p1).toInt) (by decide : (0 : Int32).toInt = 0)).mp c1
    refine lv_iconst (v := (-1)) hx hb dX10_out_15 (by decide) ?_
    refine W.widen (k := 0) (n := 0) (Nat.le_of_ble_eq_true rfl) (Nat.le_of_ble_eq_true rfl) ?_
    have cstm1 : ((-1) : Int32).toInt = -1 := by decide
    exact W.iret (v := (-1)) hx hb hr (fun t ht hW => ⟨⟨(-1), (), rfl, trivial, by rw [ht]; exact hP, hD⟩, hS.F ht⟩) hS.2.2 dX10_out_16
  · have kc1 := (not_congr (cv_lt (rfl : (p1).toInt = (p1).toInt) (by decide : (0 : Int32).toInt = 0))).mp c1
    refine lv_iload_n hx hb dX10_out_4 rfl (lv_at hl 1 rfl) ?_
    refine lv_aload_n hx hb dX10_out_5 rfl (lv_at hl 0 rfl) ?_
    refine va_get (D := (dC, dI)) (ci := 7) (v := .ref h_wr) (C := RX10) (T := TX10) (N := 8) hx hb hw iwX10 hown hK hP 0 rfl rfl 4 (by decide) (hw _ w_f_X10_40) (fun _ h9 => h9) rfl dX10_out_6 ?_
    refine va_getN (D := (dC, dI)) (ci := 6) (v := .int x_wr_length) (C := RX9) (T := TX9) (N := 8) (host := "OppositePairs") hx hb hw iwX9 hown hK hP 1 rfl rfl 3 (by decide) (hN.use n_f_X10_132 rfl) (fun _ h9 => h9) rfl dX10_out_9 ?_
    refine lv_icmp_lt (tgt := 17) hx hb dX10_out_12 (by decide) (fun c2 => ?_) (fun c2 => ?_)
    · have kc2 := (cv_lt (rfl : (p1).toInt = (p1).toInt) (rfl : (x_wr_length).toInt = (x_wr_length).toInt)).mp c2
      refine lv_aload_n hx hb dX10_out_17 rfl (lv_at hl 0 rfl) ?_
      refine va_get (D := (dC, dI)) (ci := 7) (v := .ref h_wr) (C := RX10) (T := TX10) (N := 8) hx hb hw iwX10 hown hK hP 0 rfl rfl 4 (by decide) (hw _ w_f_X10_40) (fun _ h9 => h9) rfl dX10_out_18 ?_
      refine va_getN (D := (dC, dI)) (ci := 6) (v := .ref h_wb) (C := RX9) (T := TX9) (N := 8) (host := "OppositePairs") hx hb hw iwX9 hown hK hP 1 rfl rfl 2 (by decide) (hN.use n_f_X10_133 rfl) (fun _ h9 => h9) rfl dX10_out_21 ?_
      refine lv_iload_n hx hb dX10_out_24 rfl (lv_at hl 1 rfl) ?_
      refine va_iald hx hb hK hP 2 0 rfl rfl (i := p1) (vp_in_iff.mpr (by omega)) dX10_out_25 ?_
      refine lv_topi (fun z3 ez3 => ?_)
      refine W.widen (k := 0) (n := 0) (Nat.le_of_ble_eq_true rfl) (Nat.le_of_ble_eq_true rfl) ?_
      exact W.iret (v := z3) hx hb hr (fun t ht hW => ⟨⟨z3, (), rfl, trivial, by rw [ht]; exact hP, hD⟩, hS.F ht⟩) hS.2.2 dX10_out_26
    · have kc2 := (not_congr (cv_lt (rfl : (p1).toInt = (p1).toInt) (rfl : (x_wr_length).toInt = (x_wr_length).toInt))).mp c2
      refine lv_iconst (v := (-1)) hx hb dX10_out_15 (by decide) ?_
      refine W.widen (k := 0) (n := 0) (Nat.le_of_ble_eq_true rfl) (Nat.le_of_ble_eq_true rfl) ?_
      have cstm1 : ((-1) : Int32).toInt = -1 := by decide
      exact W.iret (v := (-1)) hx hb hr (fun t ht hW => ⟨⟨(-1), (), rfl, trivial, by rw [ht]; exact hP, hD⟩, hS.F ht⟩) hS.2.2 dX10_out_16

set_option maxHeartbeats 8000000 in
set_option maxRecDepth 100000 in
theorem c_X8_areOpposite_e (l : Launch) (dC : Nat → ClassId) (dI : Nat → Nat → Nat) (sz : Nat) (h_td : Nat) (h_nam : Nat) (h_trm : Nat) (h_pls : Nat) (h_fst : Nat) (v_td : Nat → Value) (cy_nam : ClassId) (f_nam : Nat → Int64) (cy_trm : ClassId) (f_trm : Nat → Int32) (cy_pls : ClassId) (f_pls : Nat → Int32) (cy_fst : ClassId) (f_fst : Nat → Int32) (p1 : Int32) (p2 : Int32) (p3 : Int32) (p4 : Int32) (hf_trm : Rg 0 3 f_trm) (hf_fst : Rg 0 299 f_fst) (q0 : 0 ≤ (p1).toInt ∧ (p1).toInt ≤ 15) (q1 : 0 ≤ (p2).toInt ∧ (p2).toInt ≤ 5) (q2 : 0 ≤ (p3).toInt ∧ (p3).toInt ≤ 15) (q3 : 0 ≤ (p4).toInt ∧ (p4).toInt ≤ 5) (hn_ppa : 0 ≤ (f_pls (p1).toInt.toNat).toInt ∧ (f_pls (p1).toInt.toNat).toInt < 64) (hn_ppb : 0 ≤ (f_pls (p3).toInt.toNat).toInt ∧ (f_pls (p3).toInt.toNat).toInt < 64) : Met l yX8_areOpposite (Ws yX8_areOpposite cX8_areOpposite 5 (some .boolean)) (({ frames := 1, cells := 0, slots := 0, locals := 22 } : Room)) (PRE (dC, dI) cls [(cy_nam, .long), (cy_trm, .int), (cy_pls, .int), (cy_fst, .int)] [(h_td, .inr (5, (mo5 v_td (.ref h_nam) (.ref h_trm) (.ref h_pls) (.ref h_fst)))), (h_nam, .inl (cy_nam, 300, .inr (.inl f_nam))), (h_trm, .inl (cy_trm, 300, .inl f_trm)), (h_pls, .inl (cy_pls, 16, .inl f_pls)), (h_fst, .inl (cy_fst, 96, .inl f_fst))] sz [.ref h_td, .int p1, .int p2, .int p3, .int p4]) (va_Qi (fun (r : Int32) (_ : Unit) => (0 ≤ r.toInt ∧ r.toInt ≤ 1) ∧ (OPP (sgC f_pls (p1).toInt.toNat (p2).toInt.toNat - sgC f_pls (p3).toInt.toNat (p4).toInt.toNat) ((f_nam (ndC f_fst (p1).toInt.toNat (p2).toInt.toNat)).toInt = (f_nam (ndC f_fst (p3).toInt.toNat (p4).toInt.toNat)).toInt ∧ (f_trm (ndC f_fst (p1).toInt.toNat (p2).toInt.toNat)).toInt = (f_trm (ndC f_fst (p3).toInt.toNat (p4).toInt.toNat)).toInt) (r).toInt)) (fun (_ : Unit) (t : State) => va_P (dC, dI) cls [(h_td, .inr (5, (mo5 v_td (.ref h_nam) (.ref h_trm) (.ref h_pls) (.ref h_fst)))), (h_nam, .inl (cy_nam, 300, .inr (.inl f_nam))), (h_trm, .inl (cy_trm, 300, .inl f_trm)), (h_pls, .inl (cy_pls, 16, .inl f_pls)), (h_fst, .inl (cy_fst, 96, .inl f_fst))] t.heap ∧ va_D (va_A [(h_td, .inr (5, (mo5 v_td (.ref h_nam) (.ref h_trm) (.ref h_pls) (.ref h_fst)))), (h_nam, .inl (cy_nam, 300, .inr (.inl f_nam))), (h_trm, .inl (cy_trm, 300, .inl f_trm)), (h_pls, .inl (cy_pls, 16, .inl f_pls)), (h_fst, .inl (cy_fst, 96, .inl f_fst))] sz) [(h_td, .inr (5, (mo5 v_td (.ref h_nam) (.ref h_trm) (.ref h_pls) (.ref h_fst)))), (h_nam, .inl (cy_nam, 300, .inr (.inl f_nam))), (h_trm, .inl (cy_trm, 300, .inl f_trm)), (h_pls, .inl (cy_pls, 16, .inl f_pls)), (h_fst, .inl (cy_fst, 96, .inl f_fst))]) (va_A [(h_td, .inr (5, (mo5 v_td (.ref h_nam) (.ref h_trm) (.ref h_pls) (.ref h_fst)))), (h_nam, .inl (cy_nam, 300, .inr (.inl f_nam))), (h_trm, .inl (cy_trm, 300, .inl f_trm)), (h_pls, .inl (cy_pls, 16, .inl f_pls)), (h_fst, .inl (cy_fst, 96, .inl f_fst))] sz)) 0 0 (va_A [(h_td, .inr (5, (mo5 v_td (.ref h_nam) (.ref h_trm) (.ref h_pls) (.ref h_fst)))), (h_nam, .inl (cy_nam, 300, .inr (.inl f_nam))), (h_trm, .inl (cy_trm, 300, .inl f_trm)), (h_pls, .inl (cy_pls, 16, .inl f_pls)), (h_fst, .inl (cy_fst, 96, .inl f_fst))] sz) := by
  refine Met.ofW (cc := cX8_areOpposite) (maxL := 5) (ret := (some .boolean)) (by decide) rfl ?_
  intro p e s m args below meth c s₁ B hml hv
  obtain ⟨rfl, hsz, hP, hK, hD0, hN⟩ := hv
  have hx := B.exec
  have hb := B.bytes
  have hr := B.returns
  have hts := atoms_spec (ws := Ws yX8_areOpposite cX8_areOpposite 5 (some .boolean)) B.pre
  have hT : ∀ w ∈ WALL, w ∈ Ws yX8_areOpposite cX8_areOpposite 5 (some .boolean) := fun w h => List.mem_cons_of_mem _ h
  have hw := fun w (h : w ∈ WALL) => hts w (hT w h)
  have hown : s.vm.findClass RX8 = some m.cls := findClass_of_methodNamed B.named
  have hlocks := B.notSynchronized
  subst hsz
  have hD := hD0.self (sz := s.heap.size)
  generalize hAe : va_A [(h_td, .inr (5, (mo5 v_td (.ref h_nam) (.ref h_trm) (.ref h_pls) (.ref h_fst)))), (h_nam, .inl (cy_nam, 300, .inr (.inl f_nam))), (h_trm, .inl (cy_trm, 300, .inl f_trm)), (h_pls, .inl (cy_pls, 16, .inl f_pls)), (h_fst, .inl (cy_fst, 96, .inl f_fst))] s.heap.size = A at hD ⊢
  have hA : ∀ q : Nat, s.heap.size ≤ q → A q := fun q h => by rw [← hAe]; exact Or.inr h
  have hS : va_S A s.heap s.heap [] := va_S.rf
  have hl := lv_entry ([.ref h_td, .int p1, .int p2, .int p3, .int p4]) (n := 5) (Nat.le_of_ble_eq_true rfl)
  rw [lg_entry_eq]
  generalize (lg_sl ([.ref h_td, .int p1, .int p2, .int p3, .int p4]) ++ List.replicate (5 - (lg_sl ([.ref h_td, .int p1, .int p2, .int p3, .int p4])).length) Slot.unset).toArray = ls at hl ⊢
  have hl : lv_has ls 5 [(0, .ref h_td), (1, .int p1), (2, .int p2), (3, .int p3), (4, .int p4)] := hl
  refine lv_aload_n hx hb dX8_areOpposite_0 rfl (lv_at hl 0 rfl) ?_
  refine lv_iload_n hx hb dX8_areOpposite_1 rfl (lv_at hl 1 rfl) ?_
  refine lv_iload_n hx hb dX8_areOpposite_2 rfl (lv_at hl 2 rfl) ?_
  obtain ⟨vq1, evq1⟩ := mq5_2 v_td (.ref h_nam) (.ref h_trm) (.ref h_fst)
  replace hP : va_P (dC, dI) cls [(h_td, .inr (5, (mo2 vq1 (.ref h_pls)))), (h_nam, .inl (cy_nam, 300, .inr (.inl f_nam))), (h_trm, .inl (cy_trm, 300, .inl f_trm)), (h_pls, .inl (cy_pls, 16, .inl f_pls)), (h_fst, .inl (cy_fst, 96, .inl f_fst))] s.heap := by rw [evq1]; exact hP
  replace hD : va_D A [(h_td, .inr (5, (mo2 vq1 (.ref h_pls)))), (h_nam, .inl (cy_nam, 300, .inr (.inl f_nam))), (h_trm, .inl (cy_trm, 300, .inl f_trm)), (h_pls, .inl (cy_pls, 16, .inl f_pls)), (h_fst, .inl (cy_fst, 96, .inl f_fst))] := by rw [evq1]; exact hD
  have hPc := hP.sub (ws' := [(h_td, .inr (5, (mo2 vq1 (.ref h_pls)))), (h_pls, .inl (cy_pls, 16, .inl f_pls))]) [0, 3] rfl
  have hDc := hD.sub (ws' := [(h_td, .inr (5, (mo2 vq1 (.ref h_pls)))), (h_pls, .inl (cy_pls, 16, .inl f_pls))]) [0, 3] (by decide) rfl
  have hKc := hK.sub (tys' := [(cy_pls, .int)]) [2] rfl
  have hFc := va_free (wc := [(h_td, .inr (5, (mo2 vq1 (.ref h_pls)))), (h_pls, .inl (cy_pls, 16, .inl f_pls))]) hD hS hA [0, 3] rfl
  refine va_calli (va_runV (As := [.int p1, .int p2]) (rest := []) ⟨hx, hb, hml, hown, hts⟩ (c_X8_isPlus_e l dC dI s.heap.size h_td h_pls vq1 cy_pls f_pls p1 p2 (by first | exact q0 | omega) (by first | exact q1 | omega) hn_ppa) (cwV 2 hts (gv hT w_m_X8_54 w_instanceMethod_X8_isPlus ws_sel_X8_isPlus w_ini_X8 w_code_X8_isPlus) rfl rfl rfl (by decide +kernel) ⟨(Nat.le_of_ble_eq_true rfl), (Nat.le_of_ble_eq_true rfl)⟩) ⟨pre_blind, va_recv hK hP (ci := 5) (q0 := 0) rfl rfl, pre_of hPc hKc hDc hN⟩ rfl rfl hl.1 rfl (lv_room (Nat.le_of_ble_eq_true rfl)) dX8_areOpposite_3 ⟨(Nat.le_of_ble_eq_true rfl), (Nat.le_of_ble_eq_true rfl)⟩) hS (fun q _ h => hFc q h) hFc (fun r2 u t H locs ht hvm hq hB hz1 hk1 hS9 => ?_)
  obtain ⟨hP1, hD1⟩ := hB
  rw [ht] at hP1
  obtain ⟨hP9, hD9⟩ := va_join (wr := [(h_nam, .inl (cy_nam, 300, .inr (.inl f_nam))), (h_trm, .inl (cy_trm, 300, .inl f_trm)), (h_fst, .inl (cy_fst, 96, .inl f_fst))]) (w1 := [(h_td, .inr (5, (mo2 vq1 (.ref h_pls)))), (h_pls, .inl (cy_pls, 16, .inl f_pls))]) hP hD [0, 3] [1, 2, 4] rfl rfl (by decide) (by decide) hk1 hFc hP1 hD1
  clear hP hD hS hPc hDc hKc hFc hP1 hD1 hk1 hz1 ht hvm
  have hP : va_P (dC, dI) cls [(h_nam, .inl (cy_nam, 300, .inr (.inl f_nam))), (h_trm, .inl (cy_trm, 300, .inl f_trm)), (h_fst, .inl (cy_fst, 96, .inl f_fst)), (h_td, .inr (5, (mo2 vq1 (.ref h_pls)))), (h_pls, .inl (cy_pls, 16, .inl f_pls))] H := hP9
  have hD : va_D A [(h_nam, .inl (cy_nam, 300, .inr (.inl f_nam))), (h_trm, .inl (cy_trm, 300, .inl f_trm)), (h_fst, .inl (cy_fst, 96, .inl f_fst)), (h_td, .inr (5, (mo2 vq1 (.ref h_pls)))), (h_pls, .inl (cy_pls, 16, .inl f_pls))] := hD9
  have hS := hS9
  clear hP9 hD9 hS9
  rw [evq1] at hP hD
  replace hP : va_P (dC, dI) cls [(h_nam, .inl (cy_nam, 300, .inr (.inl f_nam))), (h_trm, .inl (cy_trm, 300, .inl f_trm)), (h_fst, .inl (cy_fst, 96, .inl f_fst)), (h_td, .inr (5, (mo5 v_td (.ref h_nam) (.ref h_trm) (.ref h_pls) (.ref h_fst)))), (h_pls, .inl (cy_pls, 16, .inl f_pls))] H := hP
  replace hD : va_D A [(h_nam, .inl (cy_nam, 300, .inr (.inl f_nam))), (h_trm, .inl (cy_trm, 300, .inl f_trm)), (h_fst, .inl (cy_fst, 96, .inl f_fst)), (h_td, .inr (5, (mo5 v_td (.ref h_nam) (.ref h_trm) (.ref h_pls) (.ref h_fst)))), (h_pls, .inl (cy_pls, 16, .inl f_pls))] := hD
  clear evq1 
  obtain ⟨k3, k4⟩ := hq
  replace k3 : 0 ≤ (r2).toInt ∧ (r2).toInt ≤ 1 := k3
  replace k4 : ((r2)).toInt = (f_pls ((p1)).toInt.toNat).toInt / (2 : Int) ^ ((p2)).toInt.toNat % 2 := k4
  have sg1 : (r2).toInt = sgC f_pls (p1).toInt.toNat (p2).toInt.toNat := k4
  refine lv_aload_n hx hb dX8_areOpposite_6 rfl (lv_at hl 0 rfl) ?_
  refine lv_iload_n hx hb dX8_areOpposite_7 rfl (lv_at hl 3 rfl) ?_
  refine lv_iload hx hb dX8_areOpposite_8 (lv_at hl 4 rfl) ?_
  obtain ⟨vq5, evq5⟩ := mq5_2 v_td (.ref h_nam) (.ref h_trm) (.ref h_fst)
  replace hP : va_P (dC, dI) cls [(h_nam, .inl (cy_nam, 300, .inr (.inl f_nam))), (h_trm, .inl (cy_trm, 300, .inl f_trm)), (h_fst, .inl (cy_fst, 96, .inl f_fst)), (h_td, .inr (5, (mo2 vq5 (.ref h_pls)))), (h_pls, .inl (cy_pls, 16, .inl f_pls))] H := by rw [evq5]; exact hP
  replace hD : va_D A [(h_nam, .inl (cy_nam, 300, .inr (.inl f_nam))), (h_trm, .inl (cy_trm, 300, .inl f_trm)), (h_fst, .inl (cy_fst, 96, .inl f_fst)), (h_td, .inr (5, (mo2 vq5 (.ref h_pls)))), (h_pls, .inl (cy_pls, 16, .inl f_pls))] := by rw [evq5]; exact hD
  have hPc := hP.sub (ws' := [(h_td, .inr (5, (mo2 vq5 (.ref h_pls)))), (h_pls, .inl (cy_pls, 16, .inl f_pls))]) [3, 4] rfl
  have hDc := hD.sub (ws' := [(h_td, .inr (5, (mo2 vq5 (.ref h_pls)))), (h_pls, .inl (cy_pls, 16, .inl f_pls))]) [3, 4] (by decide) rfl
  have hKc := hK.sub (tys' := [(cy_pls, .int)]) [2] rfl
  have hFc := va_free (wc := [(h_td, .inr (5, (mo2 vq5 (.ref h_pls)))), (h_pls, .inl (cy_pls, 16, .inl f_pls))]) hD hS hA [3, 4] rfl
  refine va_calli (va_runV (As := [.int p3, .int p4]) (rest := [.int r2]) ⟨hx, hb, hml, hown, hts⟩ (c_X8_isPlus_e l dC dI H.size h_td h_pls vq5 cy_pls f_pls p3 p4 (by first | exact q2 | omega) (by first | exact q3 | omega) hn_ppb) (cwV 2 hts (gv hT w_m_X8_54 w_instanceMethod_X8_isPlus ws_sel_X8_isPlus w_ini_X8 w_code_X8_isPlus) rfl rfl rfl (by decide +kernel) ⟨(Nat.le_of_ble_eq_true rfl), (Nat.le_of_ble_eq_true rfl)⟩) ⟨pre_blind, va_recv hK hP (ci := 5) (q0 := 3) rfl rfl, pre_of hPc hKc hDc hN⟩ rfl rfl hl.1 rfl (lv_room (Nat.le_of_ble_eq_true rfl)) dX8_areOpposite_10 ⟨(Nat.le_of_ble_eq_true rfl), (Nat.le_of_ble_eq_true rfl)⟩) hS (fun q _ h => hFc q h) hFc (fun r6 u t H locs ht hvm hq hB hz1 hk1 hS9 => ?_)
  obtain ⟨hP1, hD1⟩ := hB
  rw [ht] at hP1
  obtain ⟨hP9, hD9⟩ := va_join (wr := [(h_nam, .inl (cy_nam, 300, .inr (.inl f_nam))), (h_trm, .inl (cy_trm, 300, .inl f_trm)), (h_fst, .inl (cy_fst, 96, .inl f_fst))]) (w1 := [(h_td, .inr (5, (mo2 vq5 (.ref h_pls)))), (h_pls, .inl (cy_pls, 16, .inl f_pls))]) hP hD [3, 4] [0, 1, 2] rfl rfl (by decide) (by decide) hk1 hFc hP1 hD1
  clear hP hD hS hPc hDc hKc hFc hP1 hD1 hk1 hz1 ht hvm
  have hP : va_P (dC, dI) cls [(h_nam, .inl (cy_nam, 300, .inr (.inl f_nam))), (h_trm, .inl (cy_trm, 300, .inl f_trm)), (h_fst, .inl (cy_fst, 96, .inl f_fst)), (h_td, .inr (5, (mo2 vq5 (.ref h_pls)))), (h_pls, .inl (cy_pls, 16, .inl f_pls))] H := hP9
  have hD : va_D A [(h_nam, .inl (cy_nam, 300, .inr (.inl f_nam))), (h_trm, .inl (cy_trm, 300, .inl f_trm)), (h_fst, .inl (cy_fst, 96, .inl f_fst)), (h_td, .inr (5, (mo2 vq5 (.ref h_pls)))), (h_pls, .inl (cy_pls, 16, .inl f_pls))] := hD9
  have hS := hS9
  clear hP9 hD9 hS9
  rw [evq5] at hP hD
  replace hP : va_P (dC, dI) cls [(h_nam, .inl (cy_nam, 300, .inr (.inl f_nam))), (h_trm, .inl (cy_trm, 300, .inl f_trm)), (h_fst, .inl (cy_fst, 96, .inl f_fst)), (h_td, .inr (5, (mo5 v_td (.ref h_nam) (.ref h_trm) (.ref h_pls) (.ref h_fst)))), (h_pls, .inl (cy_pls, 16, .inl f_pls))] H := hP
  replace hD : va_D A [(h_nam, .inl (cy_nam, 300, .inr (.inl f_nam))), (h_trm, .inl (cy_trm, 300, .inl f_trm)), (h_fst, .inl (cy_fst, 96, .inl f_fst)), (h_td, .inr (5, (mo5 v_td (.ref h_nam) (.ref h_trm) (.ref h_pls) (.ref h_fst)))), (h_pls, .inl (cy_pls, 16, .inl f_pls))] := hD
  clear evq5 
  obtain ⟨k7, k8⟩ := hq
  replace k7 : 0 ≤ (r6).toInt ∧ (r6).toInt ≤ 1 := k7
  replace k8 : ((r6)).toInt = (f_pls ((p3)).toInt.toNat).toInt / (2 : Int) ^ ((p4)).toInt.toNat % 2 := k8
  have sg2 : (r6).toInt = sgC f_pls (p3).toInt.toNat (p4).toInt.toNat := k8
  refine lv_icmp_eq (tgt := 40) hx hb dX8_areOpposite_13 (by decide) (fun c9 => ?_) (fun c9 => ?_)
  · have kc9 := (cv_eq (rfl : (r2).toInt = (r2).toInt) (rfl : (r6).toInt = (r6).toInt)).mp c9
    refine lv_iconst (v := 0) hx hb dX8_areOpposite_40 (by decide) ?_
    replace hP : va_P (dC, dI) cls [(h_td, .inr (5, (mo5 v_td (.ref h_nam) (.ref h_trm) (.ref h_pls) (.ref h_fst)))), (h_nam, .inl (cy_nam, 300, .inr (.inl f_nam))), (h_trm, .inl (cy_trm, 300, .inl f_trm)), (h_pls, .inl (cy_pls, 16, .inl f_pls)), (h_fst, .inl (cy_fst, 96, .inl f_fst))] H := hP.sub [3, 0, 1, 4, 2] rfl
    replace hD : va_D A [(h_td, .inr (5, (mo5 v_td (.ref h_nam) (.ref h_trm) (.ref h_pls) (.ref h_fst)))), (h_nam, .inl (cy_nam, 300, .inr (.inl f_nam))), (h_trm, .inl (cy_trm, 300, .inl f_trm)), (h_pls, .inl (cy_pls, 16, .inl f_pls)), (h_fst, .inl (cy_fst, 96, .inl f_fst))] := hD.sub [3, 0, 1, 4, 2] (by decide) rfl
    refine W.widen (k := 0) (n := 0) (Nat.le_of_ble_eq_true rfl) (Nat.le_of_ble_eq_true rfl) ?_
    have cst0 : (0 : Int32).toInt = 0 := by decide
    have w10 : 0 ≤ (0 : Int32).toInt ∧ (0 : Int32).toInt ≤ 1 := by omega
    have w11 : OPP (sgC f_pls (p1).toInt.toNat (p2).toInt.toNat - sgC f_pls (p3).toInt.toNat (p4).toInt.toNat) ((f_nam (ndC f_fst (p1).toInt.toNat (p2).toInt.toNat)).toInt = (f_nam (ndC f_fst (p3).toInt.toNat (p4).toInt.toNat)).toInt ∧ (f_trm (ndC f_fst (p1).toInt.toNat (p2).toInt.toNat)).toInt = (f_trm (ndC f_fst (p3).toInt.toNat (p4).toInt.toNat)).toInt) ((0 : Int32)).toInt := (Or.inr ⟨by decide, Or.inl (by omega)⟩)
    exact W.zret (v := 0) (ty := .boolean) hx hb hr (by decide) (fun t ht hW => ⟨⟨0, (), rfl, ⟨w10, w11⟩, by rw [ht]; exact hP, hD⟩, hS.F ht⟩) hS.2.2 dX8_areOpposite_41
  · have kc9 := (not_congr (cv_eq (rfl : (r2).toInt = (r2).toInt) (rfl : (r6).toInt = (r6).toInt))).mp c9
    refine lv_aload_n hx hb dX8_areOpposite_16 rfl (lv_at hl 0 rfl) ?_
    refine lv_aload_n hx hb dX8_areOpposite_17 rfl (lv_at hl 0 rfl) ?_
    refine lv_iload_n hx hb dX8_areOpposite_18 rfl (lv_at hl 1 rfl) ?_
    refine lv_iload_n hx hb dX8_areOpposite_19 rfl (lv_at hl 2 rfl) ?_
    obtain ⟨vq12, evq12⟩ := mq5_3 v_td (.ref h_nam) (.ref h_trm) (.ref h_pls)
    replace hP : va_P (dC, dI) cls [(h_nam, .inl (cy_nam, 300, .inr (.inl f_nam))), (h_trm, .inl (cy_trm, 300, .inl f_trm)), (h_fst, .inl (cy_fst, 96, .inl f_fst)), (h_td, .inr (5, (mo3 vq12 (.ref h_fst)))), (h_pls, .inl (cy_pls, 16, .inl f_pls))] H := by rw [evq12]; exact hP
    replace hD : va_D A [(h_nam, .inl (cy_nam, 300, .inr (.inl f_nam))), (h_trm, .inl (cy_trm, 300, .inl f_trm)), (h_fst, .inl (cy_fst, 96, .inl f_fst)), (h_td, .inr (5, (mo3 vq12 (.ref h_fst)))), (h_pls, .inl (cy_pls, 16, .inl f_pls))] := by rw [evq12]; exact hD
    have hPc := hP.sub (ws' := [(h_td, .inr (5, (mo3 vq12 (.ref h_fst)))), (h_fst, .inl (cy_fst, 96, .inl f_fst))]) [3, 2] rfl
    have hDc := hD.sub (ws' := [(h_td, .inr (5, (mo3 vq12 (.ref h_fst)))), (h_fst, .inl (cy_fst, 96, .inl f_fst))]) [3, 2] (by decide) rfl
    have hKc := hK.sub (tys' := [(cy_fst, .int)]) [3] rfl
    have hFc := va_free (wc := [(h_td, .inr (5, (mo3 vq12 (.ref h_fst)))), (h_fst, .inl (cy_fst, 96, .inl f_fst))]) hD hS hA [3, 2] rfl
    refine va_calli (va_runV (As := [.int p1, .int p2]) (rest := [.ref h_td]) ⟨hx, hb, hml, hown, hts⟩ (c_X8_part l dC dI H.size h_td h_fst vq12 cy_fst f_fst p1 p2 hf_fst (by first | exact q0 | omega) (by first | exact q1 | omega)) (cwV 2 hts (gv hT w_m_X8_58 w_instanceMethod_X8_part ws_sel_X8_part w_ini_X8 w_code_X8_part) rfl rfl rfl (by decide +kernel) ⟨(Nat.le_of_ble_eq_true rfl), (Nat.le_of_ble_eq_true rfl)⟩) ⟨pre_blind, va_recv hK hP (ci := 5) (q0 := 3) rfl rfl, pre_of hPc hKc hDc hN⟩ rfl rfl hl.1 rfl (lv_room (Nat.le_of_ble_eq_true rfl)) dX8_areOpposite_20 ⟨(Nat.le_of_ble_eq_true rfl), (Nat.le_of_ble_eq_true rfl)⟩) hS (fun q _ h => hFc q h) hFc (fun r13 u t H locs ht hvm hq hB hz1 hk1 hS9 => ?_)
    obtain ⟨hP1, hD1⟩ := hB
    rw [ht] at hP1
    obtain ⟨hP9, hD9⟩ := va_join (wr := [(h_nam, .inl (cy_nam, 300, .inr (.inl f_nam))), (h_trm, .inl (cy_trm, 300, .inl f_trm)), (h_pls, .inl (cy_pls, 16, .inl f_pls))]) (w1 := [(h_td, .inr (5, (mo3 vq12 (.ref h_fst)))), (h_fst, .inl (cy_fst, 96, .inl f_fst))]) hP hD [3, 2] [0, 1, 4] rfl rfl (by decide) (by decide) hk1 hFc hP1 hD1
    clear hP hD hS hPc hDc hKc hFc hP1 hD1 hk1 hz1 ht hvm
    have hP : va_P (dC, dI) cls [(h_nam, .inl (cy_nam, 300, .inr (.inl f_nam))), (h_trm, .inl (cy_trm, 300, .inl f_trm)), (h_pls, .inl (cy_pls, 16, .inl f_pls)), (h_td, .inr (5, (mo3 vq12 (.ref h_fst)))), (h_fst, .inl (cy_fst, 96, .inl f_fst))] H := hP9
    have hD : va_D A [(h_nam, .inl (cy_nam, 300, .inr (.inl f_nam))), (h_trm, .inl (cy_trm, 300, .inl f_trm)), (h_pls, .inl (cy_pls, 16, .inl f_pls)), (h_td, .inr (5, (mo3 vq12 (.ref h_fst)))), (h_fst, .inl (cy_fst, 96, .inl f_fst))] := hD9
    have hS := hS9
    clear hP9 hD9 hS9
    rw [evq12] at hP hD
    replace hP : va_P (dC, dI) cls [(h_nam, .inl (cy_nam, 300, .inr (.inl f_nam))), (h_trm, .inl (cy_trm, 300, .inl f_trm)), (h_pls, .inl (cy_pls, 16, .inl f_pls)), (h_td, .inr (5, (mo5 v_td (.ref h_nam) (.ref h_trm) (.ref h_pls) (.ref h_fst)))), (h_fst, .inl (cy_fst, 96, .inl f_fst))] H := hP
    replace hD : va_D A [(h_nam, .inl (cy_nam, 300, .inr (.inl f_nam))), (h_trm, .inl (cy_trm, 300, .inl f_trm)), (h_pls, .inl (cy_pls, 16, .inl f_pls)), (h_td, .inr (5, (mo5 v_td (.ref h_nam) (.ref h_trm) (.ref h_pls) (.ref h_fst)))), (h_fst, .inl (cy_fst, 96, .inl f_fst))] := hD
    clear evq12 
    obtain ⟨k14, k15⟩ := hq
    replace k14 : 0 ≤ (r13).toInt ∧ (r13).toInt ≤ 299 := k14
    replace k15 : (r13) = f_fst (6 * ((p1)).toInt.toNat + ((p2)).toInt.toNat) := k15
    have pt1 : r13 = f_fst (6 * (p1).toInt.toNat + (p2).toInt.toNat) := k15
    refine lv_aload_n hx hb dX8_areOpposite_23 rfl (lv_at hl 0 rfl) ?_
    refine lv_iload_n hx hb dX8_areOpposite_24 rfl (lv_at hl 3 rfl) ?_
    refine lv_iload hx hb dX8_areOpposite_25 (lv_at hl 4 rfl) ?_
    obtain ⟨vq16, evq16⟩ := mq5_3 v_td (.ref h_nam) (.ref h_trm) (.ref h_pls)
    replace hP : va_P (dC, dI) cls [(h_nam, .inl (cy_nam, 300, .inr (.inl f_nam))), (h_trm, .inl (cy_trm, 300, .inl f_trm)), (h_pls, .inl (cy_pls, 16, .inl f_pls)), (h_td, .inr (5, (mo3 vq16 (.ref h_fst)))), (h_fst, .inl (cy_fst, 96, .inl f_fst))] H := by rw [evq16]; exact hP
    replace hD : va_D A [(h_nam, .inl (cy_nam, 300, .inr (.inl f_nam))), (h_trm, .inl (cy_trm, 300, .inl f_trm)), (h_pls, .inl (cy_pls, 16, .inl f_pls)), (h_td, .inr (5, (mo3 vq16 (.ref h_fst)))), (h_fst, .inl (cy_fst, 96, .inl f_fst))] := by rw [evq16]; exact hD
    have hPc := hP.sub (ws' := [(h_td, .inr (5, (mo3 vq16 (.ref h_fst)))), (h_fst, .inl (cy_fst, 96, .inl f_fst))]) [3, 4] rfl
    have hDc := hD.sub (ws' := [(h_td, .inr (5, (mo3 vq16 (.ref h_fst)))), (h_fst, .inl (cy_fst, 96, .inl f_fst))]) [3, 4] (by decide) rfl
    have hKc := hK.sub (tys' := [(cy_fst, .int)]) [3] rfl
    have hFc := va_free (wc := [(h_td, .inr (5, (mo3 vq16 (.ref h_fst)))), (h_fst, .inl (cy_fst, 96, .inl f_fst))]) hD hS hA [3, 4] rfl
    refine va_calli (va_runV (As := [.int p3, .int p4]) (rest := [.int r13, .ref h_td]) ⟨hx, hb, hml, hown, hts⟩ (c_X8_part l dC dI H.size h_td h_fst vq16 cy_fst f_fst p3 p4 hf_fst (by first | exact q2 | omega) (by first | exact q3 | omega)) (cwV 2 hts (gv hT w_m_X8_58 w_instanceMethod_X8_part ws_sel_X8_part w_ini_X8 w_code_X8_part) rfl rfl rfl (by decide +kernel) ⟨(Nat.le_of_ble_eq_true rfl), (Nat.le_of_ble_eq_true rfl)⟩) ⟨pre_blind, va_recv hK hP (ci := 5) (q0 := 3) rfl rfl, pre_of hPc hKc hDc hN⟩ rfl rfl hl.1 rfl (lv_room (Nat.le_of_ble_eq_true rfl)) dX8_areOpposite_27 ⟨(Nat.le_of_ble_eq_true rfl), (Nat.le_of_ble_eq_true rfl)⟩) hS (fun q _ h => hFc q h) hFc (fun r17 u t H locs ht hvm hq hB hz1 hk1 hS9 => ?_)
    obtain ⟨hP1, hD1⟩ := hB
    rw [ht] at hP1
    obtain ⟨hP9, hD9⟩ := va_join (wr := [(h_nam, .inl (cy_nam, 300, .inr (.inl f_nam))), (h_trm, .inl (cy_trm, 300, .inl f_trm)), (h_pls, .inl (cy_pls, 16, .inl f_pls))]) (w1 := [(h_td, .inr (5, (mo3 vq16 (.ref h_fst)))), (h_fst, .inl (cy_fst, 96, .inl f_fst))]) hP hD [3, 4] [0, 1, 2] rfl rfl (by decide) (by decide) hk1 hFc hP1 hD1
    clear hP hD hS hPc hDc hKc hFc hP1 hD1 hk1 hz1 ht hvm
    have hP : va_P (dC, dI) cls [(h_nam, .inl (cy_nam, 300, .inr (.inl f_nam))), (h_trm, .inl (cy_trm, 300, .inl f_trm)), (h_pls, .inl (cy_pls, 16, .inl f_pls)), (h_td, .inr (5, (mo3 vq16 (.ref h_fst)))), (h_fst, .inl (cy_fst, 96, .inl f_fst))] H := hP9
    have hD : va_D A [(h_nam, .inl (cy_nam, 300, .inr (.inl f_nam))), (h_trm, .inl (cy_trm, 300, .inl f_trm)), (h_pls, .inl (cy_pls, 16, .inl f_pls)), (h_td, .inr (5, (mo3 vq16 (.ref h_fst)))), (h_fst, .inl (cy_fst, 96, .inl f_fst))] := hD9
    have hS := hS9
    clear hP9 hD9 hS9
    rw [evq16] at hP hD
    replace hP : va_P (dC, dI) cls [(h_nam, .inl (cy_nam, 300, .inr (.inl f_nam))), (h_trm, .inl (cy_trm, 300, .inl f_trm)), (h_pls, .inl (cy_pls, 16, .inl f_pls)), (h_td, .inr (5, (mo5 v_td (.ref h_nam) (.ref h_trm) (.ref h_pls) (.ref h_fst)))), (h_fst, .inl (cy_fst, 96, .inl f_fst))] H := hP
    replace hD : va_D A [(h_nam, .inl (cy_nam, 300, .inr (.inl f_nam))), (h_trm, .inl (cy_trm, 300, .inl f_trm)), (h_pls, .inl (cy_pls, 16, .inl f_pls)), (h_td, .inr (5, (mo5 v_td (.ref h_nam) (.ref h_trm) (.ref h_pls) (.ref h_fst)))), (h_fst, .inl (cy_fst, 96, .inl f_fst))] := hD
    clear evq16 
    obtain ⟨k18, k19⟩ := hq
    replace k18 : 0 ≤ (r17).toInt ∧ (r17).toInt ≤ 299 := k18
    replace k19 : (r17) = f_fst (6 * ((p3)).toInt.toNat + ((p4)).toInt.toNat) := k19
    have pt2 : r17 = f_fst (6 * (p3).toInt.toNat + (p4).toInt.toNat) := k19
    obtain ⟨vq20, evq20⟩ := mq5_4 v_td (.ref h_pls) (.ref h_fst)
    replace hP : va_P (dC, dI) cls [(h_nam, .inl (cy_nam, 300, .inr (.inl f_nam))), (h_trm, .inl (cy_trm, 300, .inl f_trm)), (h_pls, .inl (cy_pls, 16, .inl f_pls)), (h_td, .inr (5, (mo4 vq20 (.ref h_nam) (.ref h_trm)))), (h_fst, .inl (cy_fst, 96, .inl f_fst))] H := by rw [evq20]; exact hP
    replace hD : va_D A [(h_nam, .inl (cy_nam, 300, .inr (.inl f_nam))), (h_trm, .inl (cy_trm, 300, .inl f_trm)), (h_pls, .inl (cy_pls, 16, .inl f_pls)), (h_td, .inr (5, (mo4 vq20 (.ref h_nam) (.ref h_trm)))), (h_fst, .inl (cy_fst, 96, .inl f_fst))] := by rw [evq20]; exact hD
    have hPc := hP.sub (ws' := [(h_td, .inr (5, (mo4 vq20 (.ref h_nam) (.ref h_trm)))), (h_nam, .inl (cy_nam, 300, .inr (.inl f_nam))), (h_trm, .inl (cy_trm, 300, .inl f_trm))]) [3, 0, 1] rfl
    have hDc := hD.sub (ws' := [(h_td, .inr (5, (mo4 vq20 (.ref h_nam) (.ref h_trm)))), (h_nam, .inl (cy_nam, 300, .inr (.inl f_nam))), (h_trm, .inl (cy_trm, 300, .inl f_trm))]) [3, 0, 1] (by decide) rfl
    have hKc := hK.sub (tys' := [(cy_nam, .long), (cy_trm, .int)]) [0, 1] rfl
    have hFc := va_free (wc := [(h_td, .inr (5, (mo4 vq20 (.ref h_nam) (.ref h_trm)))), (h_nam, .inl (cy_nam, 300, .inr (.inl f_nam))), (h_trm, .inl (cy_trm, 300, .inl f_trm))]) hD hS hA [3, 0, 1] rfl
    refine va_calli (va_runV (As := [.int r13, .int r17]) (rest := []) ⟨hx, hb, hml, hown, hts⟩ (c_X8_haveLikeNames_x l dC dI H.size h_td h_nam h_trm vq20 cy_nam f_nam cy_trm f_trm r13 r17 hf_trm (by first | exact k14 | omega) (by first | exact k18 | omega)) (cwV 2 hts (gv hT w_m_X8_61 w_instanceMethod_X8_haveLikeNames ws_sel_X8_haveLikeNames w_ini_X8 w_code_X8_haveLikeNames) rfl rfl rfl (by decide +kernel) ⟨(Nat.le_of_ble_eq_true rfl), (Nat.le_of_ble_eq_true rfl)⟩) ⟨pre_blind, va_recv hK hP (ci := 5) (q0 := 3) rfl rfl, pre_of hPc hKc hDc hN⟩ rfl rfl hl.1 rfl (lv_room (Nat.le_of_ble_eq_true rfl)) dX8_areOpposite_30 ⟨(Nat.le_of_ble_eq_true rfl), (Nat.le_of_ble_eq_true rfl)⟩) hS (fun q _ h => hFc q h) hFc (fun r21 u t H locs ht hvm hq hB hz1 hk1 hS9 => ?_)
    obtain ⟨hP1, hD1⟩ := hB
    rw [ht] at hP1
    obtain ⟨hP9, hD9⟩ := va_join (wr := [(h_pls, .inl (cy_pls, 16, .inl f_pls)), (h_fst, .inl (cy_fst, 96, .inl f_fst))]) (w1 := [(h_td, .inr (5, (mo4 vq20 (.ref h_nam) (.ref h_trm)))), (h_nam, .inl (cy_nam, 300, .inr (.inl f_nam))), (h_trm, .inl (cy_trm, 300, .inl f_trm))]) hP hD [3, 0, 1] [2, 4] rfl rfl (by decide) (by decide) hk1 hFc hP1 hD1
    clear hP hD hS hPc hDc hKc hFc hP1 hD1 hk1 hz1 ht hvm
    have hP : va_P (dC, dI) cls [(h_pls, .inl (cy_pls, 16, .inl f_pls)), (h_fst, .inl (cy_fst, 96, .inl f_fst)), (h_td, .inr (5, (mo4 vq20 (.ref h_nam) (.ref h_trm)))), (h_nam, .inl (cy_nam, 300, .inr (.inl f_nam))), (h_trm, .inl (cy_trm, 300, .inl f_trm))] H := hP9
    have hD : va_D A [(h_pls, .inl (cy_pls, 16, .inl f_pls)), (h_fst, .inl (cy_fst, 96, .inl f_fst)), (h_td, .inr (5, (mo4 vq20 (.ref h_nam) (.ref h_trm)))), (h_nam, .inl (cy_nam, 300, .inr (.inl f_nam))), (h_trm, .inl (cy_trm, 300, .inl f_trm))] := hD9
    have hS := hS9
    clear hP9 hD9 hS9
    rw [evq20] at hP hD
    replace hP : va_P (dC, dI) cls [(h_pls, .inl (cy_pls, 16, .inl f_pls)), (h_fst, .inl (cy_fst, 96, .inl f_fst)), (h_td, .inr (5, (mo5 v_td (.ref h_nam) (.ref h_trm) (.ref h_pls) (.ref h_fst)))), (h_nam, .inl (cy_nam, 300, .inr (.inl f_nam))), (h_trm, .inl (cy_trm, 300, .inl f_trm))] H := hP
    replace hD : va_D A [(h_pls, .inl (cy_pls, 16, .inl f_pls)), (h_fst, .inl (cy_fst, 96, .inl f_fst)), (h_td, .inr (5, (mo5 v_td (.ref h_nam) (.ref h_trm) (.ref h_pls) (.ref h_fst)))), (h_nam, .inl (cy_nam, 300, .inr (.inl f_nam))), (h_trm, .inl (cy_trm, 300, .inl f_trm))] := hD
    clear evq20 
    rcases hq with ⟨rfl, hq⟩ | ⟨rfl, hq⟩
    · replace hq : ((f_nam (Int32.toNatClampNeg (r13))).toInt = (f_nam (Int32.toNatClampNeg (r17))).toInt) ∧ ((f_trm (Int32.toNatClampNeg (r13))).toInt = (f_trm (Int32.toNatClampNeg (r17))).toInt) := hq
      have lk9 : ((f_nam (ndC f_fst (p1).toInt.toNat (p2).toInt.toNat)).toInt = (f_nam (ndC f_fst (p3).toInt.toNat (p4).toInt.toNat)).toInt ∧ (f_trm (ndC f_fst (p1).toInt.toNat (p2).toInt.toNat)).toInt = (f_trm (ndC f_fst (p3).toInt.toNat (p4).toInt.toNat)).toInt) := by have h9 := hq; rw [pt1, pt2] at h9; exact h9
      refine lv_if_eq (tgt := 40) hx hb dX8_areOpposite_33 (by decide) (fun c9 => absurd c9 (by decide)) (fun _ => ?_)
      refine lv_iconst (v := 1) hx hb dX8_areOpposite_36 (by decide) ?_
      refine lv_goto (tgt := 41) hx hb dX8_areOpposite_37 (by decide) ?_
      replace hP : va_P (dC, dI) cls [(h_td, .inr (5, (mo5 v_td (.ref h_nam) (.ref h_trm) (.ref h_pls) (.ref h_fst)))), (h_nam, .inl (cy_nam, 300, .inr (.inl f_nam))), (h_trm, .inl (cy_trm, 300, .inl f_trm)), (h_pls, .inl (cy_pls, 16, .inl f_pls)), (h_fst, .inl (cy_fst, 96, .inl f_fst))] H := hP.sub [2, 3, 4, 0, 1] rfl
      replace hD : va_D A [(h_td, .inr (5, (mo5 v_td (.ref h_nam) (.ref h_trm) (.ref h_pls) (.ref h_fst)))), (h_nam, .inl (cy_nam, 300, .inr (.inl f_nam))), (h_trm, .inl (cy_trm, 300, .inl f_trm)), (h_pls, .inl (cy_pls, 16, .inl f_pls)), (h_fst, .inl (cy_fst, 96, .inl f_fst))] := hD.sub [2, 3, 4, 0, 1] (by decide) rfl
      refine W.widen (k := 0) (n := 0) (Nat.le_of_ble_eq_true rfl) (Nat.le_of_ble_eq_true rfl) ?_
      have cst1 : (1 : Int32).toInt = 1 := by decide
      have w22 : 0 ≤ (1 : Int32).toInt ∧ (1 : Int32).toInt ≤ 1 := by omega
      have w23 : OPP (sgC f_pls (p1).toInt.toNat (p2).toInt.toNat - sgC f_pls (p3).toInt.toNat (p4).toInt.toNat) ((f_nam (ndC f_fst (p1).toInt.toNat (p2).toInt.toNat)).toInt = (f_nam (ndC f_fst (p3).toInt.toNat (p4).toInt.toNat)).toInt ∧ (f_trm (ndC f_fst (p1).toInt.toNat (p2).toInt.toNat)).toInt = (f_trm (ndC f_fst (p3).toInt.toNat (p4).toInt.toNat)).toInt) ((1 : Int32)).toInt := (Or.inl ⟨by decide, by omega, lk9⟩)
      exact W.zret (v := 1) (ty := .boolean) hx hb hr (by decide) (fun t ht hW => ⟨⟨1, (), rfl, ⟨w22, w23⟩, by rw [ht]; exact hP, hD⟩, hS.F ht⟩) hS.2.2 dX8_areOpposite_41
    · replace hq : (¬ ((f_nam (Int32.toNatClampNeg (r13))).toInt = (f_nam (Int32.toNatClampNeg (r17))).toInt ∧ (f_trm (Int32.toNatClampNeg (r13))).toInt = (f_trm (Int32.toNatClampNeg (r17))).toInt)) := hq
      have lk9 : ¬ ((f_nam (ndC f_fst (p1).toInt.toNat (p2).toInt.toNat)).toInt = (f_nam (ndC f_fst (p3).toInt.toNat (p4).toInt.toNat)).toInt ∧ (f_trm (ndC f_fst (p1).toInt.toNat (p2).toInt.toNat)).toInt = (f_trm (ndC f_fst (p3).toInt.toNat (p4).toInt.toNat)).toInt) := by have h9 := hq; rw [pt1, pt2] at h9; exact h9
      refine lv_if_eq (tgt := 40) hx hb dX8_areOpposite_33 (by decide) (fun _ => ?_) (fun c9 => absurd c9 (by decide))
      refine lv_iconst (v := 0) hx hb dX8_areOpposite_40 (by decide) ?_
      replace hP : va_P (dC, dI) cls [(h_td, .inr (5, (mo5 v_td (.ref h_nam) (.ref h_trm) (.ref h_pls) (.ref h_fst)))), (h_nam, .inl (cy_nam, 300, .inr (.inl f_nam))), (h_trm, .inl (cy_trm, 300, .inl f_trm)), (h_pls, .inl (cy_pls, 16, .inl f_pls)), (h_fst, .inl (cy_fst, 96, .inl f_fst))] H := hP.sub [2, 3, 4, 0, 1] rfl
      replace hD : va_D A [(h_td, .inr (5, (mo5 v_td (.ref h_nam) (.ref h_trm) (.ref h_pls) (.ref h_fst)))), (h_nam, .inl (cy_nam, 300, .inr (.inl f_nam))), (h_trm, .inl (cy_trm, 300, .inl f_trm)), (h_pls, .inl (cy_pls, 16, .inl f_pls)), (h_fst, .inl (cy_fst, 96, .inl f_fst))] := hD.sub [2, 3, 4, 0, 1] (by decide) rfl
      refine W.widen (k := 0) (n := 0) (Nat.le_of_ble_eq_true rfl) (Nat.le_of_ble_eq_true rfl) ?_
      have cst0 : (0 : Int32).toInt = 0 := by decide
      have w24 : 0 ≤ (0 : Int32).toInt ∧ (0 : Int32).toInt ≤ 1 := by omega
      have w25 : OPP (sgC f_pls (p1).toInt.toNat (p2).toInt.toNat - sgC f_pls (p3).toInt.toNat (p4).toInt.toNat) ((f_nam (ndC f_fst (p1).toInt.toNat (p2).toInt.toNat)).toInt = (f_nam (ndC f_fst (p3).toInt.toNat (p4).toInt.toNat)).toInt ∧ (f_trm (ndC f_fst (p1).toInt.toNat (p2).toInt.toNat)).toInt = (f_trm (ndC f_fst (p3).toInt.toNat (p4).toInt.toNat)).toInt) ((0 : Int32)).toInt := (Or.inr ⟨by decide, Or.inr lk9⟩)
      exact W.zret (v := 0) (ty := .boolean) hx hb hr (by decide) (fun t ht hW => ⟨⟨0, (), rfl, ⟨w24, w25⟩, by rw [ht]; exact hP, hD⟩, hS.F ht⟩) hS.2.2 dX8_areOpposite_41

