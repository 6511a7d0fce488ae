theorem w_code_X4_begin : Cond.code yX4_begin prog_6_method_12_code 3 none ∈ WALL := wall_t (tb_4 5 (by decide +kernel)) rfl
theorem w_code_X4_byExtension : Cond.code yX4_byExtension prog_6_method_18_code 6 (some .boolean) ∈ WALL := wall_t (tb_4 81 (by decide +kernel)) rfl
theorem w_code_X4_byLemma : Cond.code yX4_byLemma prog_6_method_16_code 4 (some .boolean) ∈ WALL := wall_t (tb_4 63 (by decide +kernel)) rfl
theorem w_code_X4_byReduction : Cond.code yX4_byReduction prog_6_method_17_code 6 (some .boolean) ∈ WALL := wall_t (tb_4 71 (by decide +kernel)) rfl
theorem w_code_X4_closeBy : Cond.code yX4_closeBy prog_6_method_19_code 5 (some .boolean) ∈ WALL := wall_t (tb_4 67 (by decide +kernel)) rfl
theorem w_code_X4_findWay : Cond.code yX4_findWay prog_6_method_13_code 2 (some .boolean) ∈ WALL := wall_t (tb_4 55 (by decide +kernel)) rfl
theorem w_code_X4_firstRow : Cond.code yX4_firstRow prog_6_method_4_code 3 (some (.object "OppositePairs$Row")) ∈ WALL := wall_t (tb_3 169 (by decide +kernel)) rfl
theorem w_code_X4_free : Cond.code yX4_free prog_6_method_14_code 2 none ∈ WALL := wall_t (tb_4 59 (by decide +kernel)) rfl
theorem w_code_X4_mayTry : Cond.code yX4_mayTry prog_6_method_15_code 1 (some .boolean) ∈ WALL := wall_t (tb_4 76 (by decide +kernel)) rfl
theorem w_code_X4_pastClosed : Cond.code yX4_pastClosed prog_6_method_8_code 5 (some (.object "OppositePairs$Row")) ∈ WALL := wall_t (tb_3 210 (by decide +kernel)) rfl
theorem w_code_X4_rowBehind : Cond.code yX4_rowBehind prog_6_method_20_code 4 (some (.object "OppositePairs$Row")) ∈ WALL := wall_t (tb_4 89 (by decide +kernel)) rfl
theorem w_code_X4_stands : Cond.code yX4_stands prog_6_method_9_code 2 (some .boolean) ∈ WALL := wall_t (tb_3 222 (by decide +kernel)) rfl
theorem w_f_X4_58 : Cond.fieldLink "OppositePairs$Prover" 58 "OppositePairs$Prover" "depth" "I" ∈ WALL := wall_t (tb_1 236 (by decide +kernel)) rfl
theorem w_instanceMethod_X4_begin : Cond.instanceMethod yX4_begin ∈ WALL := wall_t (tb_4 4 (by decide +kernel)) rfl
theorem w_instanceMethod_X4_byExtension : Cond.instanceMethod yX4_byExtension ∈ WALL := wall_t (tb_4 80 (by decide +kernel)) rfl
theorem w_instanceMethod_X4_byLemma : Cond.instanceMethod yX4_byLemma ∈ WALL := wall_t (tb_4 62 (by decide +kernel)) rfl
theorem w_instanceMethod_X4_byReduction : Cond.instanceMethod yX4_byReduction ∈ WALL := wall_t (tb_4 70 (by decide +kernel)) rfl
theorem w_instanceMethod_X4_closeBy : Cond.instanceMethod yX4_closeBy ∈ WALL := wall_t (tb_4 66 (by decide +kernel)) rfl
theorem w_instanceMethod_X4_findWay : Cond.instanceMethod yX4_findWay ∈ WALL := wall_t (tb_4 54 (by decide +kernel)) rfl
theorem w_instanceMethod_X4_firstRow : Cond.instanceMethod yX4_firstRow ∈ WALL := wall_t (tb_3 168 (by decide +kernel)) rfl
theorem w_instanceMethod_X4_free : Cond.instanceMethod yX4_free ∈ WALL := wall_t (tb_4 58 (by decide +kernel)) rfl
theorem w_instanceMethod_X4_mayTry : Cond.instanceMethod yX4_mayTry ∈ WALL := wall_t (tb_4 75 (by decide +kernel)) rfl
theorem w_instanceMethod_X4_pastClosed : Cond.instanceMethod yX4_pastClosed ∈ WALL := wall_t (tb_3 209 (by decide +kernel)) rfl
theorem w_instanceMethod_X4_rowBehind : Cond.instanceMethod yX4_rowBehind ∈ WALL := wall_t (tb_4 88 (by decide +kernel)) rfl
theorem w_instanceMethod_X4_stands : Cond.instanceMethod yX4_stands ∈ WALL := wall_t (tb_3 221 (by decide +kernel)) rfl
theorem w_k_X4_68 : Cond.constant "OppositePairs$Prover" 68 (1000000 : Int32) ∈ WALL := wall_t (tb_3 206 (by decide +kernel)) rfl
theorem w_m_X4_212 : Cond.methodLink "OppositePairs$Prover" 212 yX4_free ∈ WALL := wall_t (tb_4 56 (by decide +kernel)) rfl
theorem w_m_X4_216 : Cond.methodLink "OppositePairs$Prover" 216 yX4_byLemma ∈ WALL := wall_t (tb_4 60 (by decide +kernel)) rfl
theorem w_m_X4_220 : Cond.methodLink "OppositePairs$Prover" 220 yX4_byReduction ∈ WALL := wall_t (tb_4 68 (by decide +kernel)) rfl
theorem w_m_X4_223 : Cond.methodLink "OppositePairs$Prover" 223 yX4_byExtension ∈ WALL := wall_t (tb_4 78 (by decide +kernel)) rfl
theorem w_m_X4_226 : Cond.methodLink "OppositePairs$Prover" 226 yX4_closeBy ∈ WALL := wall_t (tb_4 64 (by decide +kernel)) rfl
theorem w_m_X4_234 : Cond.methodLink "OppositePairs$Prover" 234 yX4_mayTry ∈ WALL := wall_t (tb_4 73 (by decide +kernel)) rfl
theorem w_m_X4_64 : Cond.methodLink "OppositePairs$Prover" 64 yX4_firstRow ∈ WALL := wall_t (tb_3 166 (by decide +kernel)) rfl
theorem w_m_X4_69 : Cond.methodLink "OppositePairs$Prover" 69 yX4_pastClosed ∈ WALL := wall_t (tb_3 207 (by decide +kernel)) rfl
theorem w_m_X4_73 : Cond.methodLink "OppositePairs$Prover" 73 yX4_stands ∈ WALL := wall_t (tb_3 219 (by decide +kernel)) rfl
theorem w_m_X4_77 : Cond.methodLink "OppositePairs$Prover" 77 yX4_begin ∈ WALL := wall_t (tb_4 2 (by decide +kernel)) rfl
theorem w_m_X4_81 : Cond.methodLink "OppositePairs$Prover" 81 yX4_findWay ∈ WALL := wall_t (tb_4 52 (by decide +kernel)) rfl
theorem w_m_X4_91 : Cond.methodLink "OppositePairs$Prover" 91 yX4_rowBehind ∈ WALL := wall_t (tb_4 86 (by decide +kernel)) rfl
theorem ws_sel_X4_begin : Cond.selects "OppositePairs$Prover" yX4_begin yX4_begin ∈ WALL := wall_s 57 (by decide +kernel) rfl
theorem ws_sel_X4_byExtension : Cond.selects "OppositePairs$Prover" yX4_byExtension yX4_byExtension ∈ WALL := wall_s 64 (by decide +kernel) rfl
theorem ws_sel_X4_byLemma : Cond.selects "OppositePairs$Prover" yX4_byLemma yX4_byLemma ∈ WALL := wall_s 60 (by decide +kernel) rfl
theorem ws_sel_X4_byReduction : Cond.selects "OppositePairs$Prover" yX4_byReduction yX4_byReduction ∈ WALL := wall_s 62 (by decide +kernel) rfl
theorem ws_sel_X4_closeBy : Cond.selects "OppositePairs$Prover" yX4_closeBy yX4_closeBy ∈ WALL := wall_s 61 (by decide +kernel) rfl
theorem ws_sel_X4_findWay : Cond.selects "OppositePairs$Prover" yX4_findWay yX4_findWay ∈ WALL := wall_s 58 (by decide +kernel) rfl
theorem ws_sel_X4_firstRow : Cond.selects "OppositePairs$Prover" yX4_firstRow yX4_firstRow ∈ WALL := wall_s 47 (by decide +kernel) rfl
theorem ws_sel_X4_free : Cond.selects "OppositePairs$Prover" yX4_free yX4_free ∈ WALL := wall_s 59 (by decide +kernel) rfl
theorem ws_sel_X4_mayTry : Cond.selects "OppositePairs$Prover" yX4_mayTry yX4_mayTry ∈ WALL := wall_s 63 (by decide +kernel) rfl
theorem ws_sel_X4_pastClosed : Cond.selects "OppositePairs$Prover" yX4_pastClosed yX4_pastClosed ∈ WALL := wall_s 49 (by decide +kernel) rfl
theorem ws_sel_X4_rowBehind : Cond.selects "OppositePairs$Prover" yX4_rowBehind yX4_rowBehind ∈ WALL := wall_s 65 (by decide +kernel) rfl
theorem ws_sel_X4_stands : Cond.selects "OppositePairs$Prover" yX4_stands yX4_stands ∈ WALL := wall_s 52 (by decide +kernel) rfl
theorem n_f_X4_244 : Cond.fieldLinkNest "OppositePairs$Prover" 244 "OppositePairs$Told" "clauses" "I" "OppositePairs" ∈ NWL := nwl_t (tb_1 105 (by decide +kernel)) rfl
theorem n_m_X4_230 : Cond.methodLinkNest "OppositePairs$Prover" 230 yX8_areOpposite "OppositePairs" ∈ NWL := nwl_t (tb_4 72 (by decide +kernel)) rfl
theorem n_m_X4_237 : Cond.methodLinkNest "OppositePairs$Prover" 237 yX1_unify "OppositePairs" ∈ NWL := nwl_t (tb_4 77 (by decide +kernel)) rfl
theorem n_m_X4_247 : Cond.methodLinkNest "OppositePairs$Prover" 247 yX8_isLiteral "OppositePairs" ∈ NWL := nwl_t (tb_4 85 (by decide +kernel)) rfl
theorem dX4_byExtension_0 : decode cX4_byExtension 0 = .ok (.aload_n 1, 1) := by decide +kernel
theorem dX4_byExtension_1 : decode cX4_byExtension 1 = .ok (.getfield 185, 3) := by decide +kernel
theorem dX4_byExtension_101 : decode cX4_byExtension 101 = .ok (.aload_n 2, 1) := by decide +kernel
theorem dX4_byExtension_102 : decode cX4_byExtension 102 = .ok (.getfield 140, 3) := by decide +kernel
theorem dX4_byExtension_105 : decode cX4_byExtension 105 = .ok (.iaload, 1) := by decide +kernel
theorem dX4_byExtension_106 : decode cX4_byExtension 106 = .ok (.aload_n 2, 1) := by decide +kernel
theorem dX4_byExtension_107 : decode cX4_byExtension 107 = .ok (.getfield 137, 3) := by decide +kernel
theorem dX4_byExtension_110 : decode cX4_byExtension 110 = .ok (.iload 4, 2) := by decide +kernel
theorem dX4_byExtension_112 : decode cX4_byExtension 112 = .ok (.iload 5, 2) := by decide +kernel
theorem dX4_byExtension_114 : decode cX4_byExtension 114 = .ok (.invokevirtual 230, 3) := by decide +kernel
theorem dX4_byExtension_117 : decode cX4_byExtension 117 = .ok (.ifCond .eq 109, 3) := by decide +kernel
theorem dX4_byExtension_12 : decode cX4_byExtension 12 = .ok (.aload_n 0, 1) := by decide +kernel
theorem dX4_byExtension_120 : decode cX4_byExtension 120 = .ok (.aload_n 0, 1) := by decide +kernel
theorem dX4_byExtension_121 : decode cX4_byExtension 121 = .ok (.invokevirtual 234, 3) := by decide +kernel
theorem dX4_byExtension_124 : decode cX4_byExtension 124 = .ok (.ifCond .ne 5, 3) := by decide +kernel
theorem dX4_byExtension_127 : decode cX4_byExtension 127 = .ok (.iconst 0, 1) := by decide +kernel
theorem dX4_byExtension_128 : decode cX4_byExtension 128 = .ok (.ireturn, 1) := by decide +kernel
theorem dX4_byExtension_129 : decode cX4_byExtension 129 = .ok (.aload_n 0, 1) := by decide +kernel
theorem dX4_byExtension_13 : decode cX4_byExtension 13 = .ok (.getfield 58, 3) := by decide +kernel
theorem dX4_byExtension_130 : decode cX4_byExtension 130 = .ok (.getfield 107, 3) := by decide +kernel
theorem dX4_byExtension_133 : decode cX4_byExtension 133 = .ok (.bipush 30, 2) := by decide +kernel
theorem dX4_byExtension_135 : decode cX4_byExtension 135 = .ok (.if_icmp .ge 80, 3) := by decide +kernel
theorem dX4_byExtension_138 : decode cX4_byExtension 138 = .ok (.aload_n 0, 1) := by decide +kernel
theorem dX4_byExtension_139 : decode cX4_byExtension 139 = .ok (.getfield 37, 3) := by decide +kernel
theorem dX4_byExtension_142 : decode cX4_byExtension 142 = .ok (.iload_n 3, 1) := by decide +kernel
theorem dX4_byExtension_143 : decode cX4_byExtension 143 = .ok (.aload_n 0, 1) := by decide +kernel
theorem dX4_byExtension_144 : decode cX4_byExtension 144 = .ok (.getfield 107, 3) := by decide +kernel
theorem dX4_byExtension_147 : decode cX4_byExtension 147 = .ok (.sipush 300, 3) := by decide +kernel
theorem dX4_byExtension_150 : decode cX4_byExtension 150 = .ok (.imul, 1) := by decide +kernel
theorem dX4_byExtension_151 : decode cX4_byExtension 151 = .ok (.aload_n 0, 1) := by decide +kernel
theorem dX4_byExtension_152 : decode cX4_byExtension 152 = .ok (.getfield 33, 3) := by decide +kernel
theorem dX4_byExtension_155 : decode cX4_byExtension 155 = .ok (.iload 4, 2) := by decide +kernel
theorem dX4_byExtension_157 : decode cX4_byExtension 157 = .ok (.iload 5, 2) := by decide +kernel
theorem dX4_byExtension_159 : decode cX4_byExtension 159 = .ok (.invokevirtual 128, 3) := by decide +kernel
theorem dX4_byExtension_16 : decode cX4_byExtension 16 = .ok (.if_icmp .lt 5, 3) := by decide +kernel
theorem dX4_byExtension_162 : decode cX4_byExtension 162 = .ok (.iadd, 1) := by decide +kernel
theorem dX4_byExtension_163 : decode cX4_byExtension 163 = .ok (.invokevirtual 237, 3) := by decide +kernel
theorem dX4_byExtension_166 : decode cX4_byExtension 166 = .ok (.ifCond .eq 49, 3) := by decide +kernel
theorem dX4_byExtension_169 : decode cX4_byExtension 169 = .ok (.aload_n 0, 1) := by decide +kernel
theorem dX4_byExtension_170 : decode cX4_byExtension 170 = .ok (.getfield 29, 3) := by decide +kernel
theorem dX4_byExtension_173 : decode cX4_byExtension 173 = .ok (.aload_n 0, 1) := by decide +kernel
theorem dX4_byExtension_174 : decode cX4_byExtension 174 = .ok (.getfield 107, 3) := by decide +kernel
theorem dX4_byExtension_177 : decode cX4_byExtension 177 = .ok (.iload 4, 2) := by decide +kernel
theorem dX4_byExtension_179 : decode cX4_byExtension 179 = .ok (.iastore, 1) := by decide +kernel
theorem dX4_byExtension_180 : decode cX4_byExtension 180 = .ok (.aload_n 0, 1) := by decide +kernel
theorem dX4_byExtension_181 : decode cX4_byExtension 181 = .ok (.dup, 1) := by decide +kernel
theorem dX4_byExtension_182 : decode cX4_byExtension 182 = .ok (.getfield 107, 3) := by decide +kernel
theorem dX4_byExtension_185 : decode cX4_byExtension 185 = .ok (.iconst 1, 1) := by decide +kernel
theorem dX4_byExtension_186 : decode cX4_byExtension 186 = .ok (.iadd, 1) := by decide +kernel
theorem dX4_byExtension_187 : decode cX4_byExtension 187 = .ok (.putfield 107, 3) := by decide +kernel
theorem dX4_byExtension_19 : decode cX4_byExtension 19 = .ok (.iconst 0, 1) := by decide +kernel
theorem dX4_byExtension_190 : decode cX4_byExtension 190 = .ok (.aload_n 0, 1) := by decide +kernel
theorem dX4_byExtension_191 : decode cX4_byExtension 191 = .ok (.dup, 1) := by decide +kernel
theorem dX4_byExtension_192 : decode cX4_byExtension 192 = .ok (.getfield 55, 3) := by decide +kernel
theorem dX4_byExtension_195 : decode cX4_byExtension 195 = .ok (.iconst 1, 1) := by decide +kernel
theorem dX4_byExtension_196 : decode cX4_byExtension 196 = .ok (.iadd, 1) := by decide +kernel
theorem dX4_byExtension_197 : decode cX4_byExtension 197 = .ok (.putfield 55, 3) := by decide +kernel
theorem dX4_byExtension_20 : decode cX4_byExtension 20 = .ok (.ireturn, 1) := by decide +kernel
theorem dX4_byExtension_200 : decode cX4_byExtension 200 = .ok (.aload_n 0, 1) := by decide +kernel
theorem dX4_byExtension_201 : decode cX4_byExtension 201 = .ok (.aload_n 1, 1) := by decide +kernel
theorem dX4_byExtension_202 : decode cX4_byExtension 202 = .ok (.iconst 3, 1) := by decide +kernel
theorem dX4_byExtension_203 : decode cX4_byExtension 203 = .ok (.aload_n 0, 1) := by decide +kernel
theorem dX4_byExtension_204 : decode cX4_byExtension 204 = .ok (.getfield 107, 3) := by decide +kernel
theorem dX4_byExtension_207 : decode cX4_byExtension 207 = .ok (.iconst 1, 1) := by decide +kernel
theorem dX4_byExtension_208 : decode cX4_byExtension 208 = .ok (.isub, 1) := by decide +kernel
theorem dX4_byExtension_209 : decode cX4_byExtension 209 = .ok (.iload 5, 2) := by decide +kernel
theorem dX4_byExtension_21 : decode cX4_byExtension 21 = .ok (.aload_n 0, 1) := by decide +kernel
theorem dX4_byExtension_211 : decode cX4_byExtension 211 = .ok (.invokevirtual 226, 3) := by decide +kernel
theorem dX4_byExtension_214 : decode cX4_byExtension 214 = .ok (.ireturn, 1) := by decide +kernel
theorem dX4_byExtension_215 : decode cX4_byExtension 215 = .ok (.aload_n 0, 1) := by decide +kernel
theorem dX4_byExtension_216 : decode cX4_byExtension 216 = .ok (.getfield 37, 3) := by decide +kernel
theorem dX4_byExtension_219 : decode cX4_byExtension 219 = .ok (.aload_n 1, 1) := by decide +kernel
theorem dX4_byExtension_22 : decode cX4_byExtension 22 = .ok (.aload_n 2, 1) := by decide +kernel
theorem dX4_byExtension_220 : decode cX4_byExtension 220 = .ok (.getfield 200, 3) := by decide +kernel
theorem dX4_byExtension_223 : decode cX4_byExtension 223 = .ok (.invokevirtual 95, 3) := by decide +kernel
theorem dX4_byExtension_226 : decode cX4_byExtension 226 = .ok (.goto (-192), 3) := by decide +kernel
theorem dX4_byExtension_229 : decode cX4_byExtension 229 = .ok (.iconst 0, 1) := by decide +kernel
theorem dX4_byExtension_23 : decode cX4_byExtension 23 = .ok (.getfield 140, 3) := by decide +kernel
theorem dX4_byExtension_230 : decode cX4_byExtension 230 = .ok (.ireturn, 1) := by decide +kernel
theorem dX4_byExtension_26 : decode cX4_byExtension 26 = .ok (.aload_n 2, 1) := by decide +kernel
theorem dX4_byExtension_27 : decode cX4_byExtension 27 = .ok (.getfield 137, 3) := by decide +kernel
theorem dX4_byExtension_30 : decode cX4_byExtension 30 = .ok (.invokevirtual 157, 3) := by decide +kernel
theorem dX4_byExtension_33 : decode cX4_byExtension 33 = .ok (.istore_n 3, 1) := by decide +kernel
theorem dX4_byExtension_34 : decode cX4_byExtension 34 = .ok (.aload_n 1, 1) := by decide +kernel
theorem dX4_byExtension_35 : decode cX4_byExtension 35 = .ok (.getfield 194, 3) := by decide +kernel
theorem dX4_byExtension_38 : decode cX4_byExtension 38 = .ok (.aload_n 0, 1) := by decide +kernel
theorem dX4_byExtension_39 : decode cX4_byExtension 39 = .ok (.getfield 33, 3) := by decide +kernel
theorem dX4_byExtension_4 : decode cX4_byExtension 4 = .ok (.astore_n 2, 1) := by decide +kernel
theorem dX4_byExtension_42 : decode cX4_byExtension 42 = .ok (.getfield 244, 3) := by decide +kernel
theorem dX4_byExtension_45 : decode cX4_byExtension 45 = .ok (.bipush 6, 2) := by decide +kernel
theorem dX4_byExtension_47 : decode cX4_byExtension 47 = .ok (.imul, 1) := by decide +kernel
theorem dX4_byExtension_48 : decode cX4_byExtension 48 = .ok (.if_icmp .ge 181, 3) := by decide +kernel
theorem dX4_byExtension_5 : decode cX4_byExtension 5 = .ok (.aload_n 2, 1) := by decide +kernel
theorem dX4_byExtension_51 : decode cX4_byExtension 51 = .ok (.aload_n 1, 1) := by decide +kernel
theorem dX4_byExtension_52 : decode cX4_byExtension 52 = .ok (.getfield 194, 3) := by decide +kernel
theorem dX4_byExtension_55 : decode cX4_byExtension 55 = .ok (.bipush 6, 2) := by decide +kernel
theorem dX4_byExtension_57 : decode cX4_byExtension 57 = .ok (.idiv, 1) := by decide +kernel
theorem dX4_byExtension_58 : decode cX4_byExtension 58 = .ok (.istore 4, 2) := by decide +kernel
theorem dX4_byExtension_6 : decode cX4_byExtension 6 = .ok (.getfield 114, 3) := by decide +kernel
theorem dX4_byExtension_60 : decode cX4_byExtension 60 = .ok (.aload_n 1, 1) := by decide +kernel
theorem dX4_byExtension_61 : decode cX4_byExtension 61 = .ok (.getfield 194, 3) := by decide +kernel
theorem dX4_byExtension_64 : decode cX4_byExtension 64 = .ok (.bipush 6, 2) := by decide +kernel
theorem dX4_byExtension_66 : decode cX4_byExtension 66 = .ok (.irem, 1) := by decide +kernel
theorem dX4_byExtension_67 : decode cX4_byExtension 67 = .ok (.istore 5, 2) := by decide +kernel
theorem dX4_byExtension_69 : decode cX4_byExtension 69 = .ok (.aload_n 1, 1) := by decide +kernel
theorem dX4_byExtension_70 : decode cX4_byExtension 70 = .ok (.dup, 1) := by decide +kernel
theorem dX4_byExtension_71 : decode cX4_byExtension 71 = .ok (.getfield 194, 3) := by decide +kernel
theorem dX4_byExtension_74 : decode cX4_byExtension 74 = .ok (.iconst 1, 1) := by decide +kernel
theorem dX4_byExtension_75 : decode cX4_byExtension 75 = .ok (.iadd, 1) := by decide +kernel
theorem dX4_byExtension_76 : decode cX4_byExtension 76 = .ok (.putfield 194, 3) := by decide +kernel
theorem dX4_byExtension_79 : decode cX4_byExtension 79 = .ok (.aload_n 0, 1) := by decide +kernel
theorem dX4_byExtension_80 : decode cX4_byExtension 80 = .ok (.getfield 33, 3) := by decide +kernel
theorem dX4_byExtension_83 : decode cX4_byExtension 83 = .ok (.iload 4, 2) := by decide +kernel
theorem dX4_byExtension_85 : decode cX4_byExtension 85 = .ok (.iload 5, 2) := by decide +kernel
theorem dX4_byExtension_87 : decode cX4_byExtension 87 = .ok (.invokevirtual 247, 3) := by decide +kernel
theorem dX4_byExtension_9 : decode cX4_byExtension 9 = .ok (.invokestatic 240, 3) := by decide +kernel
theorem dX4_byExtension_90 : decode cX4_byExtension 90 = .ok (.ifCond .eq 136, 3) := by decide +kernel
theorem dX4_byExtension_93 : decode cX4_byExtension 93 = .ok (.aload_n 0, 1) := by decide +kernel
theorem dX4_byExtension_94 : decode cX4_byExtension 94 = .ok (.getfield 33, 3) := by decide +kernel
theorem dX4_byExtension_97 : decode cX4_byExtension 97 = .ok (.aload_n 0, 1) := by decide +kernel
theorem dX4_byExtension_98 : decode cX4_byExtension 98 = .ok (.getfield 29, 3) := by decide +kernel
theorem dX4_byLemma_0 : decode cX4_byLemma 0 = .ok (.aload_n 1, 1) := by decide +kernel
theorem dX4_byLemma_1 : decode cX4_byLemma 1 = .ok (.getfield 188, 3) := by decide +kernel
theorem dX4_byLemma_12 : decode cX4_byLemma 12 = .ok (.ifCond .ne 5, 3) := by decide +kernel
theorem dX4_byLemma_15 : decode cX4_byLemma 15 = .ok (.iconst 0, 1) := by decide +kernel
theorem dX4_byLemma_16 : decode cX4_byLemma 16 = .ok (.ireturn, 1) := by decide +kernel
theorem dX4_byLemma_17 : decode cX4_byLemma 17 = .ok (.aload_n 1, 1) := by decide +kernel
theorem dX4_byLemma_18 : decode cX4_byLemma 18 = .ok (.iconst 1, 1) := by decide +kernel
theorem dX4_byLemma_19 : decode cX4_byLemma 19 = .ok (.putfield 188, 3) := by decide +kernel
theorem dX4_byLemma_22 : decode cX4_byLemma 22 = .ok (.aload_n 1, 1) := by decide +kernel
theorem dX4_byLemma_23 : decode cX4_byLemma 23 = .ok (.getfield 185, 3) := by decide +kernel
theorem dX4_byLemma_26 : decode cX4_byLemma 26 = .ok (.astore_n 2, 1) := by decide +kernel
theorem dX4_byLemma_27 : decode cX4_byLemma 27 = .ok (.aload_n 0, 1) := by decide +kernel
theorem dX4_byLemma_28 : decode cX4_byLemma 28 = .ok (.aload_n 2, 1) := by decide +kernel
theorem dX4_byLemma_29 : decode cX4_byLemma 29 = .ok (.getfield 118, 3) := by decide +kernel
theorem dX4_byLemma_32 : decode cX4_byLemma 32 = .ok (.aload_n 2, 1) := by decide +kernel
theorem dX4_byLemma_33 : decode cX4_byLemma 33 = .ok (.getfield 140, 3) := by decide +kernel
theorem dX4_byLemma_36 : decode cX4_byLemma 36 = .ok (.aload_n 2, 1) := by decide +kernel
theorem dX4_byLemma_37 : decode cX4_byLemma 37 = .ok (.getfield 137, 3) := by decide +kernel
theorem dX4_byLemma_4 : decode cX4_byLemma 4 = .ok (.ifCond .ne 11, 3) := by decide +kernel
theorem dX4_byLemma_40 : decode cX4_byLemma 40 = .ok (.invokevirtual 166, 3) := by decide +kernel
theorem dX4_byLemma_43 : decode cX4_byLemma 43 = .ok (.astore_n 3, 1) := by decide +kernel
theorem dX4_byLemma_44 : decode cX4_byLemma 44 = .ok (.aload_n 3, 1) := by decide +kernel
theorem dX4_byLemma_45 : decode cX4_byLemma 45 = .ok (.ifnull 24, 3) := by decide +kernel
theorem dX4_byLemma_48 : decode cX4_byLemma 48 = .ok (.aload_n 0, 1) := by decide +kernel
theorem dX4_byLemma_49 : decode cX4_byLemma 49 = .ok (.aload_n 1, 1) := by decide +kernel
theorem dX4_byLemma_50 : decode cX4_byLemma 50 = .ok (.iconst 1, 1) := by decide +kernel
theorem dX4_byLemma_51 : decode cX4_byLemma 51 = .ok (.aload_n 3, 1) := by decide +kernel
theorem dX4_byLemma_52 : decode cX4_byLemma 52 = .ok (.getfield 174, 3) := by decide +kernel
theorem dX4_byLemma_55 : decode cX4_byLemma 55 = .ok (.aload_n 3, 1) := by decide +kernel
theorem dX4_byLemma_56 : decode cX4_byLemma 56 = .ok (.getfield 175, 3) := by decide +kernel
theorem dX4_byLemma_59 : decode cX4_byLemma 59 = .ok (.invokevirtual 226, 3) := by decide +kernel
theorem dX4_byLemma_62 : decode cX4_byLemma 62 = .ok (.ifCond .eq 7, 3) := by decide +kernel
theorem dX4_byLemma_65 : decode cX4_byLemma 65 = .ok (.iconst 1, 1) := by decide +kernel
theorem dX4_byLemma_66 : decode cX4_byLemma 66 = .ok (.goto 4, 3) := by decide +kernel
theorem dX4_byLemma_69 : decode cX4_byLemma 69 = .ok (.iconst 0, 1) := by decide +kernel
theorem dX4_byLemma_7 : decode cX4_byLemma 7 = .ok (.aload_n 0, 1) := by decide +kernel
theorem dX4_byLemma_70 : decode cX4_byLemma 70 = .ok (.ireturn, 1) := by decide +kernel
theorem dX4_byLemma_8 : decode cX4_byLemma 8 = .ok (.iconst 2, 1) := by decide +kernel
theorem dX4_byLemma_9 : decode cX4_byLemma 9 = .ok (.invokevirtual 147, 3) := by decide +kernel
theorem dX4_byReduction_0 : decode cX4_byReduction 0 = .ok (.aload_n 1, 1) := by decide +kernel
theorem dX4_byReduction_1 : decode cX4_byReduction 1 = .ok (.getfield 185, 3) := by decide +kernel
theorem dX4_byReduction_10 : decode cX4_byReduction 10 = .ok (.aload_n 2, 1) := by decide +kernel
theorem dX4_byReduction_100 : decode cX4_byReduction 100 = .ok (.bipush 40, 2) := by decide +kernel
theorem dX4_byReduction_102 : decode cX4_byReduction 102 = .ok (.invokevirtual 160, 3) := by decide +kernel
theorem dX4_byReduction_105 : decode cX4_byReduction 105 = .ok (.bipush 40, 2) := by decide +kernel
theorem dX4_byReduction_107 : decode cX4_byReduction 107 = .ok (.if_icmp .gt 53, 3) := by decide +kernel
theorem dX4_byReduction_11 : decode cX4_byReduction 11 = .ok (.getfield 137, 3) := by decide +kernel
theorem dX4_byReduction_110 : decode cX4_byReduction 110 = .ok (.aload_n 0, 1) := by decide +kernel
theorem dX4_byReduction_111 : decode cX4_byReduction 111 = .ok (.invokevirtual 234, 3) := by decide +kernel
theorem dX4_byReduction_114 : decode cX4_byReduction 114 = .ok (.ifCond .ne 5, 3) := by decide +kernel
theorem dX4_byReduction_117 : decode cX4_byReduction 117 = .ok (.iconst 0, 1) := by decide +kernel
theorem dX4_byReduction_118 : decode cX4_byReduction 118 = .ok (.ireturn, 1) := by decide +kernel
theorem dX4_byReduction_119 : decode cX4_byReduction 119 = .ok (.aload_n 0, 1) := by decide +kernel
theorem dX4_byReduction_120 : decode cX4_byReduction 120 = .ok (.getfield 37, 3) := by decide +kernel
theorem dX4_byReduction_123 : decode cX4_byReduction 123 = .ok (.iload_n 3, 1) := by decide +kernel
theorem dX4_byReduction_124 : decode cX4_byReduction 124 = .ok (.iload 5, 2) := by decide +kernel
theorem dX4_byReduction_126 : decode cX4_byReduction 126 = .ok (.invokevirtual 237, 3) := by decide +kernel
theorem dX4_byReduction_129 : decode cX4_byReduction 129 = .ok (.ifCond .eq 20, 3) := by decide +kernel
theorem dX4_byReduction_132 : decode cX4_byReduction 132 = .ok (.aload_n 0, 1) := by decide +kernel
theorem dX4_byReduction_133 : decode cX4_byReduction 133 = .ok (.aload_n 1, 1) := by decide +kernel
theorem dX4_byReduction_134 : decode cX4_byReduction 134 = .ok (.iconst 2, 1) := by decide +kernel
theorem dX4_byReduction_135 : decode cX4_byReduction 135 = .ok (.aload 4, 2) := by decide +kernel
theorem dX4_byReduction_137 : decode cX4_byReduction 137 = .ok (.getfield 174, 3) := by decide +kernel
theorem dX4_byReduction_14 : decode cX4_byReduction 14 = .ok (.invokevirtual 157, 3) := by decide +kernel
theorem dX4_byReduction_140 : decode cX4_byReduction 140 = .ok (.aload 4, 2) := by decide +kernel
theorem dX4_byReduction_142 : decode cX4_byReduction 142 = .ok (.getfield 175, 3) := by decide +kernel
theorem dX4_byReduction_145 : decode cX4_byReduction 145 = .ok (.invokevirtual 226, 3) := by decide +kernel
theorem dX4_byReduction_148 : decode cX4_byReduction 148 = .ok (.ireturn, 1) := by decide +kernel
theorem dX4_byReduction_149 : decode cX4_byReduction 149 = .ok (.aload_n 0, 1) := by decide +kernel
theorem dX4_byReduction_150 : decode cX4_byReduction 150 = .ok (.getfield 37, 3) := by decide +kernel
theorem dX4_byReduction_153 : decode cX4_byReduction 153 = .ok (.aload_n 1, 1) := by decide +kernel
theorem dX4_byReduction_154 : decode cX4_byReduction 154 = .ok (.getfield 200, 3) := by decide +kernel
theorem dX4_byReduction_157 : decode cX4_byReduction 157 = .ok (.invokevirtual 95, 3) := by decide +kernel
theorem dX4_byReduction_160 : decode cX4_byReduction 160 = .ok (.goto (-142), 3) := by decide +kernel
theorem dX4_byReduction_163 : decode cX4_byReduction 163 = .ok (.iconst 0, 1) := by decide +kernel
theorem dX4_byReduction_164 : decode cX4_byReduction 164 = .ok (.ireturn, 1) := by decide +kernel
theorem dX4_byReduction_17 : decode cX4_byReduction 17 = .ok (.istore_n 3, 1) := by decide +kernel
theorem dX4_byReduction_18 : decode cX4_byReduction 18 = .ok (.aload_n 1, 1) := by decide +kernel
theorem dX4_byReduction_19 : decode cX4_byReduction 19 = .ok (.getfield 191, 3) := by decide +kernel
theorem dX4_byReduction_22 : decode cX4_byReduction 22 = .ok (.ifnull 141, 3) := by decide +kernel
theorem dX4_byReduction_25 : decode cX4_byReduction 25 = .ok (.aload_n 1, 1) := by decide +kernel
theorem dX4_byReduction_26 : decode cX4_byReduction 26 = .ok (.getfield 191, 3) := by decide +kernel
theorem dX4_byReduction_29 : decode cX4_byReduction 29 = .ok (.astore 4, 2) := by decide +kernel
theorem dX4_byReduction_31 : decode cX4_byReduction 31 = .ok (.aload_n 1, 1) := by decide +kernel
theorem dX4_byReduction_32 : decode cX4_byReduction 32 = .ok (.aload 4, 2) := by decide +kernel
theorem dX4_byReduction_34 : decode cX4_byReduction 34 = .ok (.getfield 181, 3) := by decide +kernel
theorem dX4_byReduction_37 : decode cX4_byReduction 37 = .ok (.putfield 191, 3) := by decide +kernel
theorem dX4_byReduction_4 : decode cX4_byReduction 4 = .ok (.astore_n 2, 1) := by decide +kernel
theorem dX4_byReduction_40 : decode cX4_byReduction 40 = .ok (.aload_n 0, 1) := by decide +kernel
theorem dX4_byReduction_41 : decode cX4_byReduction 41 = .ok (.aload 4, 2) := by decide +kernel
theorem dX4_byReduction_43 : decode cX4_byReduction 43 = .ok (.getfield 174, 3) := by decide +kernel
theorem dX4_byReduction_46 : decode cX4_byReduction 46 = .ok (.aload 4, 2) := by decide +kernel
theorem dX4_byReduction_48 : decode cX4_byReduction 48 = .ok (.getfield 175, 3) := by decide +kernel
theorem dX4_byReduction_5 : decode cX4_byReduction 5 = .ok (.aload_n 0, 1) := by decide +kernel
theorem dX4_byReduction_51 : decode cX4_byReduction 51 = .ok (.invokevirtual 157, 3) := by decide +kernel
theorem dX4_byReduction_54 : decode cX4_byReduction 54 = .ok (.istore 5, 2) := by decide +kernel
theorem dX4_byReduction_56 : decode cX4_byReduction 56 = .ok (.aload_n 0, 1) := by decide +kernel
theorem dX4_byReduction_57 : decode cX4_byReduction 57 = .ok (.getfield 33, 3) := by decide +kernel
theorem dX4_byReduction_6 : decode cX4_byReduction 6 = .ok (.aload_n 2, 1) := by decide +kernel
theorem dX4_byReduction_60 : decode cX4_byReduction 60 = .ok (.aload_n 0, 1) := by decide +kernel
theorem dX4_byReduction_61 : decode cX4_byReduction 61 = .ok (.getfield 29, 3) := by decide +kernel
theorem dX4_byReduction_64 : decode cX4_byReduction 64 = .ok (.aload_n 2, 1) := by decide +kernel
theorem dX4_byReduction_65 : decode cX4_byReduction 65 = .ok (.getfield 140, 3) := by decide +kernel
theorem dX4_byReduction_68 : decode cX4_byReduction 68 = .ok (.iaload, 1) := by decide +kernel
theorem dX4_byReduction_69 : decode cX4_byReduction 69 = .ok (.aload_n 2, 1) := by decide +kernel
theorem dX4_byReduction_7 : decode cX4_byReduction 7 = .ok (.getfield 140, 3) := by decide +kernel
theorem dX4_byReduction_70 : decode cX4_byReduction 70 = .ok (.getfield 137, 3) := by decide +kernel
theorem dX4_byReduction_73 : decode cX4_byReduction 73 = .ok (.aload_n 0, 1) := by decide +kernel
theorem dX4_byReduction_74 : decode cX4_byReduction 74 = .ok (.getfield 29, 3) := by decide +kernel
theorem dX4_byReduction_77 : decode cX4_byReduction 77 = .ok (.aload 4, 2) := by decide +kernel
theorem dX4_byReduction_79 : decode cX4_byReduction 79 = .ok (.getfield 174, 3) := by decide +kernel
theorem dX4_byReduction_82 : decode cX4_byReduction 82 = .ok (.iaload, 1) := by decide +kernel
theorem dX4_byReduction_83 : decode cX4_byReduction 83 = .ok (.aload 4, 2) := by decide +kernel
theorem dX4_byReduction_85 : decode cX4_byReduction 85 = .ok (.getfield 175, 3) := by decide +kernel
theorem dX4_byReduction_88 : decode cX4_byReduction 88 = .ok (.invokevirtual 230, 3) := by decide +kernel
theorem dX4_byReduction_91 : decode cX4_byReduction 91 = .ok (.ifCond .eq 69, 3) := by decide +kernel
theorem dX4_byReduction_94 : decode cX4_byReduction 94 = .ok (.aload_n 0, 1) := by decide +kernel
theorem dX4_byReduction_95 : decode cX4_byReduction 95 = .ok (.getfield 37, 3) := by decide +kernel
theorem dX4_byReduction_98 : decode cX4_byReduction 98 = .ok (.iload 5, 2) := by decide +kernel
theorem dX4_countSteps_0 : decode cX4_countSteps 0 = .ok (.iconst 0, 1) := by decide +kernel
theorem dX4_countSteps_1 : decode cX4_countSteps 1 = .ok (.istore_n 2, 1) := by decide +kernel
theorem dX4_countSteps_11 : decode cX4_countSteps 11 = .ok (.iload_n 3, 1) := by decide +kernel
theorem dX4_countSteps_12 : decode cX4_countSteps 12 = .ok (.aload_n 0, 1) := by decide +kernel
theorem dX4_countSteps_13 : decode cX4_countSteps 13 = .ok (.getfield 88, 3) := by decide +kernel
theorem dX4_countSteps_16 : decode cX4_countSteps 16 = .ok (.if_icmp .ge 30, 3) := by decide +kernel
theorem dX4_countSteps_19 : decode cX4_countSteps 19 = .ok (.iload_n 2, 1) := by decide +kernel
theorem dX4_countSteps_2 : decode cX4_countSteps 2 = .ok (.iconst 0, 1) := by decide +kernel
theorem dX4_countSteps_20 : decode cX4_countSteps 20 = .ok (.aload_n 0, 1) := by decide +kernel
theorem dX4_countSteps_21 : decode cX4_countSteps 21 = .ok (.getfield 25, 3) := by decide +kernel
theorem dX4_countSteps_24 : decode cX4_countSteps 24 = .ok (.iload_n 3, 1) := by decide +kernel
theorem dX4_countSteps_25 : decode cX4_countSteps 25 = .ok (.aaload, 1) := by decide +kernel
theorem dX4_countSteps_26 : decode cX4_countSteps 26 = .ok (.getfield 250, 3) := by decide +kernel
theorem dX4_countSteps_29 : decode cX4_countSteps 29 = .ok (.iload_n 1, 1) := by decide +kernel
theorem dX4_countSteps_3 : decode cX4_countSteps 3 = .ok (.istore_n 3, 1) := by decide +kernel
theorem dX4_countSteps_30 : decode cX4_countSteps 30 = .ok (.if_icmp .ne 7, 3) := by decide +kernel
theorem dX4_countSteps_33 : decode cX4_countSteps 33 = .ok (.iconst 1, 1) := by decide +kernel
theorem dX4_countSteps_34 : decode cX4_countSteps 34 = .ok (.goto 4, 3) := by decide +kernel
theorem dX4_countSteps_37 : decode cX4_countSteps 37 = .ok (.iconst 0, 1) := by decide +kernel
theorem dX4_countSteps_38 : decode cX4_countSteps 38 = .ok (.iadd, 1) := by decide +kernel
theorem dX4_countSteps_39 : decode cX4_countSteps 39 = .ok (.istore_n 2, 1) := by decide +kernel
theorem dX4_countSteps_4 : decode cX4_countSteps 4 = .ok (.aload_n 0, 1) := by decide +kernel
theorem dX4_countSteps_40 : decode cX4_countSteps 40 = .ok (.iinc 3 1, 3) := by decide +kernel
theorem dX4_countSteps_43 : decode cX4_countSteps 43 = .ok (.goto (-39), 3) := by decide +kernel
theorem dX4_countSteps_46 : decode cX4_countSteps 46 = .ok (.iload_n 2, 1) := by decide +kernel
theorem dX4_countSteps_47 : decode cX4_countSteps 47 = .ok (.ireturn, 1) := by decide +kernel
theorem dX4_countSteps_5 : decode cX4_countSteps 5 = .ok (.getfield 41, 3) := by decide +kernel
theorem dX4_countSteps_8 : decode cX4_countSteps 8 = .ok (.ifCond .eq 38, 3) := by decide +kernel
theorem dX4_findWay_0 : decode cX4_findWay 0 = .ok (.aload_n 0, 1) := by decide +kernel
theorem dX4_findWay_1 : decode cX4_findWay 1 = .ok (.getfield 88, 3) := by decide +kernel
theorem dX4_findWay_11 : decode cX4_findWay 11 = .ok (.aload_n 0, 1) := by decide +kernel
theorem dX4_findWay_12 : decode cX4_findWay 12 = .ok (.getfield 88, 3) := by decide +kernel
theorem dX4_findWay_15 : decode cX4_findWay 15 = .ok (.iconst 1, 1) := by decide +kernel
theorem dX4_findWay_16 : decode cX4_findWay 16 = .ok (.isub, 1) := by decide +kernel
theorem dX4_findWay_17 : decode cX4_findWay 17 = .ok (.aaload, 1) := by decide +kernel
theorem dX4_findWay_18 : decode cX4_findWay 18 = .ok (.astore_n 1, 1) := by decide +kernel
theorem dX4_findWay_19 : decode cX4_findWay 19 = .ok (.aload_n 0, 1) := by decide +kernel
theorem dX4_findWay_20 : decode cX4_findWay 20 = .ok (.aload_n 1, 1) := by decide +kernel
theorem dX4_findWay_21 : decode cX4_findWay 21 = .ok (.invokevirtual 212, 3) := by decide +kernel
theorem dX4_findWay_24 : decode cX4_findWay 24 = .ok (.aload_n 1, 1) := by decide +kernel
theorem dX4_findWay_25 : decode cX4_findWay 25 = .ok (.getfield 151, 3) := by decide +kernel
theorem dX4_findWay_28 : decode cX4_findWay 28 = .ok (.ifCond .ne 29, 3) := by decide +kernel
theorem dX4_findWay_31 : decode cX4_findWay 31 = .ok (.aload_n 0, 1) := by decide +kernel
theorem dX4_findWay_32 : decode cX4_findWay 32 = .ok (.aload_n 1, 1) := by decide +kernel
theorem dX4_findWay_33 : decode cX4_findWay 33 = .ok (.invokevirtual 216, 3) := by decide +kernel
theorem dX4_findWay_36 : decode cX4_findWay 36 = .ok (.ifCond .ne 19, 3) := by decide +kernel
theorem dX4_findWay_39 : decode cX4_findWay 39 = .ok (.aload_n 0, 1) := by decide +kernel
theorem dX4_findWay_4 : decode cX4_findWay 4 = .ok (.ifCond .le 75, 3) := by decide +kernel
theorem dX4_findWay_40 : decode cX4_findWay 40 = .ok (.aload_n 1, 1) := by decide +kernel
theorem dX4_findWay_41 : decode cX4_findWay 41 = .ok (.invokevirtual 220, 3) := by decide +kernel
theorem dX4_findWay_44 : decode cX4_findWay 44 = .ok (.ifCond .ne 11, 3) := by decide +kernel
theorem dX4_findWay_47 : decode cX4_findWay 47 = .ok (.aload_n 0, 1) := by decide +kernel
theorem dX4_findWay_48 : decode cX4_findWay 48 = .ok (.aload_n 1, 1) := by decide +kernel
theorem dX4_findWay_49 : decode cX4_findWay 49 = .ok (.invokevirtual 223, 3) := by decide +kernel
theorem dX4_findWay_52 : decode cX4_findWay 52 = .ok (.ifCond .eq 5, 3) := by decide +kernel
theorem dX4_findWay_55 : decode cX4_findWay 55 = .ok (.iconst 1, 1) := by decide +kernel
theorem dX4_findWay_56 : decode cX4_findWay 56 = .ok (.ireturn, 1) := by decide +kernel
theorem dX4_findWay_57 : decode cX4_findWay 57 = .ok (.aload_n 0, 1) := by decide +kernel
theorem dX4_findWay_58 : decode cX4_findWay 58 = .ok (.getfield 85, 3) := by decide +kernel
theorem dX4_findWay_61 : decode cX4_findWay 61 = .ok (.ifCond .eq 5, 3) := by decide +kernel
theorem dX4_findWay_64 : decode cX4_findWay 64 = .ok (.iconst 0, 1) := by decide +kernel
theorem dX4_findWay_65 : decode cX4_findWay 65 = .ok (.ireturn, 1) := by decide +kernel
theorem dX4_findWay_66 : decode cX4_findWay 66 = .ok (.aload_n 0, 1) := by decide +kernel
theorem dX4_findWay_67 : decode cX4_findWay 67 = .ok (.dup, 1) := by decide +kernel
theorem dX4_findWay_68 : decode cX4_findWay 68 = .ok (.getfield 88, 3) := by decide +kernel
theorem dX4_findWay_7 : decode cX4_findWay 7 = .ok (.aload_n 0, 1) := by decide +kernel
theorem dX4_findWay_71 : decode cX4_findWay 71 = .ok (.iconst 1, 1) := by decide +kernel
theorem dX4_findWay_72 : decode cX4_findWay 72 = .ok (.isub, 1) := by decide +kernel
theorem dX4_findWay_73 : decode cX4_findWay 73 = .ok (.putfield 88, 3) := by decide +kernel
theorem dX4_findWay_76 : decode cX4_findWay 76 = .ok (.goto (-76), 3) := by decide +kernel
theorem dX4_findWay_79 : decode cX4_findWay 79 = .ok (.iconst 0, 1) := by decide +kernel
theorem dX4_findWay_8 : decode cX4_findWay 8 = .ok (.getfield 25, 3) := by decide +kernel
theorem dX4_findWay_80 : decode cX4_findWay 80 = .ok (.ireturn, 1) := by decide +kernel
theorem dX4_mayTry_0 : decode cX4_mayTry 0 = .ok (.aload_n 0, 1) := by decide +kernel
theorem dX4_mayTry_1 : decode cX4_mayTry 1 = .ok (.getfield 45, 3) := by decide +kernel
theorem dX4_mayTry_10 : decode cX4_mayTry 10 = .ok (.aload_n 0, 1) := by decide +kernel
theorem dX4_mayTry_11 : decode cX4_mayTry 11 = .ok (.iconst 1, 1) := by decide +kernel
theorem dX4_mayTry_12 : decode cX4_mayTry 12 = .ok (.putfield 85, 3) := by decide +kernel
theorem dX4_mayTry_15 : decode cX4_mayTry 15 = .ok (.iconst 0, 1) := by decide +kernel
theorem dX4_mayTry_16 : decode cX4_mayTry 16 = .ok (.ireturn, 1) := by decide +kernel
theorem dX4_mayTry_17 : decode cX4_mayTry 17 = .ok (.aload_n 0, 1) := by decide +kernel
theorem dX4_mayTry_18 : decode cX4_mayTry 18 = .ok (.dup, 1) := by decide +kernel
theorem dX4_mayTry_19 : decode cX4_mayTry 19 = .ok (.getfield 45, 3) := by decide +kernel
theorem dX4_mayTry_22 : decode cX4_mayTry 22 = .ok (.iconst 1, 1) := by decide +kernel
theorem dX4_mayTry_23 : decode cX4_mayTry 23 = .ok (.iadd, 1) := by decide +kernel
theorem dX4_mayTry_24 : decode cX4_mayTry 24 = .ok (.putfield 45, 3) := by decide +kernel
theorem dX4_mayTry_27 : decode cX4_mayTry 27 = .ok (.iconst 1, 1) := by decide +kernel
theorem dX4_mayTry_28 : decode cX4_mayTry 28 = .ok (.ireturn, 1) := by decide +kernel
theorem dX4_mayTry_4 : decode cX4_mayTry 4 = .ok (.sipush 1000, 3) := by decide +kernel
theorem dX4_mayTry_7 : decode cX4_mayTry 7 = .ok (.if_icmp .lt 10, 3) := by decide +kernel
theorem dX4_prove_0 : decode cX4_prove 0 = .ok (.aload_n 0, 1) := by decide +kernel
theorem dX4_prove_1 : decode cX4_prove 1 = .ok (.iload_n 2, 1) := by decide +kernel
theorem dX4_prove_10 : decode cX4_prove 10 = .ok (.aload_n 0, 1) := by decide +kernel
theorem dX4_prove_100 : decode cX4_prove 100 = .ok (.iinc 5 1, 3) := by decide +kernel
theorem dX4_prove_103 : decode cX4_prove 103 = .ok (.goto (-83), 3) := by decide +kernel
theorem dX4_prove_106 : decode cX4_prove 106 = .ok (.bipush (-2), 2) := by decide +kernel
theorem dX4_prove_108 : decode cX4_prove 108 = .ok (.ireturn, 1) := by decide +kernel
theorem dX4_prove_11 : decode cX4_prove 11 = .ok (.iload_n 1, 1) := by decide +kernel
theorem dX4_prove_12 : decode cX4_prove 12 = .ok (.invokevirtual 64, 3) := by decide +kernel
theorem dX4_prove_15 : decode cX4_prove 15 = .ok (.astore 4, 2) := by decide +kernel
theorem dX4_prove_17 : decode cX4_prove 17 = .ok (.iconst 0, 1) := by decide +kernel
theorem dX4_prove_18 : decode cX4_prove 18 = .ok (.istore 5, 2) := by decide +kernel
theorem dX4_prove_2 : decode cX4_prove 2 = .ok (.putfield 58, 3) := by decide +kernel
theorem dX4_prove_20 : decode cX4_prove 20 = .ok (.iload 5, 2) := by decide +kernel
theorem dX4_prove_22 : decode cX4_prove 22 = .ok (.ldc 68, 2) := by decide +kernel
theorem dX4_prove_24 : decode cX4_prove 24 = .ok (.if_icmp .ge 82, 3) := by decide +kernel
theorem dX4_prove_27 : decode cX4_prove 27 = .ok (.aload_n 0, 1) := by decide +kernel
theorem dX4_prove_28 : decode cX4_prove 28 = .ok (.aload 4, 2) := by decide +kernel
theorem dX4_prove_30 : decode cX4_prove 30 = .ok (.invokevirtual 69, 3) := by decide +kernel
theorem dX4_prove_33 : decode cX4_prove 33 = .ok (.astore 4, 2) := by decide +kernel
theorem dX4_prove_35 : decode cX4_prove 35 = .ok (.aload 4, 2) := by decide +kernel
theorem dX4_prove_37 : decode cX4_prove 37 = .ok (.ifnonnull 10, 3) := by decide +kernel
theorem dX4_prove_40 : decode cX4_prove 40 = .ok (.aload_n 0, 1) := by decide +kernel
theorem dX4_prove_41 : decode cX4_prove 41 = .ok (.iconst 1, 1) := by decide +kernel
theorem dX4_prove_42 : decode cX4_prove 42 = .ok (.putfield 41, 3) := by decide +kernel
theorem dX4_prove_45 : decode cX4_prove 45 = .ok (.iconst 1, 1) := by decide +kernel
theorem dX4_prove_46 : decode cX4_prove 46 = .ok (.ireturn, 1) := by decide +kernel
theorem dX4_prove_47 : decode cX4_prove 47 = .ok (.aload_n 0, 1) := by decide +kernel
theorem dX4_prove_48 : decode cX4_prove 48 = .ok (.aload 4, 2) := by decide +kernel
theorem dX4_prove_5 : decode cX4_prove 5 = .ok (.aload_n 0, 1) := by decide +kernel
theorem dX4_prove_50 : decode cX4_prove 50 = .ok (.invokevirtual 73, 3) := by decide +kernel
theorem dX4_prove_53 : decode cX4_prove 53 = .ok (.ifCond .eq 9, 3) := by decide +kernel
theorem dX4_prove_56 : decode cX4_prove 56 = .ok (.aload_n 0, 1) := by decide +kernel
theorem dX4_prove_57 : decode cX4_prove 57 = .ok (.aload 4, 2) := by decide +kernel
theorem dX4_prove_59 : decode cX4_prove 59 = .ok (.invokevirtual 77, 3) := by decide +kernel
theorem dX4_prove_6 : decode cX4_prove 6 = .ok (.iload_n 3, 1) := by decide +kernel
theorem dX4_prove_62 : decode cX4_prove 62 = .ok (.aload_n 0, 1) := by decide +kernel
theorem dX4_prove_63 : decode cX4_prove 63 = .ok (.invokevirtual 81, 3) := by decide +kernel
theorem dX4_prove_66 : decode cX4_prove 66 = .ok (.ifCond .ne 17, 3) := by decide +kernel
theorem dX4_prove_69 : decode cX4_prove 69 = .ok (.aload_n 0, 1) := by decide +kernel
theorem dX4_prove_7 : decode cX4_prove 7 = .ok (.putfield 61, 3) := by decide +kernel
theorem dX4_prove_70 : decode cX4_prove 70 = .ok (.getfield 85, 3) := by decide +kernel
theorem dX4_prove_73 : decode cX4_prove 73 = .ok (.ifCond .eq 8, 3) := by decide +kernel
theorem dX4_prove_76 : decode cX4_prove 76 = .ok (.bipush (-2), 2) := by decide +kernel
theorem dX4_prove_78 : decode cX4_prove 78 = .ok (.goto 4, 3) := by decide +kernel
theorem dX4_prove_81 : decode cX4_prove 81 = .ok (.iconst 0, 1) := by decide +kernel
theorem dX4_prove_82 : decode cX4_prove 82 = .ok (.ireturn, 1) := by decide +kernel
theorem dX4_prove_83 : decode cX4_prove 83 = .ok (.aload_n 0, 1) := by decide +kernel
theorem dX4_prove_84 : decode cX4_prove 84 = .ok (.aload_n 0, 1) := by decide +kernel
theorem dX4_prove_85 : decode cX4_prove 85 = .ok (.getfield 25, 3) := by decide +kernel
theorem dX4_prove_88 : decode cX4_prove 88 = .ok (.aload_n 0, 1) := by decide +kernel
theorem dX4_prove_89 : decode cX4_prove 89 = .ok (.getfield 88, 3) := by decide +kernel
theorem dX4_prove_92 : decode cX4_prove 92 = .ok (.iconst 1, 1) := by decide +kernel
theorem dX4_prove_93 : decode cX4_prove 93 = .ok (.isub, 1) := by decide +kernel
theorem dX4_prove_94 : decode cX4_prove 94 = .ok (.aaload, 1) := by decide +kernel
theorem dX4_prove_95 : decode cX4_prove 95 = .ok (.invokevirtual 91, 3) := by decide +kernel
theorem dX4_prove_98 : decode cX4_prove 98 = .ok (.astore 4, 2) := by decide +kernel
theorem dX4_stepAt_0 : decode cX4_stepAt 0 = .ok (.iload_n 1, 1) := by decide +kernel
theorem dX4_stepAt_1 : decode cX4_stepAt 1 = .ok (.ifCond .lt 20, 3) := by decide +kernel
theorem dX4_stepAt_12 : decode cX4_stepAt 12 = .ok (.aload_n 0, 1) := by decide +kernel
theorem dX4_stepAt_13 : decode cX4_stepAt 13 = .ok (.getfield 25, 3) := by decide +kernel
theorem dX4_stepAt_16 : decode cX4_stepAt 16 = .ok (.iload_n 1, 1) := by decide +kernel
theorem dX4_stepAt_17 : decode cX4_stepAt 17 = .ok (.aaload, 1) := by decide +kernel
theorem dX4_stepAt_18 : decode cX4_stepAt 18 = .ok (.goto 4, 3) := by decide +kernel
theorem dX4_stepAt_21 : decode cX4_stepAt 21 = .ok (.aconst_null, 1) := by decide +kernel
theorem dX4_stepAt_22 : decode cX4_stepAt 22 = .ok (.areturn, 1) := by decide +kernel
theorem dX4_stepAt_4 : decode cX4_stepAt 4 = .ok (.iload_n 1, 1) := by decide +kernel
theorem dX4_stepAt_5 : decode cX4_stepAt 5 = .ok (.aload_n 0, 1) := by decide +kernel
theorem dX4_stepAt_6 : decode cX4_stepAt 6 = .ok (.getfield 88, 3) := by decide +kernel
theorem dX4_stepAt_9 : decode cX4_stepAt 9 = .ok (.if_icmp .ge 12, 3) := by decide +kernel
abbrev mo187 (v : Nat → Value) (a0 a1 a8 a11 : Value) : List Value := [a0, a1, (v 2), (v 3), (v 4), (v 5), (v 6), (v 7), a8, (v 9), (v 10), a11, (v 12), (v 13), (v 14), (v 15), (v 16), (v 17)]
abbrev mo188 (v : Nat → Value) (a12 a16 : Value) : List Value := [(v 0), (v 1), (v 2), (v 3), (v 4), (v 5), (v 6), (v 7), (v 8), (v 9), (v 10), (v 11), a12, (v 13), (v 14), (v 15), a16, (v 17)]
abbrev mo189 (v : Nat → Value) (a0 a1 a8 a11 a12 a16 : Value) : List Value := [a0, a1, (v 2), (v 3), (v 4), (v 5), (v 6), (v 7), a8, (v 9), (v 10), a11, a12, (v 13), (v 14), (v 15), a16, (v 17)]
abbrev mo190 (v : Nat → Value) (a0 a1 a8 a9 a10 a11 a12 a15 a16 : Value) : List Value := [a0, a1, (v 2), (v 3), (v 4), (v 5), (v 6), (v 7), a8, a9, a10, a11, a12, (v 13), (v 14), a15, a16, (v 17)]
abbrev mo191 (v : Nat → Value) (a0 a1 a3 a5 a6 a7 a8 a9 a10 a11 a12 a15 a16 : Value) : List Value := [a0, a1, (v 2), a3, (v 4), a5, a6, a7, a8, a9, a10, a11, a12, (v 13), (v 14), a15, a16, (v 17)]
abbrev mo192 (a0 a1 a2 a3 a4 a5 a6 a7 a8 a9 a10 a11 a12 a13 a14 a15 a16 a17 : Value) : List Value := [a0, a1, a2, a3, a4, a5, a6, a7, a8, a9, a10, a11, a12, a13, a14, a15, a16, a17]
abbrev mo193 (v : Nat → Value) (a6 a7 : Value) : List Value := [(v 0), (v 1), (v 2), (v 3), (v 4), (v 5), a6, a7, (v 8), (v 9), (v 10), (v 11), (v 12), (v 13), (v 14), (v 15), (v 16), (v 17)]
abbrev mo194 (v : Nat → Value) (a6 a7 a17 : Value) : List Value := [(v 0), (v 1), (v 2), (v 3), (v 4), (v 5), a6, a7, (v 8), (v 9), (v 10), (v 11), (v 12), (v 13), (v 14), (v 15), (v 16), a17]
set_option maxRecDepth 100000 in
theorem mq187_42 (v : Nat → Value) (b0 b1 b8 : Value) : ∃ w : Nat → Value, ∀ (a11 : Value), mo42 w a11 = (mo187 v b0 b1 b8 a11) := ⟨fun k => List.getD (mo187 v b0 b1 b8 .null) k .null, fun _ => rfl⟩
set_option maxRecDepth 100000 in
theorem mq187_178 (v : Nat → Value) (b11 : Value) : ∃ w : Nat → Value, ∀ (a0 a1 a8 : Value), mo178 w a0 a1 a8 = (mo187 v a0 a1 a8 b11) := ⟨fun k => List.getD (mo187 v .null .null .null b11) k .null, fun _ _ _ => rfl⟩
set_option maxRecDepth 100000 in
theorem mq189_43 (v : Nat → Value) (b1 b11 b12 b16 : Value) : ∃ w : Nat → Value, ∀ (a0 a8 : Value), mo43 w a0 a8 = (mo189 v a0 b1 a8 b11 b12 b16) := ⟨fun k => List.getD (mo189 v .null b1 .null b11 b12 b16) k .null, fun _ _ => rfl⟩
set_option maxRecDepth 100000 in
theorem mq179_5 (v : Nat → Value) (b1 b3 : Value) : ∃ w : Nat → Value, ∀ (a0 a2 a7 a8 : Value), mo5 w a0 a2 a7 a8 = (mo179 v a0 b1 a2 b3 a7 a8) := ⟨fun k => List.getD (mo179 v .null b1 .null b3 .null .null) k .null, fun _ _ _ _ => rfl⟩
set_option maxRecDepth 100000 in
theorem mq22_19 (b2 b3 b4 b5 b6 b7 b8 b9 b11 b12 : Value) : ∃ w : Nat → Value, ∀ (a0 a1 a10 : Value), mo19 w a0 a1 a10 = (mo22 a0 a1 b2 b3 b4 b5 b6 b7 b8 b9 a10 b11 b12) := ⟨fun k => List.getD (mo22 .null .null b2 b3 b4 b5 b6 b7 b8 b9 .null b11 b12) k .null, fun _ _ _ => rfl⟩
set_option maxRecDepth 100000 in
theorem mq179_18 (v : Nat → Value) (b0 b7 b8 : Value) : ∃ w : Nat → Value, ∀ (a1 a2 a3 : Value), mo18 w a1 a2 a3 = (mo179 v b0 a1 a2 a3 b7 b8) := ⟨fun k => List.getD (mo179 v b0 .null .null .null b7 b8) k .null, fun _ _ _ => rfl⟩
set_option maxRecDepth 100000 in
theorem mq189_188 (v : Nat → Value) (b0 b1 b8 b11 : Value) : ∃ w : Nat → Value, ∀ (a12 a16 : Value), mo188 w a12 a16 = (mo189 v b0 b1 b8 b11 a12 a16) := ⟨fun k => List.getD (mo189 v b0 b1 b8 b11 .null .null) k .null, fun _ _ => rfl⟩
set_option maxRecDepth 100000 in
theorem mq189_42 (v : Nat → Value) (b0 b1 b8 b12 b16 : Value) : ∃ w : Nat → Value, ∀ (a11 : Value), mo42 w a11 = (mo189 v b0 b1 b8 a11 b12 b16) := ⟨fun k => List.getD (mo189 v b0 b1 b8 .null b12 b16) k .null, fun _ => rfl⟩
set_option maxRecDepth 100000 in
theorem mq190_43 (v : Nat → Value) (b1 b9 b10 b11 b12 b15 b16 : Value) : ∃ w : Nat → Value, ∀ (a0 a8 : Value), mo43 w a0 a8 = (mo190 v a0 b1 a8 b9 b10 b11 b12 b15 b16) := ⟨fun k => List.getD (mo190 v .null b1 .null b9 b10 b11 b12 b15 b16) k .null, fun _ _ => rfl⟩
set_option maxRecDepth 100000 in
theorem mq190_188 (v : Nat → Value) (b0 b1 b8 b9 b10 b11 b15 : Value) : ∃ w : Nat → Value, ∀ (a12 a16 : Value), mo188 w a12 a16 = (mo190 v b0 b1 b8 b9 b10 b11 a12 b15 a16) := ⟨fun k => List.getD (mo190 v b0 b1 b8 b9 b10 b11 .null b15 .null) k .null, fun _ _ => rfl⟩
set_option maxRecDepth 100000 in
theorem mq190_42 (v : Nat → Value) (b0 b1 b8 b9 b10 b12 b15 b16 : Value) : ∃ w : Nat → Value, ∀ (a11 : Value), mo42 w a11 = (mo190 v b0 b1 b8 b9 b10 a11 b12 b15 b16) := ⟨fun k => List.getD (mo190 v b0 b1 b8 b9 b10 .null b12 b15 b16) k .null, fun _ => rfl⟩
set_option maxRecDepth 100000 in
theorem mq191_181 (v : Nat → Value) (b0 b6 b8 b10 b11 b12 b15 b16 : Value) : ∃ w : Nat → Value, ∀ (a1 a3 a5 a7 a9 : Value), mo181 w a1 a3 a5 a7 a9 = (mo191 v b0 a1 a3 a5 b6 a7 b8 a9 b10 b11 b12 b15 b16) := ⟨fun k => List.getD (mo191 v b0 .null .null .null b6 .null b8 .null b10 b11 b12 b15 b16) k .null, fun _ _ _ _ _ => rfl⟩
set_option maxRecDepth 100000 in
theorem mq191_187 (v : Nat → Value) (b3 b5 b6 b7 b9 b10 b12 b15 b16 : Value) : ∃ w : Nat → Value, ∀ (a0 a1 a8 a11 : Value), mo187 w a0 a1 a8 a11 = (mo191 v a0 a1 b3 b5 b6 b7 a8 b9 b10 a11 b12 b15 b16) := ⟨fun k => List.getD (mo191 v .null .null b3 b5 b6 b7 .null b9 b10 .null b12 b15 b16) k .null, fun _ _ _ _ => rfl⟩
set_option maxRecDepth 100000 in
theorem mq22_23 (b2 b3 b4 b5 b6 b10 b11 b12 : Value) : ∃ w : Nat → Value, ∀ (a0 a1 a7 a8 a9 : Value), mo23 w a0 a1 a7 a8 a9 = (mo22 a0 a1 b2 b3 b4 b5 b6 a7 a8 a9 b10 b11 b12) := ⟨fun k => List.getD (mo22 .null .null b2 b3 b4 b5 b6 .null .null .null b10 b11 b12) k .null, fun _ _ _ _ _ => rfl⟩
set_option maxRecDepth 100000 in
theorem mq75_179 (v : Nat → Value) (b5 b9 : Value) : ∃ w : Nat → Value, ∀ (a0 a1 a2 a3 a7 a8 : Value), mo179 w a0 a1 a2 a3 a7 a8 = (mo75 v a0 a1 a2 a3 b5 a7 a8 b9) := ⟨fun k => List.getD (mo75 v .null .null .null .null b5 .null .null b9) k .null, fun _ _ _ _ _ _ => rfl⟩
set_option maxRecDepth 100000 in
theorem mq191_189 (v : Nat → Value) (b3 b5 b6 b7 b9 b10 b15 : Value) : ∃ w : Nat → Value, ∀ (a0 a1 a8 a11 a12 a16 : Value), mo189 w a0 a1 a8 a11 a12 a16 = (mo191 v a0 a1 b3 b5 b6 b7 a8 b9 b10 a11 a12 b15 a16) := ⟨fun k => List.getD (mo191 v .null .null b3 b5 b6 b7 .null b9 b10 .null .null b15 .null) k .null, fun _ _ _ _ _ _ => rfl⟩
set_option maxRecDepth 100000 in
theorem mq191_190 (v : Nat → Value) (b3 b5 b6 b7 : Value) : ∃ w : Nat → Value, ∀ (a0 a1 a8 a9 a10 a11 a12 a15 a16 : Value), mo190 w a0 a1 a8 a9 a10 a11 a12 a15 a16 = (mo191 v a0 a1 b3 b5 b6 b7 a8 a9 a10 a11 a12 a15 a16) := ⟨fun k => List.getD (mo191 v .null .null b3 b5 b6 b7 .null .null .null .null .null .null .null) k .null, fun _ _ _ _ _ _ _ _ _ => rfl⟩
set_option maxRecDepth 100000 in
theorem mq192_185 (b0 b4 b6 b10 b11 b12 b13 b14 b15 : Value) : ∃ w : Nat → Value, ∀ (a1 a2 a3 a5 a7 a8 a9 a16 a17 : Value), mo185 w a1 a2 a3 a5 a7 a8 a9 a16 a17 = (mo192 b0 a1 a2 a3 b4 a5 b6 a7 a8 a9 b10 b11 b12 b13 b14 b15 a16 a17) := ⟨fun k => List.getD (mo192 b0 .null .null .null b4 .null b6 .null .null .null b10 b11 b12 b13 b14 b15 .null .null) k .null, fun _ _ _ _ _ _ _ _ _ => rfl⟩
set_option maxRecDepth 100000 in
theorem mq192_182 (b1 b2 b3 b4 b5 b9 b10 b12 b13 b14 b15 b16 b17 : Value) : ∃ w : Nat → Value, ∀ (a0 a6 a7 a8 a11 : Value), mo182 w a0 a6 a7 a8 a11 = (mo192 a0 b1 b2 b3 b4 b5 a6 a7 a8 b9 b10 a11 b12 b13 b14 b15 b16 b17) := ⟨fun k => List.getD (mo192 .null b1 b2 b3 b4 b5 .null .null .null b9 b10 .null b12 b13 b14 b15 b16 b17) k .null, fun _ _ _ _ _ => rfl⟩
set_option maxRecDepth 100000 in
theorem mq75_44 (v : Nat → Value) (b0 b1 b2 b3 b7 b8 b9 : Value) : ∃ w : Nat → Value, ∀ (a5 : Value), mo44 w a5 = (mo75 v b0 b1 b2 b3 a5 b7 b8 b9) := ⟨fun k => List.getD (mo75 v b0 b1 b2 b3 .null b7 b8 b9) k .null, fun _ => rfl⟩
set_option maxRecDepth 100000 in
theorem mq192_180 (b2 b3 b4 b5 b6 b7 b9 b10 b12 b13 b15 b16 b17 : Value) : ∃ w : Nat → Value, ∀ (a0 a1 a8 a11 a14 : Value), mo180 w a0 a1 a8 a11 a14 = (mo192 a0 a1 b2 b3 b4 b5 b6 b7 a8 b9 b10 a11 b12 b13 a14 b15 b16 b17) := ⟨fun k => List.getD (mo192 .null .null b2 b3 b4 b5 b6 b7 .null b9 b10 .null b12 b13 .null b15 b16 b17) k .null, fun _ _ _ _ _ => rfl⟩
set_option maxRecDepth 100000 in
theorem mq22_49 (b2 b3 b4 b5 b6 b11 b12 : Value) : ∃ w : Nat → Value, ∀ (a0 a1 a7 a8 a9 a10 : Value), mo49 w a0 a1 a7 a8 a9 a10 = (mo22 a0 a1 b2 b3 b4 b5 b6 a7 a8 a9 a10 b11 b12) := ⟨fun k => List.getD (mo22 .null .null b2 b3 b4 b5 b6 .null .null .null .null b11 b12) k .null, fun _ _ _ _ _ _ => rfl⟩
set_option maxRecDepth 100000 in
theorem mq75_58 (v : Nat → Value) (b9 : Value) : ∃ w : Nat → Value, ∀ (a0 a1 a2 a3 a5 a7 a8 : Value), mo58 w a0 a1 a2 a3 a5 a7 a8 = (mo75 v a0 a1 a2 a3 a5 a7 a8 b9) := ⟨fun k => List.getD (mo75 v .null .null .null .null .null .null .null b9) k .null, fun _ _ _ _ _ _ _ => rfl⟩
set_option maxRecDepth 100000 in
theorem mq192_191 (b2 b4 b13 b14 b17 : Value) : ∃ w : Nat → Value, ∀ (a0 a1 a3 a5 a6 a7 a8 a9 a10 a11 a12 a15 a16 : Value), mo191 w a0 a1 a3 a5 a6 a7 a8 a9 a10 a11 a12 a15 a16 = (mo192 a0 a1 b2 a3 b4 a5 a6 a7 a8 a9 a10 a11 a12 b13 b14 a15 a16 b17) := ⟨fun k => List.getD (mo192 .null .null b2 .null b4 .null .null .null .null .null .null .null .null b13 b14 .null .null b17) k .null, fun _ _ _ _ _ _ _ _ _ _ _ _ _ => rfl⟩
set_option maxRecDepth 100000 in
theorem mq192_186 (b0 b1 b6 b8 b9 b10 b12 b14 b15 b16 b17 : Value) : ∃ w : Nat → Value, ∀ (a2 a3 a4 a5 a7 a11 a13 : Value), mo186 w a2 a3 a4 a5 a7 a11 a13 = (mo192 b0 b1 a2 a3 a4 a5 b6 a7 b8 b9 b10 a11 b12 a13 b14 b15 b16 b17) := ⟨fun k => List.getD (mo192 b0 b1 .null .null .null .null b6 .null b8 b9 b10 .null b12 .null b14 b15 b16 b17) k .null, fun _ _ _ _ _ _ _ => rfl⟩
set_option maxRecDepth 100000 in
theorem mq192_183 (b0 b2 b4 b8 b10 b11 b12 b13 b14 b15 b16 b17 : Value) : ∃ w : Nat → Value, ∀ (a1 a3 a5 a6 a7 a9 : Value), mo183 w a1 a3 a5 a6 a7 a9 = (mo192 b0 a1 b2 a3 b4 a5 a6 a7 b8 a9 b10 b11 b12 b13 b14 b15 b16 b17) := ⟨fun k => List.getD (mo192 b0 .null b2 .null b4 .null .null .null b8 .null b10 b11 b12 b13 b14 b15 b16 b17) k .null, fun _ _ _ _ _ _ => rfl⟩
set_option maxRecDepth 100000 in
theorem mq22_184 (b0 b1 b2 b4 b5 b6 b7 b8 b9 b10 b11 b12 : Value) : ∃ w : Nat → Value, ∀ (a3 : Value), mo184 w a3 = (mo22 b0 b1 b2 a3 b4 b5 b6 b7 b8 b9 b10 b11 b12) := ⟨fun k => List.getD (mo22 b0 b1 b2 .null b4 b5 b6 b7 b8 b9 b10 b11 b12) k .null, fun _ => rfl⟩
set_option maxHeartbeats 8000000 in
set_option maxRecDepth 100000 in
theorem c_X4_byLemma (l : Launch) (dC : Nat → ClassId) (dI : Nat → Nat → Nat) (sz : Nat) (h_pv : Nat) (h_cof : Nat) (h_bd : Nat) (h_bnd : Nat) (h_lef : Nat) (h_rig : Nat) (h_td : Nat) (h_nam : Nat) (h_var : Nat) (h_trm : Nat) (h_ter : Nat) (h_pls : Nat) (h_fst : Nat) (nr : Nat) (ra : Nat → Nat) (rf : Nat → RT) (nl : Nat) (la : Nat → Nat) (lf : Nat → LT) (ns : Nat) (sa : Nat → Nat) (sf : Nat → ST) (v_pv : Nat → Value) (x_pv_options : Int32) (cy_cof : ClassId) (f_cof : Nat → Int32) (v_bd : Nat → Value) (x_bd_top : Int32) (cy_bnd : ClassId) (f_bnd : Nat → Int32) (cy_lef : ClassId) (f_lef : Nat → Int32) (cy_rig : ClassId) (f_rig : Nat → Int32) (v_td : Nat → Value) (cy_nam : ClassId) (f_nam : Nat → Int64) (cy_var : ClassId) (f_var : Nat → Int32) (cy_trm : ClassId) (f_trm : Nat → Int32) (cy_ter : ClassId) (f_ter : Nat → Int32) (cy_pls : ClassId) (f_pls : Nat → Int32) (cy_fst : ClassId) (f_fst : Nat → Int32) (j1 : Nat) (vR : Int) (vL : Int) (vS : Int) (vI : Int) (hf_cof : Rg 0 15 f_cof) (hx_bd_top : 0 ≤ (x_bd_top).toInt ∧ (x_bd_top).toInt ≤ 2048) (hf_bnd : Rg 0 9600 f_bnd) (hf_lef : Rg (-9600) 9599 f_lef) (hf_rig : Rg 0 9599 f_rig) (hf_var : Rg (-1) 7 f_var) (hf_trm : Rg 0 3 f_trm) (hf_ter : Rg 0 299 f_ter) (hf_fst : Rg 0 299 f_fst) (q0 : (j1 : Int) < vS) (q1 : j1 < ns) (q2 : vR ≤ nr ∧ vL ≤ nl) (hn_rok : ROK nr ra rf nl la) (hn_lok : LOK nl la lf) (hn_sok : SOK ns sf nr ra nl la) (hn_lvs : LVS vR vL vS vI ra rf la sf) : Met l yX4_byLemma (Ws yX4_byLemma cX4_byLemma 4 (some .boolean)) (({ frames := 3, cells := 0, slots := 0, locals := 78 } : Room)) (PRE (dC, dI) cls [(cy_cof, .int), (cy_bnd, .int), (cy_lef, .int), (cy_rig, .int), (cy_nam, .long), (cy_var, .int), (cy_trm, .int), (cy_ter, .int), (cy_pls, .int), (cy_fst, .int)] (wp [(h_pv, .inr (3, (mo187 v_pv (.ref h_td) (.ref h_bd) (.ref h_cof) (.int x_pv_options)))), (h_cof, .inl (cy_cof, 30, .inl f_cof)), (h_bd, .inr (1, (mo23 v_bd (.ref h_td) (.ref h_bnd) (.ref h_lef) (.ref h_rig) (.int x_bd_top)))), (h_bnd, .inl (cy_bnd, 256, .inl f_bnd)), (h_lef, .inl (cy_lef, 2048, .inl f_lef)), (h_rig, .inl (cy_rig, 2048, .inl f_rig)), (h_td, .inr (5, (mo179 v_td (.ref h_nam) (.ref h_var) (.ref h_trm) (.ref h_ter) (.ref h_pls) (.ref h_fst)))), (h_nam, .inl (cy_nam, 300, .inr (.inl f_nam))), (h_var, .inl (cy_var, 300, .inl f_var)), (h_trm, .inl (cy_trm, 300, .inl f_trm)), (h_ter, .inl (cy_ter, 900, .inl f_ter)), (h_pls, .inl (cy_pls, 16, .inl f_pls)), (h_fst, .inl (cy_fst, 96, .inl f_fst))] (PL nr ra rf nl la lf ns sa sf)) sz [.ref h_pv, .ref (sa j1)]) (va_Qi (fun (r : Int32) (u : (Int32) × (Nat → Int32) × (Nat → Int32) × (Nat → ST)) => (0 ≤ (u.1).toInt ∧ (u.1).toInt ≤ 2048) ∧ (Rg (-9600) 9599 u.2.1) ∧ (Rg 0 9599 u.2.2.1) ∧ (0 ≤ r.toInt ∧ r.toInt ≤ 1) ∧ (SOK ns u.2.2.2 nr ra nl la) ∧ (LVS vR vL vS vI ra rf la u.2.2.2) ∧ (∀ j : Nat, j ≠ j1 → u.2.2.2 j = sf j) ∧ (sIM (u.2.2.2 j1) = sIM (sf j1) ∧ sRM (u.2.2.2 j1) = sRM (sf j1) ∧ sLM (u.2.2.2 j1) = sLM (sf j1)) ∧ (OrP ((r).toInt = 0) (¬ (u.2.2.2 j1).2.1.toInt = 3))) (fun (u : (Int32) × (Nat → Int32) × (Nat → Int32) × (Nat → ST)) (t : State) => va_P (dC, dI) cls (wp [(h_pv, .inr (3, (mo187 v_pv (.ref h_td) (.ref h_bd) (.ref h_cof) (.int x_pv_options)))), (h_cof, .inl (cy_cof, 30, .inl f_cof)), (h_bd, .inr (1, (mo23 v_bd (.ref h_td) (.ref h_bnd) (.ref h_lef) (.ref h_rig) (.int u.1)))), (h_bnd, .inl (cy_bnd, 256, .inl f_bnd)), (h_lef, .inl (cy_lef, 2048, .inl u.2.1)), (h_rig, .inl (cy_rig, 2048, .inl u.2.2.1)), (h_td, .inr (5, (mo179 v_td (.ref h_nam) (.ref h_var) (.ref h_trm) (.ref h_ter) (.ref h_pls) (.ref h_fst)))), (h_nam, .inl (cy_nam, 300, .inr (.inl f_nam))), (h_var, .inl (cy_var, 300, .inl f_var)), (h_trm, .inl (cy_trm, 300, .inl f_trm)), (h_ter, .inl (cy_ter, 900, .inl f_ter)), (h_pls, .inl (cy_pls, 16, .inl f_pls)), (h_fst, .inl (cy_fst, 96, .inl f_fst))] (PL nr ra rf nl la lf ns sa u.2.2.2)) t.heap ∧ va_D (va_A (wp [(h_pv, .inr (3, (mo187 v_pv (.ref h_td) (.ref h_bd) (.ref h_cof) (.int x_pv_options)))), (h_cof, .inl (cy_cof, 30, .inl f_cof)), (h_bd, .inr (1, (mo23 v_bd (.ref h_td) (.ref h_bnd) (.ref h_lef) (.ref h_rig) (.int x_bd_top)))), (h_bnd, .inl (cy_bnd, 256, .inl f_bnd)), (h_lef, .inl (cy_lef, 2048, .inl f_lef)), (h_rig, .inl (cy_rig, 2048, .inl f_rig)), (h_td, .inr (5, (mo179 v_td (.ref h_nam) (.ref h_var) (.ref h_trm) (.ref h_ter) (.ref h_pls) (.ref h_fst)))), (h_nam, .inl (cy_nam, 300, .inr (.inl f_nam))), (h_var, .inl (cy_var, 300, .inl f_var)), (h_trm, .inl (cy_trm, 300, .inl f_trm)), (h_ter, .inl (cy_ter, 900, .inl f_ter)), (h_pls, .inl (cy_pls, 16, .inl f_pls)), (h_fst, .inl (cy_fst, 96, .inl f_fst))] (PL nr ra rf nl la lf ns sa sf)) sz) (wp [(h_pv, .inr (3, (mo187 v_pv (.ref h_td) (.ref h_bd) (.ref h_cof) (.int x_pv_options)))), (h_cof, .inl (cy_cof, 30, .inl f_cof)), (h_bd, .inr (1, (mo23 v_bd (.ref h_td) (.ref h_bnd) (.ref h_lef) (.ref h_rig) (.int u.1)))), (h_bnd, .inl (cy_bnd, 256, .inl f_bnd)), (h_lef, .inl (cy_lef, 2048, .inl u.2.1)), (h_rig, .inl (cy_rig, 2048, .inl u.2.2.1)), (h_td, .inr (5, (mo179 v_td (.ref h_nam) (.ref h_var) (.ref h_trm) (.ref h_ter) (.ref h_pls) (.ref h_fst)))), (h_nam, .inl (cy_nam, 300, .inr (.inl f_nam))), (h_var, .inl (cy_var, 300, .inl f_var)), (h_trm, .inl (cy_trm, 300, .inl f_trm)), (h_ter, .inl (cy_ter, 900, .inl f_ter)), (h_pls, .inl (cy_pls, 16, .inl f_pls)), (h_fst, .inl (cy_fst, 96, .inl f_fst))] (PL nr ra rf nl la lf ns sa u.2.2.2))) (va_A (wp [(h_pv, .inr (3, (mo187 v_pv (.ref h_td) (.ref h_bd) (.ref h_cof) (.int x_pv_options)))), (h_cof, .inl (cy_cof, 30, .inl f_cof)), (h_bd, .inr (1, (mo23 v_bd (.ref h_td) (.ref h_bnd) (.ref h_lef) (.ref h_rig) (.int x_bd_top)))), (h_bnd, .inl (cy_bnd, 256, .inl f_bnd)), (h_lef, .inl (cy_lef, 2048, .inl f_lef)), (h_rig, .inl (cy_rig, 2048, .inl f_rig)), (h_td, .inr (5, (mo179 v_td (.ref h_nam) (.ref h_var) (.ref h_trm) (.ref h_ter) (.ref h_pls) (.ref h_fst)))), (h_nam, .inl (cy_nam, 300, .inr (.inl f_nam))), (h_var, .inl (cy_var, 300, .inl f_var)), (h_trm, .inl (cy_trm, 300, .inl f_trm)), (h_ter, .inl (cy_ter, 900, .inl f_ter)), (h_pls, .inl (cy_pls, 16, .inl f_pls)), (h_fst, .inl (cy_fst, 96, .inl f_fst))] (PL nr ra rf nl la lf ns sa sf)) sz)) (0) (0) (va_A (wp [(h_pv, .inr (3, (mo187 v_pv (.ref h_td) (.ref h_bd) (.ref h_cof) (.int x_pv_options)))), (h_cof, .inl (cy_cof, 30, .inl f_cof)), (h_bd, .inr (1, (mo23 v_bd (.ref h_td) (.ref h_bnd) (.ref h_lef) (.ref h_rig) (.int x_bd_top)))), (h_bnd, .inl (cy_bnd, 256, .inl f_bnd)), (h_lef, .inl (cy_lef, 2048, .inl f_lef)), (h_rig, .inl (cy_rig, 2048, .inl f_rig)), (h_td, .inr (5, (mo179 v_td (.ref h_nam) (.ref h_var) (.ref h_trm) (.ref h_ter) (.ref h_pls) (.ref h_fst)))), (h_nam, .inl (cy_nam, 300, .inr (.inl f_nam))), (h_var, .inl (cy_var, 300, .inl f_var)), (h_trm, .inl (cy_trm, 300, .inl f_trm)), (h_ter, .inl (cy_ter, 900, .inl f_ter)), (h_pls, .inl (cy_pls, 16, .inl f_pls)), (h_fst, .inl (cy_fst, 96, .inl f_fst))] (PL nr ra rf nl la lf ns sa sf)) sz) := by
  refine Met.ofW (cc := cX4_byLemma) (maxL := 4) (ret := (some .boolean)) (by decide) rfl ?_
  intro p e s m args below meth c s₁ B hml hv
  obtain ⟨rfl, hsz, hP, hK, hD0, hN⟩ := hv
  have hx := B.exec
  have hb := B.bytes
  have hr := B.returns
  have hts := atoms_spec (ws := Ws yX4_byLemma cX4_byLemma 4 (some .boolean)) B.pre
  have hT : ∀ w ∈ WALL, w ∈ Ws yX4_byLemma cX4_byLemma 4 (some .boolean) := fun w h => List.mem_cons_of_mem _ h
  have hw := fun w (h : w ∈ WALL) => hts w (hT w h)
  have hown : s.vm.findClass RX4 = some m.cls := findClass_of_methodNamed B.named
  have hlocks := B.notSynchronized
  subst hsz
  have hD := hD0.self (sz := s.heap.size)
  generalize hAe : va_A (wp [(h_pv, .inr (3, (mo187 v_pv (.ref h_td) (.ref h_bd) (.ref h_cof) (.int x_pv_options)))), (h_cof, .inl (cy_cof, 30, .inl f_cof)), (h_bd, .inr (1, (mo23 v_bd (.ref h_td) (.ref h_bnd) (.ref h_lef) (.ref h_rig) (.int x_bd_top)))), (h_bnd, .inl (cy_bnd, 256, .inl f_bnd)), (h_lef, .inl (cy_lef, 2048, .inl f_lef)), (h_rig, .inl (cy_rig, 2048, .inl f_rig)), (h_td, .inr (5, (mo179 v_td (.ref h_nam) (.ref h_var) (.ref h_trm) (.ref h_ter) (.ref h_pls) (.ref h_fst)))), (h_nam, .inl (cy_nam, 300, .inr (.inl f_nam))), (h_var, .inl (cy_var, 300, .inl f_var)), (h_trm, .inl (cy_trm, 300, .inl f_trm)), (h_ter, .inl (cy_ter, 900, .inl f_ter)), (h_pls, .inl (cy_pls, 16, .inl f_pls)), (h_fst, .inl (cy_fst, 96, .inl f_fst))] (PL nr ra rf nl la lf ns sa sf)) s.heap.size = A at hD ⊢
  have hA : ∀ q : Nat, s.heap.size ≤ q → A q := fun q h => by rw [← hAe]; exact Or.inr h
  have hS : va_S A s.heap s.heap [] := va_S.rf
  have hl := lv_entry ([.ref h_pv, .ref (sa j1)]) (n := 4) (Nat.le_of_ble_eq_true rfl)
  rw [lg_entry_eq]
  generalize (lg_sl ([.ref h_pv, .ref (sa j1)]) ++ List.replicate (4 - (lg_sl ([.ref h_pv, .ref (sa j1)])).length) Slot.unset).toArray = ls at hl ⊢
  have hl : lv_has ls 4 [(0, .ref h_pv), (1, .ref (sa j1))] := hl
  obtain ⟨⟨ro, hro, ero, hn5⟩, g92, g93, g94, g95, g96, g97⟩ := hn_lvs j1 (by omega)
  have oth0 : ∀ j : Nat, j ≠ j1 → sf j = sf j := fun _ _ => rfl
  have mks0 : sIM (sf j1) = sIM (sf j1) ∧ sRM (sf j1) = sRM (sf j1) ∧ sLM (sf j1) = sLM (sf j1) := ⟨rfl, rfl, rfl⟩
  have rwq0 : (sf j1).1 = (sf j1).1 := rfl
  refine lv_aload_n hx hb dX4_byLemma_0 rfl (lv_at hl 1 rfl) ?_
  refine va_getN (D := (dC, dI)) (ci := 11) (v := .int (sf j1).2.2.2.2.1) (C := RX7) (T := TX7) (N := 12) (host := "OppositePairs") hx hb hw iwX7 hown hK hP (13 + (nr + (nl + j1))) (pl_S (X := [(h_pv, .inr (3, (mo187 v_pv (.ref h_td) (.ref h_bd) (.ref h_cof) (.int x_pv_options)))), (h_cof, .inl (cy_cof, 30, .inl f_cof)), (h_bd, .inr (1, (mo23 v_bd (.ref h_td) (.ref h_bnd) (.ref h_lef) (.ref h_rig) (.int x_bd_top)))), (h_bnd, .inl (cy_bnd, 256, .inl f_bnd)), (h_lef, .inl (cy_lef, 2048, .inl f_lef)), (h_rig, .inl (cy_rig, 2048, .inl f_rig)), (h_td, .inr (5, (mo179 v_td (.ref h_nam) (.ref h_var) (.ref h_trm) (.ref h_ter) (.ref h_pls) (.ref h_fst)))), (h_nam, .inl (cy_nam, 300, .inr (.inl f_nam))), (h_var, .inl (cy_var, 300, .inl f_var)), (h_trm, .inl (cy_trm, 300, .inl f_trm)), (h_ter, .inl (cy_ter, 900, .inl f_ter)), (h_pls, .inl (cy_pls, 16, .inl f_pls)), (h_fst, .inl (cy_fst, 96, .inl f_fst))]) (by omega)) rfl 4 (by decide) (hN.use n_f_X4_188 rfl) (fun _ h9 => h9) rfl dX4_byLemma_1 ?_
  refine lv_topi (fun z1 ez1 => ?_)
  have vz1 : (z1).toInt = ((sf j1).2.2.2.2.1).toInt := by rw [ez1]
  have rz1 : 0 ≤ (z1).toInt ∧ (z1).toInt ≤ 1 := by rw [ez1]; exact (hn_sok j1 (by omega)).2.2.2.1
  refine lv_if_ne (tgt := 15) hx hb dX4_byLemma_4 (by decide) (fun c2 => ?_) (fun c2 => ?_)
  · have kc2 := (not_congr (cv_eq (rfl : (z1).toInt = (z1).toInt) (by decide : (0 : Int32).toInt = 0))).mp c2
    replace kc2 : 1 ≤ (z1).toInt := by omega
    refine lv_iconst (v := 0) hx hb dX4_byLemma_15 (by decide) ?_
    refine W.widen (k := 0) (n := 0) (Nat.le_of_ble_eq_true rfl) (Nat.le_of_ble_eq_true rfl) ?_
    have cst0 : (0 : Int32).toInt = 0 := by decide
    have w3 : 0 ≤ ((x_bd_top)).toInt ∧ ((x_bd_top)).toInt ≤ 2048 := by first | exact hx_bd_top | omega
    have w4 : 0 ≤ (0 : Int32).toInt ∧ (0 : Int32).toInt ≤ 1 := by decide
    have w5 : SOK ns (sf) nr ra nl la := hn_sok
    have w6 : LVS vR vL vS vI ra rf la (sf) := (lvs_cast hn_lvs (by first | rfl | omega) (by first | rfl | omega) (by first | rfl | omega) (by first | rfl | omega))
    have w7 : ∀ j : Nat, j ≠ j1 → (sf) j = sf j := oth0
    have w8 : sIM ((sf) j1) = sIM (sf j1) ∧ sRM ((sf) j1) = sRM (sf j1) ∧ sLM ((sf) j1) = sLM (sf j1) := mks0
    have w9 : OrP (((0 : Int32)).toInt = 0) (¬ ((sf) j1).2.1.toInt = 3) := (Or.inl (by decide))
    exact W.zret (v := 0) (ty := .boolean) hx hb hr (by decide) (fun t ht hW => ⟨⟨0, (x_bd_top, f_lef, f_rig, sf), rfl, ⟨w3, hf_lef, hf_rig, w4, w5, w6, w7, w8, w9⟩, by rw [ht]; exact hP, hD⟩, hS.F ht⟩) hS.2.2 dX4_byLemma_16
  · have kc2 := (cv_eq (rfl : (z1).toInt = (z1).toInt) (by decide : (0 : Int32).toInt = 0)).mp c2
    refine lv_aload_n hx hb dX4_byLemma_7 rfl (lv_at hl 0 rfl) ?_
    refine lv_iconst (v := 2) hx hb dX4_byLemma_8 (by decide) ?_
    obtain ⟨vq10, evq10⟩ := mq187_42 v_pv (.ref h_td) (.ref h_bd) (.ref h_cof)
    replace hP : va_P (dC, dI) cls (wp [(h_pv, .inr (3, (mo42 vq10 (.int x_pv_options)))), (h_cof, .inl (cy_cof, 30, .inl f_cof)), (h_bd, .inr (1, (mo23 v_bd (.ref h_td) (.ref h_bnd) (.ref h_lef) (.ref h_rig) (.int x_bd_top)))), (h_bnd, .inl (cy_bnd, 256, .inl f_bnd)), (h_lef, .inl (cy_lef, 2048, .inl f_lef)), (h_rig, .inl (cy_rig, 2048, .inl f_rig)), (h_td, .inr (5, (mo179 v_td (.ref h_nam) (.ref h_var) (.ref h_trm) (.ref h_ter) (.ref h_pls) (.ref h_fst)))), (h_nam, .inl (cy_nam, 300, .inr (.inl f_nam))), (h_var, .inl (cy_var, 300, .inl f_var)), (h_trm, .inl (cy_trm, 300, .inl f_trm)), (h_ter, .inl (cy_ter, 900, .inl f_ter)), (h_pls, .inl (cy_pls, 16, .inl f_pls)), (h_fst, .inl (cy_fst, 96, .inl f_fst))] (PL nr ra rf nl la lf ns sa sf)) s.heap := by rw [evq10]; exact hP
    replace hD : va_D A (wp [(h_pv, .inr (3, (mo42 vq10 (.int x_pv_options)))), (h_cof, .inl (cy_cof, 30, .inl f_cof)), (h_bd, .inr (1, (mo23 v_bd (.ref h_td) (.ref h_bnd) (.ref h_lef) (.ref h_rig) (.int x_bd_top)))), (h_bnd, .inl (cy_bnd, 256, .inl f_bnd)), (h_lef, .inl (cy_lef, 2048, .inl f_lef)), (h_rig, .inl (cy_rig, 2048, .inl f_rig)), (h_td, .inr (5, (mo179 v_td (.ref h_nam) (.ref h_var) (.ref h_trm) (.ref h_ter) (.ref h_pls) (.ref h_fst)))), (h_nam, .inl (cy_nam, 300, .inr (.inl f_nam))), (h_var, .inl (cy_var, 300, .inl f_var)), (h_trm, .inl (cy_trm, 300, .inl f_trm)), (h_ter, .inl (cy_ter, 900, .inl f_ter)), (h_pls, .inl (cy_pls, 16, .inl f_pls)), (h_fst, .inl (cy_fst, 96, .inl f_fst))] (PL nr ra rf nl la lf ns sa sf)) := by rw [evq10]; exact hD
    have cst2 : (2 : Int32).toInt = 2 := by decide
    have hPc := wp_P (cx := [(h_pv, .inr (3, (mo42 vq10 (.int x_pv_options))))]) hP [0] rfl
    have hDc := wp_D (cx := [(h_pv, .inr (3, (mo42 vq10 (.int x_pv_options))))]) hD [0] (by decide) rfl
    have hKc := hK.sub (tys' := []) [] rfl
    have hFc := wp_free (cx := [(h_pv, .inr (3, (mo42 vq10 (.int x_pv_options))))]) hD hS hA [0] rfl
    refine va_calli (va_runV (As := [.int 2]) (rest := []) ⟨hx, hb, hml, hown, hts⟩ (c_X4_has_e l dC dI s.heap.size h_pv vq10 x_pv_options 2) (cwV 1 hts (gv hT w_m_X4_147 w_instanceMethod_X4_has ws_sel_X4_has w_ini_X4 w_code_X4_has) rfl rfl rfl (by decide +kernel) ⟨(Nat.le_of_ble_eq_true rfl), (Nat.le_of_ble_eq_true rfl)⟩) ⟨pre_blind, va_recv hK hP (ci := 3) (q0 := 0) rfl rfl, pre_of hPc hKc hDc hN⟩ rfl rfl hl.1 rfl (lv_room (Nat.le_of_ble_eq_true rfl)) dX4_byLemma_9 ⟨(Nat.le_of_ble_eq_true rfl), (Nat.le_of_ble_eq_true rfl)⟩) hS (fun q _ h => hFc q h) hFc (fun r11 u t H locs ht hvm hq hB hz1 hk1 hS9 => ?_)
    obtain ⟨hP1, hD1⟩ := hB
    rw [ht] at hP1
    obtain ⟨hP9, hD9⟩ := va_joinQ (wr := [(h_cof, .inl (cy_cof, 30, .inl f_cof)), (h_bd, .inr (1, (mo23 v_bd (.ref h_td) (.ref h_bnd) (.ref h_lef) (.ref h_rig) (.int x_bd_top)))), (h_bnd, .inl (cy_bnd, 256, .inl f_bnd)), (h_lef, .inl (cy_lef, 2048, .inl f_lef)), (h_rig, .inl (cy_rig, 2048, .inl f_rig)), (h_td, .inr (5, (mo179 v_td (.ref h_nam) (.ref h_var) (.ref h_trm) (.ref h_ter) (.ref h_pls) (.ref h_fst)))), (h_nam, .inl (cy_nam, 300, .inr (.inl f_nam))), (h_var, .inl (cy_var, 300, .inl f_var)), (h_trm, .inl (cy_trm, 300, .inl f_trm)), (h_ter, .inl (cy_ter, 900, .inl f_ter)), (h_pls, .inl (cy_pls, 16, .inl f_pls)), (h_fst, .inl (cy_fst, 96, .inl f_fst))]) (w1 := [(h_pv, .inr (3, (mo42 vq10 (.int x_pv_options))))]) (cx := [(h_pv, .inr (3, (mo42 vq10 (.int x_pv_options))))]) hP hD [0] [1, 2, 3, 4, 5, 6, 7, 8, 9, 10, 11, 12] rfl rfl (by decide) (by decide) hk1 hFc hP1 hD1
    clear hP hD hS hPc hDc hKc hFc hP1 hD1 hk1 hz1 ht hvm
    have hP : va_P (dC, dI) cls (wp [(h_cof, .inl (cy_cof, 30, .inl f_cof)), (h_bd, .inr (1, (mo23 v_bd (.ref h_td) (.ref h_bnd) (.ref h_lef) (.ref h_rig) (.int x_bd_top)))), (h_bnd, .inl (cy_bnd, 256, .inl f_bnd)), (h_lef, .inl (cy_lef, 2048, .inl f_lef)), (h_rig, .inl (cy_rig, 2048, .inl f_rig)), (h_td, .inr (5, (mo179 v_td (.ref h_nam) (.ref h_var) (.ref h_trm) (.ref h_ter) (.ref h_pls) (.ref h_fst)))), (h_nam, .inl (cy_nam, 300, .inr (.inl f_nam))), (h_var, .inl (cy_var, 300, .inl f_var)), (h_trm, .inl (cy_trm, 300, .inl f_trm)), (h_ter, .inl (cy_ter, 900, .inl f_ter)), (h_pls, .inl (cy_pls, 16, .inl f_pls)), (h_fst, .inl (cy_fst, 96, .inl f_fst)), (h_pv, .inr (3, (mo42 vq10 (.int x_pv_options))))] (PL nr ra rf nl la lf ns sa sf)) H := hP9
    have hD : va_D A (wp [(h_cof, .inl (cy_cof, 30, .inl f_cof)), (h_bd, .inr (1, (mo23 v_bd (.ref h_td) (.ref h_bnd) (.ref h_lef) (.ref h_rig) (.int x_bd_top)))), (h_bnd, .inl (cy_bnd, 256, .inl f_bnd)), (h_lef, .inl (cy_lef, 2048, .inl f_lef)), (h_rig, .inl (cy_rig, 2048, .inl f_rig)), (h_td, .inr (5, (mo179 v_td (.ref h_nam) (.ref h_var) (.ref h_trm) (.ref h_ter) (.ref h_pls) (.ref h_fst)))), (h_nam, .inl (cy_nam, 300, .inr (.inl f_nam))), (h_var, .inl (cy_var, 300, .inl f_var)), (h_trm, .inl (cy_trm, 300, .inl f_trm)), (h_ter, .inl (cy_ter, 900, .inl f_ter)), (h_pls, .inl (cy_pls, 16, .inl f_pls)), (h_fst, .inl (cy_fst, 96, .inl f_fst)), (h_pv, .inr (3, (mo42 vq10 (.int x_pv_options))))] (PL nr ra rf nl la lf ns sa sf)) := hD9
    have hS := hS9
    clear hP9 hD9 hS9
    rw [evq10] at hP hD
    replace hP : va_P (dC, dI) cls (wp [(h_cof, .inl (cy_cof, 30, .inl f_cof)), (h_bd, .inr (1, (mo23 v_bd (.ref h_td) (.ref h_bnd) (.ref h_lef) (.ref h_rig) (.int x_bd_top)))), (h_bnd, .inl (cy_bnd, 256, .inl f_bnd)), (h_lef, .inl (cy_lef, 2048, .inl f_lef)), (h_rig, .inl (cy_rig, 2048, .inl f_rig)), (h_td, .inr (5, (mo179 v_td (.ref h_nam) (.ref h_var) (.ref h_trm) (.ref h_ter) (.ref h_pls) (.ref h_fst)))), (h_nam, .inl (cy_nam, 300, .inr (.inl f_nam))), (h_var, .inl (cy_var, 300, .inl f_var)), (h_trm, .inl (cy_trm, 300, .inl f_trm)), (h_ter, .inl (cy_ter, 900, .inl f_ter)), (h_pls, .inl (cy_pls, 16, .inl f_pls)), (h_fst, .inl (cy_fst, 96, .inl f_fst)), (h_pv, .inr (3, (mo187 v_pv (.ref h_td) (.ref h_bd) (.ref h_cof) (.int x_pv_options))))] (PL nr ra rf nl la lf ns sa sf)) H := hP
    replace hD : va_D A (wp [(h_cof, .inl (cy_cof, 30, .inl f_cof)), (h_bd, .inr (1, (mo23 v_bd (.ref h_td) (.ref h_bnd) (.ref h_lef) (.ref h_rig) (.int x_bd_top)))), (h_bnd, .inl (cy_bnd, 256, .inl f_bnd)), (h_lef, .inl (cy_lef, 2048, .inl f_lef)), (h_rig, .inl (cy_rig, 2048, .inl f_rig)), (h_td, .inr (5, (mo179 v_td (.ref h_nam) (.ref h_var) (.ref h_trm) (.ref h_ter) (.ref h_pls) (.ref h_fst)))), (h_nam, .inl (cy_nam, 300, .inr (.inl f_nam))), (h_var, .inl (cy_var, 300, .inl f_var)), (h_trm, .inl (cy_trm, 300, .inl f_trm)), (h_ter, .inl (cy_ter, 900, .inl f_ter)), (h_pls, .inl (cy_pls, 16, .inl f_pls)), (h_fst, .inl (cy_fst, 96, .inl f_fst)), (h_pv, .inr (3, (mo187 v_pv (.ref h_td) (.ref h_bd) (.ref h_cof) (.int x_pv_options))))] (PL nr ra rf nl la lf ns sa sf)) := hD
    clear evq10 
    obtain ⟨k12, k13⟩ := hq
    replace k12 : 0 ≤ (r11).toInt ∧ (r11).toInt ≤ 1 := k12
    replace k13 : ((r11)).toInt = hasb (x_pv_options) (2 : Int32) := k13
    refine lv_if_ne (tgt := 17) hx hb dX4_byLemma_12 (by decide) (fun c14 => ?_) (fun c14 => ?_)
    · have kc14 := (not_congr (cv_eq (rfl : (r11).toInt = (r11).toInt) (by decide : (0 : Int32).toInt = 0))).mp c14
      replace kc14 : 1 ≤ (r11).toInt := by omega
      refine lv_aload_n hx hb dX4_byLemma_17 rfl (lv_at hl 1 rfl) ?_
      refine lv_iconst (v := 1) hx hb dX4_byLemma_18 (by decide) ?_
      refine va_putN (D := (dC, dI)) (ci := 11) (v := .int 1) (ty := tyX7 4) (C := RX7) (T := TX7) (N := 12) (host := "OppositePairs") hx hb hw iwX7 tyX7 tyX7_ok nmX7 hown hK hP hD hS (13 + (nr + (nl + j1))) (pl_S (X := [(h_cof, .inl (cy_cof, 30, .inl f_cof)), (h_bd, .inr (1, (mo23 v_bd (.ref h_td) (.ref h_bnd) (.ref h_lef) (.ref h_rig) (.int x_bd_top)))), (h_bnd, .inl (cy_bnd, 256, .inl f_bnd)), (h_lef, .inl (cy_lef, 2048, .inl f_lef)), (h_rig, .inl (cy_rig, 2048, .inl f_rig)), (h_td, .inr (5, (mo179 v_td (.ref h_nam) (.ref h_var) (.ref h_trm) (.ref h_ter) (.ref h_pls) (.ref h_fst)))), (h_nam, .inl (cy_nam, 300, .inr (.inl f_nam))), (h_var, .inl (cy_var, 300, .inl f_var)), (h_trm, .inl (cy_trm, 300, .inl f_trm)), (h_ter, .inl (cy_ter, 900, .inl f_ter)), (h_pls, .inl (cy_pls, 16, .inl f_pls)), (h_fst, .inl (cy_fst, 96, .inl f_fst)), (h_pv, .inr (3, (mo187 v_pv (.ref h_td) (.ref h_bd) (.ref h_cof) (.int x_pv_options))))]) (by omega)) rfl 4 (by decide) (hN.use n_f_X4_188 rfl) (fun _ h9 => h9) rfl (tyX7_ok 4 (by decide)) rfl rfl (Nat.le_of_ble_eq_true rfl) dX4_byLemma_19 (fun H locs hP hD hS => ?_)
      have hP : va_P (dC, dI) cls (wp [(h_cof, .inl (cy_cof, 30, .inl f_cof)), (h_bd, .inr (1, (mo23 v_bd (.ref h_td) (.ref h_bnd) (.ref h_lef) (.ref h_rig) (.int x_bd_top)))), (h_bnd, .inl (cy_bnd, 256, .inl f_bnd)), (h_lef, .inl (cy_lef, 2048, .inl f_lef)), (h_rig, .inl (cy_rig, 2048, .inl f_rig)), (h_td, .inr (5, (mo179 v_td (.ref h_nam) (.ref h_var) (.ref h_trm) (.ref h_ter) (.ref h_pls) (.ref h_fst)))), (h_nam, .inl (cy_nam, 300, .inr (.inl f_nam))), (h_var, .inl (cy_var, 300, .inl f_var)), (h_trm, .inl (cy_trm, 300, .inl f_trm)), (h_ter, .inl (cy_ter, 900, .inl f_ter)), (h_pls, .inl (cy_pls, 16, .inl f_pls)), (h_fst, .inl (cy_fst, 96, .inl f_fst)), (h_pv, .inr (3, (mo187 v_pv (.ref h_td) (.ref h_bd) (.ref h_cof) (.int x_pv_options))))] (PL nr ra rf nl la lf ns sa (va_up sf j1 ((sf j1).1, (sf j1).2.1, (sf j1).2.2.1, (sf j1).2.2.2.1, (1 : Int32), (sf j1).2.2.2.2.2.1, (sf j1).2.2.2.2.2.2.1, (sf j1).2.2.2.2.2.2.2.1, (sf j1).2.2.2.2.2.2.2.2.1, (sf j1).2.2.2.2.2.2.2.2.2.1, (sf j1).2.2.2.2.2.2.2.2.2.2.1, (sf j1).2.2.2.2.2.2.2.2.2.2.2)))) H := by rw [← pl_setS (i := j1) (by omega)]; exact hP
      have hD : va_D A (wp [(h_cof, .inl (cy_cof, 30, .inl f_cof)), (h_bd, .inr (1, (mo23 v_bd (.ref h_td) (.ref h_bnd) (.ref h_lef) (.ref h_rig) (.int x_bd_top)))), (h_bnd, .inl (cy_bnd, 256, .inl f_bnd)), (h_lef, .inl (cy_lef, 2048, .inl f_lef)), (h_rig, .inl (cy_rig, 2048, .inl f_rig)), (h_td, .inr (5, (mo179 v_td (.ref h_nam) (.ref h_var) (.ref h_trm) (.ref h_ter) (.ref h_pls) (.ref h_fst)))), (h_nam, .inl (cy_nam, 300, .inr (.inl f_nam))), (h_var, .inl (cy_var, 300, .inl f_var)), (h_trm, .inl (cy_trm, 300, .inl f_trm)), (h_ter, .inl (cy_ter, 900, .inl f_ter)), (h_pls, .inl (cy_pls, 16, .inl f_pls)), (h_fst, .inl (cy_fst, 96, .inl f_fst)), (h_pv, .inr (3, (mo187 v_pv (.ref h_td) (.ref h_bd) (.ref h_cof) (.int x_pv_options))))] (PL nr ra rf nl la lf ns sa (va_up sf j1 ((sf j1).1, (sf j1).2.1, (sf j1).2.2.1, (sf j1).2.2.2.1, (1 : Int32), (sf j1).2.2.2.2.2.1, (sf j1).2.2.2.2.2.2.1, (sf j1).2.2.2.2.2.2.2.1, (sf j1).2.2.2.2.2.2.2.2.1, (sf j1).2.2.2.2.2.2.2.2.2.1, (sf j1).2.2.2.2.2.2.2.2.2.2.1, (sf j1).2.2.2.2.2.2.2.2.2.2.2)))) := by rw [← pl_setS (i := j1) (by omega)]; exact hD
      refine lv_aload_n hx hb dX4_byLemma_22 rfl (lv_at hl 1 rfl) ?_
      refine va_getN (D := (dC, dI)) (ci := 11) (v := va_rf (sf j1).1) (C := RX7) (T := TX7) (N := 12) (host := "OppositePairs") hx hb hw iwX7 hown hK hP (13 + (nr + (nl + j1))) (pl_S2 (X := [(h_cof, .inl (cy_cof, 30, .inl f_cof)), (h_bd, .inr (1, (mo23 v_bd (.ref h_td) (.ref h_bnd) (.ref h_lef) (.ref h_rig) (.int x_bd_top)))), (h_bnd, .inl (cy_bnd, 256, .inl f_bnd)), (h_lef, .inl (cy_lef, 2048, .inl f_lef)), (h_rig, .inl (cy_rig, 2048, .inl f_rig)), (h_td, .inr (5, (mo179 v_td (.ref h_nam) (.ref h_var) (.ref h_trm) (.ref h_ter) (.ref h_pls) (.ref h_fst)))), (h_nam, .inl (cy_nam, 300, .inr (.inl f_nam))), (h_var, .inl (cy_var, 300, .inl f_var)), (h_trm, .inl (cy_trm, 300, .inl f_trm)), (h_ter, .inl (cy_ter, 900, .inl f_ter)), (h_pls, .inl (cy_pls, 16, .inl f_pls)), (h_fst, .inl (cy_fst, 96, .inl f_fst)), (h_pv, .inr (3, (mo187 v_pv (.ref h_td) (.ref h_bd) (.ref h_cof) (.int x_pv_options))))]) (by omega)) rfl 0 (by decide) (hN.use n_f_X4_185 rfl) (fun _ h9 => h9) rfl dX4_byLemma_23 ?_
      obtain ⟨o15, eo15⟩ : ∃ o, o = (sf j1).1 := ⟨_, rfl⟩
      rw [← eo15]
      have ero15 : o15 = some (ra ro) := by rw [eo15]; exact ero
      subst ero15
      show W p l e _ s m _ below meth c _ _ _ _ _ (F0 m 26 ls [.ref (ra ro)])
      refine lv_astore_n (lv' := [(2, .ref (ra ro)), (0, .ref h_pv), (1, .ref (sa j1))]) hx hb dX4_byLemma_26 rfl hl (by decide) rfl (fun ls hl => ?_)
      refine lv_aload_n hx hb dX4_byLemma_27 rfl (lv_at hl 1 rfl) ?_
      refine lv_aload_n hx hb dX4_byLemma_28 rfl (lv_at hl 0 rfl) ?_
      refine va_getN (D := (dC, dI)) (ci := 9) (v := va_rf (rf ro).2.2.2.2.1) (C := RX6) (T := TX6) (N := 7) (host := "OppositePairs") hx hb hw iwX6 hown hK hP (13 + ro) (pl_R (X := [(h_cof, .inl (cy_cof, 30, .inl f_cof)), (h_bd, .inr (1, (mo23 v_bd (.ref h_td) (.ref h_bnd) (.ref h_lef) (.ref h_rig) (.int x_bd_top)))), (h_bnd, .inl (cy_bnd, 256, .inl f_bnd)), (h_lef, .inl (cy_lef, 2048, .inl f_lef)), (h_rig, .inl (cy_rig, 2048, .inl f_rig)), (h_td, .inr (5, (mo179 v_td (.ref h_nam) (.ref h_var) (.ref h_trm) (.ref h_ter) (.ref h_pls) (.ref h_fst)))), (h_nam, .inl (cy_nam, 300, .inr (.inl f_nam))), (h_var, .inl (cy_var, 300, .inl f_var)), (h_trm, .inl (cy_trm, 300, .inl f_trm)), (h_ter, .inl (cy_ter, 900, .inl f_ter)), (h_pls, .inl (cy_pls, 16, .inl f_pls)), (h_fst, .inl (cy_fst, 96, .inl f_fst)), (h_pv, .inr (3, (mo187 v_pv (.ref h_td) (.ref h_bd) (.ref h_cof) (.int x_pv_options))))]) (by omega)) rfl 4 (by decide) (hN.use n_f_X4_118 rfl) (fun _ h9 => h9) rfl dX4_byLemma_29 ?_
      obtain ⟨o16, eo16⟩ : ∃ o, o = (rf ro).2.2.2.2.1 := ⟨_, rfl⟩
      rw [← eo16]
      have pmo16 : PB la nl o16 := by rw [eo16]; exact (hn_rok ro (by omega)).2.2.2.2.1
      refine lv_aload_n hx hb dX4_byLemma_32 rfl (lv_at hl 0 rfl) ?_
      refine va_getN (D := (dC, dI)) (ci := 9) (v := .int (rf ro).1) (C := RX6) (T := TX6) (N := 7) (host := "OppositePairs") hx hb hw iwX6 hown hK hP (13 + ro) (pl_R (X := [(h_cof, .inl (cy_cof, 30, .inl f_cof)), (h_bd, .inr (1, (mo23 v_bd (.ref h_td) (.ref h_bnd) (.ref h_lef) (.ref h_rig) (.int x_bd_top)))), (h_bnd, .inl (cy_bnd, 256, .inl f_bnd)), (h_lef, .inl (cy_lef, 2048, .inl f_lef)), (h_rig, .inl (cy_rig, 2048, .inl f_rig)), (h_td, .inr (5, (mo179 v_td (.ref h_nam) (.ref h_var) (.ref h_trm) (.ref h_ter) (.ref h_pls) (.ref h_fst)))), (h_nam, .inl (cy_nam, 300, .inr (.inl f_nam))), (h_var, .inl (cy_var, 300, .inl f_var)), (h_trm, .inl (cy_trm, 300, .inl f_trm)), (h_ter, .inl (cy_ter, 900, .inl f_ter)), (h_pls, .inl (cy_pls, 16, .inl f_pls)), (h_fst, .inl (cy_fst, 96, .inl f_fst)), (h_pv, .inr (3, (mo187 v_pv (.ref h_td) (.ref h_bd) (.ref h_cof) (.int x_pv_options))))]) (by omega)) rfl 0 (by decide) (hN.use n_f_X4_140 rfl) (fun _ h9 => h9) rfl dX4_byLemma_33 ?_
      refine lv_topi (fun z17 ez17 => ?_)
      have vz17 : (z17).toInt = ((rf ro).1).toInt := by rw [ez17]
      have rz17 : 0 ≤ (z17).toInt ∧ (z17).toInt ≤ 29 := by rw [ez17]; exact (hn_rok ro (by omega)).1
      refine lv_aload_n hx hb dX4_byLemma_36 rfl (lv_at hl 0 rfl) ?_
      refine va_getN (D := (dC, dI)) (ci := 9) (v := .int (rf ro).2.2.1) (C := RX6) (T := TX6) (N := 7) (host := "OppositePairs") hx hb hw iwX6 hown hK hP (13 + ro) (pl_R (X := [(h_cof, .inl (cy_cof, 30, .inl f_cof)), (h_bd, .inr (1, (mo23 v_bd (.ref h_td) (.ref h_bnd) (.ref h_lef) (.ref h_rig) (.int x_bd_top)))), (h_bnd, .inl (cy_bnd, 256, .inl f_bnd)), (h_lef, .inl (cy_lef, 2048, .inl f_lef)), (h_rig, .inl (cy_rig, 2048, .inl f_rig)), (h_td, .inr (5, (mo179 v_td (.ref h_nam) (.ref h_var) (.ref h_trm) (.ref h_ter) (.ref h_pls) (.ref h_fst)))), (h_nam, .inl (cy_nam, 300, .inr (.inl f_nam))), (h_var, .inl (cy_var, 300, .inl f_var)), (h_trm, .inl (cy_trm, 300, .inl f_trm)), (h_ter, .inl (cy_ter, 900, .inl f_ter)), (h_pls, .inl (cy_pls, 16, .inl f_pls)), (h_fst, .inl (cy_fst, 96, .inl f_fst)), (h_pv, .inr (3, (mo187 v_pv (.ref h_td) (.ref h_bd) (.ref h_cof) (.int x_pv_options))))]) (by omega)) rfl 2 (by decide) (hN.use n_f_X4_137 rfl) (fun _ h9 => h9) rfl dX4_byLemma_37 ?_
      refine lv_topi (fun z18 ez18 => ?_)
      have vz18 : (z18).toInt = ((rf ro).2.2.1).toInt := by rw [ez18]
      have rz18 : 0 ≤ (z18).toInt ∧ (z18).toInt ≤ 7 := by rw [ez18]; exact (hn_rok ro (by omega)).2.2.1
      obtain ⟨sf19, esf19⟩ : ∃ g, g = (va_up sf j1 ((sf j1).1, (sf j1).2.1, (sf j1).2.2.1, (sf j1).2.2.2.1, (1 : Int32), (sf j1).2.2.2.2.2.1, (sf j1).2.2.2.2.2.2.1, (sf j1).2.2.2.2.2.2.2.1, (sf j1).2.2.2.2.2.2.2.2.1, (sf j1).2.2.2.2.2.2.2.2.2.1, (sf j1).2.2.2.2.2.2.2.2.2.2.1, (sf j1).2.2.2.2.2.2.2.2.2.2.2)) := ⟨_, rfl⟩
      have hP : va_P (dC, dI) cls (wp [(h_cof, .inl (cy_cof, 30, .inl f_cof)), (h_bd, .inr (1, (mo23 v_bd (.ref h_td) (.ref h_bnd) (.ref h_lef) (.ref h_rig) (.int x_bd_top)))), (h_bnd, .inl (cy_bnd, 256, .inl f_bnd)), (h_lef, .inl (cy_lef, 2048, .inl f_lef)), (h_rig, .inl (cy_rig, 2048, .inl f_rig)), (h_td, .inr (5, (mo179 v_td (.ref h_nam) (.ref h_var) (.ref h_trm) (.ref h_ter) (.ref h_pls) (.ref h_fst)))), (h_nam, .inl (cy_nam, 300, .inr (.inl f_nam))), (h_var, .inl (cy_var, 300, .inl f_var)), (h_trm, .inl (cy_trm, 300, .inl f_trm)), (h_ter, .inl (cy_ter, 900, .inl f_ter)), (h_pls, .inl (cy_pls, 16, .inl f_pls)), (h_fst, .inl (cy_fst, 96, .inl f_fst)), (h_pv, .inr (3, (mo187 v_pv (.ref h_td) (.ref h_bd) (.ref h_cof) (.int x_pv_options))))] (PL nr ra rf nl la lf ns sa sf19)) H := by rw [esf19]; exact hP
      have hD : va_D A (wp [(h_cof, .inl (cy_cof, 30, .inl f_cof)), (h_bd, .inr (1, (mo23 v_bd (.ref h_td) (.ref h_bnd) (.ref h_lef) (.ref h_rig) (.int x_bd_top)))), (h_bnd, .inl (cy_bnd, 256, .inl f_bnd)), (h_lef, .inl (cy_lef, 2048, .inl f_lef)), (h_rig, .inl (cy_rig, 2048, .inl f_rig)), (h_td, .inr (5, (mo179 v_td (.ref h_nam) (.ref h_var) (.ref h_trm) (.ref h_ter) (.ref h_pls) (.ref h_fst)))), (h_nam, .inl (cy_nam, 300, .inr (.inl f_nam))), (h_var, .inl (cy_var, 300, .inl f_var)), (h_trm, .inl (cy_trm, 300, .inl f_trm)), (h_ter, .inl (cy_ter, 900, .inl f_ter)), (h_pls, .inl (cy_pls, 16, .inl f_pls)), (h_fst, .inl (cy_fst, 96, .inl f_fst)), (h_pv, .inr (3, (mo187 v_pv (.ref h_td) (.ref h_bd) (.ref h_cof) (.int x_pv_options))))] (PL nr ra rf nl la lf ns sa sf19)) := by rw [esf19]; exact hD
      have ssf19 : sf19 j1 = ((sf j1).1, (sf j1).2.1, (sf j1).2.2.1, (sf j1).2.2.2.1, (1 : Int32), (sf j1).2.2.2.2.2.1, (sf j1).2.2.2.2.2.2.1, (sf j1).2.2.2.2.2.2.2.1, (sf j1).2.2.2.2.2.2.2.2.1, (sf j1).2.2.2.2.2.2.2.2.2.1, (sf j1).2.2.2.2.2.2.2.2.2.2.1, (sf j1).2.2.2.2.2.2.2.2.2.2.2) := by rw [esf19]; exact up_self _ _ _
      have osf19 : ∀ j : Nat, j ≠ j1 → sf19 j = sf j := fun j hj => by rw [esf19]; exact up_ne hj
      have ss20b := hn_sok j1 (by omega)
      have : (1 : Int32).toInt = 1 := by decide
      have ss20 : SOK ns sf19 nr ra nl la := sok_set hn_sok osf19 ssf19 ss20b.1 ss20b.2.1 ss20b.2.2.1 (by omega) ss20b.2.2.2.2.1 ss20b.2.2.2.2.2.1 ss20b.2.2.2.2.2.2
      have ss20l := lvs_set (k := j1) hn_lvs osf19 (by rw [ssf19]) (by rw [ssf19]; exact (hn_lvs j1 (by omega)).2.1) (by rw [ssf19]; exact ⟨rfl, rfl, rfl⟩)
      have rt21o : ∀ j : Nat, j ≠ j1 → sf19 j = sf j := fun j hj => (osf19 j hj).trans (oth0 j hj)
      have rt21m : sIM (sf19 j1) = sIM (sf j1) ∧ sRM (sf19 j1) = sRM (sf j1) ∧ sLM (sf19 j1) = sLM (sf j1) := by rw [ssf19]; first | done | exact mks0
      have rt21r : (sf19 j1).1 = (sf j1).1 := by rw [ssf19]; first | done | exact rwq0
      obtain ⟨vq22, evq22⟩ := mq187_178 v_pv (.int x_pv_options)
      replace hP : va_P (dC, dI) cls (wp [(h_cof, .inl (cy_cof, 30, .inl f_cof)), (h_bd, .inr (1, (mo23 v_bd (.ref h_td) (.ref h_bnd) (.ref h_lef) (.ref h_rig) (.int x_bd_top)))), (h_bnd, .inl (cy_bnd, 256, .inl f_bnd)), (h_lef, .inl (cy_lef, 2048, .inl f_lef)), (h_rig, .inl (cy_rig, 2048, .inl f_rig)), (h_td, .inr (5, (mo179 v_td (.ref h_nam) (.ref h_var) (.ref h_trm) (.ref h_ter) (.ref h_pls) (.ref h_fst)))), (h_nam, .inl (cy_nam, 300, .inr (.inl f_nam))), (h_var, .inl (cy_var, 300, .inl f_var)), (h_trm, .inl (cy_trm, 300, .inl f_trm)), (h_ter, .inl (cy_ter, 900, .inl f_ter)), (h_pls, .inl (cy_pls, 16, .inl f_pls)), (h_fst, .inl (cy_fst, 96, .inl f_fst)), (h_pv, .inr (3, (mo178 vq22 (.ref h_td) (.ref h_bd) (.ref h_cof))))] (PL nr ra rf nl la lf ns sa sf19)) H := by rw [evq22]; exact hP
      replace hD : va_D A (wp [(h_cof, .inl (cy_cof, 30, .inl f_cof)), (h_bd, .inr (1, (mo23 v_bd (.ref h_td) (.ref h_bnd) (.ref h_lef) (.ref h_rig) (.int x_bd_top)))), (h_bnd, .inl (cy_bnd, 256, .inl f_bnd)), (h_lef, .inl (cy_lef, 2048, .inl f_lef)), (h_rig, .inl (cy_rig, 2048, .inl f_rig)), (h_td, .inr (5, (mo179 v_td (.ref h_nam) (.ref h_var) (.ref h_trm) (.ref h_ter) (.ref h_pls) (.ref h_fst)))), (h_nam, .inl (cy_nam, 300, .inr (.inl f_nam))), (h_var, .inl (cy_var, 300, .inl f_var)), (h_trm, .inl (cy_trm, 300, .inl f_trm)), (h_ter, .inl (cy_ter, 900, .inl f_ter)), (h_pls, .inl (cy_pls, 16, .inl f_pls)), (h_fst, .inl (cy_fst, 96, .inl f_fst)), (h_pv, .inr (3, (mo178 vq22 (.ref h_td) (.ref h_bd) (.ref h_cof))))] (PL nr ra rf nl la lf ns sa sf19)) := by rw [evq22]; exact hD
      have hPc : va_P (dC, dI) cls (wp [(h_pv, .inr (3, (mo178 vq22 (.ref h_td) (.ref h_bd) (.ref h_cof)))), (h_cof, .inl (cy_cof, 30, .inl f_cof)), (h_bd, .inr (1, (mo23 v_bd (.ref h_td) (.ref h_bnd) (.ref h_lef) (.ref h_rig) (.int x_bd_top)))), (h_bnd, .inl (cy_bnd, 256, .inl f_bnd)), (h_lef, .inl (cy_lef, 2048, .inl f_lef)), (h_rig, .inl (cy_rig, 2048, .inl f_rig)), (h_td, .inr (5, (mo179 v_td (.ref h_nam) (.ref h_var) (.ref h_trm) (.ref h_ter) (.ref h_pls) (.ref h_fst)))), (h_nam, .inl (cy_nam, 300, .inr (.inl f_nam))), (h_var, .inl (cy_var, 300, .inl f_var)), (h_trm, .inl (cy_trm, 300, .inl f_trm)), (h_ter, .inl (cy_ter, 900, .inl f_ter)), (h_pls, .inl (cy_pls, 16, .inl f_pls)), (h_fst, .inl (cy_fst, 96, .inl f_fst))] (PL nr ra rf nl la lf ns sa sf19)) H := va_P.part (cx := [(h_pv, .inr (3, (mo178 vq22 (.ref h_td) (.ref h_bd) (.ref h_cof)))), (h_cof, .inl (cy_cof, 30, .inl f_cof)), (h_bd, .inr (1, (mo23 v_bd (.ref h_td) (.ref h_bnd) (.ref h_lef) (.ref h_rig) (.int x_bd_top)))), (h_bnd, .inl (cy_bnd, 256, .inl f_bnd)), (h_lef, .inl (cy_lef, 2048, .inl f_lef)), (h_rig, .inl (cy_rig, 2048, .inl f_rig)), (h_td, .inr (5, (mo179 v_td (.ref h_nam) (.ref h_var) (.ref h_trm) (.ref h_ter) (.ref h_pls) (.ref h_fst)))), (h_nam, .inl (cy_nam, 300, .inr (.inl f_nam))), (h_var, .inl (cy_var, 300, .inl f_var)), (h_trm, .inl (cy_trm, 300, .inl f_trm)), (h_ter, .inl (cy_ter, 900, .inl f_ter)), (h_pls, .inl (cy_pls, 16, .inl f_pls)), (h_fst, .inl (cy_fst, 96, .inl f_fst))]) hP [12, 0, 1, 2, 3, 4, 5, 6, 7, 8, 9, 10, 11] rfl
      have hDc : va_D A (wp [(h_pv, .inr (3, (mo178 vq22 (.ref h_td) (.ref h_bd) (.ref h_cof)))), (h_cof, .inl (cy_cof, 30, .inl f_cof)), (h_bd, .inr (1, (mo23 v_bd (.ref h_td) (.ref h_bnd) (.ref h_lef) (.ref h_rig) (.int x_bd_top)))), (h_bnd, .inl (cy_bnd, 256, .inl f_bnd)), (h_lef, .inl (cy_lef, 2048, .inl f_lef)), (h_rig, .inl (cy_rig, 2048, .inl f_rig)), (h_td, .inr (5, (mo179 v_td (.ref h_nam) (.ref h_var) (.ref h_trm) (.ref h_ter) (.ref h_pls) (.ref h_fst)))), (h_nam, .inl (cy_nam, 300, .inr (.inl f_nam))), (h_var, .inl (cy_var, 300, .inl f_var)), (h_trm, .inl (cy_trm, 300, .inl f_trm)), (h_ter, .inl (cy_ter, 900, .inl f_ter)), (h_pls, .inl (cy_pls, 16, .inl f_pls)), (h_fst, .inl (cy_fst, 96, .inl f_fst))] (PL nr ra rf nl la lf ns sa sf19)) := va_D.part (cx := [(h_pv, .inr (3, (mo178 vq22 (.ref h_td) (.ref h_bd) (.ref h_cof)))), (h_cof, .inl (cy_cof, 30, .inl f_cof)), (h_bd, .inr (1, (mo23 v_bd (.ref h_td) (.ref h_bnd) (.ref h_lef) (.ref h_rig) (.int x_bd_top)))), (h_bnd, .inl (cy_bnd, 256, .inl f_bnd)), (h_lef, .inl (cy_lef, 2048, .inl f_lef)), (h_rig, .inl (cy_rig, 2048, .inl f_rig)), (h_td, .inr (5, (mo179 v_td (.ref h_nam) (.ref h_var) (.ref h_trm) (.ref h_ter) (.ref h_pls) (.ref h_fst)))), (h_nam, .inl (cy_nam, 300, .inr (.inl f_nam))), (h_var, .inl (cy_var, 300, .inl f_var)), (h_trm, .inl (cy_trm, 300, .inl f_trm)), (h_ter, .inl (cy_ter, 900, .inl f_ter)), (h_pls, .inl (cy_pls, 16, .inl f_pls)), (h_fst, .inl (cy_fst, 96, .inl f_fst))]) hD [12, 0, 1, 2, 3, 4, 5, 6, 7, 8, 9, 10, 11] (by decide) rfl
      have hKc := hK.sub (tys' := [(cy_cof, .int), (cy_bnd, .int), (cy_lef, .int), (cy_rig, .int), (cy_nam, .long), (cy_var, .int), (cy_trm, .int), (cy_ter, .int), (cy_pls, .int), (cy_fst, .int)]) [0, 1, 2, 3, 4, 5, 6, 7, 8, 9] rfl
      have hFc : ∀ q, va_A (wp [(h_pv, .inr (3, (mo178 vq22 (.ref h_td) (.ref h_bd) (.ref h_cof)))), (h_cof, .inl (cy_cof, 30, .inl f_cof)), (h_bd, .inr (1, (mo23 v_bd (.ref h_td) (.ref h_bnd) (.ref h_lef) (.ref h_rig) (.int x_bd_top)))), (h_bnd, .inl (cy_bnd, 256, .inl f_bnd)), (h_lef, .inl (cy_lef, 2048, .inl f_lef)), (h_rig, .inl (cy_rig, 2048, .inl f_rig)), (h_td, .inr (5, (mo179 v_td (.ref h_nam) (.ref h_var) (.ref h_trm) (.ref h_ter) (.ref h_pls) (.ref h_fst)))), (h_nam, .inl (cy_nam, 300, .inr (.inl f_nam))), (h_var, .inl (cy_var, 300, .inl f_var)), (h_trm, .inl (cy_trm, 300, .inl f_trm)), (h_ter, .inl (cy_ter, 900, .inl f_ter)), (h_pls, .inl (cy_pls, 16, .inl f_pls)), (h_fst, .inl (cy_fst, 96, .inl f_fst))] (PL nr ra rf nl la lf ns sa sf19)) H.size q → A q := va_freeP (cx := [(h_pv, .inr (3, (mo178 vq22 (.ref h_td) (.ref h_bd) (.ref h_cof)))), (h_cof, .inl (cy_cof, 30, .inl f_cof)), (h_bd, .inr (1, (mo23 v_bd (.ref h_td) (.ref h_bnd) (.ref h_lef) (.ref h_rig) (.int x_bd_top)))), (h_bnd, .inl (cy_bnd, 256, .inl f_bnd)), (h_lef, .inl (cy_lef, 2048, .inl f_lef)), (h_rig, .inl (cy_rig, 2048, .inl f_rig)), (h_td, .inr (5, (mo179 v_td (.ref h_nam) (.ref h_var) (.ref h_trm) (.ref h_ter) (.ref h_pls) (.ref h_fst)))), (h_nam, .inl (cy_nam, 300, .inr (.inl f_nam))), (h_var, .inl (cy_var, 300, .inl f_var)), (h_trm, .inl (cy_trm, 300, .inl f_trm)), (h_ter, .inl (cy_ter, 900, .inl f_ter)), (h_pls, .inl (cy_pls, 16, .inl f_pls)), (h_fst, .inl (cy_fst, 96, .inl f_fst))]) hD hS hA [12, 0, 1, 2, 3, 4, 5, 6, 7, 8, 9, 10, 11] rfl
      refine va_callq (va_runV (As := [va_rf o16, .int z17, .int z18]) (rest := []) ⟨hx, hb, hml, hown, hts⟩ (c_X4_latestAlike l dC dI H.size h_pv h_cof h_bd h_bnd h_lef h_rig h_td h_nam h_var h_trm h_ter h_pls h_fst nr ra rf nl la lf ns sa sf19 vq22 cy_cof f_cof v_bd x_bd_top cy_bnd f_bnd cy_lef f_lef cy_rig f_rig v_td cy_nam f_nam cy_var f_var cy_trm f_trm cy_ter f_ter cy_pls f_pls cy_fst f_fst o16 z17 z18 (nl : Int) hf_cof (by first | exact hx_bd_top | omega) hf_bnd hf_lef hf_rig hf_var hf_trm hf_ter hf_fst (by omega) (by omega) (by omega) hn_lok pmo16) (cwV 3 hts (gv hT w_m_X4_166 w_instanceMethod_X4_latestAlike ws_sel_X4_latestAlike w_ini_X4 w_code_X4_latestAlike) rfl rfl rfl (by decide +kernel) ⟨(Nat.le_of_ble_eq_true rfl), (Nat.le_of_ble_eq_true rfl)⟩) ⟨pre_blind, va_recv hK hP (ci := 3) (q0 := 12) rfl rfl, pre_of hPc hKc hDc hN⟩ rfl rfl hl.1 rfl (lv_room (Nat.le_of_ble_eq_true rfl)) dX4_byLemma_40 ⟨(Nat.le_of_ble_eq_true rfl), (Nat.le_of_ble_eq_true rfl)⟩) hS (fun q _ h => hFc q h) hFc (fun o23 u t H locs ht hvm hq hB hz1 hk1 hS9 => ?_)
      obtain ⟨z24, f25, f26⟩ := u
      obtain ⟨hP1, hD1⟩ := hB
      rw [ht] at hP1
      obtain ⟨hP9, hD9⟩ := va_joinP (wr := []) (rx := [(h_pv, .inr (3, (mo178 vq22 (.ref h_td) (.ref h_bd) (.ref h_cof)))), (h_cof, .inl (cy_cof, 30, .inl f_cof)), (h_bd, .inr (1, (mo23 v_bd (.ref h_td) (.ref h_bnd) (.ref h_lef) (.ref h_rig) (.int z24)))), (h_bnd, .inl (cy_bnd, 256, .inl f_bnd)), (h_lef, .inl (cy_lef, 2048, .inl f25)), (h_rig, .inl (cy_rig, 2048, .inl f26)), (h_td, .inr (5, (mo179 v_td (.ref h_nam) (.ref h_var) (.ref h_trm) (.ref h_ter) (.ref h_pls) (.ref h_fst)))), (h_nam, .inl (cy_nam, 300, .inr (.inl f_nam))), (h_var, .inl (cy_var, 300, .inl f_var)), (h_trm, .inl (cy_trm, 300, .inl f_trm)), (h_ter, .inl (cy_ter, 900, .inl f_ter)), (h_pls, .inl (cy_pls, 16, .inl f_pls)), (h_fst, .inl (cy_fst, 96, .inl f_fst))]) (cx := [(h_pv, .inr (3, (mo178 vq22 (.ref h_td) (.ref h_bd) (.ref h_cof)))), (h_cof, .inl (cy_cof, 30, .inl f_cof)), (h_bd, .inr (1, (mo23 v_bd (.ref h_td) (.ref h_bnd) (.ref h_lef) (.ref h_rig) (.int x_bd_top)))), (h_bnd, .inl (cy_bnd, 256, .inl f_bnd)), (h_lef, .inl (cy_lef, 2048, .inl f_lef)), (h_rig, .inl (cy_rig, 2048, .inl f_rig)), (h_td, .inr (5, (mo179 v_td (.ref h_nam) (.ref h_var) (.ref h_trm) (.ref h_ter) (.ref h_pls) (.ref h_fst)))), (h_nam, .inl (cy_nam, 300, .inr (.inl f_nam))), (h_var, .inl (cy_var, 300, .inl f_var)), (h_trm, .inl (cy_trm, 300, .inl f_trm)), (h_ter, .inl (cy_ter, 900, .inl f_ter)), (h_pls, .inl (cy_pls, 16, .inl f_pls)), (h_fst, .inl (cy_fst, 96, .inl f_fst))]) hP hD [12, 0, 1, 2, 3, 4, 5, 6, 7, 8, 9, 10, 11] [] rfl rfl (by decide) (by decide) hk1 hFc hP1 hD1
      clear hP hD hS hPc hDc hKc hFc hP1 hD1 hk1 hz1 ht hvm
      have hP : va_P (dC, dI) cls (wp [(h_pv, .inr (3, (mo178 vq22 (.ref h_td) (.ref h_bd) (.ref h_cof)))), (h_cof, .inl (cy_cof, 30, .inl f_cof)), (h_bd, .inr (1, (mo23 v_bd (.ref h_td) (.ref h_bnd) (.ref h_lef) (.ref h_rig) (.int z24)))), (h_bnd, .inl (cy_bnd, 256, .inl f_bnd)), (h_lef, .inl (cy_lef, 2048, .inl f25)), (h_rig, .inl (cy_rig, 2048, .inl f26)), (h_td, .inr (5, (mo179 v_td (.ref h_nam) (.ref h_var) (.ref h_trm) (.ref h_ter) (.ref h_pls) (.ref h_fst)))), (h_nam, .inl (cy_nam, 300, .inr (.inl f_nam))), (h_var, .inl (cy_var, 300, .inl f_var)), (h_trm, .inl (cy_trm, 300, .inl f_trm)), (h_ter, .inl (cy_ter, 900, .inl f_ter)), (h_pls, .inl (cy_pls, 16, .inl f_pls)), (h_fst, .inl (cy_fst, 96, .inl f_fst))] (PL nr ra rf nl la lf ns sa sf19)) H := hP9
      have hD : va_D A (wp [(h_pv, .inr (3, (mo178 vq22 (.ref h_td) (.ref h_bd) (.ref h_cof)))), (h_cof, .inl (cy_cof, 30, .inl f_cof)), (h_bd, .inr (1, (mo23 v_bd (.ref h_td) (.ref h_bnd) (.ref h_lef) (.ref h_rig) (.int z24)))), (h_bnd, .inl (cy_bnd, 256, .inl f_bnd)), (h_lef, .inl (cy_lef, 2048, .inl f25)), (h_rig, .inl (cy_rig, 2048, .inl f26)), (h_td, .inr (5, (mo179 v_td (.ref h_nam) (.ref h_var) (.ref h_trm) (.ref h_ter) (.ref h_pls) (.ref h_fst)))), (h_nam, .inl (cy_nam, 300, .inr (.inl f_nam))), (h_var, .inl (cy_var, 300, .inl f_var)), (h_trm, .inl (cy_trm, 300, .inl f_trm)), (h_ter, .inl (cy_ter, 900, .inl f_ter)), (h_pls, .inl (cy_pls, 16, .inl f_pls)), (h_fst, .inl (cy_fst, 96, .inl f_fst))] (PL nr ra rf nl la lf ns sa sf19)) := hD9
      have hS := hS9
      clear hP9 hD9 hS9
      rw [evq22] at hP hD
      replace hP : va_P (dC, dI) cls (wp [(h_pv, .inr (3, (mo187 v_pv (.ref h_td) (.ref h_bd) (.ref h_cof) (.int x_pv_options)))), (h_cof, .inl (cy_cof, 30, .inl f_cof)), (h_bd, .inr (1, (mo23 v_bd (.ref h_td) (.ref h_bnd) (.ref h_lef) (.ref h_rig) (.int z24)))), (h_bnd, .inl (cy_bnd, 256, .inl f_bnd)), (h_lef, .inl (cy_lef, 2048, .inl f25)), (h_rig, .inl (cy_rig, 2048, .inl f26)), (h_td, .inr (5, (mo179 v_td (.ref h_nam) (.ref h_var) (.ref h_trm) (.ref h_ter) (.ref h_pls) (.ref h_fst)))), (h_nam, .inl (cy_nam, 300, .inr (.inl f_nam))), (h_var, .inl (cy_var, 300, .inl f_var)), (h_trm, .inl (cy_trm, 300, .inl f_trm)), (h_ter, .inl (cy_ter, 900, .inl f_ter)), (h_pls, .inl (cy_pls, 16, .inl f_pls)), (h_fst, .inl (cy_fst, 96, .inl f_fst))] (PL nr ra rf nl la lf ns sa sf19)) H := hP
      replace hD : va_D A (wp [(h_pv, .inr (3, (mo187 v_pv (.ref h_td) (.ref h_bd) (.ref h_cof) (.int x_pv_options)))), (h_cof, .inl (cy_cof, 30, .inl f_cof)), (h_bd, .inr (1, (mo23 v_bd (.ref h_td) (.ref h_bnd) (.ref h_lef) (.ref h_rig) (.int z24)))), (h_bnd, .inl (cy_bnd, 256, .inl f_bnd)), (h_lef, .inl (cy_lef, 2048, .inl f25)), (h_rig, .inl (cy_rig, 2048, .inl f26)), (h_td, .inr (5, (mo179 v_td (.ref h_nam) (.ref h_var) (.ref h_trm) (.ref h_ter) (.ref h_pls) (.ref h_fst)))), (h_nam, .inl (cy_nam, 300, .inr (.inl f_nam))), (h_var, .inl (cy_var, 300, .inl f_var)), (h_trm, .inl (cy_trm, 300, .inl f_trm)), (h_ter, .inl (cy_ter, 900, .inl f_ter)), (h_pls, .inl (cy_pls, 16, .inl f_pls)), (h_fst, .inl (cy_fst, 96, .inl f_fst))] (PL nr ra rf nl la lf ns sa sf19)) := hD
      clear evq22 
      obtain ⟨k27, hf25, hf26, k28⟩ := hq
      replace k27 : 0 ≤ ((z24)).toInt ∧ ((z24)).toInt ≤ 2048 := k27
      replace hf25 : Rg (-9600) 9599 (f25) := hf25
      replace hf26 : Rg 0 9599 (f26) := hf26
      replace k28 : PB (la) ((nl : Int)) (o23) := k28
      refine lv_astore_nQ (lv' := [(3, va_rf o23), (2, .ref (ra ro)), (0, .ref h_pv), (1, .ref (sa j1))]) hx hb dX4_byLemma_43 rfl hl (by decide) rfl (fun ls hl => ?_)
      refine lv_aload_nQ hx hb dX4_byLemma_44 rfl (lv_at hl 0 rfl) ?_
      rcases o23 with _ | b29
      · have hl : lv_has ls 4 [(3, .null), (2, .ref (ra ro)), (0, .ref h_pv), (1, .ref (sa j1))] := hl
        show W p l e _ s m _ below meth c _ _ _ _ _ (F0 m 45 ls [.null])
        refine lv_ifnullN (tgt := 69) hx hb dX4_byLemma_45 (by decide) ?_
        refine lv_iconst (v := 0) hx hb dX4_byLemma_69 (by decide) ?_
        refine W.widen (k := 0) (n := 0) (Nat.le_of_ble_eq_true rfl) (Nat.le_of_ble_eq_true rfl) ?_
        have cst0 : (0 : Int32).toInt = 0 := by decide
        have w30 : 0 ≤ ((z24)).toInt ∧ ((z24)).toInt ≤ 2048 := by first | exact k27 | omega
        have w31 : 0 ≤ (0 : Int32).toInt ∧ (0 : Int32).toInt ≤ 1 := by decide
        have w32 : SOK ns (sf19) nr ra nl la := ss20
        have w33 : LVS vR vL vS vI ra rf la (sf19) := (lvs_cast ss20l (by first | rfl | omega) (by first | rfl | omega) (by first | rfl | omega) (by first | rfl | omega))
        have w34 : ∀ j : Nat, j ≠ j1 → (sf19) j = sf j := rt21o
        have w35 : sIM ((sf19) j1) = sIM (sf j1) ∧ sRM ((sf19) j1) = sRM (sf j1) ∧ sLM ((sf19) j1) = sLM (sf j1) := rt21m
        have w36 : OrP (((0 : Int32)).toInt = 0) (¬ ((sf19) j1).2.1.toInt = 3) := (Or.inl (by decide))
        exact W.zret (v := 0) (ty := .boolean) hx hb hr (by decide) (fun t ht hW => ⟨⟨0, (z24, f25, f26, sf19), rfl, ⟨w30, hf25, hf26, w31, w32, w33, w34, w35, w36⟩, by rw [ht]; exact hP, hD⟩, hS.F ht⟩) hS.2.2 dX4_byLemma_70
      · have hl : lv_has ls 4 [(3, .ref b29), (2, .ref (ra ro)), (0, .ref h_pv), (1, .ref (sa j1))] := hl
        show W p l e _ s m _ below meth c _ _ _ _ _ (F0 m 45 ls [.ref b29])
        obtain ⟨qq37, hqq37, eqq37⟩ := Or.resolve_left k28 (by simp)
        obtain rfl : b29 = la qq37 := Option.some.inj eqq37
        refine lv_ifnull hx hb dX4_byLemma_45 ?_
        refine lv_aload_n hx hb dX4_byLemma_48 rfl (lv_at hl 2 rfl) ?_
        refine lv_aload_n hx hb dX4_byLemma_49 rfl (lv_at hl 3 rfl) ?_
        refine lv_iconst (v := 1) hx hb dX4_byLemma_50 (by decide) ?_
        refine lv_aload_n hx hb dX4_byLemma_51 rfl (lv_at hl 0 rfl) ?_
        refine va_getN (D := (dC, dI)) (ci := 10) (v := .int (lf qq37).1) (C := RX2) (T := TX2) (N := 4) (host := "OppositePairs") hx hb hw iwX2 hown hK hP (13 + (nr + qq37)) (pl_L (X := [(h_pv, .inr (3, (mo187 v_pv (.ref h_td) (.ref h_bd) (.ref h_cof) (.int x_pv_options)))), (h_cof, .inl (cy_cof, 30, .inl f_cof)), (h_bd, .inr (1, (mo23 v_bd (.ref h_td) (.ref h_bnd) (.ref h_lef) (.ref h_rig) (.int z24)))), (h_bnd, .inl (cy_bnd, 256, .inl f_bnd)), (h_lef, .inl (cy_lef, 2048, .inl f25)), (h_rig, .inl (cy_rig, 2048, .inl f26)), (h_td, .inr (5, (mo179 v_td (.ref h_nam) (.ref h_var) (.ref h_trm) (.ref h_ter) (.ref h_pls) (.ref h_fst)))), (h_nam, .inl (cy_nam, 300, .inr (.inl f_nam))), (h_var, .inl (cy_var, 300, .inl f_var)), (h_trm, .inl (cy_trm, 300, .inl f_trm)), (h_ter, .inl (cy_ter, 900, .inl f_ter)), (h_pls, .inl (cy_pls, 16, .inl f_pls)), (h_fst, .inl (cy_fst, 96, .inl f_fst))]) (by omega)) rfl 0 (by decide) (hN.use n_f_X4_174 rfl) (fun _ h9 => h9) rfl dX4_byLemma_52 ?_
        refine lv_topi (fun z38 ez38 => ?_)
        have vz38 : (z38).toInt = ((lf qq37).1).toInt := by rw [ez38]
        have rz38 : 0 ≤ (z38).toInt ∧ (z38).toInt ≤ 29 := by rw [ez38]; exact (hn_lok qq37 (by omega)).1
        refine lv_aload_n hx hb dX4_byLemma_55 rfl (lv_at hl 0 rfl) ?_
        refine va_getN (D := (dC, dI)) (ci := 10) (v := .int (lf qq37).2.1) (C := RX2) (T := TX2) (N := 4) (host := "OppositePairs") hx hb hw iwX2 hown hK hP (13 + (nr + qq37)) (pl_L (X := [(h_pv, .inr (3, (mo187 v_pv (.ref h_td) (.ref h_bd) (.ref h_cof) (.int x_pv_options)))), (h_cof, .inl (cy_cof, 30, .inl f_cof)), (h_bd, .inr (1, (mo23 v_bd (.ref h_td) (.ref h_bnd) (.ref h_lef) (.ref h_rig) (.int z24)))), (h_bnd, .inl (cy_bnd, 256, .inl f_bnd)), (h_lef, .inl (cy_lef, 2048, .inl f25)), (h_rig, .inl (cy_rig, 2048, .inl f26)), (h_td, .inr (5, (mo179 v_td (.ref h_nam) (.ref h_var) (.ref h_trm) (.ref h_ter) (.ref h_pls) (.ref h_fst)))), (h_nam, .inl (cy_nam, 300, .inr (.inl f_nam))), (h_var, .inl (cy_var, 300, .inl f_var)), (h_trm, .inl (cy_trm, 300, .inl f_trm)), (h_ter, .inl (cy_ter, 900, .inl f_ter)), (h_pls, .inl (cy_pls, 16, .inl f_pls)), (h_fst, .inl (cy_fst, 96, .inl f_fst))]) (by omega)) rfl 1 (by decide) (hN.use n_f_X4_175 rfl) (fun _ h9 => h9) rfl dX4_byLemma_56 ?_
        refine lv_topi (fun z39 ez39 => ?_)
        have vz39 : (z39).toInt = ((lf qq37).2.1).toInt := by rw [ez39]
        have rz39 : 0 ≤ (z39).toInt ∧ (z39).toInt ≤ 5 := by rw [ez39]; exact (hn_lok qq37 (by omega)).2.1
        obtain ⟨vq40, evq40⟩ := mq187_42 v_pv (.ref h_td) (.ref h_bd) (.ref h_cof)
        replace hP : va_P (dC, dI) cls (wp [(h_pv, .inr (3, (mo42 vq40 (.int x_pv_options)))), (h_cof, .inl (cy_cof, 30, .inl f_cof)), (h_bd, .inr (1, (mo23 v_bd (.ref h_td) (.ref h_bnd) (.ref h_lef) (.ref h_rig) (.int z24)))), (h_bnd, .inl (cy_bnd, 256, .inl f_bnd)), (h_lef, .inl (cy_lef, 2048, .inl f25)), (h_rig, .inl (cy_rig, 2048, .inl f26)), (h_td, .inr (5, (mo179 v_td (.ref h_nam) (.ref h_var) (.ref h_trm) (.ref h_ter) (.ref h_pls) (.ref h_fst)))), (h_nam, .inl (cy_nam, 300, .inr (.inl f_nam))), (h_var, .inl (cy_var, 300, .inl f_var)), (h_trm, .inl (cy_trm, 300, .inl f_trm)), (h_ter, .inl (cy_ter, 900, .inl f_ter)), (h_pls, .inl (cy_pls, 16, .inl f_pls)), (h_fst, .inl (cy_fst, 96, .inl f_fst))] (PL nr ra rf nl la lf ns sa sf19)) H := by rw [evq40]; exact hP
        replace hD : va_D A (wp [(h_pv, .inr (3, (mo42 vq40 (.int x_pv_options)))), (h_cof, .inl (cy_cof, 30, .inl f_cof)), (h_bd, .inr (1, (mo23 v_bd (.ref h_td) (.ref h_bnd) (.ref h_lef) (.ref h_rig) (.int z24)))), (h_bnd, .inl (cy_bnd, 256, .inl f_bnd)), (h_lef, .inl (cy_lef, 2048, .inl f25)), (h_rig, .inl (cy_rig, 2048, .inl f26)), (h_td, .inr (5, (mo179 v_td (.ref h_nam) (.ref h_var) (.ref h_trm) (.ref h_ter) (.ref h_pls) (.ref h_fst)))), (h_nam, .inl (cy_nam, 300, .inr (.inl f_nam))), (h_var, .inl (cy_var, 300, .inl f_var)), (h_trm, .inl (cy_trm, 300, .inl f_trm)), (h_ter, .inl (cy_ter, 900, .inl f_ter)), (h_pls, .inl (cy_pls, 16, .inl f_pls)), (h_fst, .inl (cy_fst, 96, .inl f_fst))] (PL nr ra rf nl la lf ns sa sf19)) := by rw [evq40]; exact hD
        have cst1 : (1 : Int32).toInt = 1 := by decide
        have hPc : va_P (dC, dI) cls (wp [(h_pv, .inr (3, (mo42 vq40 (.int x_pv_options))))] (PL nr ra rf nl la lf ns sa sf19)) H := va_P.part (cx := [(h_pv, .inr (3, (mo42 vq40 (.int x_pv_options))))]) hP [0] rfl
        have hDc : va_D A (wp [(h_pv, .inr (3, (mo42 vq40 (.int x_pv_options))))] (PL nr ra rf nl la lf ns sa sf19)) := va_D.part (cx := [(h_pv, .inr (3, (mo42 vq40 (.int x_pv_options))))]) hD [0] (by decide) rfl
        have hKc := hK.sub (tys' := []) [] rfl
        have hFc : ∀ q, va_A (wp [(h_pv, .inr (3, (mo42 vq40 (.int x_pv_options))))] (PL nr ra rf nl la lf ns sa sf19)) H.size q → A q := va_freeP (cx := [(h_pv, .inr (3, (mo42 vq40 (.int x_pv_options))))]) hD hS hA [0] rfl
        refine va_calli (va_runV (As := [.ref (sa j1), .int 1, .int z38, .int z39]) (rest := []) ⟨hx, hb, hml, hown, hts⟩ (c_X4_closeBy l dC dI H.size h_pv nr ra rf nl la lf ns sa sf19 vq40 x_pv_options 1 z38 z39 j1 vR vL vS vI (by first | exact q1 | omega) (by first | exact q0 | omega) (by omega) (by omega) ss20 (lvs_cast ss20l (by first | rfl | omega) (by first | rfl | omega) (by first | rfl | omega) (by first | rfl | omega))) (cwV 4 hts (gv hT w_m_X4_226 w_instanceMethod_X4_closeBy ws_sel_X4_closeBy w_ini_X4 w_code_X4_closeBy) rfl rfl rfl (by decide +kernel) ⟨(Nat.le_of_ble_eq_true rfl), (Nat.le_of_ble_eq_true rfl)⟩) ⟨pre_blind, va_recv hK hP (ci := 3) (q0 := 0) rfl rfl, pre_of hPc hKc hDc hN⟩ rfl rfl hl.1 rfl (lv_room (Nat.le_of_ble_eq_true rfl)) dX4_byLemma_59 ⟨(Nat.le_of_ble_eq_true rfl), (Nat.le_of_ble_eq_true rfl)⟩) hS (fun q _ h => hFc q h) hFc (fun r41 u t H locs ht hvm hq hB hz1 hk1 hS9 => ?_)
        obtain ⟨sf42, rfl⟩ : ∃ z, z = u := ⟨_, rfl⟩
        obtain ⟨hP1, hD1⟩ := hB
        rw [ht] at hP1
        obtain ⟨hP9, hD9⟩ := va_joinP (wr := [(h_cof, .inl (cy_cof, 30, .inl f_cof)), (h_bd, .inr (1, (mo23 v_bd (.ref h_td) (.ref h_bnd) (.ref h_lef) (.ref h_rig) (.int z24)))), (h_bnd, .inl (cy_bnd, 256, .inl f_bnd)), (h_lef, .inl (cy_lef, 2048, .inl f25)), (h_rig, .inl (cy_rig, 2048, .inl f26)), (h_td, .inr (5, (mo179 v_td (.ref h_nam) (.ref h_var) (.ref h_trm) (.ref h_ter) (.ref h_pls) (.ref h_fst)))), (h_nam, .inl (cy_nam, 300, .inr (.inl f_nam))), (h_var, .inl (cy_var, 300, .inl f_var)), (h_trm, .inl (cy_trm, 300, .inl f_trm)), (h_ter, .inl (cy_ter, 900, .inl f_ter)), (h_pls, .inl (cy_pls, 16, .inl f_pls)), (h_fst, .inl (cy_fst, 96, .inl f_fst))]) (rx := [(h_pv, .inr (3, (mo42 vq40 (.int x_pv_options))))]) (cx := [(h_pv, .inr (3, (mo42 vq40 (.int x_pv_options))))]) hP hD [0] [1, 2, 3, 4, 5, 6, 7, 8, 9, 10, 11, 12] rfl rfl (by decide) (by decide) hk1 hFc hP1 hD1
        clear hP hD hS hPc hDc hKc hFc hP1 hD1 hk1 hz1 ht hvm
        have hP : va_P (dC, dI) cls (wp [(h_cof, .inl (cy_cof, 30, .inl f_cof)), (h_bd, .inr (1, (mo23 v_bd (.ref h_td) (.ref h_bnd) (.ref h_lef) (.ref h_rig) (.int z24)))), (h_bnd, .inl (cy_bnd, 256, .inl f_bnd)), (h_lef, .inl (cy_lef, 2048, .inl f25)), (h_rig, .inl (cy_rig, 2048, .inl f26)), (h_td, .inr (5, (mo179 v_td (.ref h_nam) (.ref h_var) (.ref h_trm) (.ref h_ter) (.ref h_pls) (.ref h_fst)))), (h_nam, .inl (cy_nam, 300, .inr (.inl f_nam))), (h_var, .inl (cy_var, 300, .inl f_var)), (h_trm, .inl (cy_trm, 300, .inl f_trm)), (h_ter, .inl (cy_ter, 900, .inl f_ter)), (h_pls, .inl (cy_pls, 16, .inl f_pls)), (h_fst, .inl (cy_fst, 96, .inl f_fst)), (h_pv, .inr (3, (mo42 vq40 (.int x_pv_options))))] (PL nr ra rf nl la lf ns sa sf42)) H := hP9
        have hD : va_D A (wp [(h_cof, .inl (cy_cof, 30, .inl f_cof)), (h_bd, .inr (1, (mo23 v_bd (.ref h_td) (.ref h_bnd) (.ref h_lef) (.ref h_rig) (.int z24)))), (h_bnd, .inl (cy_bnd, 256, .inl f_bnd)), (h_lef, .inl (cy_lef, 2048, .inl f25)), (h_rig, .inl (cy_rig, 2048, .inl f26)), (h_td, .inr (5, (mo179 v_td (.ref h_nam) (.ref h_var) (.ref h_trm) (.ref h_ter) (.ref h_pls) (.ref h_fst)))), (h_nam, .inl (cy_nam, 300, .inr (.inl f_nam))), (h_var, .inl (cy_var, 300, .inl f_var)), (h_trm, .inl (cy_trm, 300, .inl f_trm)), (h_ter, .inl (cy_ter, 900, .inl f_ter)), (h_pls, .inl (cy_pls, 16, .inl f_pls)), (h_fst, .inl (cy_fst, 96, .inl f_fst)), (h_pv, .inr (3, (mo42 vq40 (.int x_pv_options))))] (PL nr ra rf nl la lf ns sa sf42)) := hD9
        have hS := hS9
        clear hP9 hD9 hS9
        rw [evq40] at hP hD
        replace hP : va_P (dC, dI) cls (wp [(h_cof, .inl (cy_cof, 30, .inl f_cof)), (h_bd, .inr (1, (mo23 v_bd (.ref h_td) (.ref h_bnd) (.ref h_lef) (.ref h_rig) (.int z24)))), (h_bnd, .inl (cy_bnd, 256, .inl f_bnd)), (h_lef, .inl (cy_lef, 2048, .inl f25)), (h_rig, .inl (cy_rig, 2048, .inl f26)), (h_td, .inr (5, (mo179 v_td (.ref h_nam) (.ref h_var) (.ref h_trm) (.ref h_ter) (.ref h_pls) (.ref h_fst)))), (h_nam, .inl (cy_nam, 300, .inr (.inl f_nam))), (h_var, .inl (cy_var, 300, .inl f_var)), (h_trm, .inl (cy_trm, 300, .inl f_trm)), (h_ter, .inl (cy_ter, 900, .inl f_ter)), (h_pls, .inl (cy_pls, 16, .inl f_pls)), (h_fst, .inl (cy_fst, 96, .inl f_fst)), (h_pv, .inr (3, (mo187 v_pv (.ref h_td) (.ref h_bd) (.ref h_cof) (.int x_pv_options))))] (PL nr ra rf nl la lf ns sa sf42)) H := hP
        replace hD : va_D A (wp [(h_cof, .inl (cy_cof, 30, .inl f_cof)), (h_bd, .inr (1, (mo23 v_bd (.ref h_td) (.ref h_bnd) (.ref h_lef) (.ref h_rig) (.int z24)))), (h_bnd, .inl (cy_bnd, 256, .inl f_bnd)), (h_lef, .inl (cy_lef, 2048, .inl f25)), (h_rig, .inl (cy_rig, 2048, .inl f26)), (h_td, .inr (5, (mo179 v_td (.ref h_nam) (.ref h_var) (.ref h_trm) (.ref h_ter) (.ref h_pls) (.ref h_fst)))), (h_nam, .inl (cy_nam, 300, .inr (.inl f_nam))), (h_var, .inl (cy_var, 300, .inl f_var)), (h_trm, .inl (cy_trm, 300, .inl f_trm)), (h_ter, .inl (cy_ter, 900, .inl f_ter)), (h_pls, .inl (cy_pls, 16, .inl f_pls)), (h_fst, .inl (cy_fst, 96, .inl f_fst)), (h_pv, .inr (3, (mo187 v_pv (.ref h_td) (.ref h_bd) (.ref h_cof) (.int x_pv_options))))] (PL nr ra rf nl la lf ns sa sf42)) := hD
        clear evq40 
        obtain ⟨k43, k44, k45, k46⟩ := hq
        replace k43 : 1 ≤ (r41).toInt ∧ (r41).toInt ≤ 1 := k43
        replace k44 : SOK (ns) (sf42) (nr) (ra) (nl) (la) := k44
        replace k45 : LVS (vR) (vL) (vS) (vI) (ra) (rf) (la) (sf42) := k45
        replace k46 : (∀ j : Nat, j ≠ (j1) → (sf42) j = (sf19) j) ∧ ((sf42) (j1)).2.1 = (1 : Int32) ∧ sIM ((sf42) (j1)) = sIM ((sf19) (j1)) ∧ sRM ((sf42) (j1)) = sRM ((sf19) (j1)) ∧ sLM ((sf42) (j1)) = sLM ((sf19) (j1)) := k46
        have cl47o : ∀ j : Nat, j ≠ j1 → sf42 j = sf j := fun j hj => (k46.1 j hj).trans (rt21o j hj)
        have cl47m : sIM (sf42 j1) = sIM (sf j1) ∧ sRM (sf42 j1) = sRM (sf j1) ∧ sLM (sf42 j1) = sLM (sf j1) := ⟨k46.2.2.1.trans rt21m.1, k46.2.2.2.1.trans rt21m.2.1, k46.2.2.2.2.trans rt21m.2.2⟩
        have cl47k := k46.2.1
        refine lv_if_eq (tgt := 69) hx hb dX4_byLemma_62 (by decide) (fun c48 => False.elim (by have kc48 := (cv_eq (rfl : (r41).toInt = (r41).toInt) (by decide : (0 : Int32).toInt = 0)).mp c48; omega)) (fun _ => ?_)
        refine lv_iconst (v := 1) hx hb dX4_byLemma_65 (by decide) ?_
        refine lv_goto (tgt := 70) hx hb dX4_byLemma_66 (by decide) ?_
        replace hP : va_P (dC, dI) cls (wp [(h_pv, .inr (3, (mo187 v_pv (.ref h_td) (.ref h_bd) (.ref h_cof) (.int x_pv_options)))), (h_cof, .inl (cy_cof, 30, .inl f_cof)), (h_bd, .inr (1, (mo23 v_bd (.ref h_td) (.ref h_bnd) (.ref h_lef) (.ref h_rig) (.int z24)))), (h_bnd, .inl (cy_bnd, 256, .inl f_bnd)), (h_lef, .inl (cy_lef, 2048, .inl f25)), (h_rig, .inl (cy_rig, 2048, .inl f26)), (h_td, .inr (5, (mo179 v_td (.ref h_nam) (.ref h_var) (.ref h_trm) (.ref h_ter) (.ref h_pls) (.ref h_fst)))), (h_nam, .inl (cy_nam, 300, .inr (.inl f_nam))), (h_var, .inl (cy_var, 300, .inl f_var)), (h_trm, .inl (cy_trm, 300, .inl f_trm)), (h_ter, .inl (cy_ter, 900, .inl f_ter)), (h_pls, .inl (cy_pls, 16, .inl f_pls)), (h_fst, .inl (cy_fst, 96, .inl f_fst))] (PL nr ra rf nl la lf ns sa sf42)) H := va_P.part (cx := [(h_pv, .inr (3, (mo187 v_pv (.ref h_td) (.ref h_bd) (.ref h_cof) (.int x_pv_options)))), (h_cof, .inl (cy_cof, 30, .inl f_cof)), (h_bd, .inr (1, (mo23 v_bd (.ref h_td) (.ref h_bnd) (.ref h_lef) (.ref h_rig) (.int z24)))), (h_bnd, .inl (cy_bnd, 256, .inl f_bnd)), (h_lef, .inl (cy_lef, 2048, .inl f25)), (h_rig, .inl (cy_rig, 2048, .inl f26)), (h_td, .inr (5, (mo179 v_td (.ref h_nam) (.ref h_var) (.ref h_trm) (.ref h_ter) (.ref h_pls) (.ref h_fst)))), (h_nam, .inl (cy_nam, 300, .inr (.inl f_nam))), (h_var, .inl (cy_var, 300, .inl f_var)), (h_trm, .inl (cy_trm, 300, .inl f_trm)), (h_ter, .inl (cy_ter, 900, .inl f_ter)), (h_pls, .inl (cy_pls, 16, .inl f_pls)), (h_fst, .inl (cy_fst, 96, .inl f_fst))]) hP [12, 0, 1, 2, 3, 4, 5, 6, 7, 8, 9, 10, 11] rfl
        replace hD : va_D A (wp [(h_pv, .inr (3, (mo187 v_pv (.ref h_td) (.ref h_bd) (.ref h_cof) (.int x_pv_options)))), (h_cof, .inl (cy_cof, 30, .inl f_cof)), (h_bd, .inr (1, (mo23 v_bd (.ref h_td) (.ref h_bnd) (.ref h_lef) (.ref h_rig) (.int z24)))), (h_bnd, .inl (cy_bnd, 256, .inl f_bnd)), (h_lef, .inl (cy_lef, 2048, .inl f25)), (h_rig, .inl (cy_rig, 2048, .inl f26)), (h_td, .inr (5, (mo179 v_td (.ref h_nam) (.ref h_var) (.ref h_trm) (.ref h_ter) (.ref h_pls) (.ref h_fst)))), (h_nam, .inl (cy_nam, 300, .inr (.inl f_nam))), (h_var, .inl (cy_var, 300, .inl f_var)), (h_trm, .inl (cy_trm, 300, .inl f_trm)), (h_ter, .inl (cy_ter, 900, .inl f_ter)), (h_pls, .inl (cy_pls, 16, .inl f_pls)), (h_fst, .inl (cy_fst, 96, .inl f_fst))] (PL nr ra rf nl la lf ns sa sf42)) := va_D.part (cx := [(h_pv, .inr (3, (mo187 v_pv (.ref h_td) (.ref h_bd) (.ref h_cof) (.int x_pv_options)))), (h_cof, .inl (cy_cof, 30, .inl f_cof)), (h_bd, .inr (1, (mo23 v_bd (.ref h_td) (.ref h_bnd) (.ref h_lef) (.ref h_rig) (.int z24)))), (h_bnd, .inl (cy_bnd, 256, .inl f_bnd)), (h_lef, .inl (cy_lef, 2048, .inl f25)), (h_rig, .inl (cy_rig, 2048, .inl f26)), (h_td, .inr (5, (mo179 v_td (.ref h_nam) (.ref h_var) (.ref h_trm) (.ref h_ter) (.ref h_pls) (.ref h_fst)))), (h_nam, .inl (cy_nam, 300, .inr (.inl f_nam))), (h_var, .inl (cy_var, 300, .inl f_var)), (h_trm, .inl (cy_trm, 300, .inl f_trm)), (h_ter, .inl (cy_ter, 900, .inl f_ter)), (h_pls, .inl (cy_pls, 16, .inl f_pls)), (h_fst, .inl (cy_fst, 96, .inl f_fst))]) hD [12, 0, 1, 2, 3, 4, 5, 6, 7, 8, 9, 10, 11] (by decide) rfl
        refine W.widen (k := 0) (n := 0) (Nat.le_of_ble_eq_true rfl) (Nat.le_of_ble_eq_true rfl) ?_
        have cst1 : (1 : Int32).toInt = 1 := by decide
        have w49 : 0 ≤ ((z24)).toInt ∧ ((z24)).toInt ≤ 2048 := by first | exact k27 | omega
        have w50 : 0 ≤ (1 : Int32).toInt ∧ (1 : Int32).toInt ≤ 1 := by decide
        have w51 : SOK ns (sf42) nr ra nl la := k44
        have w52 : LVS vR vL vS vI ra rf la (sf42) := (lvs_cast k45 (by first | rfl | omega) (by first | rfl | omega) (by first | rfl | omega) (by first | rfl | omega))
        have w53 : ∀ j : Nat, j ≠ j1 → (sf42) j = sf j := cl47o
        have w54 : sIM ((sf42) j1) = sIM (sf j1) ∧ sRM ((sf42) j1) = sRM (sf j1) ∧ sLM ((sf42) j1) = sLM (sf j1) := cl47m
        have w55 : OrP (((1 : Int32)).toInt = 0) (¬ ((sf42) j1).2.1.toInt = 3) := (Or.inr (by rw [cl47k]; decide))
        exact W.zret (v := 1) (ty := .boolean) hx hb hr (by decide) (fun t ht hW => ⟨⟨1, (z24, f25, f26, sf42), rfl, ⟨w49, hf25, hf26, w50, w51, w52, w53, w54, w55⟩, by rw [ht]; exact hP, hD⟩, hS.F ht⟩) hS.2.2 dX4_byLemma_70
    · have kc14 := (cv_eq (rfl : (r11).toInt = (r11).toInt) (by decide : (0 : Int32).toInt = 0)).mp c14
      refine lv_iconst (v := 0) hx hb dX4_byLemma_15 (by decide) ?_
      replace hP : va_P (dC, dI) cls (wp [(h_pv, .inr (3, (mo187 v_pv (.ref h_td) (.ref h_bd) (.ref h_cof) (.int x_pv_options)))), (h_cof, .inl (cy_cof, 30, .inl f_cof)), (h_bd, .inr (1, (mo23 v_bd (.ref h_td) (.ref h_bnd) (.ref h_lef) (.ref h_rig) (.int x_bd_top)))), (h_bnd, .inl (cy_bnd, 256, .inl f_bnd)), (h_lef, .inl (cy_lef, 2048, .inl f_lef)), (h_rig, .inl (cy_rig, 2048, .inl f_rig)), (h_td, .inr (5, (mo179 v_td (.ref h_nam) (.ref h_var) (.ref h_trm) (.ref h_ter) (.ref h_pls) (.ref h_fst)))), (h_nam, .inl (cy_nam, 300, .inr (.inl f_nam))), (h_var, .inl (cy_var, 300, .inl f_var)), (h_trm, .inl (cy_trm, 300, .inl f_trm)), (h_ter, .inl (cy_ter, 900, .inl f_ter)), (h_pls, .inl (cy_pls, 16, .inl f_pls)), (h_fst, .inl (cy_fst, 96, .inl f_fst))] (PL nr ra rf nl la lf ns sa sf)) H := va_P.part (cx := [(h_pv, .inr (3, (mo187 v_pv (.ref h_td) (.ref h_bd) (.ref h_cof) (.int x_pv_options)))), (h_cof, .inl (cy_cof, 30, .inl f_cof)), (h_bd, .inr (1, (mo23 v_bd (.ref h_td) (.ref h_bnd) (.ref h_lef) (.ref h_rig) (.int x_bd_top)))), (h_bnd, .inl (cy_bnd, 256, .inl f_bnd)), (h_lef, .inl (cy_lef, 2048, .inl f_lef)), (h_rig, .inl (cy_rig, 2048, .inl f_rig)), (h_td, .inr (5, (mo179 v_td (.ref h_nam) (.ref h_var) (.ref h_trm) (.ref h_ter) (.ref h_pls) (.ref h_fst)))), (h_nam, .inl (cy_nam, 300, .inr (.inl f_nam))), (h_var, .inl (cy_var, 300, .inl f_var)), (h_trm, .inl (cy_trm, 300, .inl f_trm)), (h_ter, .inl (cy_ter, 900, .inl f_ter)), (h_pls, .inl (cy_pls, 16, .inl f_pls)), (h_fst, .inl (cy_fst, 96, .inl f_fst))]) hP [12, 0, 1, 2, 3, 4, 5, 6, 7, 8, 9, 10, 11] rfl
      replace hD : va_D A (wp [(h_pv, .inr (3, (mo187 v_pv (.ref h_td) (.ref h_bd) (.ref h_cof) (.int x_pv_options)))), (h_cof, .inl (cy_cof, 30, .inl f_cof)), (h_bd, .inr (1, (mo23 v_bd (.ref h_td) (.ref h_bnd) (.ref h_lef) (.ref h_rig) (.int x_bd_top)))), (h_bnd, .inl (cy_bnd, 256, .inl f_bnd)), (h_lef, .inl (cy_lef, 2048, .inl f_lef)), (h_rig, .inl (cy_rig, 2048, .inl f_rig)), (h_td, .inr (5, (mo179 v_td (.ref h_nam) (.ref h_var) (.ref h_trm) (.ref h_ter) (.ref h_pls) (.ref h_fst)))), (h_nam, .inl (cy_nam, 300, .inr (.inl f_nam))), (h_var, .inl (cy_var, 300, .inl f_var)), (h_trm, .inl (cy_trm, 300, .inl f_trm)), (h_ter, .inl (cy_ter, 900, .inl f_ter)), (h_pls, .inl (cy_pls, 16, .inl f_pls)), (h_fst, .inl (cy_fst, 96, .inl f_fst))] (PL nr ra rf nl la lf ns sa sf)) := va_D.part (cx := [(h_pv, .inr (3, (mo187 v_pv (.ref h_td) (.ref h_bd) (.ref h_cof) (.int x_pv_options)))), (h_cof, .inl (cy_cof, 30, .inl f_cof)), (h_bd, .inr (1, (mo23 v_bd (.ref h_td) (.ref h_bnd) (.ref h_lef) (.ref h_rig) (.int x_bd_top)))), (h_bnd, .inl (cy_bnd, 256, .inl f_bnd)), (h_lef, .inl (cy_lef, 2048, .inl f_lef)), (h_rig, .inl (cy_rig, 2048, .inl f_rig)), (h_td, .inr (5, (mo179 v_td (.ref h_nam) (.ref h_var) (.ref h_trm) (.ref h_ter) (.ref h_pls) (.ref h_fst)))), (h_nam, .inl (cy_nam, 300, .inr (.inl f_nam))), (h_var, .inl (cy_var, 300, .inl f_var)), (h_trm, .inl (cy_trm, 300, .inl f_trm)), (h_ter, .inl (cy_ter, 900, .inl f_ter)), (h_pls, .inl (cy_pls, 16, .inl f_pls)), (h_fst, .inl (cy_fst, 96, .inl f_fst))]) hD [12, 0, 1, 2, 3, 4, 5, 6, 7, 8, 9, 10, 11] (by decide) rfl
      refine W.widen (k := 0) (n := 0) (Nat.le_of_ble_eq_true rfl) (Nat.le_of_ble_eq_true rfl) ?_
      have cst0 : (0 : Int32).toInt = 0 := by decide
      have w56 : 0 ≤ ((x_bd_top)).toInt ∧ ((x_bd_top)).toInt ≤ 2048 := by first | exact hx_bd_top | omega
      have w57 : 0 ≤ (0 : Int32).toInt ∧ (0 : Int32).toInt ≤ 1 := by decide
      have w58 : SOK ns (sf) nr ra nl la := hn_sok
      have w59 : LVS vR vL vS vI ra rf la (sf) := (lvs_cast hn_lvs (by first | rfl | omega) (by first | rfl | omega) (by first | rfl | omega) (by first | rfl | omega))
      have w60 : ∀ j : Nat, j ≠ j1 → (sf) j = sf j := oth0
      have w61 : sIM ((sf) j1) = sIM (sf j1) ∧ sRM ((sf) j1) = sRM (sf j1) ∧ sLM ((sf) j1) = sLM (sf j1) := mks0
      have w62 : OrP (((0 : Int32)).toInt = 0) (¬ ((sf) j1).2.1.toInt = 3) := (Or.inl (by decide))
      exact W.zret (v := 0) (ty := .boolean) hx hb hr (by decide) (fun t ht hW => ⟨⟨0, (x_bd_top, f_lef, f_rig, sf), rfl, ⟨w56, hf_lef, hf_rig, w57, w58, w59, w60, w61, w62⟩, by rw [ht]; exact hP, hD⟩, hS.F ht⟩) hS.2.2 dX4_byLemma_16

set_option maxHeartbeats 8000000 in
set_option maxRecDepth 100000 in
theorem c_X4_mayTry (l : Launch) (dC : Nat → ClassId) (dI : Nat → Nat → Nat) (sz : Nat) (h_pv : Nat) (v_pv : Nat → Value) (x_pv_tries : Int32) (x_pv_givenUp : Int32) (hx_pv_tries : 0 ≤ (x_pv_tries).toInt ∧ (x_pv_tries).toInt ≤ 1000) (hx_pv_givenUp : 0 ≤ (x_pv_givenUp).toInt ∧ (x_pv_givenUp).toInt ≤ 1) : Met l yX4_mayTry (Ws yX4_mayTry cX4_mayTry 1 (some .boolean)) (({ frames := 0, cells := 0, slots := 0, locals := 0 } : Room)) (PRE (dC, dI) cls [] [(h_pv, .inr (3, (mo188 v_pv (.int x_pv_tries) (.int x_pv_givenUp))))] sz [.ref h_pv]) (va_Qi (fun (r : Int32) (u : (Int32) × (Int32)) => (0 ≤ (u.1).toInt ∧ (u.1).toInt ≤ 1000) ∧ (0 ≤ (u.2).toInt ∧ (u.2).toInt ≤ 1) ∧ (0 ≤ r.toInt ∧ r.toInt ≤ 1) ∧ ((u.1).toInt = (x_pv_tries).toInt + (r).toInt)) (fun (u : (Int32) × (Int32)) (t : State) => va_P (dC, dI) cls [(h_pv, .inr (3, (mo188 v_pv (.int u.1) (.int u.2))))] t.heap ∧ va_D (va_A [(h_pv, .inr (3, (mo188 v_pv (.int x_pv_tries) (.int x_pv_givenUp))))] sz) [(h_pv, .inr (3, (mo188 v_pv (.int u.1) (.int u.2))))]) (va_A [(h_pv, .inr (3, (mo188 v_pv (.int x_pv_tries) (.int x_pv_givenUp))))] sz)) (0) (0) (va_A [(h_pv, .inr (3, (mo188 v_pv (.int x_pv_tries) (.int x_pv_givenUp))))] sz) := by
  refine Met.ofW (cc := cX4_mayTry) (maxL := 1) (ret := (some .boolean)) (by decide) rfl ?_
  intro p e s m args below meth c s₁ B hml hv
  obtain ⟨rfl, hsz, hP, hK, hD0, hN⟩ := hv
  have hx := B.exec
  have hb := B.bytes
  have hr := B.returns
  have hts := atoms_spec (ws := Ws yX4_mayTry cX4_mayTry 1 (some .boolean)) B.pre
  have hT : ∀ w ∈ WALL, w ∈ Ws yX4_mayTry cX4_mayTry 1 (some .boolean) := fun w h => List.mem_cons_of_mem _ h
  have hw := fun w (h : w ∈ WALL) => hts w (hT w h)
  have hown : s.vm.findClass RX4 = some m.cls := findClass_of_methodNamed B.named
  have hlocks := B.notSynchronized
  subst hsz
  have hD := hD0.self (sz := s.heap.size)
  generalize hAe : va_A [(h_pv, .inr (3, (mo188 v_pv (.int x_pv_tries) (.int x_pv_givenUp))))] s.heap.size = A at hD ⊢
  have hA : ∀ q : Nat, s.heap.size ≤ q → A q := fun q h => by rw [← hAe]; exact Or.inr h
  have hS : va_S A s.heap s.heap [] := va_S.rf
  have hl := lv_entry ([.ref h_pv]) (n := 1) (Nat.le_of_ble_eq_true rfl)
  rw [lg_entry_eq]
  generalize (lg_sl ([.ref h_pv]) ++ List.replicate (1 - (lg_sl ([.ref h_pv])).length) Slot.unset).toArray = ls at hl ⊢
  have hl : lv_has ls 1 [(0, .ref h_pv)] := hl
  refine lv_aload_n hx hb dX4_mayTry_0 rfl (lv_at hl 0 rfl) ?_
  refine va_get (D := (dC, dI)) (ci := 3) (v := .int x_pv_tries) (C := RX4) (T := TX4) (N := 18) hx hb hw iwX4 hown hK hP 0 rfl rfl 12 (by decide) (hw _ w_f_X4_45) (fun _ h9 => h9) rfl dX4_mayTry_1 ?_
  refine lv_sipush (v := 1000) hx hb dX4_mayTry_4 (by decide) ?_
  refine lv_icmp_lt (tgt := 17) hx hb dX4_mayTry_7 (by decide) (fun c1 => ?_) (fun c1 => ?_)
  · have kc1 := (cv_lt (rfl : (x_pv_tries).toInt = (x_pv_tries).toInt) (by decide : (1000 : Int32).toInt = 1000)).mp c1
    refine lv_aload_n hx hb dX4_mayTry_17 rfl (lv_at hl 0 rfl) ?_
    refine lv_dup hx hb dX4_mayTry_18 rfl ?_
    refine va_get (D := (dC, dI)) (ci := 3) (v := .int x_pv_tries) (C := RX4) (T := TX4) (N := 18) hx hb hw iwX4 hown hK hP 0 rfl rfl 12 (by decide) (hw _ w_f_X4_45) (fun _ h9 => h9) rfl dX4_mayTry_19 ?_
    refine lv_iconst (v := 1) hx hb dX4_mayTry_22 (by decide) ?_
    refine lv_iadd hx hb dX4_mayTry_23 ?_
    refine lv_topi (fun z2 ez2 => ?_)
    have tz2 : (z2).toInt = (x_pv_tries).toInt + 1 := by rw [ez2]; exact i_add rfl (by decide) (by omega)
    refine va_put (D := (dC, dI)) (ci := 3) (v := .int z2) (ty := tyX4 12) (C := RX4) (T := TX4) (N := 18) hx hb hw iwX4 tyX4 tyX4_ok nmX4 hown hK hP hD hS 0 rfl rfl 12 (by decide) (hw _ w_f_X4_45) (fun _ h9 => h9) rfl (tyX4_ok 12 (by decide)) rfl rfl (Nat.le_of_ble_eq_true rfl) dX4_mayTry_24 (fun H locs hP9 hD9 hS9 => ?_)
    clear hP hD hS
    have hP : va_P (dC, dI) cls [(h_pv, .inr (3, (mo188 v_pv (.int z2) (.int x_pv_givenUp))))] H := hP9
    have hD : va_D A [(h_pv, .inr (3, (mo188 v_pv (.int z2) (.int x_pv_givenUp))))] := hD9
    have hS := hS9
    clear hP9 hD9 hS9
    refine lv_iconst (v := 1) hx hb dX4_mayTry_27 (by decide) ?_
    refine W.widen (k := 0) (n := 0) (Nat.le_of_ble_eq_true rfl) (Nat.le_of_ble_eq_true rfl) ?_
    have cst1 : (1 : Int32).toInt = 1 := by decide
    have w3 : 0 ≤ ((z2)).toInt ∧ ((z2)).toInt ≤ 1000 := by omega
    have w4 : 0 ≤ ((x_pv_givenUp)).toInt ∧ ((x_pv_givenUp)).toInt ≤ 1 := by first | exact hx_pv_givenUp | omega
    have w5 : 0 ≤ (1 : Int32).toInt ∧ (1 : Int32).toInt ≤ 1 := by decide
    have w6 : ((z2)).toInt = (x_pv_tries).toInt + ((1 : Int32)).toInt := by omega
    exact W.zret (v := 1) (ty := .boolean) hx hb hr (by decide) (fun t ht hW => ⟨⟨1, (z2, x_pv_givenUp), rfl, ⟨w3, w4, w5, w6⟩, by rw [ht]; exact hP, hD⟩, hS.F ht⟩) hS.2.2 dX4_mayTry_28
  · have kc1 := (not_congr (cv_lt (rfl : (x_pv_tries).toInt = (x_pv_tries).toInt) (by decide : (1000 : Int32).toInt = 1000))).mp c1
    refine lv_aload_n hx hb dX4_mayTry_10 rfl (lv_at hl 0 rfl) ?_
    refine lv_iconst (v := 1) hx hb dX4_mayTry_11 (by decide) ?_
    refine va_put (D := (dC, dI)) (ci := 3) (v := .int 1) (ty := tyX4 16) (C := RX4) (T := TX4) (N := 18) hx hb hw iwX4 tyX4 tyX4_ok nmX4 hown hK hP hD hS 0 rfl rfl 16 (by decide) (hw _ w_f_X4_85) (fun _ h9 => h9) rfl (tyX4_ok 16 (by decide)) rfl rfl (Nat.le_of_ble_eq_true rfl) dX4_mayTry_12 (fun H locs hP9 hD9 hS9 => ?_)
    clear hP hD hS
    have hP : va_P (dC, dI) cls [(h_pv, .inr (3, (mo188 v_pv (.int x_pv_tries) (.int 1))))] H := hP9
    have hD : va_D A [(h_pv, .inr (3, (mo188 v_pv (.int x_pv_tries) (.int 1))))] := hD9
    have hS := hS9
    clear hP9 hD9 hS9
    refine lv_iconst (v := 0) hx hb dX4_mayTry_15 (by decide) ?_
    refine W.widen (k := 0) (n := 0) (Nat.le_of_ble_eq_true rfl) (Nat.le_of_ble_eq_true rfl) ?_
    have cst0 : (0 : Int32).toInt = 0 := by decide
    have cst1 : (1 : Int32).toInt = 1 := by decide
    have w7 : 0 ≤ ((x_pv_tries)).toInt ∧ ((x_pv_tries)).toInt ≤ 1000 := by first | exact hx_pv_tries | omega
    have w8 : 0 ≤ ((1 : Int32)).toInt ∧ ((1 : Int32)).toInt ≤ 1 := by decide
    have w9 : 0 ≤ (0 : Int32).toInt ∧ (0 : Int32).toInt ≤ 1 := by decide
    have w10 : ((x_pv_tries)).toInt = (x_pv_tries).toInt + ((0 : Int32)).toInt := by omega
    exact W.zret (v := 0) (ty := .boolean) hx hb hr (by decide) (fun t ht hW => ⟨⟨0, (x_pv_tries, 1), rfl, ⟨w7, w8, w9, w10⟩, by rw [ht]; exact hP, hD⟩, hS.F ht⟩) hS.2.2 dX4_mayTry_16

