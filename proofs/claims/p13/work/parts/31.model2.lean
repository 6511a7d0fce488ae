theorem w_cl_X11_416 : Cond.constantLong "OppositePairsModel" 416 (20 : Int64) ∈ WALL := wall_t (tb_6 178 (by decide +kernel)) rfl
theorem w_cl_X11_418 : Cond.constantLong "OppositePairsModel" 418 (7 : Int64) ∈ WALL := wall_t (tb_6 179 (by decide +kernel)) rfl
theorem w_cl_X11_438 : Cond.constantLong "OppositePairsModel" 438 (5 : Int64) ∈ WALL := wall_t (tb_7 52 (by decide +kernel)) rfl
theorem w_cl_X11_487 : Cond.constantLong "OppositePairsModel" 487 (3 : Int64) ∈ WALL := wall_t (tb_7 129 (by decide +kernel)) rfl
theorem w_code_X11_copiesClause : Cond.code yX11_copiesClause prog_13_method_23_code 4 none ∈ WALL := wall_t (tb_5 79 (by decide +kernel)) rfl
theorem w_code_X11_forgets : Cond.code yX11_forgets prog_13_method_71_code 1 none ∈ WALL := wall_t (tb_5 83 (by decide +kernel)) rfl
theorem w_code_X11_isClause : Cond.code yX11_isClause prog_13_method_29_code 2 (some .boolean) ∈ WALL := wall_t (tb_5 103 (by decide +kernel)) rfl
theorem w_code_X11_isInstance : Cond.code yX11_isInstance prog_13_method_80_code 2 (some .boolean) ∈ WALL := wall_t (tb_7 60 (by decide +kernel)) rfl
theorem w_code_X11_litAt : Cond.code yX11_litAt prog_13_method_8_code 3 (some .int) ∈ WALL := wall_t (tb_5 71 (by decide +kernel)) rfl
theorem w_f_X11_1 : Cond.fieldLink "OppositePairsModel" 1 "OppositePairsModel" "told" "I" ∈ WALL := wall_t (tb_5 139 (by decide +kernel)) rfl
theorem w_f_X11_102 : Cond.fieldLink "OppositePairsModel" 102 "OppositePairsModel" "variables" "[I" ∈ WALL := wall_t (tb_5 148 (by decide +kernel)) rfl
theorem w_f_X11_108 : Cond.fieldLink "OppositePairsModel" 108 "OppositePairsModel" "letter" "[I" ∈ WALL := wall_t (tb_5 149 (by decide +kernel)) rfl
theorem w_f_X11_142 : Cond.fieldLink "OppositePairsModel" 142 "OppositePairsModel" "many" "[I" ∈ WALL := wall_t (tb_5 147 (by decide +kernel)) rfl
theorem w_f_X11_145 : Cond.fieldLink "OppositePairsModel" 145 "OppositePairsModel" "isNot" "[Z" ∈ WALL := wall_t (tb_5 150 (by decide +kernel)) rfl
theorem w_f_X11_152 : Cond.fieldLink "OppositePairsModel" 152 "OppositePairsModel" "term" "[I" ∈ WALL := wall_t (tb_5 151 (by decide +kernel)) rfl
theorem w_f_X11_164 : Cond.fieldLink "OppositePairsModel" 164 "OppositePairsModel" "clauses" "I" ∈ WALL := wall_t (tb_5 146 (by decide +kernel)) rfl
theorem w_f_X11_195 : Cond.fieldLink "OppositePairsModel" 195 "OppositePairsModel" "boundTo" "[I" ∈ WALL := wall_t (tb_5 165 (by decide +kernel)) rfl
theorem w_f_X11_201 : Cond.fieldLink "OppositePairsModel" 201 "OppositePairsModel" "trail" "[I" ∈ WALL := wall_t (tb_5 167 (by decide +kernel)) rfl
theorem w_f_X11_204 : Cond.fieldLink "OppositePairsModel" 204 "OppositePairsModel" "clauseOf" "[I" ∈ WALL := wall_t (tb_5 175 (by decide +kernel)) rfl
theorem w_f_X11_237 : Cond.fieldLink "OppositePairsModel" 237 "OppositePairsModel" "steps" "[I" ∈ WALL := wall_t (tb_5 193 (by decide +kernel)) rfl
theorem w_f_X11_240 : Cond.fieldLink "OppositePairsModel" 240 "OppositePairsModel" "answer" "[I" ∈ WALL := wall_t (tb_5 197 (by decide +kernel)) rfl
theorem w_f_X11_243 : Cond.fieldLink "OppositePairsModel" 243 "OppositePairsModel" "out" "[I" ∈ WALL := wall_t (tb_5 200 (by decide +kernel)) rfl
theorem w_f_X11_246 : Cond.fieldLink "OppositePairsModel" 246 "OppositePairsModel" "written" "[I" ∈ WALL := wall_t (tb_5 202 (by decide +kernel)) rfl
theorem w_f_X11_252 : Cond.fieldLink "OppositePairsModel" 252 "OppositePairsModel" "areClosed" "[Z" ∈ WALL := wall_t (tb_5 206 (by decide +kernel)) rfl
theorem w_f_X11_255 : Cond.fieldLink "OppositePairsModel" 255 "OppositePairsModel" "way" "[I" ∈ WALL := wall_t (tb_5 207 (by decide +kernel)) rfl
theorem w_f_X11_261 : Cond.fieldLink "OppositePairsModel" 261 "OppositePairsModel" "trailed" "I" ∈ WALL := wall_t (tb_5 168 (by decide +kernel)) rfl
theorem w_f_X11_338 : Cond.fieldLink "OppositePairsModel" 338 "OppositePairsModel" "stepMany" "I" ∈ WALL := wall_t (tb_5 194 (by decide +kernel)) rfl
theorem w_f_X11_345 : Cond.fieldLink "OppositePairsModel" 345 "OppositePairsModel" "mostPath" "I" ∈ WALL := wall_t (tb_5 190 (by decide +kernel)) rfl
theorem w_f_X11_357 : Cond.fieldLink "OppositePairsModel" 357 "OppositePairsModel" "cuts" "I" ∈ WALL := wall_t (tb_5 191 (by decide +kernel)) rfl
theorem w_f_X11_373 : Cond.fieldLink "OppositePairsModel" 373 "OppositePairsModel" "isOver" "Z" ∈ WALL := wall_t (tb_5 188 (by decide +kernel)) rfl
theorem w_f_X11_389 : Cond.fieldLink "OppositePairsModel" 389 "OppositePairsModel" "tries" "I" ∈ WALL := wall_t (tb_5 189 (by decide +kernel)) rfl
theorem w_f_X11_397 : Cond.fieldLink "OppositePairsModel" 397 "OppositePairsModel" "instances" "I" ∈ WALL := wall_t (tb_5 174 (by decide +kernel)) rfl
theorem w_f_X11_407 : Cond.fieldLink "OppositePairsModel" 407 "OppositePairsModel" "extended" "I" ∈ WALL := wall_t (tb_5 192 (by decide +kernel)) rfl
theorem w_f_X11_410 : Cond.fieldLink "OppositePairsModel" 410 "OppositePairsModel" "isProof" "Z" ∈ WALL := wall_t (tb_5 196 (by decide +kernel)) rfl
theorem w_f_X11_413 : Cond.fieldLink "OppositePairsModel" 413 "OppositePairsModel" "answers" "I" ∈ WALL := wall_t (tb_5 198 (by decide +kernel)) rfl
theorem w_f_X11_443 : Cond.fieldLink "OppositePairsModel" 443 "OppositePairsModel" "writes" "I" ∈ WALL := wall_t (tb_5 203 (by decide +kernel)) rfl
theorem w_f_X11_446 : Cond.fieldLink "OppositePairsModel" 446 "OppositePairsModel" "room" "I" ∈ WALL := wall_t (tb_5 204 (by decide +kernel)) rfl
theorem w_f_X11_462 : Cond.fieldLink "OppositePairsModel" 462 "OppositePairsModel" "outs" "I" ∈ WALL := wall_t (tb_5 201 (by decide +kernel)) rfl
theorem w_instanceMethod_X11_copiesClause : Cond.instanceMethod yX11_copiesClause ∈ WALL := wall_t (tb_5 78 (by decide +kernel)) rfl
theorem w_instanceMethod_X11_forgets : Cond.instanceMethod yX11_forgets ∈ WALL := wall_t (tb_5 82 (by decide +kernel)) rfl
theorem w_instanceMethod_X11_isClause : Cond.instanceMethod yX11_isClause ∈ WALL := wall_t (tb_5 102 (by decide +kernel)) rfl
theorem w_instanceMethod_X11_isInstance : Cond.instanceMethod yX11_isInstance ∈ WALL := wall_t (tb_7 59 (by decide +kernel)) rfl
theorem w_instanceMethod_X11_litAt : Cond.instanceMethod yX11_litAt ∈ WALL := wall_t (tb_5 70 (by decide +kernel)) rfl
theorem w_m_X11_149 : Cond.methodLink "OppositePairsModel" 149 yX11_litAt ∈ WALL := wall_t (tb_5 68 (by decide +kernel)) rfl
theorem w_m_X11_167 : Cond.methodLink "OppositePairsModel" 167 yX11_copiesClause ∈ WALL := wall_t (tb_5 76 (by decide +kernel)) rfl
theorem w_m_X11_171 : Cond.methodLink "OppositePairsModel" 171 yX11_forgets ∈ WALL := wall_t (tb_5 80 (by decide +kernel)) rfl
theorem w_m_X11_174 : Cond.methodLink "OppositePairsModel" 174 yX11_isClause ∈ WALL := wall_t (tb_5 100 (by decide +kernel)) rfl
theorem w_m_X11_440 : Cond.methodLink "OppositePairsModel" 440 yX11_isInstance ∈ WALL := wall_t (tb_7 57 (by decide +kernel)) rfl
theorem ws_sel_X11_copiesClause : Cond.selects "OppositePairsModel" yX11_copiesClause yX11_copiesClause ∈ WALL := wall_s 101 (by decide +kernel) rfl
theorem ws_sel_X11_forgets : Cond.selects "OppositePairsModel" yX11_forgets yX11_forgets ∈ WALL := wall_s 102 (by decide +kernel) rfl
theorem ws_sel_X11_isClause : Cond.selects "OppositePairsModel" yX11_isClause yX11_isClause ∈ WALL := wall_s 103 (by decide +kernel) rfl
theorem ws_sel_X11_isInstance : Cond.selects "OppositePairsModel" yX11_isInstance yX11_isInstance ∈ WALL := wall_s 146 (by decide +kernel) rfl
theorem ws_sel_X11_litAt : Cond.selects "OppositePairsModel" yX11_litAt yX11_litAt ∈ WALL := wall_s 99 (by decide +kernel) rfl
theorem dX11_answerOf_0 : decode cX11_answerOf 0 = .ok (.iconst 0, 1) := by decide +kernel
theorem dX11_answerOf_1 : decode cX11_answerOf 1 = .ok (.istore 4, 2) := by decide +kernel
theorem dX11_answerOf_12 : decode cX11_answerOf 12 = .ok (.aload_n 0, 1) := by decide +kernel
theorem dX11_answerOf_13 : decode cX11_answerOf 13 = .ok (.getfield 240, 3) := by decide +kernel
theorem dX11_answerOf_16 : decode cX11_answerOf 16 = .ok (.iconst 4, 1) := by decide +kernel
theorem dX11_answerOf_17 : decode cX11_answerOf 17 = .ok (.iload 4, 2) := by decide +kernel
theorem dX11_answerOf_19 : decode cX11_answerOf 19 = .ok (.imul, 1) := by decide +kernel
theorem dX11_answerOf_20 : decode cX11_answerOf 20 = .ok (.iaload, 1) := by decide +kernel
theorem dX11_answerOf_21 : decode cX11_answerOf 21 = .ok (.iload_n 1, 1) := by decide +kernel
theorem dX11_answerOf_22 : decode cX11_answerOf 22 = .ok (.if_icmp .ne 36, 3) := by decide +kernel
theorem dX11_answerOf_25 : decode cX11_answerOf 25 = .ok (.aload_n 0, 1) := by decide +kernel
theorem dX11_answerOf_26 : decode cX11_answerOf 26 = .ok (.getfield 240, 3) := by decide +kernel
theorem dX11_answerOf_29 : decode cX11_answerOf 29 = .ok (.iconst 4, 1) := by decide +kernel
theorem dX11_answerOf_3 : decode cX11_answerOf 3 = .ok (.iload 4, 2) := by decide +kernel
theorem dX11_answerOf_30 : decode cX11_answerOf 30 = .ok (.iload 4, 2) := by decide +kernel
theorem dX11_answerOf_32 : decode cX11_answerOf 32 = .ok (.imul, 1) := by decide +kernel
theorem dX11_answerOf_33 : decode cX11_answerOf 33 = .ok (.iconst 1, 1) := by decide +kernel
theorem dX11_answerOf_34 : decode cX11_answerOf 34 = .ok (.iadd, 1) := by decide +kernel
theorem dX11_answerOf_35 : decode cX11_answerOf 35 = .ok (.iaload, 1) := by decide +kernel
theorem dX11_answerOf_36 : decode cX11_answerOf 36 = .ok (.iload_n 2, 1) := by decide +kernel
theorem dX11_answerOf_37 : decode cX11_answerOf 37 = .ok (.if_icmp .ne 21, 3) := by decide +kernel
theorem dX11_answerOf_40 : decode cX11_answerOf 40 = .ok (.aload_n 0, 1) := by decide +kernel
theorem dX11_answerOf_41 : decode cX11_answerOf 41 = .ok (.getfield 240, 3) := by decide +kernel
theorem dX11_answerOf_44 : decode cX11_answerOf 44 = .ok (.iconst 4, 1) := by decide +kernel
theorem dX11_answerOf_45 : decode cX11_answerOf 45 = .ok (.iload 4, 2) := by decide +kernel
theorem dX11_answerOf_47 : decode cX11_answerOf 47 = .ok (.imul, 1) := by decide +kernel
theorem dX11_answerOf_48 : decode cX11_answerOf 48 = .ok (.iconst 2, 1) := by decide +kernel
theorem dX11_answerOf_49 : decode cX11_answerOf 49 = .ok (.iadd, 1) := by decide +kernel
theorem dX11_answerOf_5 : decode cX11_answerOf 5 = .ok (.aload_n 0, 1) := by decide +kernel
theorem dX11_answerOf_50 : decode cX11_answerOf 50 = .ok (.iaload, 1) := by decide +kernel
theorem dX11_answerOf_51 : decode cX11_answerOf 51 = .ok (.iload_n 3, 1) := by decide +kernel
theorem dX11_answerOf_52 : decode cX11_answerOf 52 = .ok (.if_icmp .ne 6, 3) := by decide +kernel
theorem dX11_answerOf_55 : decode cX11_answerOf 55 = .ok (.iload 4, 2) := by decide +kernel
theorem dX11_answerOf_57 : decode cX11_answerOf 57 = .ok (.ireturn, 1) := by decide +kernel
theorem dX11_answerOf_58 : decode cX11_answerOf 58 = .ok (.iinc 4 1, 3) := by decide +kernel
theorem dX11_answerOf_6 : decode cX11_answerOf 6 = .ok (.getfield 413, 3) := by decide +kernel
theorem dX11_answerOf_61 : decode cX11_answerOf 61 = .ok (.goto (-58), 3) := by decide +kernel
theorem dX11_answerOf_64 : decode cX11_answerOf 64 = .ok (.iconst (-1), 1) := by decide +kernel
theorem dX11_answerOf_65 : decode cX11_answerOf 65 = .ok (.ireturn, 1) := by decide +kernel
theorem dX11_answerOf_9 : decode cX11_answerOf 9 = .ok (.if_icmp .ge 55, 3) := by decide +kernel
theorem dX11_answer_0 : decode cX11_answer 0 = .ok (.aload_n 0, 1) := by decide +kernel
theorem dX11_answer_1 : decode cX11_answer 1 = .ok (.iconst 0, 1) := by decide +kernel
theorem dX11_answer_10 : decode cX11_answer 10 = .ok (.aload_n 0, 1) := by decide +kernel
theorem dX11_answer_11 : decode cX11_answer 11 = .ok (.getfield 413, 3) := by decide +kernel
theorem dX11_answer_14 : decode cX11_answer 14 = .ok (.ireturn, 1) := by decide +kernel
theorem dX11_answer_15 : decode cX11_answer 15 = .ok (.aload_n 0, 1) := by decide +kernel
theorem dX11_answer_16 : decode cX11_answer 16 = .ok (.iload_n 1, 1) := by decide +kernel
theorem dX11_answer_17 : decode cX11_answer 17 = .ok (.i2l, 1) := by decide +kernel
theorem dX11_answer_18 : decode cX11_answer 18 = .ok (.lconst 0, 1) := by decide +kernel
theorem dX11_answer_19 : decode cX11_answer 19 = .ok (.aload_n 0, 1) := by decide +kernel
theorem dX11_answer_2 : decode cX11_answer 2 = .ok (.putfield 1, 3) := by decide +kernel
theorem dX11_answer_20 : decode cX11_answer 20 = .ok (.getfield 413, 3) := by decide +kernel
theorem dX11_answer_23 : decode cX11_answer 23 = .ok (.i2l, 1) := by decide +kernel
theorem dX11_answer_24 : decode cX11_answer 24 = .ok (.lconst 1, 1) := by decide +kernel
theorem dX11_answer_25 : decode cX11_answer 25 = .ok (.lsub, 1) := by decide +kernel
theorem dX11_answer_26 : decode cX11_answer 26 = .ok (.invokevirtual 49, 3) := by decide +kernel
theorem dX11_answer_29 : decode cX11_answer 29 = .ok (.ifCond .eq 29, 3) := by decide +kernel
theorem dX11_answer_32 : decode cX11_answer 32 = .ok (.aload_n 0, 1) := by decide +kernel
theorem dX11_answer_33 : decode cX11_answer 33 = .ok (.iload_n 2, 1) := by decide +kernel
theorem dX11_answer_34 : decode cX11_answer 34 = .ok (.i2l, 1) := by decide +kernel
theorem dX11_answer_35 : decode cX11_answer 35 = .ok (.lconst 0, 1) := by decide +kernel
theorem dX11_answer_36 : decode cX11_answer 36 = .ok (.ldc2_w 487, 3) := by decide +kernel
theorem dX11_answer_39 : decode cX11_answer 39 = .ok (.invokevirtual 49, 3) := by decide +kernel
theorem dX11_answer_42 : decode cX11_answer 42 = .ok (.ifCond .eq 16, 3) := by decide +kernel
theorem dX11_answer_45 : decode cX11_answer 45 = .ok (.aload_n 0, 1) := by decide +kernel
theorem dX11_answer_46 : decode cX11_answer 46 = .ok (.getfield 240, 3) := by decide +kernel
theorem dX11_answer_49 : decode cX11_answer 49 = .ok (.iconst 4, 1) := by decide +kernel
theorem dX11_answer_5 : decode cX11_answer 5 = .ok (.iload_n 1, 1) := by decide +kernel
theorem dX11_answer_50 : decode cX11_answer 50 = .ok (.iload_n 1, 1) := by decide +kernel
theorem dX11_answer_51 : decode cX11_answer 51 = .ok (.imul, 1) := by decide +kernel
theorem dX11_answer_52 : decode cX11_answer 52 = .ok (.iload_n 2, 1) := by decide +kernel
theorem dX11_answer_53 : decode cX11_answer 53 = .ok (.iadd, 1) := by decide +kernel
theorem dX11_answer_54 : decode cX11_answer 54 = .ok (.iaload, 1) := by decide +kernel
theorem dX11_answer_55 : decode cX11_answer 55 = .ok (.goto 4, 3) := by decide +kernel
theorem dX11_answer_58 : decode cX11_answer 58 = .ok (.iconst (-1), 1) := by decide +kernel
theorem dX11_answer_59 : decode cX11_answer 59 = .ok (.ireturn, 1) := by decide +kernel
theorem dX11_answer_6 : decode cX11_answer 6 = .ok (.iconst (-1), 1) := by decide +kernel
theorem dX11_answer_7 : decode cX11_answer 7 = .ok (.if_icmp .ne 8, 3) := by decide +kernel
theorem dX11_begins_0 : decode cX11_begins 0 = .ok (.aload_n 0, 1) := by decide +kernel
theorem dX11_begins_1 : decode cX11_begins 1 = .ok (.iconst 0, 1) := by decide +kernel
theorem dX11_begins_10 : decode cX11_begins 10 = .ok (.aload_n 0, 1) := by decide +kernel
theorem dX11_begins_11 : decode cX11_begins 11 = .ok (.iconst 0, 1) := by decide +kernel
theorem dX11_begins_12 : decode cX11_begins 12 = .ok (.putfield 345, 3) := by decide +kernel
theorem dX11_begins_15 : decode cX11_begins 15 = .ok (.aload_n 0, 1) := by decide +kernel
theorem dX11_begins_16 : decode cX11_begins 16 = .ok (.iconst 0, 1) := by decide +kernel
theorem dX11_begins_17 : decode cX11_begins 17 = .ok (.putfield 357, 3) := by decide +kernel
theorem dX11_begins_2 : decode cX11_begins 2 = .ok (.putfield 373, 3) := by decide +kernel
theorem dX11_begins_20 : decode cX11_begins 20 = .ok (.aload_n 0, 1) := by decide +kernel
theorem dX11_begins_21 : decode cX11_begins 21 = .ok (.iconst 0, 1) := by decide +kernel
theorem dX11_begins_22 : decode cX11_begins 22 = .ok (.putfield 407, 3) := by decide +kernel
theorem dX11_begins_25 : decode cX11_begins 25 = .ok (.aload_n 0, 1) := by decide +kernel
theorem dX11_begins_26 : decode cX11_begins 26 = .ok (.iconst 0, 1) := by decide +kernel
theorem dX11_begins_27 : decode cX11_begins 27 = .ok (.putfield 410, 3) := by decide +kernel
theorem dX11_begins_30 : decode cX11_begins 30 = .ok (.return_, 1) := by decide +kernel
theorem dX11_begins_5 : decode cX11_begins 5 = .ok (.aload_n 0, 1) := by decide +kernel
theorem dX11_begins_6 : decode cX11_begins 6 = .ok (.iconst 0, 1) := by decide +kernel
theorem dX11_begins_7 : decode cX11_begins 7 = .ok (.putfield 389, 3) := by decide +kernel
theorem dX11_canAsk_0 : decode cX11_canAsk 0 = .ok (.aload_n 0, 1) := by decide +kernel
theorem dX11_canAsk_1 : decode cX11_canAsk 1 = .ok (.iload_n 1, 1) := by decide +kernel
theorem dX11_canAsk_10 : decode cX11_canAsk 10 = .ok (.ifCond .eq 20, 3) := by decide +kernel
theorem dX11_canAsk_13 : decode cX11_canAsk 13 = .ok (.aload_n 0, 1) := by decide +kernel
theorem dX11_canAsk_14 : decode cX11_canAsk 14 = .ok (.iload_n 2, 1) := by decide +kernel
theorem dX11_canAsk_15 : decode cX11_canAsk 15 = .ok (.i2l, 1) := by decide +kernel
theorem dX11_canAsk_16 : decode cX11_canAsk 16 = .ok (.lconst 0, 1) := by decide +kernel
theorem dX11_canAsk_17 : decode cX11_canAsk 17 = .ok (.ldc2_w 418, 3) := by decide +kernel
theorem dX11_canAsk_2 : decode cX11_canAsk 2 = .ok (.i2l, 1) := by decide +kernel
theorem dX11_canAsk_20 : decode cX11_canAsk 20 = .ok (.invokevirtual 49, 3) := by decide +kernel
theorem dX11_canAsk_23 : decode cX11_canAsk 23 = .ok (.ifCond .eq 7, 3) := by decide +kernel
theorem dX11_canAsk_26 : decode cX11_canAsk 26 = .ok (.iconst 1, 1) := by decide +kernel
theorem dX11_canAsk_27 : decode cX11_canAsk 27 = .ok (.goto 4, 3) := by decide +kernel
theorem dX11_canAsk_3 : decode cX11_canAsk 3 = .ok (.lconst 0, 1) := by decide +kernel
theorem dX11_canAsk_30 : decode cX11_canAsk 30 = .ok (.iconst 0, 1) := by decide +kernel
theorem dX11_canAsk_31 : decode cX11_canAsk 31 = .ok (.ireturn, 1) := by decide +kernel
theorem dX11_canAsk_4 : decode cX11_canAsk 4 = .ok (.ldc2_w 416, 3) := by decide +kernel
theorem dX11_canAsk_7 : decode cX11_canAsk 7 = .ok (.invokevirtual 49, 3) := by decide +kernel
theorem dX11_clearsBindings_0 : decode cX11_clearsBindings 0 = .ok (.iconst 0, 1) := by decide +kernel
theorem dX11_clearsBindings_1 : decode cX11_clearsBindings 1 = .ok (.istore_n 1, 1) := by decide +kernel
theorem dX11_clearsBindings_10 : decode cX11_clearsBindings 10 = .ok (.getfield 195, 3) := by decide +kernel
theorem dX11_clearsBindings_13 : decode cX11_clearsBindings 13 = .ok (.iload_n 1, 1) := by decide +kernel
theorem dX11_clearsBindings_14 : decode cX11_clearsBindings 14 = .ok (.iconst (-1), 1) := by decide +kernel
theorem dX11_clearsBindings_15 : decode cX11_clearsBindings 15 = .ok (.iastore, 1) := by decide +kernel
theorem dX11_clearsBindings_16 : decode cX11_clearsBindings 16 = .ok (.iinc 1 1, 3) := by decide +kernel
theorem dX11_clearsBindings_19 : decode cX11_clearsBindings 19 = .ok (.goto (-17), 3) := by decide +kernel
theorem dX11_clearsBindings_2 : decode cX11_clearsBindings 2 = .ok (.iload_n 1, 1) := by decide +kernel
theorem dX11_clearsBindings_22 : decode cX11_clearsBindings 22 = .ok (.aload_n 0, 1) := by decide +kernel
theorem dX11_clearsBindings_23 : decode cX11_clearsBindings 23 = .ok (.iconst 0, 1) := by decide +kernel
theorem dX11_clearsBindings_24 : decode cX11_clearsBindings 24 = .ok (.putfield 261, 3) := by decide +kernel
theorem dX11_clearsBindings_27 : decode cX11_clearsBindings 27 = .ok (.return_, 1) := by decide +kernel
theorem dX11_clearsBindings_3 : decode cX11_clearsBindings 3 = .ok (.sipush 256, 3) := by decide +kernel
theorem dX11_clearsBindings_6 : decode cX11_clearsBindings 6 = .ok (.if_icmp .ge 16, 3) := by decide +kernel
theorem dX11_clearsBindings_9 : decode cX11_clearsBindings 9 = .ok (.aload_n 0, 1) := by decide +kernel
theorem dX11_closesWay_0 : decode cX11_closesWay 0 = .ok (.iconst 0, 1) := by decide +kernel
theorem dX11_closesWay_1 : decode cX11_closesWay 1 = .ok (.istore 4, 2) := by decide +kernel
theorem dX11_closesWay_11 : decode cX11_closesWay 11 = .ok (.iload_n 3, 1) := by decide +kernel
theorem dX11_closesWay_12 : decode cX11_closesWay 12 = .ok (.if_icmp .eq 37, 3) := by decide +kernel
theorem dX11_closesWay_15 : decode cX11_closesWay 15 = .ok (.aload_n 0, 1) := by decide +kernel
theorem dX11_closesWay_16 : decode cX11_closesWay 16 = .ok (.getfield 252, 3) := by decide +kernel
theorem dX11_closesWay_19 : decode cX11_closesWay 19 = .ok (.sipush 180, 3) := by decide +kernel
theorem dX11_closesWay_22 : decode cX11_closesWay 22 = .ok (.bipush 6, 2) := by decide +kernel
theorem dX11_closesWay_24 : decode cX11_closesWay 24 = .ok (.iload_n 1, 1) := by decide +kernel
theorem dX11_closesWay_25 : decode cX11_closesWay 25 = .ok (.imul, 1) := by decide +kernel
theorem dX11_closesWay_26 : decode cX11_closesWay 26 = .ok (.iload_n 2, 1) := by decide +kernel
theorem dX11_closesWay_27 : decode cX11_closesWay 27 = .ok (.iadd, 1) := by decide +kernel
theorem dX11_closesWay_28 : decode cX11_closesWay 28 = .ok (.imul, 1) := by decide +kernel
theorem dX11_closesWay_29 : decode cX11_closesWay 29 = .ok (.bipush 6, 2) := by decide +kernel
theorem dX11_closesWay_3 : decode cX11_closesWay 3 = .ok (.iload 4, 2) := by decide +kernel
theorem dX11_closesWay_31 : decode cX11_closesWay 31 = .ok (.iload 4, 2) := by decide +kernel
theorem dX11_closesWay_33 : decode cX11_closesWay 33 = .ok (.imul, 1) := by decide +kernel
theorem dX11_closesWay_34 : decode cX11_closesWay 34 = .ok (.iadd, 1) := by decide +kernel
theorem dX11_closesWay_35 : decode cX11_closesWay 35 = .ok (.aload_n 0, 1) := by decide +kernel
theorem dX11_closesWay_36 : decode cX11_closesWay 36 = .ok (.getfield 255, 3) := by decide +kernel
theorem dX11_closesWay_39 : decode cX11_closesWay 39 = .ok (.iload 4, 2) := by decide +kernel
theorem dX11_closesWay_41 : decode cX11_closesWay 41 = .ok (.iaload, 1) := by decide +kernel
theorem dX11_closesWay_42 : decode cX11_closesWay 42 = .ok (.iadd, 1) := by decide +kernel
theorem dX11_closesWay_43 : decode cX11_closesWay 43 = .ok (.baload, 1) := by decide +kernel
theorem dX11_closesWay_44 : decode cX11_closesWay 44 = .ok (.ifCond .eq 5, 3) := by decide +kernel
theorem dX11_closesWay_47 : decode cX11_closesWay 47 = .ok (.iconst 1, 1) := by decide +kernel
theorem dX11_closesWay_48 : decode cX11_closesWay 48 = .ok (.ireturn, 1) := by decide +kernel
theorem dX11_closesWay_49 : decode cX11_closesWay 49 = .ok (.iinc 4 1, 3) := by decide +kernel
theorem dX11_closesWay_5 : decode cX11_closesWay 5 = .ok (.iload_n 1, 1) := by decide +kernel
theorem dX11_closesWay_52 : decode cX11_closesWay 52 = .ok (.goto (-49), 3) := by decide +kernel
theorem dX11_closesWay_55 : decode cX11_closesWay 55 = .ok (.iconst 0, 1) := by decide +kernel
theorem dX11_closesWay_56 : decode cX11_closesWay 56 = .ok (.ireturn, 1) := by decide +kernel
theorem dX11_closesWay_6 : decode cX11_closesWay 6 = .ok (.if_icmp .ge 49, 3) := by decide +kernel
theorem dX11_closesWay_9 : decode cX11_closesWay 9 = .ok (.iload 4, 2) := by decide +kernel
theorem dX11_copiesClause_0 : decode cX11_copiesClause 0 = .ok (.aload_n 0, 1) := by decide +kernel
theorem dX11_copiesClause_1 : decode cX11_copiesClause 1 = .ok (.getfield 142, 3) := by decide +kernel
theorem dX11_copiesClause_10 : decode cX11_copiesClause 10 = .ok (.iaload, 1) := by decide +kernel
theorem dX11_copiesClause_100 : decode cX11_copiesClause 100 = .ok (.aload_n 0, 1) := by decide +kernel
theorem dX11_copiesClause_101 : decode cX11_copiesClause 101 = .ok (.getfield 152, 3) := by decide +kernel
theorem dX11_copiesClause_104 : decode cX11_copiesClause 104 = .ok (.aload_n 0, 1) := by decide +kernel
theorem dX11_copiesClause_105 : decode cX11_copiesClause 105 = .ok (.iload_n 1, 1) := by decide +kernel
theorem dX11_copiesClause_106 : decode cX11_copiesClause 106 = .ok (.iload_n 3, 1) := by decide +kernel
theorem dX11_copiesClause_107 : decode cX11_copiesClause 107 = .ok (.invokevirtual 149, 3) := by decide +kernel
theorem dX11_copiesClause_11 : decode cX11_copiesClause 11 = .ok (.iastore, 1) := by decide +kernel
theorem dX11_copiesClause_110 : decode cX11_copiesClause 110 = .ok (.iaload, 1) := by decide +kernel
theorem dX11_copiesClause_111 : decode cX11_copiesClause 111 = .ok (.iastore, 1) := by decide +kernel
theorem dX11_copiesClause_112 : decode cX11_copiesClause 112 = .ok (.iinc 3 1, 3) := by decide +kernel
theorem dX11_copiesClause_115 : decode cX11_copiesClause 115 = .ok (.goto (-53), 3) := by decide +kernel
theorem dX11_copiesClause_118 : decode cX11_copiesClause 118 = .ok (.return_, 1) := by decide +kernel
theorem dX11_copiesClause_12 : decode cX11_copiesClause 12 = .ok (.aload_n 0, 1) := by decide +kernel
theorem dX11_copiesClause_13 : decode cX11_copiesClause 13 = .ok (.getfield 102, 3) := by decide +kernel
theorem dX11_copiesClause_16 : decode cX11_copiesClause 16 = .ok (.iload_n 2, 1) := by decide +kernel
theorem dX11_copiesClause_17 : decode cX11_copiesClause 17 = .ok (.aload_n 0, 1) := by decide +kernel
theorem dX11_copiesClause_18 : decode cX11_copiesClause 18 = .ok (.getfield 102, 3) := by decide +kernel
theorem dX11_copiesClause_21 : decode cX11_copiesClause 21 = .ok (.iload_n 1, 1) := by decide +kernel
theorem dX11_copiesClause_22 : decode cX11_copiesClause 22 = .ok (.iaload, 1) := by decide +kernel
theorem dX11_copiesClause_23 : decode cX11_copiesClause 23 = .ok (.iastore, 1) := by decide +kernel
theorem dX11_copiesClause_24 : decode cX11_copiesClause 24 = .ok (.iconst 0, 1) := by decide +kernel
theorem dX11_copiesClause_25 : decode cX11_copiesClause 25 = .ok (.istore_n 3, 1) := by decide +kernel
theorem dX11_copiesClause_26 : decode cX11_copiesClause 26 = .ok (.iload_n 3, 1) := by decide +kernel
theorem dX11_copiesClause_27 : decode cX11_copiesClause 27 = .ok (.bipush 8, 2) := by decide +kernel
theorem dX11_copiesClause_29 : decode cX11_copiesClause 29 = .ok (.if_icmp .ge 31, 3) := by decide +kernel
theorem dX11_copiesClause_32 : decode cX11_copiesClause 32 = .ok (.aload_n 0, 1) := by decide +kernel
theorem dX11_copiesClause_33 : decode cX11_copiesClause 33 = .ok (.getfield 108, 3) := by decide +kernel
theorem dX11_copiesClause_36 : decode cX11_copiesClause 36 = .ok (.bipush 8, 2) := by decide +kernel
theorem dX11_copiesClause_38 : decode cX11_copiesClause 38 = .ok (.iload_n 2, 1) := by decide +kernel
theorem dX11_copiesClause_39 : decode cX11_copiesClause 39 = .ok (.imul, 1) := by decide +kernel
theorem dX11_copiesClause_4 : decode cX11_copiesClause 4 = .ok (.iload_n 2, 1) := by decide +kernel
theorem dX11_copiesClause_40 : decode cX11_copiesClause 40 = .ok (.iload_n 3, 1) := by decide +kernel
theorem dX11_copiesClause_41 : decode cX11_copiesClause 41 = .ok (.iadd, 1) := by decide +kernel
theorem dX11_copiesClause_42 : decode cX11_copiesClause 42 = .ok (.aload_n 0, 1) := by decide +kernel
theorem dX11_copiesClause_43 : decode cX11_copiesClause 43 = .ok (.getfield 108, 3) := by decide +kernel
theorem dX11_copiesClause_46 : decode cX11_copiesClause 46 = .ok (.bipush 8, 2) := by decide +kernel
theorem dX11_copiesClause_48 : decode cX11_copiesClause 48 = .ok (.iload_n 1, 1) := by decide +kernel
theorem dX11_copiesClause_49 : decode cX11_copiesClause 49 = .ok (.imul, 1) := by decide +kernel
theorem dX11_copiesClause_5 : decode cX11_copiesClause 5 = .ok (.aload_n 0, 1) := by decide +kernel
theorem dX11_copiesClause_50 : decode cX11_copiesClause 50 = .ok (.iload_n 3, 1) := by decide +kernel
theorem dX11_copiesClause_51 : decode cX11_copiesClause 51 = .ok (.iadd, 1) := by decide +kernel
theorem dX11_copiesClause_52 : decode cX11_copiesClause 52 = .ok (.iaload, 1) := by decide +kernel
theorem dX11_copiesClause_53 : decode cX11_copiesClause 53 = .ok (.iastore, 1) := by decide +kernel
theorem dX11_copiesClause_54 : decode cX11_copiesClause 54 = .ok (.iinc 3 1, 3) := by decide +kernel
theorem dX11_copiesClause_57 : decode cX11_copiesClause 57 = .ok (.goto (-31), 3) := by decide +kernel
theorem dX11_copiesClause_6 : decode cX11_copiesClause 6 = .ok (.getfield 142, 3) := by decide +kernel
theorem dX11_copiesClause_60 : decode cX11_copiesClause 60 = .ok (.iconst 0, 1) := by decide +kernel
theorem dX11_copiesClause_61 : decode cX11_copiesClause 61 = .ok (.istore_n 3, 1) := by decide +kernel
theorem dX11_copiesClause_62 : decode cX11_copiesClause 62 = .ok (.iload_n 3, 1) := by decide +kernel
theorem dX11_copiesClause_63 : decode cX11_copiesClause 63 = .ok (.bipush 6, 2) := by decide +kernel
theorem dX11_copiesClause_65 : decode cX11_copiesClause 65 = .ok (.if_icmp .ge 53, 3) := by decide +kernel
theorem dX11_copiesClause_68 : decode cX11_copiesClause 68 = .ok (.aload_n 0, 1) := by decide +kernel
theorem dX11_copiesClause_69 : decode cX11_copiesClause 69 = .ok (.getfield 145, 3) := by decide +kernel
theorem dX11_copiesClause_72 : decode cX11_copiesClause 72 = .ok (.aload_n 0, 1) := by decide +kernel
theorem dX11_copiesClause_73 : decode cX11_copiesClause 73 = .ok (.iload_n 2, 1) := by decide +kernel
theorem dX11_copiesClause_74 : decode cX11_copiesClause 74 = .ok (.iload_n 3, 1) := by decide +kernel
theorem dX11_copiesClause_75 : decode cX11_copiesClause 75 = .ok (.invokevirtual 149, 3) := by decide +kernel
theorem dX11_copiesClause_78 : decode cX11_copiesClause 78 = .ok (.aload_n 0, 1) := by decide +kernel
theorem dX11_copiesClause_79 : decode cX11_copiesClause 79 = .ok (.getfield 145, 3) := by decide +kernel
theorem dX11_copiesClause_82 : decode cX11_copiesClause 82 = .ok (.aload_n 0, 1) := by decide +kernel
theorem dX11_copiesClause_83 : decode cX11_copiesClause 83 = .ok (.iload_n 1, 1) := by decide +kernel
theorem dX11_copiesClause_84 : decode cX11_copiesClause 84 = .ok (.iload_n 3, 1) := by decide +kernel
theorem dX11_copiesClause_85 : decode cX11_copiesClause 85 = .ok (.invokevirtual 149, 3) := by decide +kernel
theorem dX11_copiesClause_88 : decode cX11_copiesClause 88 = .ok (.baload, 1) := by decide +kernel
theorem dX11_copiesClause_89 : decode cX11_copiesClause 89 = .ok (.bastore, 1) := by decide +kernel
theorem dX11_copiesClause_9 : decode cX11_copiesClause 9 = .ok (.iload_n 1, 1) := by decide +kernel
theorem dX11_copiesClause_90 : decode cX11_copiesClause 90 = .ok (.aload_n 0, 1) := by decide +kernel
theorem dX11_copiesClause_91 : decode cX11_copiesClause 91 = .ok (.getfield 152, 3) := by decide +kernel
theorem dX11_copiesClause_94 : decode cX11_copiesClause 94 = .ok (.aload_n 0, 1) := by decide +kernel
theorem dX11_copiesClause_95 : decode cX11_copiesClause 95 = .ok (.iload_n 2, 1) := by decide +kernel
theorem dX11_copiesClause_96 : decode cX11_copiesClause 96 = .ok (.iload_n 3, 1) := by decide +kernel
theorem dX11_copiesClause_97 : decode cX11_copiesClause 97 = .ok (.invokevirtual 149, 3) := by decide +kernel
theorem dX11_drop_0 : decode cX11_drop 0 = .ok (.aload_n 0, 1) := by decide +kernel
theorem dX11_drop_1 : decode cX11_drop 1 = .ok (.iconst 0, 1) := by decide +kernel
theorem dX11_drop_10 : decode cX11_drop 10 = .ok (.ifCond .ne 5, 3) := by decide +kernel
theorem dX11_drop_13 : decode cX11_drop 13 = .ok (.iconst 0, 1) := by decide +kernel
theorem dX11_drop_14 : decode cX11_drop 14 = .ok (.ireturn, 1) := by decide +kernel
theorem dX11_drop_15 : decode cX11_drop 15 = .ok (.iload_n 1, 1) := by decide +kernel
theorem dX11_drop_16 : decode cX11_drop 16 = .ok (.istore_n 2, 1) := by decide +kernel
theorem dX11_drop_17 : decode cX11_drop 17 = .ok (.iload_n 2, 1) := by decide +kernel
theorem dX11_drop_18 : decode cX11_drop 18 = .ok (.iconst 1, 1) := by decide +kernel
theorem dX11_drop_19 : decode cX11_drop 19 = .ok (.iadd, 1) := by decide +kernel
theorem dX11_drop_2 : decode cX11_drop 2 = .ok (.putfield 1, 3) := by decide +kernel
theorem dX11_drop_20 : decode cX11_drop 20 = .ok (.aload_n 0, 1) := by decide +kernel
theorem dX11_drop_21 : decode cX11_drop 21 = .ok (.getfield 164, 3) := by decide +kernel
theorem dX11_drop_24 : decode cX11_drop 24 = .ok (.if_icmp .ge 17, 3) := by decide +kernel
theorem dX11_drop_27 : decode cX11_drop 27 = .ok (.aload_n 0, 1) := by decide +kernel
theorem dX11_drop_28 : decode cX11_drop 28 = .ok (.iload_n 2, 1) := by decide +kernel
theorem dX11_drop_29 : decode cX11_drop 29 = .ok (.iconst 1, 1) := by decide +kernel
theorem dX11_drop_30 : decode cX11_drop 30 = .ok (.iadd, 1) := by decide +kernel
theorem dX11_drop_31 : decode cX11_drop 31 = .ok (.iload_n 2, 1) := by decide +kernel
theorem dX11_drop_32 : decode cX11_drop 32 = .ok (.invokevirtual 167, 3) := by decide +kernel
theorem dX11_drop_35 : decode cX11_drop 35 = .ok (.iinc 2 1, 3) := by decide +kernel
theorem dX11_drop_38 : decode cX11_drop 38 = .ok (.goto (-21), 3) := by decide +kernel
theorem dX11_drop_41 : decode cX11_drop 41 = .ok (.aload_n 0, 1) := by decide +kernel
theorem dX11_drop_42 : decode cX11_drop 42 = .ok (.aload_n 0, 1) := by decide +kernel
theorem dX11_drop_43 : decode cX11_drop 43 = .ok (.getfield 164, 3) := by decide +kernel
theorem dX11_drop_46 : decode cX11_drop 46 = .ok (.iconst 1, 1) := by decide +kernel
theorem dX11_drop_47 : decode cX11_drop 47 = .ok (.isub, 1) := by decide +kernel
theorem dX11_drop_48 : decode cX11_drop 48 = .ok (.putfield 164, 3) := by decide +kernel
theorem dX11_drop_5 : decode cX11_drop 5 = .ok (.aload_n 0, 1) := by decide +kernel
theorem dX11_drop_51 : decode cX11_drop 51 = .ok (.aload_n 0, 1) := by decide +kernel
theorem dX11_drop_52 : decode cX11_drop 52 = .ok (.invokevirtual 171, 3) := by decide +kernel
theorem dX11_drop_55 : decode cX11_drop 55 = .ok (.iconst 1, 1) := by decide +kernel
theorem dX11_drop_56 : decode cX11_drop 56 = .ok (.ireturn, 1) := by decide +kernel
theorem dX11_drop_6 : decode cX11_drop 6 = .ok (.iload_n 1, 1) := by decide +kernel
theorem dX11_drop_7 : decode cX11_drop 7 = .ok (.invokevirtual 174, 3) := by decide +kernel
theorem dX11_end_0 : decode cX11_end 0 = .ok (.aload_n 0, 1) := by decide +kernel
theorem dX11_end_1 : decode cX11_end 1 = .ok (.iconst 0, 1) := by decide +kernel
theorem dX11_end_10 : decode cX11_end 10 = .ok (.getfield 38, 3) := by decide +kernel
theorem dX11_end_13 : decode cX11_end 13 = .ok (.i2l, 1) := by decide +kernel
theorem dX11_end_14 : decode cX11_end 14 = .ok (.invokevirtual 49, 3) := by decide +kernel
theorem dX11_end_17 : decode cX11_end 17 = .ok (.ifCond .ne 5, 3) := by decide +kernel
theorem dX11_end_2 : decode cX11_end 2 = .ok (.putfield 1, 3) := by decide +kernel
theorem dX11_end_20 : decode cX11_end 20 = .ok (.iconst 0, 1) := by decide +kernel
theorem dX11_end_21 : decode cX11_end 21 = .ok (.ireturn, 1) := by decide +kernel
theorem dX11_end_22 : decode cX11_end 22 = .ok (.aload_n 0, 1) := by decide +kernel
theorem dX11_end_23 : decode cX11_end 23 = .ok (.iload_n 1, 1) := by decide +kernel
theorem dX11_end_24 : decode cX11_end 24 = .ok (.putfield 38, 3) := by decide +kernel
theorem dX11_end_27 : decode cX11_end 27 = .ok (.iconst 1, 1) := by decide +kernel
theorem dX11_end_28 : decode cX11_end 28 = .ok (.ireturn, 1) := by decide +kernel
theorem dX11_end_5 : decode cX11_end 5 = .ok (.aload_n 0, 1) := by decide +kernel
theorem dX11_end_6 : decode cX11_end 6 = .ok (.iload_n 1, 1) := by decide +kernel
theorem dX11_end_7 : decode cX11_end 7 = .ok (.i2l, 1) := by decide +kernel
theorem dX11_end_8 : decode cX11_end 8 = .ok (.lconst 0, 1) := by decide +kernel
theorem dX11_end_9 : decode cX11_end 9 = .ok (.aload_n 0, 1) := by decide +kernel
theorem dX11_fault_0 : decode cX11_fault 0 = .ok (.aload_n 0, 1) := by decide +kernel
theorem dX11_fault_1 : decode cX11_fault 1 = .ok (.iconst 0, 1) := by decide +kernel
theorem dX11_fault_10 : decode cX11_fault 10 = .ok (.getfield 65, 3) := by decide +kernel
theorem dX11_fault_13 : decode cX11_fault 13 = .ok (.goto 16, 3) := by decide +kernel
theorem dX11_fault_16 : decode cX11_fault 16 = .ok (.iload_n 1, 1) := by decide +kernel
theorem dX11_fault_17 : decode cX11_fault 17 = .ok (.iconst 1, 1) := by decide +kernel
theorem dX11_fault_18 : decode cX11_fault 18 = .ok (.if_icmp .ne 10, 3) := by decide +kernel
theorem dX11_fault_2 : decode cX11_fault 2 = .ok (.putfield 1, 3) := by decide +kernel
theorem dX11_fault_21 : decode cX11_fault 21 = .ok (.aload_n 0, 1) := by decide +kernel
theorem dX11_fault_22 : decode cX11_fault 22 = .ok (.getfield 71, 3) := by decide +kernel
theorem dX11_fault_25 : decode cX11_fault 25 = .ok (.goto 4, 3) := by decide +kernel
theorem dX11_fault_28 : decode cX11_fault 28 = .ok (.iconst (-1), 1) := by decide +kernel
theorem dX11_fault_29 : decode cX11_fault 29 = .ok (.ireturn, 1) := by decide +kernel
theorem dX11_fault_5 : decode cX11_fault 5 = .ok (.iload_n 1, 1) := by decide +kernel
theorem dX11_fault_6 : decode cX11_fault 6 = .ok (.ifCond .ne 10, 3) := by decide +kernel
theorem dX11_fault_9 : decode cX11_fault 9 = .ok (.aload_n 0, 1) := by decide +kernel
theorem dX11_feed_0 : decode cX11_feed 0 = .ok (.aload_n 0, 1) := by decide +kernel
theorem dX11_feed_1 : decode cX11_feed 1 = .ok (.iconst 0, 1) := by decide +kernel
theorem dX11_feed_100 : decode cX11_feed 100 = .ok (.bastore, 1) := by decide +kernel
theorem dX11_feed_101 : decode cX11_feed 101 = .ok (.aload_n 0, 1) := by decide +kernel
theorem dX11_feed_102 : decode cX11_feed 102 = .ok (.aload_n 0, 1) := by decide +kernel
theorem dX11_feed_103 : decode cX11_feed 103 = .ok (.getfield 38, 3) := by decide +kernel
theorem dX11_feed_106 : decode cX11_feed 106 = .ok (.iconst 1, 1) := by decide +kernel
theorem dX11_feed_107 : decode cX11_feed 107 = .ok (.iadd, 1) := by decide +kernel
theorem dX11_feed_108 : decode cX11_feed 108 = .ok (.putfield 38, 3) := by decide +kernel
theorem dX11_feed_11 : decode cX11_feed 11 = .ok (.iadd, 1) := by decide +kernel
theorem dX11_feed_111 : decode cX11_feed 111 = .ok (.iinc 6 1, 3) := by decide +kernel
theorem dX11_feed_114 : decode cX11_feed 114 = .ok (.goto (-91), 3) := by decide +kernel
theorem dX11_feed_117 : decode cX11_feed 117 = .ok (.aload_n 0, 1) := by decide +kernel
theorem dX11_feed_118 : decode cX11_feed 118 = .ok (.getfield 38, 3) := by decide +kernel
theorem dX11_feed_12 : decode cX11_feed 12 = .ok (.sipush 600, 3) := by decide +kernel
theorem dX11_feed_121 : decode cX11_feed 121 = .ok (.ireturn, 1) := by decide +kernel
theorem dX11_feed_15 : decode cX11_feed 15 = .ok (.if_icmp .le 5, 3) := by decide +kernel
theorem dX11_feed_18 : decode cX11_feed 18 = .ok (.iconst (-1), 1) := by decide +kernel
theorem dX11_feed_19 : decode cX11_feed 19 = .ok (.ireturn, 1) := by decide +kernel
theorem dX11_feed_2 : decode cX11_feed 2 = .ok (.putfield 1, 3) := by decide +kernel
theorem dX11_feed_20 : decode cX11_feed 20 = .ok (.iconst 0, 1) := by decide +kernel
theorem dX11_feed_21 : decode cX11_feed 21 = .ok (.istore 6, 2) := by decide +kernel
theorem dX11_feed_23 : decode cX11_feed 23 = .ok (.iload 6, 2) := by decide +kernel
theorem dX11_feed_25 : decode cX11_feed 25 = .ok (.bipush 20, 2) := by decide +kernel
theorem dX11_feed_27 : decode cX11_feed 27 = .ok (.if_icmp .ge 90, 3) := by decide +kernel
theorem dX11_feed_30 : decode cX11_feed 30 = .ok (.iload 6, 2) := by decide +kernel
theorem dX11_feed_32 : decode cX11_feed 32 = .ok (.iconst 4, 1) := by decide +kernel
theorem dX11_feed_33 : decode cX11_feed 33 = .ok (.if_icmp .ge 7, 3) := by decide +kernel
theorem dX11_feed_36 : decode cX11_feed 36 = .ok (.iload_n 1, 1) := by decide +kernel
theorem dX11_feed_37 : decode cX11_feed 37 = .ok (.goto 39, 3) := by decide +kernel
theorem dX11_feed_40 : decode cX11_feed 40 = .ok (.iload 6, 2) := by decide +kernel
theorem dX11_feed_42 : decode cX11_feed 42 = .ok (.bipush 8, 2) := by decide +kernel
theorem dX11_feed_44 : decode cX11_feed 44 = .ok (.if_icmp .ge 7, 3) := by decide +kernel
theorem dX11_feed_47 : decode cX11_feed 47 = .ok (.iload_n 2, 1) := by decide +kernel
theorem dX11_feed_48 : decode cX11_feed 48 = .ok (.goto 28, 3) := by decide +kernel
theorem dX11_feed_5 : decode cX11_feed 5 = .ok (.aload_n 0, 1) := by decide +kernel
theorem dX11_feed_51 : decode cX11_feed 51 = .ok (.iload 6, 2) := by decide +kernel
theorem dX11_feed_53 : decode cX11_feed 53 = .ok (.bipush 12, 2) := by decide +kernel
theorem dX11_feed_55 : decode cX11_feed 55 = .ok (.if_icmp .ge 7, 3) := by decide +kernel
theorem dX11_feed_58 : decode cX11_feed 58 = .ok (.iload_n 3, 1) := by decide +kernel
theorem dX11_feed_59 : decode cX11_feed 59 = .ok (.goto 17, 3) := by decide +kernel
theorem dX11_feed_6 : decode cX11_feed 6 = .ok (.getfield 38, 3) := by decide +kernel
theorem dX11_feed_62 : decode cX11_feed 62 = .ok (.iload 6, 2) := by decide +kernel
theorem dX11_feed_64 : decode cX11_feed 64 = .ok (.bipush 16, 2) := by decide +kernel
theorem dX11_feed_66 : decode cX11_feed 66 = .ok (.if_icmp .ge 8, 3) := by decide +kernel
theorem dX11_feed_69 : decode cX11_feed 69 = .ok (.iload 4, 2) := by decide +kernel
theorem dX11_feed_71 : decode cX11_feed 71 = .ok (.goto 5, 3) := by decide +kernel
theorem dX11_feed_74 : decode cX11_feed 74 = .ok (.iload 5, 2) := by decide +kernel
theorem dX11_feed_76 : decode cX11_feed 76 = .ok (.istore 7, 2) := by decide +kernel
theorem dX11_feed_78 : decode cX11_feed 78 = .ok (.aload_n 0, 1) := by decide +kernel
theorem dX11_feed_79 : decode cX11_feed 79 = .ok (.getfield 41, 3) := by decide +kernel
theorem dX11_feed_82 : decode cX11_feed 82 = .ok (.aload_n 0, 1) := by decide +kernel
theorem dX11_feed_83 : decode cX11_feed 83 = .ok (.getfield 38, 3) := by decide +kernel
theorem dX11_feed_86 : decode cX11_feed 86 = .ok (.iload 7, 2) := by decide +kernel
theorem dX11_feed_88 : decode cX11_feed 88 = .ok (.bipush 24, 2) := by decide +kernel
theorem dX11_feed_9 : decode cX11_feed 9 = .ok (.bipush 20, 2) := by decide +kernel
theorem dX11_feed_90 : decode cX11_feed 90 = .ok (.bipush 8, 2) := by decide +kernel
theorem dX11_feed_92 : decode cX11_feed 92 = .ok (.iload 6, 2) := by decide +kernel
theorem dX11_feed_94 : decode cX11_feed 94 = .ok (.iconst 4, 1) := by decide +kernel
theorem dX11_feed_95 : decode cX11_feed 95 = .ok (.irem, 1) := by decide +kernel
theorem dX11_feed_96 : decode cX11_feed 96 = .ok (.imul, 1) := by decide +kernel
theorem dX11_feed_97 : decode cX11_feed 97 = .ok (.isub, 1) := by decide +kernel
theorem dX11_feed_98 : decode cX11_feed 98 = .ok (.ishr, 1) := by decide +kernel
theorem dX11_feed_99 : decode cX11_feed 99 = .ok (.i2b, 1) := by decide +kernel
theorem dX11_forgets_0 : decode cX11_forgets 0 = .ok (.aload_n 0, 1) := by decide +kernel
theorem dX11_forgets_1 : decode cX11_forgets 1 = .ok (.iconst 0, 1) := by decide +kernel
theorem dX11_forgets_10 : decode cX11_forgets 10 = .ok (.return_, 1) := by decide +kernel
theorem dX11_forgets_2 : decode cX11_forgets 2 = .ok (.putfield 410, 3) := by decide +kernel
theorem dX11_forgets_5 : decode cX11_forgets 5 = .ok (.aload_n 0, 1) := by decide +kernel
theorem dX11_forgets_6 : decode cX11_forgets 6 = .ok (.iconst 0, 1) := by decide +kernel
theorem dX11_forgets_7 : decode cX11_forgets 7 = .ok (.putfield 413, 3) := by decide +kernel
theorem dX11_instance_0 : decode cX11_instance 0 = .ok (.aload_n 0, 1) := by decide +kernel
theorem dX11_instance_1 : decode cX11_instance 1 = .ok (.iconst 0, 1) := by decide +kernel
theorem dX11_instance_12 : decode cX11_instance 12 = .ok (.iload_n 1, 1) := by decide +kernel
theorem dX11_instance_13 : decode cX11_instance 13 = .ok (.iconst (-1), 1) := by decide +kernel
theorem dX11_instance_14 : decode cX11_instance 14 = .ok (.if_icmp .ne 8, 3) := by decide +kernel
theorem dX11_instance_17 : decode cX11_instance 17 = .ok (.aload_n 0, 1) := by decide +kernel
theorem dX11_instance_18 : decode cX11_instance 18 = .ok (.getfield 397, 3) := by decide +kernel
theorem dX11_instance_2 : decode cX11_instance 2 = .ok (.putfield 1, 3) := by decide +kernel
theorem dX11_instance_21 : decode cX11_instance 21 = .ok (.ireturn, 1) := by decide +kernel
theorem dX11_instance_22 : decode cX11_instance 22 = .ok (.aload_n 0, 1) := by decide +kernel
theorem dX11_instance_23 : decode cX11_instance 23 = .ok (.iload_n 1, 1) := by decide +kernel
theorem dX11_instance_24 : decode cX11_instance 24 = .ok (.invokevirtual 440, 3) := by decide +kernel
theorem dX11_instance_27 : decode cX11_instance 27 = .ok (.ifCond .eq 12, 3) := by decide +kernel
theorem dX11_instance_30 : decode cX11_instance 30 = .ok (.aload_n 0, 1) := by decide +kernel
theorem dX11_instance_31 : decode cX11_instance 31 = .ok (.getfield 204, 3) := by decide +kernel
theorem dX11_instance_34 : decode cX11_instance 34 = .ok (.iload_n 1, 1) := by decide +kernel
theorem dX11_instance_35 : decode cX11_instance 35 = .ok (.iaload, 1) := by decide +kernel
theorem dX11_instance_36 : decode cX11_instance 36 = .ok (.goto 4, 3) := by decide +kernel
theorem dX11_instance_39 : decode cX11_instance 39 = .ok (.iconst (-1), 1) := by decide +kernel
theorem dX11_instance_40 : decode cX11_instance 40 = .ok (.ireturn, 1) := by decide +kernel
theorem dX11_instance_5 : decode cX11_instance 5 = .ok (.aload_n 0, 1) := by decide +kernel
theorem dX11_instance_6 : decode cX11_instance 6 = .ok (.getfield 410, 3) := by decide +kernel
theorem dX11_instance_9 : decode cX11_instance 9 = .ok (.ifCond .eq 13, 3) := by decide +kernel
theorem dX11_isClause_0 : decode cX11_isClause 0 = .ok (.aload_n 0, 1) := by decide +kernel
theorem dX11_isClause_1 : decode cX11_isClause 1 = .ok (.iload_n 1, 1) := by decide +kernel
theorem dX11_isClause_10 : decode cX11_isClause 10 = .ok (.lsub, 1) := by decide +kernel
theorem dX11_isClause_11 : decode cX11_isClause 11 = .ok (.invokevirtual 49, 3) := by decide +kernel
theorem dX11_isClause_14 : decode cX11_isClause 14 = .ok (.ireturn, 1) := by decide +kernel
theorem dX11_isClause_2 : decode cX11_isClause 2 = .ok (.i2l, 1) := by decide +kernel
theorem dX11_isClause_3 : decode cX11_isClause 3 = .ok (.lconst 0, 1) := by decide +kernel
theorem dX11_isClause_4 : decode cX11_isClause 4 = .ok (.aload_n 0, 1) := by decide +kernel
theorem dX11_isClause_5 : decode cX11_isClause 5 = .ok (.getfield 164, 3) := by decide +kernel
theorem dX11_isClause_8 : decode cX11_isClause 8 = .ok (.i2l, 1) := by decide +kernel
theorem dX11_isClause_9 : decode cX11_isClause 9 = .ok (.lconst 1, 1) := by decide +kernel
theorem dX11_isInstance_0 : decode cX11_isInstance 0 = .ok (.aload_n 0, 1) := by decide +kernel
theorem dX11_isInstance_1 : decode cX11_isInstance 1 = .ok (.getfield 410, 3) := by decide +kernel
theorem dX11_isInstance_10 : decode cX11_isInstance 10 = .ok (.lconst 0, 1) := by decide +kernel
theorem dX11_isInstance_11 : decode cX11_isInstance 11 = .ok (.aload_n 0, 1) := by decide +kernel
theorem dX11_isInstance_12 : decode cX11_isInstance 12 = .ok (.getfield 397, 3) := by decide +kernel
theorem dX11_isInstance_15 : decode cX11_isInstance 15 = .ok (.i2l, 1) := by decide +kernel
theorem dX11_isInstance_16 : decode cX11_isInstance 16 = .ok (.lconst 1, 1) := by decide +kernel
theorem dX11_isInstance_17 : decode cX11_isInstance 17 = .ok (.lsub, 1) := by decide +kernel
theorem dX11_isInstance_18 : decode cX11_isInstance 18 = .ok (.invokevirtual 49, 3) := by decide +kernel
theorem dX11_isInstance_21 : decode cX11_isInstance 21 = .ok (.ifCond .eq 7, 3) := by decide +kernel
theorem dX11_isInstance_24 : decode cX11_isInstance 24 = .ok (.iconst 1, 1) := by decide +kernel
theorem dX11_isInstance_25 : decode cX11_isInstance 25 = .ok (.goto 4, 3) := by decide +kernel
theorem dX11_isInstance_28 : decode cX11_isInstance 28 = .ok (.iconst 0, 1) := by decide +kernel
theorem dX11_isInstance_29 : decode cX11_isInstance 29 = .ok (.ireturn, 1) := by decide +kernel
theorem dX11_isInstance_4 : decode cX11_isInstance 4 = .ok (.ifCond .eq 24, 3) := by decide +kernel
theorem dX11_isInstance_7 : decode cX11_isInstance 7 = .ok (.aload_n 0, 1) := by decide +kernel
theorem dX11_isInstance_8 : decode cX11_isInstance 8 = .ok (.iload_n 1, 1) := by decide +kernel
theorem dX11_isInstance_9 : decode cX11_isInstance 9 = .ok (.i2l, 1) := by decide +kernel
theorem dX11_isLiteral_0 : decode cX11_isLiteral 0 = .ok (.aload_n 0, 1) := by decide +kernel
theorem dX11_isLiteral_1 : decode cX11_isLiteral 1 = .ok (.iload_n 1, 1) := by decide +kernel
theorem dX11_isLiteral_10 : decode cX11_isLiteral 10 = .ok (.i2l, 1) := by decide +kernel
theorem dX11_isLiteral_11 : decode cX11_isLiteral 11 = .ok (.lconst 0, 1) := by decide +kernel
theorem dX11_isLiteral_12 : decode cX11_isLiteral 12 = .ok (.aload_n 0, 1) := by decide +kernel
theorem dX11_isLiteral_13 : decode cX11_isLiteral 13 = .ok (.getfield 142, 3) := by decide +kernel
theorem dX11_isLiteral_16 : decode cX11_isLiteral 16 = .ok (.iload_n 1, 1) := by decide +kernel
theorem dX11_isLiteral_17 : decode cX11_isLiteral 17 = .ok (.iaload, 1) := by decide +kernel
theorem dX11_isLiteral_18 : decode cX11_isLiteral 18 = .ok (.i2l, 1) := by decide +kernel
theorem dX11_isLiteral_19 : decode cX11_isLiteral 19 = .ok (.lconst 1, 1) := by decide +kernel
theorem dX11_isLiteral_2 : decode cX11_isLiteral 2 = .ok (.invokevirtual 174, 3) := by decide +kernel
theorem dX11_isLiteral_20 : decode cX11_isLiteral 20 = .ok (.lsub, 1) := by decide +kernel
theorem dX11_isLiteral_21 : decode cX11_isLiteral 21 = .ok (.invokevirtual 49, 3) := by decide +kernel
theorem dX11_isLiteral_24 : decode cX11_isLiteral 24 = .ok (.ifCond .eq 7, 3) := by decide +kernel
theorem dX11_isLiteral_27 : decode cX11_isLiteral 27 = .ok (.iconst 1, 1) := by decide +kernel
theorem dX11_isLiteral_28 : decode cX11_isLiteral 28 = .ok (.goto 4, 3) := by decide +kernel
theorem dX11_isLiteral_31 : decode cX11_isLiteral 31 = .ok (.iconst 0, 1) := by decide +kernel
theorem dX11_isLiteral_32 : decode cX11_isLiteral 32 = .ok (.ireturn, 1) := by decide +kernel
theorem dX11_isLiteral_5 : decode cX11_isLiteral 5 = .ok (.ifCond .eq 26, 3) := by decide +kernel
theorem dX11_isLiteral_8 : decode cX11_isLiteral 8 = .ok (.aload_n 0, 1) := by decide +kernel
theorem dX11_isLiteral_9 : decode cX11_isLiteral 9 = .ok (.iload_n 2, 1) := by decide +kernel
theorem dX11_leaves_0 : decode cX11_leaves 0 = .ok (.iconst 4, 1) := by decide +kernel
theorem dX11_leaves_1 : decode cX11_leaves 1 = .ok (.iload_n 1, 1) := by decide +kernel
theorem dX11_leaves_12 : decode cX11_leaves 12 = .ok (.imul, 1) := by decide +kernel
theorem dX11_leaves_13 : decode cX11_leaves 13 = .ok (.if_icmp .ge 23, 3) := by decide +kernel
theorem dX11_leaves_16 : decode cX11_leaves 16 = .ok (.aload_n 0, 1) := by decide +kernel
theorem dX11_leaves_17 : decode cX11_leaves 17 = .ok (.getfield 240, 3) := by decide +kernel
theorem dX11_leaves_2 : decode cX11_leaves 2 = .ok (.imul, 1) := by decide +kernel
theorem dX11_leaves_20 : decode cX11_leaves 20 = .ok (.iload_n 2, 1) := by decide +kernel
theorem dX11_leaves_21 : decode cX11_leaves 21 = .ok (.aload_n 0, 1) := by decide +kernel
theorem dX11_leaves_22 : decode cX11_leaves 22 = .ok (.getfield 240, 3) := by decide +kernel
theorem dX11_leaves_25 : decode cX11_leaves 25 = .ok (.iload_n 2, 1) := by decide +kernel
theorem dX11_leaves_26 : decode cX11_leaves 26 = .ok (.iconst 4, 1) := by decide +kernel
theorem dX11_leaves_27 : decode cX11_leaves 27 = .ok (.iadd, 1) := by decide +kernel
theorem dX11_leaves_28 : decode cX11_leaves 28 = .ok (.iaload, 1) := by decide +kernel
theorem dX11_leaves_29 : decode cX11_leaves 29 = .ok (.iastore, 1) := by decide +kernel
theorem dX11_leaves_3 : decode cX11_leaves 3 = .ok (.istore_n 2, 1) := by decide +kernel
theorem dX11_leaves_30 : decode cX11_leaves 30 = .ok (.iinc 2 1, 3) := by decide +kernel
theorem dX11_leaves_33 : decode cX11_leaves 33 = .ok (.goto (-29), 3) := by decide +kernel
theorem dX11_leaves_36 : decode cX11_leaves 36 = .ok (.aload_n 0, 1) := by decide +kernel
theorem dX11_leaves_37 : decode cX11_leaves 37 = .ok (.aload_n 0, 1) := by decide +kernel
theorem dX11_leaves_38 : decode cX11_leaves 38 = .ok (.getfield 413, 3) := by decide +kernel
theorem dX11_leaves_4 : decode cX11_leaves 4 = .ok (.iload_n 2, 1) := by decide +kernel
theorem dX11_leaves_41 : decode cX11_leaves 41 = .ok (.iconst 1, 1) := by decide +kernel
theorem dX11_leaves_42 : decode cX11_leaves 42 = .ok (.isub, 1) := by decide +kernel
theorem dX11_leaves_43 : decode cX11_leaves 43 = .ok (.putfield 413, 3) := by decide +kernel
theorem dX11_leaves_46 : decode cX11_leaves 46 = .ok (.return_, 1) := by decide +kernel
theorem dX11_leaves_5 : decode cX11_leaves 5 = .ok (.iconst 4, 1) := by decide +kernel
theorem dX11_leaves_6 : decode cX11_leaves 6 = .ok (.iadd, 1) := by decide +kernel
theorem dX11_leaves_7 : decode cX11_leaves 7 = .ok (.iconst 4, 1) := by decide +kernel
theorem dX11_leaves_8 : decode cX11_leaves 8 = .ok (.aload_n 0, 1) := by decide +kernel
theorem dX11_leaves_9 : decode cX11_leaves 9 = .ok (.getfield 413, 3) := by decide +kernel
theorem dX11_literals_0 : decode cX11_literals 0 = .ok (.iconst 0, 1) := by decide +kernel
theorem dX11_literals_1 : decode cX11_literals 1 = .ok (.istore_n 1, 1) := by decide +kernel
theorem dX11_literals_12 : decode cX11_literals 12 = .ok (.iload_n 1, 1) := by decide +kernel
theorem dX11_literals_13 : decode cX11_literals 13 = .ok (.aload_n 0, 1) := by decide +kernel
theorem dX11_literals_14 : decode cX11_literals 14 = .ok (.getfield 142, 3) := by decide +kernel
theorem dX11_literals_17 : decode cX11_literals 17 = .ok (.iload_n 2, 1) := by decide +kernel
theorem dX11_literals_18 : decode cX11_literals 18 = .ok (.iaload, 1) := by decide +kernel
theorem dX11_literals_19 : decode cX11_literals 19 = .ok (.iadd, 1) := by decide +kernel
theorem dX11_literals_2 : decode cX11_literals 2 = .ok (.iconst 0, 1) := by decide +kernel
theorem dX11_literals_20 : decode cX11_literals 20 = .ok (.istore_n 1, 1) := by decide +kernel
theorem dX11_literals_21 : decode cX11_literals 21 = .ok (.iinc 2 1, 3) := by decide +kernel
theorem dX11_literals_24 : decode cX11_literals 24 = .ok (.goto (-20), 3) := by decide +kernel
theorem dX11_literals_27 : decode cX11_literals 27 = .ok (.iload_n 1, 1) := by decide +kernel
theorem dX11_literals_28 : decode cX11_literals 28 = .ok (.ireturn, 1) := by decide +kernel
theorem dX11_literals_3 : decode cX11_literals 3 = .ok (.istore_n 2, 1) := by decide +kernel
theorem dX11_literals_4 : decode cX11_literals 4 = .ok (.iload_n 2, 1) := by decide +kernel
theorem dX11_literals_5 : decode cX11_literals 5 = .ok (.aload_n 0, 1) := by decide +kernel
theorem dX11_literals_6 : decode cX11_literals 6 = .ok (.getfield 164, 3) := by decide +kernel
theorem dX11_literals_9 : decode cX11_literals 9 = .ok (.if_icmp .ge 18, 3) := by decide +kernel
theorem dX11_out_0 : decode cX11_out 0 = .ok (.aload_n 0, 1) := by decide +kernel
theorem dX11_out_1 : decode cX11_out 1 = .ok (.iconst 0, 1) := by decide +kernel
theorem dX11_out_10 : decode cX11_out 10 = .ok (.getfield 462, 3) := by decide +kernel
theorem dX11_out_13 : decode cX11_out 13 = .ok (.i2l, 1) := by decide +kernel
theorem dX11_out_14 : decode cX11_out 14 = .ok (.lconst 1, 1) := by decide +kernel
theorem dX11_out_15 : decode cX11_out 15 = .ok (.lsub, 1) := by decide +kernel
theorem dX11_out_16 : decode cX11_out 16 = .ok (.invokevirtual 49, 3) := by decide +kernel
theorem dX11_out_19 : decode cX11_out 19 = .ok (.ifCond .eq 12, 3) := by decide +kernel
theorem dX11_out_2 : decode cX11_out 2 = .ok (.putfield 1, 3) := by decide +kernel
theorem dX11_out_22 : decode cX11_out 22 = .ok (.aload_n 0, 1) := by decide +kernel
theorem dX11_out_23 : decode cX11_out 23 = .ok (.getfield 243, 3) := by decide +kernel
theorem dX11_out_26 : decode cX11_out 26 = .ok (.iload_n 1, 1) := by decide +kernel
theorem dX11_out_27 : decode cX11_out 27 = .ok (.iaload, 1) := by decide +kernel
theorem dX11_out_28 : decode cX11_out 28 = .ok (.goto 4, 3) := by decide +kernel
theorem dX11_out_31 : decode cX11_out 31 = .ok (.iconst (-1), 1) := by decide +kernel
theorem dX11_out_32 : decode cX11_out 32 = .ok (.ireturn, 1) := by decide +kernel
theorem dX11_out_5 : decode cX11_out 5 = .ok (.aload_n 0, 1) := by decide +kernel
theorem dX11_out_6 : decode cX11_out 6 = .ok (.iload_n 1, 1) := by decide +kernel
theorem dX11_out_7 : decode cX11_out 7 = .ok (.i2l, 1) := by decide +kernel
theorem dX11_out_8 : decode cX11_out 8 = .ok (.lconst 0, 1) := by decide +kernel
theorem dX11_out_9 : decode cX11_out 9 = .ok (.aload_n 0, 1) := by decide +kernel
theorem dX11_positives_0 : decode cX11_positives 0 = .ok (.iconst 0, 1) := by decide +kernel
theorem dX11_positives_1 : decode cX11_positives 1 = .ok (.istore_n 2, 1) := by decide +kernel
theorem dX11_positives_10 : decode cX11_positives 10 = .ok (.iaload, 1) := by decide +kernel
theorem dX11_positives_11 : decode cX11_positives 11 = .ok (.if_icmp .ge 33, 3) := by decide +kernel
theorem dX11_positives_14 : decode cX11_positives 14 = .ok (.aload_n 0, 1) := by decide +kernel
theorem dX11_positives_15 : decode cX11_positives 15 = .ok (.getfield 145, 3) := by decide +kernel
theorem dX11_positives_18 : decode cX11_positives 18 = .ok (.aload_n 0, 1) := by decide +kernel
theorem dX11_positives_19 : decode cX11_positives 19 = .ok (.iload_n 1, 1) := by decide +kernel
theorem dX11_positives_2 : decode cX11_positives 2 = .ok (.iconst 0, 1) := by decide +kernel
theorem dX11_positives_20 : decode cX11_positives 20 = .ok (.iload_n 3, 1) := by decide +kernel
theorem dX11_positives_21 : decode cX11_positives 21 = .ok (.invokevirtual 149, 3) := by decide +kernel
theorem dX11_positives_24 : decode cX11_positives 24 = .ok (.baload, 1) := by decide +kernel
theorem dX11_positives_25 : decode cX11_positives 25 = .ok (.ifCond .eq 7, 3) := by decide +kernel
theorem dX11_positives_28 : decode cX11_positives 28 = .ok (.iload_n 2, 1) := by decide +kernel
theorem dX11_positives_29 : decode cX11_positives 29 = .ok (.goto 8, 3) := by decide +kernel
theorem dX11_positives_3 : decode cX11_positives 3 = .ok (.istore_n 3, 1) := by decide +kernel
theorem dX11_positives_32 : decode cX11_positives 32 = .ok (.iload_n 2, 1) := by decide +kernel
theorem dX11_positives_33 : decode cX11_positives 33 = .ok (.iconst 1, 1) := by decide +kernel
theorem dX11_positives_34 : decode cX11_positives 34 = .ok (.iload_n 3, 1) := by decide +kernel
theorem dX11_positives_35 : decode cX11_positives 35 = .ok (.ishl, 1) := by decide +kernel
theorem dX11_positives_36 : decode cX11_positives 36 = .ok (.ior, 1) := by decide +kernel
theorem dX11_positives_37 : decode cX11_positives 37 = .ok (.istore_n 2, 1) := by decide +kernel
theorem dX11_positives_38 : decode cX11_positives 38 = .ok (.iinc 3 1, 3) := by decide +kernel
theorem dX11_positives_4 : decode cX11_positives 4 = .ok (.iload_n 3, 1) := by decide +kernel
theorem dX11_positives_41 : decode cX11_positives 41 = .ok (.goto (-37), 3) := by decide +kernel
theorem dX11_positives_44 : decode cX11_positives 44 = .ok (.iload_n 2, 1) := by decide +kernel
theorem dX11_positives_45 : decode cX11_positives 45 = .ok (.ireturn, 1) := by decide +kernel
theorem dX11_positives_5 : decode cX11_positives 5 = .ok (.aload_n 0, 1) := by decide +kernel
theorem dX11_positives_6 : decode cX11_positives 6 = .ok (.getfield 142, 3) := by decide +kernel
theorem dX11_positives_9 : decode cX11_positives 9 = .ok (.iload_n 1, 1) := by decide +kernel
theorem dX11_says_0 : decode cX11_says 0 = .ok (.aload_n 0, 1) := by decide +kernel
theorem dX11_says_1 : decode cX11_says 1 = .ok (.getfield 443, 3) := by decide +kernel
theorem dX11_says_11 : decode cX11_says 11 = .ok (.aload_n 0, 1) := by decide +kernel
theorem dX11_says_12 : decode cX11_says 12 = .ok (.getfield 246, 3) := by decide +kernel
theorem dX11_says_15 : decode cX11_says 15 = .ok (.aload_n 0, 1) := by decide +kernel
theorem dX11_says_16 : decode cX11_says 16 = .ok (.getfield 443, 3) := by decide +kernel
theorem dX11_says_19 : decode cX11_says 19 = .ok (.iload_n 1, 1) := by decide +kernel
theorem dX11_says_20 : decode cX11_says 20 = .ok (.iastore, 1) := by decide +kernel
theorem dX11_says_21 : decode cX11_says 21 = .ok (.aload_n 0, 1) := by decide +kernel
theorem dX11_says_22 : decode cX11_says 22 = .ok (.aload_n 0, 1) := by decide +kernel
theorem dX11_says_23 : decode cX11_says 23 = .ok (.getfield 443, 3) := by decide +kernel
theorem dX11_says_26 : decode cX11_says 26 = .ok (.iconst 1, 1) := by decide +kernel
theorem dX11_says_27 : decode cX11_says 27 = .ok (.iadd, 1) := by decide +kernel
theorem dX11_says_28 : decode cX11_says 28 = .ok (.putfield 443, 3) := by decide +kernel
theorem dX11_says_31 : decode cX11_says 31 = .ok (.return_, 1) := by decide +kernel
theorem dX11_says_4 : decode cX11_says 4 = .ok (.aload_n 0, 1) := by decide +kernel
theorem dX11_says_5 : decode cX11_says 5 = .ok (.getfield 446, 3) := by decide +kernel
theorem dX11_says_8 : decode cX11_says 8 = .ok (.if_icmp .gt 23, 3) := by decide +kernel
theorem dX11_step__0 : decode cX11_step_ 0 = .ok (.aload_n 0, 1) := by decide +kernel
theorem dX11_step__1 : decode cX11_step_ 1 = .ok (.iconst 0, 1) := by decide +kernel
theorem dX11_step__12 : decode cX11_step_ 12 = .ok (.iconst (-1), 1) := by decide +kernel
theorem dX11_step__13 : decode cX11_step_ 13 = .ok (.ireturn, 1) := by decide +kernel
theorem dX11_step__14 : decode cX11_step_ 14 = .ok (.iload_n 1, 1) := by decide +kernel
theorem dX11_step__15 : decode cX11_step_ 15 = .ok (.iconst (-1), 1) := by decide +kernel
theorem dX11_step__16 : decode cX11_step_ 16 = .ok (.if_icmp .ne 8, 3) := by decide +kernel
theorem dX11_step__19 : decode cX11_step_ 19 = .ok (.aload_n 0, 1) := by decide +kernel
theorem dX11_step__2 : decode cX11_step_ 2 = .ok (.putfield 1, 3) := by decide +kernel
theorem dX11_step__20 : decode cX11_step_ 20 = .ok (.getfield 338, 3) := by decide +kernel
theorem dX11_step__23 : decode cX11_step_ 23 = .ok (.ireturn, 1) := by decide +kernel
theorem dX11_step__24 : decode cX11_step_ 24 = .ok (.aload_n 0, 1) := by decide +kernel
theorem dX11_step__25 : decode cX11_step_ 25 = .ok (.iload_n 1, 1) := by decide +kernel
theorem dX11_step__26 : decode cX11_step_ 26 = .ok (.i2l, 1) := by decide +kernel
theorem dX11_step__27 : decode cX11_step_ 27 = .ok (.lconst 0, 1) := by decide +kernel
theorem dX11_step__28 : decode cX11_step_ 28 = .ok (.aload_n 0, 1) := by decide +kernel
theorem dX11_step__29 : decode cX11_step_ 29 = .ok (.getfield 338, 3) := by decide +kernel
theorem dX11_step__32 : decode cX11_step_ 32 = .ok (.i2l, 1) := by decide +kernel
theorem dX11_step__33 : decode cX11_step_ 33 = .ok (.lconst 1, 1) := by decide +kernel
theorem dX11_step__34 : decode cX11_step_ 34 = .ok (.lsub, 1) := by decide +kernel
theorem dX11_step__35 : decode cX11_step_ 35 = .ok (.invokevirtual 49, 3) := by decide +kernel
theorem dX11_step__38 : decode cX11_step_ 38 = .ok (.ifCond .eq 30, 3) := by decide +kernel
theorem dX11_step__41 : decode cX11_step_ 41 = .ok (.aload_n 0, 1) := by decide +kernel
theorem dX11_step__42 : decode cX11_step_ 42 = .ok (.iload_n 2, 1) := by decide +kernel
theorem dX11_step__43 : decode cX11_step_ 43 = .ok (.i2l, 1) := by decide +kernel
theorem dX11_step__44 : decode cX11_step_ 44 = .ok (.lconst 0, 1) := by decide +kernel
theorem dX11_step__45 : decode cX11_step_ 45 = .ok (.ldc2_w 438, 3) := by decide +kernel
theorem dX11_step__48 : decode cX11_step_ 48 = .ok (.invokevirtual 49, 3) := by decide +kernel
theorem dX11_step__5 : decode cX11_step_ 5 = .ok (.aload_n 0, 1) := by decide +kernel
theorem dX11_step__51 : decode cX11_step_ 51 = .ok (.ifCond .eq 17, 3) := by decide +kernel
theorem dX11_step__54 : decode cX11_step_ 54 = .ok (.aload_n 0, 1) := by decide +kernel
theorem dX11_step__55 : decode cX11_step_ 55 = .ok (.getfield 237, 3) := by decide +kernel
theorem dX11_step__58 : decode cX11_step_ 58 = .ok (.bipush 6, 2) := by decide +kernel
theorem dX11_step__6 : decode cX11_step_ 6 = .ok (.getfield 410, 3) := by decide +kernel
theorem dX11_step__60 : decode cX11_step_ 60 = .ok (.iload_n 1, 1) := by decide +kernel
theorem dX11_step__61 : decode cX11_step_ 61 = .ok (.imul, 1) := by decide +kernel
theorem dX11_step__62 : decode cX11_step_ 62 = .ok (.iload_n 2, 1) := by decide +kernel
theorem dX11_step__63 : decode cX11_step_ 63 = .ok (.iadd, 1) := by decide +kernel
theorem dX11_step__64 : decode cX11_step_ 64 = .ok (.iaload, 1) := by decide +kernel
theorem dX11_step__65 : decode cX11_step_ 65 = .ok (.goto 4, 3) := by decide +kernel
theorem dX11_step__68 : decode cX11_step_ 68 = .ok (.iconst (-1), 1) := by decide +kernel
theorem dX11_step__69 : decode cX11_step_ 69 = .ok (.ireturn, 1) := by decide +kernel
theorem dX11_step__9 : decode cX11_step_ 9 = .ok (.ifCond .ne 5, 3) := by decide +kernel
theorem dX11_stepsOf_0 : decode cX11_stepsOf 0 = .ok (.iconst 0, 1) := by decide +kernel
theorem dX11_stepsOf_1 : decode cX11_stepsOf 1 = .ok (.istore_n 2, 1) := by decide +kernel
theorem dX11_stepsOf_12 : decode cX11_stepsOf 12 = .ok (.aload_n 0, 1) := by decide +kernel
theorem dX11_stepsOf_13 : decode cX11_stepsOf 13 = .ok (.getfield 410, 3) := by decide +kernel
theorem dX11_stepsOf_16 : decode cX11_stepsOf 16 = .ok (.ifCond .eq 26, 3) := by decide +kernel
theorem dX11_stepsOf_19 : decode cX11_stepsOf 19 = .ok (.aload_n 0, 1) := by decide +kernel
theorem dX11_stepsOf_2 : decode cX11_stepsOf 2 = .ok (.iconst 0, 1) := by decide +kernel
theorem dX11_stepsOf_20 : decode cX11_stepsOf 20 = .ok (.getfield 237, 3) := by decide +kernel
theorem dX11_stepsOf_23 : decode cX11_stepsOf 23 = .ok (.bipush 6, 2) := by decide +kernel
theorem dX11_stepsOf_25 : decode cX11_stepsOf 25 = .ok (.iload_n 3, 1) := by decide +kernel
theorem dX11_stepsOf_26 : decode cX11_stepsOf 26 = .ok (.imul, 1) := by decide +kernel
theorem dX11_stepsOf_27 : decode cX11_stepsOf 27 = .ok (.iaload, 1) := by decide +kernel
theorem dX11_stepsOf_28 : decode cX11_stepsOf 28 = .ok (.iload_n 1, 1) := by decide +kernel
theorem dX11_stepsOf_29 : decode cX11_stepsOf 29 = .ok (.if_icmp .ne 7, 3) := by decide +kernel
theorem dX11_stepsOf_3 : decode cX11_stepsOf 3 = .ok (.istore_n 3, 1) := by decide +kernel
theorem dX11_stepsOf_32 : decode cX11_stepsOf 32 = .ok (.iload_n 2, 1) := by decide +kernel
theorem dX11_stepsOf_33 : decode cX11_stepsOf 33 = .ok (.iconst 1, 1) := by decide +kernel
theorem dX11_stepsOf_34 : decode cX11_stepsOf 34 = .ok (.iadd, 1) := by decide +kernel
theorem dX11_stepsOf_35 : decode cX11_stepsOf 35 = .ok (.istore_n 2, 1) := by decide +kernel
theorem dX11_stepsOf_36 : decode cX11_stepsOf 36 = .ok (.iinc 3 1, 3) := by decide +kernel
theorem dX11_stepsOf_39 : decode cX11_stepsOf 39 = .ok (.goto (-35), 3) := by decide +kernel
theorem dX11_stepsOf_4 : decode cX11_stepsOf 4 = .ok (.iload_n 3, 1) := by decide +kernel
theorem dX11_stepsOf_42 : decode cX11_stepsOf 42 = .ok (.iload_n 2, 1) := by decide +kernel
theorem dX11_stepsOf_43 : decode cX11_stepsOf 43 = .ok (.ireturn, 1) := by decide +kernel
theorem dX11_stepsOf_5 : decode cX11_stepsOf 5 = .ok (.aload_n 0, 1) := by decide +kernel
theorem dX11_stepsOf_6 : decode cX11_stepsOf 6 = .ok (.getfield 338, 3) := by decide +kernel
theorem dX11_stepsOf_9 : decode cX11_stepsOf 9 = .ok (.if_icmp .ge 33, 3) := by decide +kernel
theorem dX11_takesBack_0 : decode cX11_takesBack 0 = .ok (.aload_n 0, 1) := by decide +kernel
theorem dX11_takesBack_1 : decode cX11_takesBack 1 = .ok (.getfield 261, 3) := by decide +kernel
theorem dX11_takesBack_10 : decode cX11_takesBack 10 = .ok (.getfield 261, 3) := by decide +kernel
theorem dX11_takesBack_13 : decode cX11_takesBack 13 = .ok (.iconst 1, 1) := by decide +kernel
theorem dX11_takesBack_14 : decode cX11_takesBack 14 = .ok (.isub, 1) := by decide +kernel
theorem dX11_takesBack_15 : decode cX11_takesBack 15 = .ok (.putfield 261, 3) := by decide +kernel
theorem dX11_takesBack_18 : decode cX11_takesBack 18 = .ok (.aload_n 0, 1) := by decide +kernel
theorem dX11_takesBack_19 : decode cX11_takesBack 19 = .ok (.getfield 195, 3) := by decide +kernel
theorem dX11_takesBack_22 : decode cX11_takesBack 22 = .ok (.aload_n 0, 1) := by decide +kernel
theorem dX11_takesBack_23 : decode cX11_takesBack 23 = .ok (.getfield 201, 3) := by decide +kernel
theorem dX11_takesBack_26 : decode cX11_takesBack 26 = .ok (.aload_n 0, 1) := by decide +kernel
theorem dX11_takesBack_27 : decode cX11_takesBack 27 = .ok (.getfield 261, 3) := by decide +kernel
theorem dX11_takesBack_30 : decode cX11_takesBack 30 = .ok (.iaload, 1) := by decide +kernel
theorem dX11_takesBack_31 : decode cX11_takesBack 31 = .ok (.iconst (-1), 1) := by decide +kernel
theorem dX11_takesBack_32 : decode cX11_takesBack 32 = .ok (.iastore, 1) := by decide +kernel
theorem dX11_takesBack_33 : decode cX11_takesBack 33 = .ok (.goto (-33), 3) := by decide +kernel
theorem dX11_takesBack_36 : decode cX11_takesBack 36 = .ok (.return_, 1) := by decide +kernel
theorem dX11_takesBack_4 : decode cX11_takesBack 4 = .ok (.iload_n 1, 1) := by decide +kernel
theorem dX11_takesBack_5 : decode cX11_takesBack 5 = .ok (.if_icmp .le 31, 3) := by decide +kernel
theorem dX11_takesBack_8 : decode cX11_takesBack 8 = .ok (.aload_n 0, 1) := by decide +kernel
theorem dX11_takesBack_9 : decode cX11_takesBack 9 = .ok (.aload_n 0, 1) := by decide +kernel
theorem dX11_tried_0 : decode cX11_tried 0 = .ok (.aload_n 0, 1) := by decide +kernel
theorem dX11_tried_1 : decode cX11_tried 1 = .ok (.iconst 0, 1) := by decide +kernel
theorem dX11_tried_2 : decode cX11_tried 2 = .ok (.putfield 1, 3) := by decide +kernel
theorem dX11_tried_32 : decode cX11_tried 32 = .ok (.aload_n 0, 1) := by decide +kernel
theorem dX11_tried_33 : decode cX11_tried 33 = .ok (.getfield 389, 3) := by decide +kernel
theorem dX11_tried_36 : decode cX11_tried 36 = .ok (.ireturn, 1) := by decide +kernel
theorem dX11_tried_37 : decode cX11_tried 37 = .ok (.aload_n 0, 1) := by decide +kernel
theorem dX11_tried_38 : decode cX11_tried 38 = .ok (.getfield 345, 3) := by decide +kernel
theorem dX11_tried_41 : decode cX11_tried 41 = .ok (.ireturn, 1) := by decide +kernel
theorem dX11_tried_42 : decode cX11_tried 42 = .ok (.aload_n 0, 1) := by decide +kernel
theorem dX11_tried_43 : decode cX11_tried 43 = .ok (.getfield 357, 3) := by decide +kernel
theorem dX11_tried_46 : decode cX11_tried 46 = .ok (.ireturn, 1) := by decide +kernel
theorem dX11_tried_47 : decode cX11_tried 47 = .ok (.iload_n 1, 1) := by decide +kernel
theorem dX11_tried_48 : decode cX11_tried 48 = .ok (.iconst 3, 1) := by decide +kernel
theorem dX11_tried_49 : decode cX11_tried 49 = .ok (.if_icmp .ne 10, 3) := by decide +kernel
theorem dX11_tried_5 : decode cX11_tried 5 = .ok (.iload_n 1, 1) := by decide +kernel
theorem dX11_tried_52 : decode cX11_tried 52 = .ok (.aload_n 0, 1) := by decide +kernel
theorem dX11_tried_53 : decode cX11_tried 53 = .ok (.getfield 407, 3) := by decide +kernel
theorem dX11_tried_56 : decode cX11_tried 56 = .ok (.goto 4, 3) := by decide +kernel
theorem dX11_tried_59 : decode cX11_tried 59 = .ok (.iconst (-1), 1) := by decide +kernel
theorem dX11_tried_6 : decode cX11_tried 6 = .ok (.tableswitch 41 0 2 #[26, 31, 36], 26) := by decide +kernel
theorem dX11_tried_60 : decode cX11_tried 60 = .ok (.ireturn, 1) := by decide +kernel
theorem dX11_tries_0 : decode cX11_tries 0 = .ok (.aload_n 0, 1) := by decide +kernel
theorem dX11_tries_1 : decode cX11_tries 1 = .ok (.getfield 389, 3) := by decide +kernel
theorem dX11_tries_10 : decode cX11_tries 10 = .ok (.aload_n 0, 1) := by decide +kernel
theorem dX11_tries_11 : decode cX11_tries 11 = .ok (.iconst 1, 1) := by decide +kernel
theorem dX11_tries_12 : decode cX11_tries 12 = .ok (.putfield 373, 3) := by decide +kernel
theorem dX11_tries_15 : decode cX11_tries 15 = .ok (.iconst 0, 1) := by decide +kernel
theorem dX11_tries_16 : decode cX11_tries 16 = .ok (.ireturn, 1) := by decide +kernel
theorem dX11_tries_17 : decode cX11_tries 17 = .ok (.aload_n 0, 1) := by decide +kernel
theorem dX11_tries_18 : decode cX11_tries 18 = .ok (.aload_n 0, 1) := by decide +kernel
theorem dX11_tries_19 : decode cX11_tries 19 = .ok (.getfield 389, 3) := by decide +kernel
theorem dX11_tries_22 : decode cX11_tries 22 = .ok (.iconst 1, 1) := by decide +kernel
theorem dX11_tries_23 : decode cX11_tries 23 = .ok (.iadd, 1) := by decide +kernel
theorem dX11_tries_24 : decode cX11_tries 24 = .ok (.putfield 389, 3) := by decide +kernel
theorem dX11_tries_27 : decode cX11_tries 27 = .ok (.iconst 1, 1) := by decide +kernel
theorem dX11_tries_28 : decode cX11_tries 28 = .ok (.ireturn, 1) := by decide +kernel
theorem dX11_tries_4 : decode cX11_tries 4 = .ok (.sipush 1000, 3) := by decide +kernel
theorem dX11_tries_7 : decode cX11_tries 7 = .ok (.if_icmp .ne 10, 3) := by decide +kernel
abbrev mo95 (v : Nat → Value) (a0 a13 a14 : Value) : List Value := (a0 :: (v 1) :: (v 2) :: (v 3) :: (v 4) :: (v 5) :: (v 6) :: (v 7) :: (v 8) :: (v 9) :: (v 10) :: (v 11) :: (v 12) :: a13 :: a14 :: (v 15) :: (v 16) :: (v 17) :: (v 18) :: (v 19) :: (v 20) :: (v 21) :: (v 22) :: (v 23) :: (v 24) :: (v 25) :: (v 26) :: (v 27) :: (v 28) :: (v 29) :: (v 30) :: (v 31) :: (v 32) :: (v 33) :: (v 34) :: (v 35) :: (v 36) :: (v 37) :: (v 38) :: (v 39) :: (v 40) :: (v 41) :: (v 42) :: [(v 43), (v 44), (v 45), (v 46), (v 47), (v 48), (v 49), (v 50), (v 51), (v 52), (v 53), (v 54), (v 55), (v 56), (v 57), (v 58), (v 59), (v 60), (v 61), (v 62), (v 63), (v 64), (v 65), (v 66), (v 67), (v 68), (v 69), (v 70)])
abbrev mo96 (v : Nat → Value) (a14 : Value) : List Value := ((v 0) :: (v 1) :: (v 2) :: (v 3) :: (v 4) :: (v 5) :: (v 6) :: (v 7) :: (v 8) :: (v 9) :: (v 10) :: (v 11) :: (v 12) :: (v 13) :: a14 :: (v 15) :: (v 16) :: (v 17) :: (v 18) :: (v 19) :: (v 20) :: (v 21) :: (v 22) :: (v 23) :: (v 24) :: (v 25) :: (v 26) :: (v 27) :: (v 28) :: (v 29) :: (v 30) :: (v 31) :: (v 32) :: (v 33) :: (v 34) :: (v 35) :: (v 36) :: (v 37) :: (v 38) :: (v 39) :: (v 40) :: (v 41) :: (v 42) :: [(v 43), (v 44), (v 45), (v 46), (v 47), (v 48), (v 49), (v 50), (v 51), (v 52), (v 53), (v 54), (v 55), (v 56), (v 57), (v 58), (v 59), (v 60), (v 61), (v 62), (v 63), (v 64), (v 65), (v 66), (v 67), (v 68), (v 69), (v 70)])
abbrev mo97 (v : Nat → Value) (a0 a14 : Value) : List Value := (a0 :: (v 1) :: (v 2) :: (v 3) :: (v 4) :: (v 5) :: (v 6) :: (v 7) :: (v 8) :: (v 9) :: (v 10) :: (v 11) :: (v 12) :: (v 13) :: a14 :: (v 15) :: (v 16) :: (v 17) :: (v 18) :: (v 19) :: (v 20) :: (v 21) :: (v 22) :: (v 23) :: (v 24) :: (v 25) :: (v 26) :: (v 27) :: (v 28) :: (v 29) :: (v 30) :: (v 31) :: (v 32) :: (v 33) :: (v 34) :: (v 35) :: (v 36) :: (v 37) :: (v 38) :: (v 39) :: (v 40) :: (v 41) :: (v 42) :: [(v 43), (v 44), (v 45), (v 46), (v 47), (v 48), (v 49), (v 50), (v 51), (v 52), (v 53), (v 54), (v 55), (v 56), (v 57), (v 58), (v 59), (v 60), (v 61), (v 62), (v 63), (v 64), (v 65), (v 66), (v 67), (v 68), (v 69), (v 70)])
abbrev mo98 (v : Nat → Value) (a21 a22 : Value) : List Value := ((v 0) :: (v 1) :: (v 2) :: (v 3) :: (v 4) :: (v 5) :: (v 6) :: (v 7) :: (v 8) :: (v 9) :: (v 10) :: (v 11) :: (v 12) :: (v 13) :: (v 14) :: (v 15) :: (v 16) :: (v 17) :: (v 18) :: (v 19) :: (v 20) :: a21 :: a22 :: (v 23) :: (v 24) :: (v 25) :: (v 26) :: (v 27) :: (v 28) :: (v 29) :: (v 30) :: (v 31) :: (v 32) :: (v 33) :: (v 34) :: (v 35) :: (v 36) :: (v 37) :: (v 38) :: (v 39) :: (v 40) :: (v 41) :: (v 42) :: [(v 43), (v 44), (v 45), (v 46), (v 47), (v 48), (v 49), (v 50), (v 51), (v 52), (v 53), (v 54), (v 55), (v 56), (v 57), (v 58), (v 59), (v 60), (v 61), (v 62), (v 63), (v 64), (v 65), (v 66), (v 67), (v 68), (v 69), (v 70)])
abbrev mo99 (v : Nat → Value) (a0 a21 a22 : Value) : List Value := (a0 :: (v 1) :: (v 2) :: (v 3) :: (v 4) :: (v 5) :: (v 6) :: (v 7) :: (v 8) :: (v 9) :: (v 10) :: (v 11) :: (v 12) :: (v 13) :: (v 14) :: (v 15) :: (v 16) :: (v 17) :: (v 18) :: (v 19) :: (v 20) :: a21 :: a22 :: (v 23) :: (v 24) :: (v 25) :: (v 26) :: (v 27) :: (v 28) :: (v 29) :: (v 30) :: (v 31) :: (v 32) :: (v 33) :: (v 34) :: (v 35) :: (v 36) :: (v 37) :: (v 38) :: (v 39) :: (v 40) :: (v 41) :: (v 42) :: [(v 43), (v 44), (v 45), (v 46), (v 47), (v 48), (v 49), (v 50), (v 51), (v 52), (v 53), (v 54), (v 55), (v 56), (v 57), (v 58), (v 59), (v 60), (v 61), (v 62), (v 63), (v 64), (v 65), (v 66), (v 67), (v 68), (v 69), (v 70)])
abbrev mo100 (v : Nat → Value) (a7 : Value) : List Value := ((v 0) :: (v 1) :: (v 2) :: (v 3) :: (v 4) :: (v 5) :: (v 6) :: a7 :: (v 8) :: (v 9) :: (v 10) :: (v 11) :: (v 12) :: (v 13) :: (v 14) :: (v 15) :: (v 16) :: (v 17) :: (v 18) :: (v 19) :: (v 20) :: (v 21) :: (v 22) :: (v 23) :: (v 24) :: (v 25) :: (v 26) :: (v 27) :: (v 28) :: (v 29) :: (v 30) :: (v 31) :: (v 32) :: (v 33) :: (v 34) :: (v 35) :: (v 36) :: (v 37) :: (v 38) :: (v 39) :: (v 40) :: (v 41) :: (v 42) :: [(v 43), (v 44), (v 45), (v 46), (v 47), (v 48), (v 49), (v 50), (v 51), (v 52), (v 53), (v 54), (v 55), (v 56), (v 57), (v 58), (v 59), (v 60), (v 61), (v 62), (v 63), (v 64), (v 65), (v 66), (v 67), (v 68), (v 69), (v 70)])
abbrev mo101 (v : Nat → Value) (a7 a8 : Value) : List Value := ((v 0) :: (v 1) :: (v 2) :: (v 3) :: (v 4) :: (v 5) :: (v 6) :: a7 :: a8 :: (v 9) :: (v 10) :: (v 11) :: (v 12) :: (v 13) :: (v 14) :: (v 15) :: (v 16) :: (v 17) :: (v 18) :: (v 19) :: (v 20) :: (v 21) :: (v 22) :: (v 23) :: (v 24) :: (v 25) :: (v 26) :: (v 27) :: (v 28) :: (v 29) :: (v 30) :: (v 31) :: (v 32) :: (v 33) :: (v 34) :: (v 35) :: (v 36) :: (v 37) :: (v 38) :: (v 39) :: (v 40) :: (v 41) :: (v 42) :: [(v 43), (v 44), (v 45), (v 46), (v 47), (v 48), (v 49), (v 50), (v 51), (v 52), (v 53), (v 54), (v 55), (v 56), (v 57), (v 58), (v 59), (v 60), (v 61), (v 62), (v 63), (v 64), (v 65), (v 66), (v 67), (v 68), (v 69), (v 70)])
abbrev mo102 (v : Nat → Value) (a8 a9 a10 a11 a12 : Value) : List Value := ((v 0) :: (v 1) :: (v 2) :: (v 3) :: (v 4) :: (v 5) :: (v 6) :: (v 7) :: a8 :: a9 :: a10 :: a11 :: a12 :: (v 13) :: (v 14) :: (v 15) :: (v 16) :: (v 17) :: (v 18) :: (v 19) :: (v 20) :: (v 21) :: (v 22) :: (v 23) :: (v 24) :: (v 25) :: (v 26) :: (v 27) :: (v 28) :: (v 29) :: (v 30) :: (v 31) :: (v 32) :: (v 33) :: (v 34) :: (v 35) :: (v 36) :: (v 37) :: (v 38) :: (v 39) :: (v 40) :: (v 41) :: (v 42) :: [(v 43), (v 44), (v 45), (v 46), (v 47), (v 48), (v 49), (v 50), (v 51), (v 52), (v 53), (v 54), (v 55), (v 56), (v 57), (v 58), (v 59), (v 60), (v 61), (v 62), (v 63), (v 64), (v 65), (v 66), (v 67), (v 68), (v 69), (v 70)])
abbrev mo103 (v : Nat → Value) (a8 a11 : Value) : List Value := ((v 0) :: (v 1) :: (v 2) :: (v 3) :: (v 4) :: (v 5) :: (v 6) :: (v 7) :: a8 :: (v 9) :: (v 10) :: a11 :: (v 12) :: (v 13) :: (v 14) :: (v 15) :: (v 16) :: (v 17) :: (v 18) :: (v 19) :: (v 20) :: (v 21) :: (v 22) :: (v 23) :: (v 24) :: (v 25) :: (v 26) :: (v 27) :: (v 28) :: (v 29) :: (v 30) :: (v 31) :: (v 32) :: (v 33) :: (v 34) :: (v 35) :: (v 36) :: (v 37) :: (v 38) :: (v 39) :: (v 40) :: (v 41) :: (v 42) :: [(v 43), (v 44), (v 45), (v 46), (v 47), (v 48), (v 49), (v 50), (v 51), (v 52), (v 53), (v 54), (v 55), (v 56), (v 57), (v 58), (v 59), (v 60), (v 61), (v 62), (v 63), (v 64), (v 65), (v 66), (v 67), (v 68), (v 69), (v 70)])
abbrev mo104 (v : Nat → Value) (a58 a60 : Value) : List Value := ((v 0) :: (v 1) :: (v 2) :: (v 3) :: (v 4) :: (v 5) :: (v 6) :: (v 7) :: (v 8) :: (v 9) :: (v 10) :: (v 11) :: (v 12) :: (v 13) :: (v 14) :: (v 15) :: (v 16) :: (v 17) :: (v 18) :: (v 19) :: (v 20) :: (v 21) :: (v 22) :: (v 23) :: (v 24) :: (v 25) :: (v 26) :: (v 27) :: (v 28) :: (v 29) :: (v 30) :: (v 31) :: (v 32) :: (v 33) :: (v 34) :: (v 35) :: (v 36) :: (v 37) :: (v 38) :: (v 39) :: (v 40) :: (v 41) :: (v 42) :: [(v 43), (v 44), (v 45), (v 46), (v 47), (v 48), (v 49), (v 50), (v 51), (v 52), (v 53), (v 54), (v 55), (v 56), (v 57), a58, (v 59), a60, (v 61), (v 62), (v 63), (v 64), (v 65), (v 66), (v 67), (v 68), (v 69), (v 70)])
abbrev mo105 (v : Nat → Value) (a7 a8 a9 a10 a11 a12 a58 a60 : Value) : List Value := ((v 0) :: (v 1) :: (v 2) :: (v 3) :: (v 4) :: (v 5) :: (v 6) :: a7 :: a8 :: a9 :: a10 :: a11 :: a12 :: (v 13) :: (v 14) :: (v 15) :: (v 16) :: (v 17) :: (v 18) :: (v 19) :: (v 20) :: (v 21) :: (v 22) :: (v 23) :: (v 24) :: (v 25) :: (v 26) :: (v 27) :: (v 28) :: (v 29) :: (v 30) :: (v 31) :: (v 32) :: (v 33) :: (v 34) :: (v 35) :: (v 36) :: (v 37) :: (v 38) :: (v 39) :: (v 40) :: (v 41) :: (v 42) :: [(v 43), (v 44), (v 45), (v 46), (v 47), (v 48), (v 49), (v 50), (v 51), (v 52), (v 53), (v 54), (v 55), (v 56), (v 57), a58, (v 59), a60, (v 61), (v 62), (v 63), (v 64), (v 65), (v 66), (v 67), (v 68), (v 69), (v 70)])
abbrev mo106 (v : Nat → Value) (a0 a7 a8 a9 a10 a11 a12 a58 a60 : Value) : List Value := (a0 :: (v 1) :: (v 2) :: (v 3) :: (v 4) :: (v 5) :: (v 6) :: a7 :: a8 :: a9 :: a10 :: a11 :: a12 :: (v 13) :: (v 14) :: (v 15) :: (v 16) :: (v 17) :: (v 18) :: (v 19) :: (v 20) :: (v 21) :: (v 22) :: (v 23) :: (v 24) :: (v 25) :: (v 26) :: (v 27) :: (v 28) :: (v 29) :: (v 30) :: (v 31) :: (v 32) :: (v 33) :: (v 34) :: (v 35) :: (v 36) :: (v 37) :: (v 38) :: (v 39) :: (v 40) :: (v 41) :: (v 42) :: [(v 43), (v 44), (v 45), (v 46), (v 47), (v 48), (v 49), (v 50), (v 51), (v 52), (v 53), (v 54), (v 55), (v 56), (v 57), a58, (v 59), a60, (v 61), (v 62), (v 63), (v 64), (v 65), (v 66), (v 67), (v 68), (v 69), (v 70)])
abbrev mo107 (v : Nat → Value) (a27 a30 : Value) : List Value := ((v 0) :: (v 1) :: (v 2) :: (v 3) :: (v 4) :: (v 5) :: (v 6) :: (v 7) :: (v 8) :: (v 9) :: (v 10) :: (v 11) :: (v 12) :: (v 13) :: (v 14) :: (v 15) :: (v 16) :: (v 17) :: (v 18) :: (v 19) :: (v 20) :: (v 21) :: (v 22) :: (v 23) :: (v 24) :: (v 25) :: (v 26) :: a27 :: (v 28) :: (v 29) :: a30 :: (v 31) :: (v 32) :: (v 33) :: (v 34) :: (v 35) :: (v 36) :: (v 37) :: (v 38) :: (v 39) :: (v 40) :: (v 41) :: (v 42) :: [(v 43), (v 44), (v 45), (v 46), (v 47), (v 48), (v 49), (v 50), (v 51), (v 52), (v 53), (v 54), (v 55), (v 56), (v 57), (v 58), (v 59), (v 60), (v 61), (v 62), (v 63), (v 64), (v 65), (v 66), (v 67), (v 68), (v 69), (v 70)])
abbrev mo108 (v : Nat → Value) (a27 a29 a30 : Value) : List Value := ((v 0) :: (v 1) :: (v 2) :: (v 3) :: (v 4) :: (v 5) :: (v 6) :: (v 7) :: (v 8) :: (v 9) :: (v 10) :: (v 11) :: (v 12) :: (v 13) :: (v 14) :: (v 15) :: (v 16) :: (v 17) :: (v 18) :: (v 19) :: (v 20) :: (v 21) :: (v 22) :: (v 23) :: (v 24) :: (v 25) :: (v 26) :: a27 :: (v 28) :: a29 :: a30 :: (v 31) :: (v 32) :: (v 33) :: (v 34) :: (v 35) :: (v 36) :: (v 37) :: (v 38) :: (v 39) :: (v 40) :: (v 41) :: (v 42) :: [(v 43), (v 44), (v 45), (v 46), (v 47), (v 48), (v 49), (v 50), (v 51), (v 52), (v 53), (v 54), (v 55), (v 56), (v 57), (v 58), (v 59), (v 60), (v 61), (v 62), (v 63), (v 64), (v 65), (v 66), (v 67), (v 68), (v 69), (v 70)])
abbrev mo109 (v : Nat → Value) (a59 a60 : Value) : List Value := ((v 0) :: (v 1) :: (v 2) :: (v 3) :: (v 4) :: (v 5) :: (v 6) :: (v 7) :: (v 8) :: (v 9) :: (v 10) :: (v 11) :: (v 12) :: (v 13) :: (v 14) :: (v 15) :: (v 16) :: (v 17) :: (v 18) :: (v 19) :: (v 20) :: (v 21) :: (v 22) :: (v 23) :: (v 24) :: (v 25) :: (v 26) :: (v 27) :: (v 28) :: (v 29) :: (v 30) :: (v 31) :: (v 32) :: (v 33) :: (v 34) :: (v 35) :: (v 36) :: (v 37) :: (v 38) :: (v 39) :: (v 40) :: (v 41) :: (v 42) :: [(v 43), (v 44), (v 45), (v 46), (v 47), (v 48), (v 49), (v 50), (v 51), (v 52), (v 53), (v 54), (v 55), (v 56), (v 57), (v 58), a59, a60, (v 61), (v 62), (v 63), (v 64), (v 65), (v 66), (v 67), (v 68), (v 69), (v 70)])
abbrev mo110 (v : Nat → Value) (a50 a51 a52 a53 a54 a58 : Value) : List Value := ((v 0) :: (v 1) :: (v 2) :: (v 3) :: (v 4) :: (v 5) :: (v 6) :: (v 7) :: (v 8) :: (v 9) :: (v 10) :: (v 11) :: (v 12) :: (v 13) :: (v 14) :: (v 15) :: (v 16) :: (v 17) :: (v 18) :: (v 19) :: (v 20) :: (v 21) :: (v 22) :: (v 23) :: (v 24) :: (v 25) :: (v 26) :: (v 27) :: (v 28) :: (v 29) :: (v 30) :: (v 31) :: (v 32) :: (v 33) :: (v 34) :: (v 35) :: (v 36) :: (v 37) :: (v 38) :: (v 39) :: (v 40) :: (v 41) :: (v 42) :: [(v 43), (v 44), (v 45), (v 46), (v 47), (v 48), (v 49), a50, a51, a52, a53, a54, (v 55), (v 56), (v 57), a58, (v 59), (v 60), (v 61), (v 62), (v 63), (v 64), (v 65), (v 66), (v 67), (v 68), (v 69), (v 70)])
abbrev mo111 (v : Nat → Value) (a51 a52 a53 a54 : Value) : List Value := ((v 0) :: (v 1) :: (v 2) :: (v 3) :: (v 4) :: (v 5) :: (v 6) :: (v 7) :: (v 8) :: (v 9) :: (v 10) :: (v 11) :: (v 12) :: (v 13) :: (v 14) :: (v 15) :: (v 16) :: (v 17) :: (v 18) :: (v 19) :: (v 20) :: (v 21) :: (v 22) :: (v 23) :: (v 24) :: (v 25) :: (v 26) :: (v 27) :: (v 28) :: (v 29) :: (v 30) :: (v 31) :: (v 32) :: (v 33) :: (v 34) :: (v 35) :: (v 36) :: (v 37) :: (v 38) :: (v 39) :: (v 40) :: (v 41) :: (v 42) :: [(v 43), (v 44), (v 45), (v 46), (v 47), (v 48), (v 49), (v 50), a51, a52, a53, a54, (v 55), (v 56), (v 57), (v 58), (v 59), (v 60), (v 61), (v 62), (v 63), (v 64), (v 65), (v 66), (v 67), (v 68), (v 69), (v 70)])
abbrev mo112 (v : Nat → Value) (a0 a51 a52 a53 a54 : Value) : List Value := (a0 :: (v 1) :: (v 2) :: (v 3) :: (v 4) :: (v 5) :: (v 6) :: (v 7) :: (v 8) :: (v 9) :: (v 10) :: (v 11) :: (v 12) :: (v 13) :: (v 14) :: (v 15) :: (v 16) :: (v 17) :: (v 18) :: (v 19) :: (v 20) :: (v 21) :: (v 22) :: (v 23) :: (v 24) :: (v 25) :: (v 26) :: (v 27) :: (v 28) :: (v 29) :: (v 30) :: (v 31) :: (v 32) :: (v 33) :: (v 34) :: (v 35) :: (v 36) :: (v 37) :: (v 38) :: (v 39) :: (v 40) :: (v 41) :: (v 42) :: [(v 43), (v 44), (v 45), (v 46), (v 47), (v 48), (v 49), (v 50), a51, a52, a53, a54, (v 55), (v 56), (v 57), (v 58), (v 59), (v 60), (v 61), (v 62), (v 63), (v 64), (v 65), (v 66), (v 67), (v 68), (v 69), (v 70)])
abbrev mo113 (v : Nat → Value) (a55 a56 a58 : Value) : List Value := ((v 0) :: (v 1) :: (v 2) :: (v 3) :: (v 4) :: (v 5) :: (v 6) :: (v 7) :: (v 8) :: (v 9) :: (v 10) :: (v 11) :: (v 12) :: (v 13) :: (v 14) :: (v 15) :: (v 16) :: (v 17) :: (v 18) :: (v 19) :: (v 20) :: (v 21) :: (v 22) :: (v 23) :: (v 24) :: (v 25) :: (v 26) :: (v 27) :: (v 28) :: (v 29) :: (v 30) :: (v 31) :: (v 32) :: (v 33) :: (v 34) :: (v 35) :: (v 36) :: (v 37) :: (v 38) :: (v 39) :: (v 40) :: (v 41) :: (v 42) :: [(v 43), (v 44), (v 45), (v 46), (v 47), (v 48), (v 49), (v 50), (v 51), (v 52), (v 53), (v 54), a55, a56, (v 57), a58, (v 59), (v 60), (v 61), (v 62), (v 63), (v 64), (v 65), (v 66), (v 67), (v 68), (v 69), (v 70)])
abbrev mo114 (v : Nat → Value) (a0 a55 a56 a58 : Value) : List Value := (a0 :: (v 1) :: (v 2) :: (v 3) :: (v 4) :: (v 5) :: (v 6) :: (v 7) :: (v 8) :: (v 9) :: (v 10) :: (v 11) :: (v 12) :: (v 13) :: (v 14) :: (v 15) :: (v 16) :: (v 17) :: (v 18) :: (v 19) :: (v 20) :: (v 21) :: (v 22) :: (v 23) :: (v 24) :: (v 25) :: (v 26) :: (v 27) :: (v 28) :: (v 29) :: (v 30) :: (v 31) :: (v 32) :: (v 33) :: (v 34) :: (v 35) :: (v 36) :: (v 37) :: (v 38) :: (v 39) :: (v 40) :: (v 41) :: (v 42) :: [(v 43), (v 44), (v 45), (v 46), (v 47), (v 48), (v 49), (v 50), (v 51), (v 52), (v 53), (v 54), a55, a56, (v 57), a58, (v 59), (v 60), (v 61), (v 62), (v 63), (v 64), (v 65), (v 66), (v 67), (v 68), (v 69), (v 70)])
abbrev mo115 (v : Nat → Value) (a36 a58 : Value) : List Value := ((v 0) :: (v 1) :: (v 2) :: (v 3) :: (v 4) :: (v 5) :: (v 6) :: (v 7) :: (v 8) :: (v 9) :: (v 10) :: (v 11) :: (v 12) :: (v 13) :: (v 14) :: (v 15) :: (v 16) :: (v 17) :: (v 18) :: (v 19) :: (v 20) :: (v 21) :: (v 22) :: (v 23) :: (v 24) :: (v 25) :: (v 26) :: (v 27) :: (v 28) :: (v 29) :: (v 30) :: (v 31) :: (v 32) :: (v 33) :: (v 34) :: (v 35) :: a36 :: (v 37) :: (v 38) :: (v 39) :: (v 40) :: (v 41) :: (v 42) :: [(v 43), (v 44), (v 45), (v 46), (v 47), (v 48), (v 49), (v 50), (v 51), (v 52), (v 53), (v 54), (v 55), (v 56), (v 57), a58, (v 59), (v 60), (v 61), (v 62), (v 63), (v 64), (v 65), (v 66), (v 67), (v 68), (v 69), (v 70)])
abbrev mo116 (v : Nat → Value) (a36 a37 a58 : Value) : List Value := ((v 0) :: (v 1) :: (v 2) :: (v 3) :: (v 4) :: (v 5) :: (v 6) :: (v 7) :: (v 8) :: (v 9) :: (v 10) :: (v 11) :: (v 12) :: (v 13) :: (v 14) :: (v 15) :: (v 16) :: (v 17) :: (v 18) :: (v 19) :: (v 20) :: (v 21) :: (v 22) :: (v 23) :: (v 24) :: (v 25) :: (v 26) :: (v 27) :: (v 28) :: (v 29) :: (v 30) :: (v 31) :: (v 32) :: (v 33) :: (v 34) :: (v 35) :: a36 :: a37 :: (v 38) :: (v 39) :: (v 40) :: (v 41) :: (v 42) :: [(v 43), (v 44), (v 45), (v 46), (v 47), (v 48), (v 49), (v 50), (v 51), (v 52), (v 53), (v 54), (v 55), (v 56), (v 57), a58, (v 59), (v 60), (v 61), (v 62), (v 63), (v 64), (v 65), (v 66), (v 67), (v 68), (v 69), (v 70)])
abbrev mo117 (v : Nat → Value) (a0 a36 a37 a58 : Value) : List Value := (a0 :: (v 1) :: (v 2) :: (v 3) :: (v 4) :: (v 5) :: (v 6) :: (v 7) :: (v 8) :: (v 9) :: (v 10) :: (v 11) :: (v 12) :: (v 13) :: (v 14) :: (v 15) :: (v 16) :: (v 17) :: (v 18) :: (v 19) :: (v 20) :: (v 21) :: (v 22) :: (v 23) :: (v 24) :: (v 25) :: (v 26) :: (v 27) :: (v 28) :: (v 29) :: (v 30) :: (v 31) :: (v 32) :: (v 33) :: (v 34) :: (v 35) :: a36 :: a37 :: (v 38) :: (v 39) :: (v 40) :: (v 41) :: (v 42) :: [(v 43), (v 44), (v 45), (v 46), (v 47), (v 48), (v 49), (v 50), (v 51), (v 52), (v 53), (v 54), (v 55), (v 56), (v 57), a58, (v 59), (v 60), (v 61), (v 62), (v 63), (v 64), (v 65), (v 66), (v 67), (v 68), (v 69), (v 70)])
abbrev mo118 (v : Nat → Value) (a64 a65 a66 : Value) : List Value := ((v 0) :: (v 1) :: (v 2) :: (v 3) :: (v 4) :: (v 5) :: (v 6) :: (v 7) :: (v 8) :: (v 9) :: (v 10) :: (v 11) :: (v 12) :: (v 13) :: (v 14) :: (v 15) :: (v 16) :: (v 17) :: (v 18) :: (v 19) :: (v 20) :: (v 21) :: (v 22) :: (v 23) :: (v 24) :: (v 25) :: (v 26) :: (v 27) :: (v 28) :: (v 29) :: (v 30) :: (v 31) :: (v 32) :: (v 33) :: (v 34) :: (v 35) :: (v 36) :: (v 37) :: (v 38) :: (v 39) :: (v 40) :: (v 41) :: (v 42) :: [(v 43), (v 44), (v 45), (v 46), (v 47), (v 48), (v 49), (v 50), (v 51), (v 52), (v 53), (v 54), (v 55), (v 56), (v 57), (v 58), (v 59), (v 60), (v 61), (v 62), (v 63), a64, a65, a66, (v 67), (v 68), (v 69), (v 70)])
abbrev mo119 (v : Nat → Value) (a62 a63 : Value) : List Value := ((v 0) :: (v 1) :: (v 2) :: (v 3) :: (v 4) :: (v 5) :: (v 6) :: (v 7) :: (v 8) :: (v 9) :: (v 10) :: (v 11) :: (v 12) :: (v 13) :: (v 14) :: (v 15) :: (v 16) :: (v 17) :: (v 18) :: (v 19) :: (v 20) :: (v 21) :: (v 22) :: (v 23) :: (v 24) :: (v 25) :: (v 26) :: (v 27) :: (v 28) :: (v 29) :: (v 30) :: (v 31) :: (v 32) :: (v 33) :: (v 34) :: (v 35) :: (v 36) :: (v 37) :: (v 38) :: (v 39) :: (v 40) :: (v 41) :: (v 42) :: [(v 43), (v 44), (v 45), (v 46), (v 47), (v 48), (v 49), (v 50), (v 51), (v 52), (v 53), (v 54), (v 55), (v 56), (v 57), (v 58), (v 59), (v 60), (v 61), a62, a63, (v 64), (v 65), (v 66), (v 67), (v 68), (v 69), (v 70)])
abbrev mo120 (v : Nat → Value) (a0 a62 a63 : Value) : List Value := (a0 :: (v 1) :: (v 2) :: (v 3) :: (v 4) :: (v 5) :: (v 6) :: (v 7) :: (v 8) :: (v 9) :: (v 10) :: (v 11) :: (v 12) :: (v 13) :: (v 14) :: (v 15) :: (v 16) :: (v 17) :: (v 18) :: (v 19) :: (v 20) :: (v 21) :: (v 22) :: (v 23) :: (v 24) :: (v 25) :: (v 26) :: (v 27) :: (v 28) :: (v 29) :: (v 30) :: (v 31) :: (v 32) :: (v 33) :: (v 34) :: (v 35) :: (v 36) :: (v 37) :: (v 38) :: (v 39) :: (v 40) :: (v 41) :: (v 42) :: [(v 43), (v 44), (v 45), (v 46), (v 47), (v 48), (v 49), (v 50), (v 51), (v 52), (v 53), (v 54), (v 55), (v 56), (v 57), (v 58), (v 59), (v 60), (v 61), a62, a63, (v 64), (v 65), (v 66), (v 67), (v 68), (v 69), (v 70)])
abbrev mo121 (v : Nat → Value) (a0 a59 a60 : Value) : List Value := (a0 :: (v 1) :: (v 2) :: (v 3) :: (v 4) :: (v 5) :: (v 6) :: (v 7) :: (v 8) :: (v 9) :: (v 10) :: (v 11) :: (v 12) :: (v 13) :: (v 14) :: (v 15) :: (v 16) :: (v 17) :: (v 18) :: (v 19) :: (v 20) :: (v 21) :: (v 22) :: (v 23) :: (v 24) :: (v 25) :: (v 26) :: (v 27) :: (v 28) :: (v 29) :: (v 30) :: (v 31) :: (v 32) :: (v 33) :: (v 34) :: (v 35) :: (v 36) :: (v 37) :: (v 38) :: (v 39) :: (v 40) :: (v 41) :: (v 42) :: [(v 43), (v 44), (v 45), (v 46), (v 47), (v 48), (v 49), (v 50), (v 51), (v 52), (v 53), (v 54), (v 55), (v 56), (v 57), (v 58), a59, a60, (v 61), (v 62), (v 63), (v 64), (v 65), (v 66), (v 67), (v 68), (v 69), (v 70)])
abbrev mo122 (v : Nat → Value) (a68 a69 : Value) : List Value := ((v 0) :: (v 1) :: (v 2) :: (v 3) :: (v 4) :: (v 5) :: (v 6) :: (v 7) :: (v 8) :: (v 9) :: (v 10) :: (v 11) :: (v 12) :: (v 13) :: (v 14) :: (v 15) :: (v 16) :: (v 17) :: (v 18) :: (v 19) :: (v 20) :: (v 21) :: (v 22) :: (v 23) :: (v 24) :: (v 25) :: (v 26) :: (v 27) :: (v 28) :: (v 29) :: (v 30) :: (v 31) :: (v 32) :: (v 33) :: (v 34) :: (v 35) :: (v 36) :: (v 37) :: (v 38) :: (v 39) :: (v 40) :: (v 41) :: (v 42) :: [(v 43), (v 44), (v 45), (v 46), (v 47), (v 48), (v 49), (v 50), (v 51), (v 52), (v 53), (v 54), (v 55), (v 56), (v 57), (v 58), (v 59), (v 60), (v 61), (v 62), (v 63), (v 64), (v 65), (v 66), (v 67), a68, a69, (v 70)])
abbrev mo123 (v : Nat → Value) (a50 a51 : Value) : List Value := ((v 0) :: (v 1) :: (v 2) :: (v 3) :: (v 4) :: (v 5) :: (v 6) :: (v 7) :: (v 8) :: (v 9) :: (v 10) :: (v 11) :: (v 12) :: (v 13) :: (v 14) :: (v 15) :: (v 16) :: (v 17) :: (v 18) :: (v 19) :: (v 20) :: (v 21) :: (v 22) :: (v 23) :: (v 24) :: (v 25) :: (v 26) :: (v 27) :: (v 28) :: (v 29) :: (v 30) :: (v 31) :: (v 32) :: (v 33) :: (v 34) :: (v 35) :: (v 36) :: (v 37) :: (v 38) :: (v 39) :: (v 40) :: (v 41) :: (v 42) :: [(v 43), (v 44), (v 45), (v 46), (v 47), (v 48), (v 49), a50, a51, (v 52), (v 53), (v 54), (v 55), (v 56), (v 57), (v 58), (v 59), (v 60), (v 61), (v 62), (v 63), (v 64), (v 65), (v 66), (v 67), (v 68), (v 69), (v 70)])
set_option maxRecDepth 100000 in
theorem mq101_100 (v : Nat → Value) (b8 : Value) : ∃ w : Nat → Value, ∀ (a7 : Value), mo100 w a7 = (mo101 v a7 b8) := ⟨fun k => List.getD (mo101 v .null b8) k .null, fun _ => rfl⟩
set_option maxRecDepth 100000 in
theorem mq106_100 (v : Nat → Value) (b0 b8 b9 b10 b11 b12 b58 b60 : Value) : ∃ w : Nat → Value, ∀ (a7 : Value), mo100 w a7 = (mo106 v b0 a7 b8 b9 b10 b11 b12 b58 b60) := ⟨fun k => List.getD (mo106 v b0 .null b8 b9 b10 b11 b12 b58 b60) k .null, fun _ => rfl⟩
set_option maxRecDepth 100000 in
theorem mq106_104 (v : Nat → Value) (b0 b7 b8 b9 b10 b11 b12 : Value) : ∃ w : Nat → Value, ∀ (a58 a60 : Value), mo104 w a58 a60 = (mo106 v b0 b7 b8 b9 b10 b11 b12 a58 a60) := ⟨fun k => List.getD (mo106 v b0 b7 b8 b9 b10 b11 b12 .null .null) k .null, fun _ _ => rfl⟩
set_option maxRecDepth 100000 in
theorem mq106_102 (v : Nat → Value) (b0 b7 b58 b60 : Value) : ∃ w : Nat → Value, ∀ (a8 a9 a10 a11 a12 : Value), mo102 w a8 a9 a10 a11 a12 = (mo106 v b0 b7 a8 a9 a10 a11 a12 b58 b60) := ⟨fun k => List.getD (mo106 v b0 b7 .null .null .null .null .null b58 b60) k .null, fun _ _ _ _ _ => rfl⟩
set_option maxRecDepth 100000 in
theorem mq117_115 (v : Nat → Value) (b0 b37 : Value) : ∃ w : Nat → Value, ∀ (a36 a58 : Value), mo115 w a36 a58 = (mo117 v b0 a36 b37 a58) := ⟨fun k => List.getD (mo117 v b0 .null b37 .null) k .null, fun _ _ => rfl⟩
set_option maxHeartbeats 8000000 in
set_option maxRecDepth 100000 in
theorem c_X11_feed (l : Launch) (dC : Nat → ClassId) (dI : Nat → Nat → Nat) (sz : Nat) (h_mm : Nat) (h_tap : Nat) (v_mm : Nat → Value) (x_mm_taped : Int32) (cy_tap : ClassId) (f_tap : Nat → Int32) (p1 : Int32) (p2 : Int32) (p3 : Int32) (p4 : Int32) (p5 : Int32) (hx_mm_taped : 0 ≤ (x_mm_taped).toInt ∧ (x_mm_taped).toInt ≤ 600) : Met l yX11_feed (Ws yX11_feed cX11_feed 8 (some .int)) (({ frames := 0, cells := 0, slots := 0, locals := 0 } : Room)) (PRE (dC, dI) cls [(cy_tap, .byte)] [(h_mm, .inr (8, (mo88 v_mm (.ref h_tap) (.int x_mm_taped)))), (h_tap, .inl (cy_tap, 600, .inl f_tap))] sz [.ref h_mm, .int p1, .int p2, .int p3, .int p4, .int p5]) (va_Qi (fun (r : Int32) (u : (Int32) × (Int32) × (Nat → Int32)) => (0 ≤ (u.2.1).toInt ∧ (u.2.1).toInt ≤ 600) ∧ (((x_mm_taped).toInt + 20 > 600 ∧ (u.2.1).toInt = (x_mm_taped).toInt ∧ (r).toInt = -1) ∨ ((x_mm_taped).toInt + 20 ≤ 600 ∧ (u.2.1).toInt = (x_mm_taped).toInt + 20 ∧ (r).toInt = (x_mm_taped).toInt + 20)) ∧ (((r).toInt = -1 ∧ u.2.2 = f_tap) ∨ FEDM (x_mm_taped).toInt p1 p2 p3 p4 p5 20 f_tap u.2.2)) (fun (u : (Int32) × (Int32) × (Nat → Int32)) (t : State) => va_P (dC, dI) cls [(h_mm, .inr (8, (mo95 v_mm (.int u.1) (.ref h_tap) (.int u.2.1)))), (h_tap, .inl (cy_tap, 600, .inl u.2.2))] t.heap ∧ va_D (va_A [(h_mm, .inr (8, (mo88 v_mm (.ref h_tap) (.int x_mm_taped)))), (h_tap, .inl (cy_tap, 600, .inl f_tap))] sz) [(h_mm, .inr (8, (mo95 v_mm (.int u.1) (.ref h_tap) (.int u.2.1)))), (h_tap, .inl (cy_tap, 600, .inl u.2.2))]) (va_A [(h_mm, .inr (8, (mo88 v_mm (.ref h_tap) (.int x_mm_taped)))), (h_tap, .inl (cy_tap, 600, .inl f_tap))] sz)) 0 0 (va_A [(h_mm, .inr (8, (mo88 v_mm (.ref h_tap) (.int x_mm_taped)))), (h_tap, .inl (cy_tap, 600, .inl f_tap))] sz) := by
  refine Met.ofW (cc := cX11_feed) (maxL := 8) (ret := (some .int)) (by decide) rfl ?_
  intro p e s m args below meth c s₁ B hml hv
  obtain ⟨rfl, hsz, hP, hK, hD0, hN⟩ := hv
  have hx := B.exec
  have hb := B.bytes
  have hr := B.returns
  have hts := atoms_spec (ws := Ws yX11_feed cX11_feed 8 (some .int)) B.pre
  have hT : ∀ w ∈ WALL, w ∈ Ws yX11_feed cX11_feed 8 (some .int) := fun w h => List.mem_cons_of_mem _ h
  have hw := fun w (h : w ∈ WALL) => hts w (hT w h)
  have hown : s.vm.findClass RX11 = some m.cls := findClass_of_methodNamed B.named
  have hlocks := B.notSynchronized
  subst hsz
  have hD := hD0.self (sz := s.heap.size)
  generalize hAe : va_A [(h_mm, .inr (8, (mo88 v_mm (.ref h_tap) (.int x_mm_taped)))), (h_tap, .inl (cy_tap, 600, .inl f_tap))] s.heap.size = A at hD ⊢
  have hA : ∀ q : Nat, s.heap.size ≤ q → A q := fun q h => by rw [← hAe]; exact Or.inr h
  have hS : va_S A s.heap s.heap [] := va_S.rf
  have hl := lv_entry ([.ref h_mm, .int p1, .int p2, .int p3, .int p4, .int p5]) (n := 8) (Nat.le_of_ble_eq_true rfl)
  rw [lg_entry_eq]
  generalize (lg_sl ([.ref h_mm, .int p1, .int p2, .int p3, .int p4, .int p5]) ++ List.replicate (8 - (lg_sl ([.ref h_mm, .int p1, .int p2, .int p3, .int p4, .int p5])).length) Slot.unset).toArray = ls at hl ⊢
  have hl : lv_has ls 8 [(0, .ref h_mm), (1, .int p1), (2, .int p2), (3, .int p3), (4, .int p4), (5, .int p5)] := hl
  refine lv_aload_n hx hb dX11_feed_0 rfl (lv_at hl 0 rfl) ?_
  refine lv_iconst (v := 0) hx hb dX11_feed_1 (by decide) ?_
  refine va_put (D := (dC, dI)) (ci := 8) (v := .int 0) (ty := tyX11 0) (C := RX11) (T := TX11) (N := 71) hx hb hw iwX11 tyX11 tyX11_ok nmX11 hown hK hP hD hS 0 rfl rfl 0 (by decide) (hw _ w_f_X11_1) (fun _ h9 => h9) rfl (tyX11_ok 0 (by decide)) rfl rfl (Nat.le_of_ble_eq_true rfl) dX11_feed_2 (fun H locs hP9 hD9 hS9 => ?_)
  clear hP hD hS
  have hP : va_P (dC, dI) cls [(h_mm, .inr (8, (mo95 v_mm (.int 0) (.ref h_tap) (.int x_mm_taped)))), (h_tap, .inl (cy_tap, 600, .inl f_tap))] H := hP9
  have hD : va_D A [(h_mm, .inr (8, (mo95 v_mm (.int 0) (.ref h_tap) (.int x_mm_taped)))), (h_tap, .inl (cy_tap, 600, .inl f_tap))] := hD9
  have hS := hS9
  clear hP9 hD9 hS9
  refine lv_aload_n hx hb dX11_feed_5 rfl (lv_at hl 0 rfl) ?_
  refine va_get (D := (dC, dI)) (ci := 8) (v := .int x_mm_taped) (C := RX11) (T := TX11) (N := 71) hx hb hw iwX11 hown hK hP 0 rfl rfl 14 (by decide) (hw _ w_f_X11_38) (fun _ h9 => h9) rfl dX11_feed_6 ?_
  refine lv_bipush (v := 20) hx hb dX11_feed_9 (by decide) ?_
  refine lv_iadd hx hb dX11_feed_11 ?_
  refine lv_topi (fun z1 ez1 => ?_)
  have tz1 : (z1).toInt = (x_mm_taped).toInt + 20 := by rw [ez1]; exact i_add rfl (by decide) (by omega)
  refine lv_sipush (v := 600) hx hb dX11_feed_12 (by decide) ?_
  refine lv_icmp_le (tgt := 20) hx hb dX11_feed_15 (by decide) (fun c2 => ?_) (fun c2 => ?_)
  · have kc2 := (cv_le (rfl : (z1).toInt = (z1).toInt) (by decide : (600 : Int32).toInt = 600)).mp c2
    refine lv_iconst (v := 0) hx hb dX11_feed_20 (by decide) ?_
    refine lv_istore (lv' := [(6, .int 0), (0, .ref h_mm), (1, .int p1), (2, .int p2), (3, .int p3), (4, .int p4), (5, .int p5)]) hx hb dX11_feed_21 hl (by decide) rfl (fun ls hl => ?_)
    have lp6 : ∀ (n : Nat) (x3 : Int32) (x4 : Int32) (f5 : Nat → Int32) (H : Heap) (locs : List Loc) (ls : Array Slot), (0 ≤ (x3).toInt ∧ (x3).toInt ≤ 20) → (0 ≤ (x4).toInt ∧ (x4).toInt ≤ 600) → ((x4).toInt = (x_mm_taped).toInt + (x3).toInt) → ((x_mm_taped).toInt + 20 ≤ 600) → (FEDM (x_mm_taped).toInt p1 p2 p3 p4 p5 (x3).toInt f_tap f5) → (20 - (x3).toInt).toNat + 1 ≤ n → va_P (dC, dI) cls [(h_mm, .inr (8, (mo95 v_mm (.int 0) (.ref h_tap) (.int x4)))), (h_tap, .inl (cy_tap, 600, .inl f5))] H → va_D A [(h_mm, .inr (8, (mo95 v_mm (.int 0) (.ref h_tap) (.int x4)))), (h_tap, .inl (cy_tap, 600, .inl f5))] → va_S A s.heap H locs → lv_has ls 8 [(0, .ref h_mm), (1, .int p1), (2, .int p2), (3, .int p3), (4, .int p4), (5, .int p5), (6, .int x3)] → W p l e ({ frames := 0, cells := 0, slots := 0, locals := 0 } : Room) s m ([.ref h_mm, .int p1, .int p2, .int p3, .int p4, .int p5] : List Value).toArray below meth c H locs 0 0 (MQ below (va_Qi (fun (r : Int32) (u : (Int32) × (Int32) × (Nat → Int32)) => (0 ≤ (u.2.1).toInt ∧ (u.2.1).toInt ≤ 600) ∧ (((x_mm_taped).toInt + 20 > 600 ∧ (u.2.1).toInt = (x_mm_taped).toInt ∧ (r).toInt = -1) ∨ ((x_mm_taped).toInt + 20 ≤ 600 ∧ (u.2.1).toInt = (x_mm_taped).toInt + 20 ∧ (r).toInt = (x_mm_taped).toInt + 20)) ∧ (((r).toInt = -1 ∧ u.2.2 = f_tap) ∨ FEDM (x_mm_taped).toInt p1 p2 p3 p4 p5 20 f_tap u.2.2)) (fun (u : (Int32) × (Int32) × (Nat → Int32)) (t : State) => va_P (dC, dI) cls [(h_mm, .inr (8, (mo95 v_mm (.int u.1) (.ref h_tap) (.int u.2.1)))), (h_tap, .inl (cy_tap, 600, .inl u.2.2))] t.heap ∧ va_D A [(h_mm, .inr (8, (mo95 v_mm (.int u.1) (.ref h_tap) (.int u.2.1)))), (h_tap, .inl (cy_tap, 600, .inl u.2.2))]) A) ([.ref h_mm, .int p1, .int p2, .int p3, .int p4, .int p5] : List Value).toArray s 0 0 A) (F0 m 23 ls []) := by
      clear hP hD hS hl
      intro n
      induction n with
      | zero => intro x3 x4 f5 H locs ls klp6_0 klp6_1 klp6_2 klp6_3 klp6_4 hm hP hD hS hl; exact False.elim (by omega)
      | succ n ih => 
        intro x3 x4 f5 H locs ls klp6_0 klp6_1 klp6_2 klp6_3 klp6_4 hm hP hD hS hl
        have ih7 := ih
        clear ih
        refine lv_iload hx hb dX11_feed_23 (lv_at hl 6 rfl) ?_
        refine lv_bipush (v := 20) hx hb dX11_feed_25 (by decide) ?_
        refine lv_icmp_ge (tgt := 117) hx hb dX11_feed_27 (by decide) (fun c8 => ?_) (fun c8 => ?_)
        · have kc8 := (cv_le (by decide : (20 : Int32).toInt = 20) (rfl : (x3).toInt = (x3).toInt)).mp c8
          refine lv_aload_n hx hb dX11_feed_117 rfl (lv_at hl 0 rfl) ?_
          refine va_get (D := (dC, dI)) (ci := 8) (v := .int x4) (C := RX11) (T := TX11) (N := 71) hx hb hw iwX11 hown hK hP 0 rfl rfl 14 (by decide) (hw _ w_f_X11_38) (fun _ h9 => h9) rfl dX11_feed_118 ?_
          refine W.widen (k := 0) (n := 0) (Nat.le_of_ble_eq_true rfl) (Nat.le_of_ble_eq_true rfl) ?_
          have cst0 : (0 : Int32).toInt = 0 := by decide
          have w9 : 0 ≤ ((x4)).toInt ∧ ((x4)).toInt ≤ 600 := by first | exact klp6_1 | omega
          have w10 : ((x_mm_taped).toInt + 20 > 600 ∧ ((x4)).toInt = (x_mm_taped).toInt ∧ ((x4 : Int32)).toInt = -1) ∨ ((x_mm_taped).toInt + 20 ≤ 600 ∧ ((x4)).toInt = (x_mm_taped).toInt + 20 ∧ ((x4 : Int32)).toInt = (x_mm_taped).toInt + 20) := by omega
          have w11 : (((x4 : Int32)).toInt = -1 ∧ (f5) = f_tap) ∨ FEDM (x_mm_taped).toInt p1 p2 p3 p4 p5 20 f_tap (f5) := (Or.inr (fedm_cast klp6_4 (by omega)))
          exact W.iret (v := x4) hx hb hr (fun t ht hW => ⟨⟨x4, (0, x4, f5), rfl, ⟨w9, w10, w11⟩, by rw [ht]; exact hP, hD⟩, hS.F ht⟩) hS.2.2 dX11_feed_121
        · have kc8 := (not_congr (cv_le (by decide : (20 : Int32).toInt = 20) (rfl : (x3).toInt = (x3).toInt))).mp c8
          refine lv_iload hx hb dX11_feed_30 (lv_at hl 6 rfl) ?_
          refine lv_iconst (v := 4) hx hb dX11_feed_32 (by decide) ?_
          refine lv_icmp_ge (tgt := 40) hx hb dX11_feed_33 (by decide) (fun c12 => ?_) (fun c12 => ?_)
          · have kc12 := (cv_le (by decide : (4 : Int32).toInt = 4) (rfl : (x3).toInt = (x3).toInt)).mp c12
            refine lv_iload hx hb dX11_feed_40 (lv_at hl 6 rfl) ?_
            refine lv_bipush (v := 8) hx hb dX11_feed_42 (by decide) ?_
            refine lv_icmp_ge (tgt := 51) hx hb dX11_feed_44 (by decide) (fun c13 => ?_) (fun c13 => ?_)
            · have kc13 := (cv_le (by decide : (8 : Int32).toInt = 8) (rfl : (x3).toInt = (x3).toInt)).mp c13
              refine lv_iload hx hb dX11_feed_51 (lv_at hl 6 rfl) ?_
              refine lv_bipush (v := 12) hx hb dX11_feed_53 (by decide) ?_
              refine lv_icmp_ge (tgt := 62) hx hb dX11_feed_55 (by decide) (fun c14 => ?_) (fun c14 => ?_)
              · have kc14 := (cv_le (by decide : (12 : Int32).toInt = 12) (rfl : (x3).toInt = (x3).toInt)).mp c14
                refine lv_iload hx hb dX11_feed_62 (lv_at hl 6 rfl) ?_
                refine lv_bipush (v := 16) hx hb dX11_feed_64 (by decide) ?_
                refine lv_icmp_ge (tgt := 74) hx hb dX11_feed_66 (by decide) (fun c15 => ?_) (fun c15 => ?_)
                · have kc15 := (cv_le (by decide : (16 : Int32).toInt = 16) (rfl : (x3).toInt = (x3).toInt)).mp c15
                  refine lv_iload hx hb dX11_feed_74 (lv_at hl 5 rfl) ?_
                  refine lv_istore (lv' := [(7, .int p5), (0, .ref h_mm), (1, .int p1), (2, .int p2), (3, .int p3), (4, .int p4), (5, .int p5), (6, .int x3)]) hx hb dX11_feed_76 hl (by decide) rfl (fun ls hl => ?_)
                  refine lv_aload_n hx hb dX11_feed_78 rfl (lv_at hl 1 rfl) ?_
                  refine va_get (D := (dC, dI)) (ci := 8) (v := .ref h_tap) (C := RX11) (T := TX11) (N := 71) hx hb hw iwX11 hown hK hP 0 rfl rfl 13 (by decide) (hw _ w_f_X11_41) (fun _ h9 => h9) rfl dX11_feed_79 ?_
                  refine lv_aload_n hx hb dX11_feed_82 rfl (lv_at hl 1 rfl) ?_
                  refine va_get (D := (dC, dI)) (ci := 8) (v := .int x4) (C := RX11) (T := TX11) (N := 71) hx hb hw iwX11 hown hK hP 0 rfl rfl 14 (by decide) (hw _ w_f_X11_38) (fun _ h9 => h9) rfl dX11_feed_83 ?_
                  refine lv_iload hx hb dX11_feed_86 (lv_at hl 0 rfl) ?_
                  refine lv_bipush (v := 24) hx hb dX11_feed_88 (by decide) ?_
                  refine lv_bipush (v := 8) hx hb dX11_feed_90 (by decide) ?_
                  refine lv_iload hx hb dX11_feed_92 (lv_at hl 7 rfl) ?_
                  refine lv_iconst (v := 4) hx hb dX11_feed_94 (by decide) ?_
                  refine lv_irem hx hb dX11_feed_95 (by decide) ?_
                  refine lv_topi (fun z16 ez16 => ?_)
                  have tz16 : (z16).toInt = (x3).toInt % 4 := by rw [ez16]; exact i_rem rfl (by decide) (by omega)
                  refine lv_imul hx hb dX11_feed_96 ?_
                  refine lv_topi (fun z17 ez17 => ?_)
                  have tz17 : (z17).toInt = 8 * (z16).toInt := by rw [ez17]; exact i_mul (by decide) rfl (by omega)
                  refine lv_isub hx hb dX11_feed_97 ?_
                  refine lv_topi (fun z18 ez18 => ?_)
                  have tz18 : (z18).toInt = 24 - (z17).toInt := by rw [ez18]; exact i_sub (by decide) rfl (by omega)
                  refine lv_ishr hx hb dX11_feed_98 ?_
                  refine lv_topi (fun z19 ez19 => ?_)
                  refine lv_i2b hx hb dX11_feed_99 rfl ?_
                  refine lv_topi (fun z20 ez20 => ?_)
                  refine va_bast hx hb hK hP hD hS 1 0 rfl rfl (i := x4) (x := z20) (vp_in_iff.mpr (by omega)) dX11_feed_100 (fun H locs hP9 hD9 hS9 => ?_)
                  obtain ⟨f21, ef21⟩ : ∃ g : Nat → Int32, g = upd f5 (Int32.toNatClampNeg x4) (vp_nar .byte z20) := ⟨_, rfl⟩
                  clear hP hD hS
                  have hP : va_P (dC, dI) cls [(h_mm, .inr (8, (mo95 v_mm (.int 0) (.ref h_tap) (.int x4)))), (h_tap, .inl (cy_tap, 600, .inl f21))] H := by rw [ef21]; exact hP9
                  have hD : va_D A [(h_mm, .inr (8, (mo95 v_mm (.int 0) (.ref h_tap) (.int x4)))), (h_tap, .inl (cy_tap, 600, .inl f21))] := by rw [ef21]; exact hD9
                  have hS := hS9
                  clear hP9 hD9 hS9
                  have hw9 : p5 = wAt p1 p2 p3 p4 p5 (x3).toInt := by unfold wAt; rw [if_neg (by omega), if_neg (by omega), if_neg (by omega), if_neg (by omega)]
                  have fm22 : FEDM (x_mm_taped).toInt p1 p2 p3 p4 p5 ((x3).toInt + 1) f_tap f21 := fedm_step (s := z18) (w := p5) klp6_4 (by omega) (by omega) (by omega) hw9 (by omega) (by rw [ez20, ez19]) ef21 rfl
                  refine lv_aload_n hx hb dX11_feed_101 rfl (lv_at hl 1 rfl) ?_
                  refine lv_aload_n hx hb dX11_feed_102 rfl (lv_at hl 1 rfl) ?_
                  refine va_get (D := (dC, dI)) (ci := 8) (v := .int x4) (C := RX11) (T := TX11) (N := 71) hx hb hw iwX11 hown hK hP 0 rfl rfl 14 (by decide) (hw _ w_f_X11_38) (fun _ h9 => h9) rfl dX11_feed_103 ?_
                  refine lv_iconst (v := 1) hx hb dX11_feed_106 (by decide) ?_
                  refine lv_iadd hx hb dX11_feed_107 ?_
                  refine lv_topi (fun z23 ez23 => ?_)
                  have tz23 : (z23).toInt = (x4).toInt + 1 := by rw [ez23]; exact i_add rfl (by decide) (by omega)
                  refine va_put (D := (dC, dI)) (ci := 8) (v := .int z23) (ty := tyX11 14) (C := RX11) (T := TX11) (N := 71) hx hb hw iwX11 tyX11 tyX11_ok nmX11 hown hK hP hD hS 0 rfl rfl 14 (by decide) (hw _ w_f_X11_38) (fun _ h9 => h9) rfl (tyX11_ok 14 (by decide)) rfl rfl (Nat.le_of_ble_eq_true rfl) dX11_feed_108 (fun H locs hP9 hD9 hS9 => ?_)
                  clear hP hD hS
                  have hP : va_P (dC, dI) cls [(h_mm, .inr (8, (mo95 v_mm (.int 0) (.ref h_tap) (.int z23)))), (h_tap, .inl (cy_tap, 600, .inl f21))] H := hP9
                  have hD : va_D A [(h_mm, .inr (8, (mo95 v_mm (.int 0) (.ref h_tap) (.int z23)))), (h_tap, .inl (cy_tap, 600, .inl f21))] := hD9
                  have hS := hS9
                  clear hP9 hD9 hS9
                  obtain ⟨z24, ez24⟩ : ∃ y : Int32, y = x3 + 1 := ⟨_, rfl⟩
                  have tz24 : (z24).toInt = (x3).toInt + 1 := by rw [ez24]; exact i_add rfl (by decide) (by omega)
                  refine lv_iinc (v := z24) (lv' := [(6, .int z24), (7, .int p5), (0, .ref h_mm), (1, .int p1), (2, .int p2), (3, .int p3), (4, .int p4), (5, .int p5)]) hx hb dX11_feed_111 hl (k := 7) rfl (by rw [ez24]; rfl) (by decide) rfl (fun ls hl => ?_)
                  refine lv_goto (tgt := 23) hx hb dX11_feed_114 (by decide) ?_
                  exact ih7 (z24) (z23) (f21) _ _ _ (by omega) (by omega) (by omega) (by first | exact klp6_3 | omega) (fedm_cast fm22 (by omega)) (by omega) hP hD hS (lv_sub hl [2, 3, 4, 5, 6, 7, 0] rfl)
                · have kc15 := (not_congr (cv_le (by decide : (16 : Int32).toInt = 16) (rfl : (x3).toInt = (x3).toInt))).mp c15
                  refine lv_iload hx hb dX11_feed_69 (lv_at hl 4 rfl) ?_
                  refine lv_goto (tgt := 76) hx hb dX11_feed_71 (by decide) ?_
                  refine lv_istore (lv' := [(7, .int p4), (0, .ref h_mm), (1, .int p1), (2, .int p2), (3, .int p3), (4, .int p4), (5, .int p5), (6, .int x3)]) hx hb dX11_feed_76 hl (by decide) rfl (fun ls hl => ?_)
                  refine lv_aload_n hx hb dX11_feed_78 rfl (lv_at hl 1 rfl) ?_
                  refine va_get (D := (dC, dI)) (ci := 8) (v := .ref h_tap) (C := RX11) (T := TX11) (N := 71) hx hb hw iwX11 hown hK hP 0 rfl rfl 13 (by decide) (hw _ w_f_X11_41) (fun _ h9 => h9) rfl dX11_feed_79 ?_
                  refine lv_aload_n hx hb dX11_feed_82 rfl (lv_at hl 1 rfl) ?_
                  refine va_get (D := (dC, dI)) (ci := 8) (v := .int x4) (C := RX11) (T := TX11) (N := 71) hx hb hw iwX11 hown hK hP 0 rfl rfl 14 (by decide) (hw _ w_f_X11_38) (fun _ h9 => h9) rfl dX11_feed_83 ?_
                  refine lv_iload hx hb dX11_feed_86 (lv_at hl 0 rfl) ?_
                  refine lv_bipush (v := 24) hx hb dX11_feed_88 (by decide) ?_
                  refine lv_bipush (v := 8) hx hb dX11_feed_90 (by decide) ?_
                  refine lv_iload hx hb dX11_feed_92 (lv_at hl 7 rfl) ?_
                  refine lv_iconst (v := 4) hx hb dX11_feed_94 (by decide) ?_
                  refine lv_irem hx hb dX11_feed_95 (by decide) ?_
                  refine lv_topi (fun z25 ez25 => ?_)
                  have tz25 : (z25).toInt = (x3).toInt % 4 := by rw [ez25]; exact i_rem rfl (by decide) (by omega)
                  refine lv_imul hx hb dX11_feed_96 ?_
                  refine lv_topi (fun z26 ez26 => ?_)
                  have tz26 : (z26).toInt = 8 * (z25).toInt := by rw [ez26]; exact i_mul (by decide) rfl (by omega)
                  refine lv_isub hx hb dX11_feed_97 ?_
                  refine lv_topi (fun z27 ez27 => ?_)
                  have tz27 : (z27).toInt = 24 - (z26).toInt := by rw [ez27]; exact i_sub (by decide) rfl (by omega)
                  refine lv_ishr hx hb dX11_feed_98 ?_
                  refine lv_topi (fun z28 ez28 => ?_)
                  refine lv_i2b hx hb dX11_feed_99 rfl ?_
                  refine lv_topi (fun z29 ez29 => ?_)
                  refine va_bast hx hb hK hP hD hS 1 0 rfl rfl (i := x4) (x := z29) (vp_in_iff.mpr (by omega)) dX11_feed_100 (fun H locs hP9 hD9 hS9 => ?_)
                  obtain ⟨f30, ef30⟩ : ∃ g : Nat → Int32, g = upd f5 (Int32.toNatClampNeg x4) (vp_nar .byte z29) := ⟨_, rfl⟩
                  clear hP hD hS
                  have hP : va_P (dC, dI) cls [(h_mm, .inr (8, (mo95 v_mm (.int 0) (.ref h_tap) (.int x4)))), (h_tap, .inl (cy_tap, 600, .inl f30))] H := by rw [ef30]; exact hP9
                  have hD : va_D A [(h_mm, .inr (8, (mo95 v_mm (.int 0) (.ref h_tap) (.int x4)))), (h_tap, .inl (cy_tap, 600, .inl f30))] := by rw [ef30]; exact hD9
                  have hS := hS9
                  clear hP9 hD9 hS9
                  have hw9 : p4 = wAt p1 p2 p3 p4 p5 (x3).toInt := by unfold wAt; rw [if_neg (by omega), if_neg (by omega), if_neg (by omega), if_pos (by omega)]
                  have fm31 : FEDM (x_mm_taped).toInt p1 p2 p3 p4 p5 ((x3).toInt + 1) f_tap f30 := fedm_step (s := z27) (w := p4) klp6_4 (by omega) (by omega) (by omega) hw9 (by omega) (by rw [ez29, ez28]) ef30 rfl
                  refine lv_aload_n hx hb dX11_feed_101 rfl (lv_at hl 1 rfl) ?_
                  refine lv_aload_n hx hb dX11_feed_102 rfl (lv_at hl 1 rfl) ?_
                  refine va_get (D := (dC, dI)) (ci := 8) (v := .int x4) (C := RX11) (T := TX11) (N := 71) hx hb hw iwX11 hown hK hP 0 rfl rfl 14 (by decide) (hw _ w_f_X11_38) (fun _ h9 => h9) rfl dX11_feed_103 ?_
                  refine lv_iconst (v := 1) hx hb dX11_feed_106 (by decide) ?_
                  refine lv_iadd hx hb dX11_feed_107 ?_
                  refine lv_topi (fun z32 ez32 => ?_)
                  have tz32 : (z32).toInt = (x4).toInt + 1 := by rw [ez32]; exact i_add rfl (by decide) (by omega)
                  refine va_put (D := (dC, dI)) (ci := 8) (v := .int z32) (ty := tyX11 14) (C := RX11) (T := TX11) (N := 71) hx hb hw iwX11 tyX11 tyX11_ok nmX11 hown hK hP hD hS 0 rfl rfl 14 (by decide) (hw _ w_f_X11_38) (fun _ h9 => h9) rfl (tyX11_ok 14 (by decide)) rfl rfl (Nat.le_of_ble_eq_true rfl) dX11_feed_108 (fun H locs hP9 hD9 hS9 => ?_)
                  clear hP hD hS
                  have hP : va_P (dC, dI) cls [(h_mm, .inr (8, (mo95 v_mm (.int 0) (.ref h_tap) (.int z32)))), (h_tap, .inl (cy_tap, 600, .inl f30))] H := hP9
                  have hD : va_D A [(h_mm, .inr (8, (mo95 v_mm (.int 0) (.ref h_tap) (.int z32)))), (h_tap, .inl (cy_tap, 600, .inl f30))] := hD9
                  have hS := hS9
                  clear hP9 hD9 hS9
                  obtain ⟨z33, ez33⟩ : ∃ y : Int32, y = x3 + 1 := ⟨_, rfl⟩
                  have tz33 : (z33).toInt = (x3).toInt + 1 := by rw [ez33]; exact i_add rfl (by decide) (by omega)
                  refine lv_iinc (v := z33) (lv' := [(6, .int z33), (7, .int p4), (0, .ref h_mm), (1, .int p1), (2, .int p2), (3, .int p3), (4, .int p4), (5, .int p5)]) hx hb dX11_feed_111 hl (k := 7) rfl (by rw [ez33]; rfl) (by decide) rfl (fun ls hl => ?_)
                  refine lv_goto (tgt := 23) hx hb dX11_feed_114 (by decide) ?_
                  exact ih7 (z33) (z32) (f30) _ _ _ (by omega) (by omega) (by omega) (by first | exact klp6_3 | omega) (fedm_cast fm31 (by omega)) (by omega) hP hD hS (lv_sub hl [2, 3, 4, 5, 6, 7, 0] rfl)
              · have kc14 := (not_congr (cv_le (by decide : (12 : Int32).toInt = 12) (rfl : (x3).toInt = (x3).toInt))).mp c14
                refine lv_iload_n hx hb dX11_feed_58 rfl (lv_at hl 3 rfl) ?_
                refine lv_goto (tgt := 76) hx hb dX11_feed_59 (by decide) ?_
                refine lv_istore (lv' := [(7, .int p3), (0, .ref h_mm), (1, .int p1), (2, .int p2), (3, .int p3), (4, .int p4), (5, .int p5), (6, .int x3)]) hx hb dX11_feed_76 hl (by decide) rfl (fun ls hl => ?_)
                refine lv_aload_n hx hb dX11_feed_78 rfl (lv_at hl 1 rfl) ?_
                refine va_get (D := (dC, dI)) (ci := 8) (v := .ref h_tap) (C := RX11) (T := TX11) (N := 71) hx hb hw iwX11 hown hK hP 0 rfl rfl 13 (by decide) (hw _ w_f_X11_41) (fun _ h9 => h9) rfl dX11_feed_79 ?_
                refine lv_aload_n hx hb dX11_feed_82 rfl (lv_at hl 1 rfl) ?_
                refine va_get (D := (dC, dI)) (ci := 8) (v := .int x4) (C := RX11) (T := TX11) (N := 71) hx hb hw iwX11 hown hK hP 0 rfl rfl 14 (by decide) (hw _ w_f_X11_38) (fun _ h9 => h9) rfl dX11_feed_83 ?_
                refine lv_iload hx hb dX11_feed_86 (lv_at hl 0 rfl) ?_
                refine lv_bipush (v := 24) hx hb dX11_feed_88 (by decide) ?_
                refine lv_bipush (v := 8) hx hb dX11_feed_90 (by decide) ?_
                refine lv_iload hx hb dX11_feed_92 (lv_at hl 7 rfl) ?_
                refine lv_iconst (v := 4) hx hb dX11_feed_94 (by decide) ?_
                refine lv_irem hx hb dX11_feed_95 (by decide) ?_
                refine lv_topi (fun z34 ez34 => ?_)
                have tz34 : (z34).toInt = (x3).toInt % 4 := by rw [ez34]; exact i_rem rfl (by decide) (by omega)
                refine lv_imul hx hb dX11_feed_96 ?_
                refine lv_topi (fun z35 ez35 => ?_)
                have tz35 : (z35).toInt = 8 * (z34).toInt := by rw [ez35]; exact i_mul (by decide) rfl (by omega)
                refine lv_isub hx hb dX11_feed_97 ?_
                refine lv_topi (fun z36 ez36 => ?_)
                have tz36 : (z36).toInt = 24 - (z35).toInt := by rw [ez36]; exact i_sub (by decide) rfl (by omega)
                refine lv_ishr hx hb dX11_feed_98 ?_
                refine lv_topi (fun z37 ez37 => ?_)
                refine lv_i2b hx hb dX11_feed_99 rfl ?_
                refine lv_topi (fun z38 ez38 => ?_)
                refine va_bast hx hb hK hP hD hS 1 0 rfl rfl (i := x4) (x := z38) (vp_in_iff.mpr (by omega)) dX11_feed_100 (fun H locs hP9 hD9 hS9 => ?_)
                obtain ⟨f39, ef39⟩ : ∃ g : Nat → Int32, g = upd f5 (Int32.toNatClampNeg x4) (vp_nar .byte z38) := ⟨_, rfl⟩
                clear hP hD hS
                have hP : va_P (dC, dI) cls [(h_mm, .inr (8, (mo95 v_mm (.int 0) (.ref h_tap) (.int x4)))), (h_tap, .inl (cy_tap, 600, .inl f39))] H := by rw [ef39]; exact hP9
                have hD : va_D A [(h_mm, .inr (8, (mo95 v_mm (.int 0) (.ref h_tap) (.int x4)))), (h_tap, .inl (cy_tap, 600, .inl f39))] := by rw [ef39]; exact hD9
                have hS := hS9
                clear hP9 hD9 hS9
                have hw9 : p3 = wAt p1 p2 p3 p4 p5 (x3).toInt := by unfold wAt; rw [if_neg (by omega), if_neg (by omega), if_pos (by omega)]
                have fm40 : FEDM (x_mm_taped).toInt p1 p2 p3 p4 p5 ((x3).toInt + 1) f_tap f39 := fedm_step (s := z36) (w := p3) klp6_4 (by omega) (by omega) (by omega) hw9 (by omega) (by rw [ez38, ez37]) ef39 rfl
                refine lv_aload_n hx hb dX11_feed_101 rfl (lv_at hl 1 rfl) ?_
                refine lv_aload_n hx hb dX11_feed_102 rfl (lv_at hl 1 rfl) ?_
                refine va_get (D := (dC, dI)) (ci := 8) (v := .int x4) (C := RX11) (T := TX11) (N := 71) hx hb hw iwX11 hown hK hP 0 rfl rfl 14 (by decide) (hw _ w_f_X11_38) (fun _ h9 => h9) rfl dX11_feed_103 ?_
                refine lv_iconst (v := 1) hx hb dX11_feed_106 (by decide) ?_
                refine lv_iadd hx hb dX11_feed_107 ?_
                refine lv_topi (fun z41 ez41 => ?_)
                have tz41 : (z41).toInt = (x4).toInt + 1 := by rw [ez41]; exact i_add rfl (by decide) (by omega)
                refine va_put (D := (dC, dI)) (ci := 8) (v := .int z41) (ty := tyX11 14) (C := RX11) (T := TX11) (N := 71) hx hb hw iwX11 tyX11 tyX11_ok nmX11 hown hK hP hD hS 0 rfl rfl 14 (by decide) (hw _ w_f_X11_38) (fun _ h9 => h9) rfl (tyX11_ok 14 (by decide)) rfl rfl (Nat.le_of_ble_eq_true rfl) dX11_feed_108 (fun H locs hP9 hD9 hS9 => ?_)
                clear hP hD hS
                have hP : va_P (dC, dI) cls [(h_mm, .inr (8, (mo95 v_mm (.int 0) (.ref h_tap) (.int z41)))), (h_tap, .inl (cy_tap, 600, .inl f39))] H := hP9
                have hD : va_D A [(h_mm, .inr (8, (mo95 v_mm (.int 0) (.ref h_tap) (.int z41)))), (h_tap, .inl (cy_tap, 600, .inl f39))] := hD9
                have hS := hS9
                clear hP9 hD9 hS9
                obtain ⟨z42, ez42⟩ : ∃ y : Int32, y = x3 + 1 := ⟨_, rfl⟩
                have tz42 : (z42).toInt = (x3).toInt + 1 := by rw [ez42]; exact i_add rfl (by decide) (by omega)
                refine lv_iinc (v := z42) (lv' := [(6, .int z42), (7, .int p3), (0, .ref h_mm), (1, .int p1), (2, .int p2), (3, .int p3), (4, .int p4), (5, .int p5)]) hx hb dX11_feed_111 hl (k := 7) rfl (by rw [ez42]; rfl) (by decide) rfl (fun ls hl => ?_)
                refine lv_goto (tgt := 23) hx hb dX11_feed_114 (by decide) ?_
                exact ih7 (z42) (z41) (f39) _ _ _ (by omega) (by omega) (by omega) (by first | exact klp6_3 | omega) (fedm_cast fm40 (by omega)) (by omega) hP hD hS (lv_sub hl [2, 3, 4, 5, 6, 7, 0] rfl)
            · have kc13 := (not_congr (cv_le (by decide : (8 : Int32).toInt = 8) (rfl : (x3).toInt = (x3).toInt))).mp c13
              refine lv_iload_n hx hb dX11_feed_47 rfl (lv_at hl 2 rfl) ?_
              refine lv_goto (tgt := 76) hx hb dX11_feed_48 (by decide) ?_
              refine lv_istore (lv' := [(7, .int p2), (0, .ref h_mm), (1, .int p1), (2, .int p2), (3, .int p3), (4, .int p4), (5, .int p5), (6, .int x3)]) hx hb dX11_feed_76 hl (by decide) rfl (fun ls hl => ?_)
              refine lv_aload_n hx hb dX11_feed_78 rfl (lv_at hl 1 rfl) ?_
              refine va_get (D := (dC, dI)) (ci := 8) (v := .ref h_tap) (C := RX11) (T := TX11) (N := 71) hx hb hw iwX11 hown hK hP 0 rfl rfl 13 (by decide) (hw _ w_f_X11_41) (fun _ h9 => h9) rfl dX11_feed_79 ?_
              refine lv_aload_n hx hb dX11_feed_82 rfl (lv_at hl 1 rfl) ?_
              refine va_get (D := (dC, dI)) (ci := 8) (v := .int x4) (C := RX11) (T := TX11) (N := 71) hx hb hw iwX11 hown hK hP 0 rfl rfl 14 (by decide) (hw _ w_f_X11_38) (fun _ h9 => h9) rfl dX11_feed_83 ?_
              refine lv_iload hx hb dX11_feed_86 (lv_at hl 0 rfl) ?_
              refine lv_bipush (v := 24) hx hb dX11_feed_88 (by decide) ?_
              refine lv_bipush (v := 8) hx hb dX11_feed_90 (by decide) ?_
              refine lv_iload hx hb dX11_feed_92 (lv_at hl 7 rfl) ?_
              refine lv_iconst (v := 4) hx hb dX11_feed_94 (by decide) ?_
              refine lv_irem hx hb dX11_feed_95 (by decide) ?_
              refine lv_topi (fun z43 ez43 => ?_)
              have tz43 : (z43).toInt = (x3).toInt % 4 := by rw [ez43]; exact i_rem rfl (by decide) (by omega)
              refine lv_imul hx hb dX11_feed_96 ?_
              refine lv_topi (fun z44 ez44 => ?_)
              have tz44 : (z44).toInt = 8 * (z43).toInt := by rw [ez44]; exact i_mul (by decide) rfl (by omega)
              refine lv_isub hx hb dX11_feed_97 ?_
              refine lv_topi (fun z45 ez45 => ?_)
              have tz45 : (z45).toInt = 24 - (z44).toInt := by rw [ez45]; exact i_sub (by decide) rfl (by omega)
              refine lv_ishr hx hb dX11_feed_98 ?_
              refine lv_topi (fun z46 ez46 => ?_)
              refine lv_i2b hx hb dX11_feed_99 rfl ?_
              refine lv_topi (fun z47 ez47 => ?_)
              refine va_bast hx hb hK hP hD hS 1 0 rfl rfl (i := x4) (x := z47) (vp_in_iff.mpr (by omega)) dX11_feed_100 (fun H locs hP9 hD9 hS9 => ?_)
              obtain ⟨f48, ef48⟩ : ∃ g : Nat → Int32, g = upd f5 (Int32.toNatClampNeg x4) (vp_nar .byte z47) := ⟨_, rfl⟩
              clear hP hD hS
              have hP : va_P (dC, dI) cls [(h_mm, .inr (8, (mo95 v_mm (.int 0) (.ref h_tap) (.int x4)))), (h_tap, .inl (cy_tap, 600, .inl f48))] H := by rw [ef48]; exact hP9
              have hD : va_D A [(h_mm, .inr (8, (mo95 v_mm (.int 0) (.ref h_tap) (.int x4)))), (h_tap, .inl (cy_tap, 600, .inl f48))] := by rw [ef48]; exact hD9
              have hS := hS9
              clear hP9 hD9 hS9
              have hw9 : p2 = wAt p1 p2 p3 p4 p5 (x3).toInt := by unfold wAt; rw [if_neg (by omega), if_pos (by omega)]
              have fm49 : FEDM (x_mm_taped).toInt p1 p2 p3 p4 p5 ((x3).toInt + 1) f_tap f48 := fedm_step (s := z45) (w := p2) klp6_4 (by omega) (by omega) (by omega) hw9 (by omega) (by rw [ez47, ez46]) ef48 rfl
              refine lv_aload_n hx hb dX11_feed_101 rfl (lv_at hl 1 rfl) ?_
              refine lv_aload_n hx hb dX11_feed_102 rfl (lv_at hl 1 rfl) ?_
              refine va_get (D := (dC, dI)) (ci := 8) (v := .int x4) (C := RX11) (T := TX11) (N := 71) hx hb hw iwX11 hown hK hP 0 rfl rfl 14 (by decide) (hw _ w_f_X11_38) (fun _ h9 => h9) rfl dX11_feed_103 ?_
              refine lv_iconst (v := 1) hx hb dX11_feed_106 (by decide) ?_
              refine lv_iadd hx hb dX11_feed_107 ?_
              refine lv_topi (fun z50 ez50 => ?_)
              have tz50 : (z50).toInt = (x4).toInt + 1 := by rw [ez50]; exact i_add rfl (by decide) (by omega)
              refine va_put (D := (dC, dI)) (ci := 8) (v := .int z50) (ty := tyX11 14) (C := RX11) (T := TX11) (N := 71) hx hb hw iwX11 tyX11 tyX11_ok nmX11 hown hK hP hD hS 0 rfl rfl 14 (by decide) (hw _ w_f_X11_38) (fun _ h9 => h9) rfl (tyX11_ok 14 (by decide)) rfl rfl (Nat.le_of_ble_eq_true rfl) dX11_feed_108 (fun H locs hP9 hD9 hS9 => ?_)
              clear hP hD hS
              have hP : va_P (dC, dI) cls [(h_mm, .inr (8, (mo95 v_mm (.int 0) (.ref h_tap) (.int z50)))), (h_tap, .inl (cy_tap, 600, .inl f48))] H := hP9
              have hD : va_D A [(h_mm, .inr (8, (mo95 v_mm (.int 0) (.ref h_tap) (.int z50)))), (h_tap, .inl (cy_tap, 600, .inl f48))] := hD9
              have hS := hS9
              clear hP9 hD9 hS9
              obtain ⟨z51, ez51⟩ : ∃ y : Int32, y = x3 + 1 := ⟨_, rfl⟩
              have tz51 : (z51).toInt = (x3).toInt + 1 := by rw [ez51]; exact i_add rfl (by decide) (by omega)
              refine lv_iinc (v := z51) (lv' := [(6, .int z51), (7, .int p2), (0, .ref h_mm), (1, .int p1), (2, .int p2), (3, .int p3), (4, .int p4), (5, .int p5)]) hx hb dX11_feed_111 hl (k := 7) rfl (by rw [ez51]; rfl) (by decide) rfl (fun ls hl => ?_)
              refine lv_goto (tgt := 23) hx hb dX11_feed_114 (by decide) ?_
              exact ih7 (z51) (z50) (f48) _ _ _ (by omega) (by omega) (by omega) (by first | exact klp6_3 | omega) (fedm_cast fm49 (by omega)) (by omega) hP hD hS (lv_sub hl [2, 3, 4, 5, 6, 7, 0] rfl)
          · have kc12 := (not_congr (cv_le (by decide : (4 : Int32).toInt = 4) (rfl : (x3).toInt = (x3).toInt))).mp c12
            refine lv_iload_n hx hb dX11_feed_36 rfl (lv_at hl 1 rfl) ?_
            refine lv_goto (tgt := 76) hx hb dX11_feed_37 (by decide) ?_
            refine lv_istore (lv' := [(7, .int p1), (0, .ref h_mm), (1, .int p1), (2, .int p2), (3, .int p3), (4, .int p4), (5, .int p5), (6, .int x3)]) hx hb dX11_feed_76 hl (by decide) rfl (fun ls hl => ?_)
            refine lv_aload_n hx hb dX11_feed_78 rfl (lv_at hl 1 rfl) ?_
            refine va_get (D := (dC, dI)) (ci := 8) (v := .ref h_tap) (C := RX11) (T := TX11) (N := 71) hx hb hw iwX11 hown hK hP 0 rfl rfl 13 (by decide) (hw _ w_f_X11_41) (fun _ h9 => h9) rfl dX11_feed_79 ?_
            refine lv_aload_n hx hb dX11_feed_82 rfl (lv_at hl 1 rfl) ?_
            refine va_get (D := (dC, dI)) (ci := 8) (v := .int x4) (C := RX11) (T := TX11) (N := 71) hx hb hw iwX11 hown hK hP 0 rfl rfl 14 (by decide) (hw _ w_f_X11_38) (fun _ h9 => h9) rfl dX11_feed_83 ?_
            refine lv_iload hx hb dX11_feed_86 (lv_at hl 0 rfl) ?_
            refine lv_bipush (v := 24) hx hb dX11_feed_88 (by decide) ?_
            refine lv_bipush (v := 8) hx hb dX11_feed_90 (by decide) ?_
            refine lv_iload hx hb dX11_feed_92 (lv_at hl 7 rfl) ?_
            refine lv_iconst (v := 4) hx hb dX11_feed_94 (by decide) ?_
            refine lv_irem hx hb dX11_feed_95 (by decide) ?_
            refine lv_topi (fun z52 ez52 => ?_)
            have tz52 : (z52).toInt = (x3).toInt % 4 := by rw [ez52]; exact i_rem rfl (by decide) (by omega)
            refine lv_imul hx hb dX11_feed_96 ?_
            refine lv_topi (fun z53 ez53 => ?_)
            have tz53 : (z53).toInt = 8 * (z52).toInt := by rw [ez53]; exact i_mul (by decide) rfl (by omega)
            refine lv_isub hx hb dX11_feed_97 ?_
            refine lv_topi (fun z54 ez54 => ?_)
            have tz54 : (z54).toInt = 24 - (z53).toInt := by rw [ez54]; exact i_sub (by decide) rfl (by omega)
            refine lv_ishr hx hb dX11_feed_98 ?_
            refine lv_topi (fun z55 ez55 => ?_)
            refine lv_i2b hx hb dX11_feed_99 rfl ?_
            refine lv_topi (fun z56 ez56 => ?_)
            refine va_bast hx hb hK hP hD hS 1 0 rfl rfl (i := x4) (x := z56) (vp_in_iff.mpr (by omega)) dX11_feed_100 (fun H locs hP9 hD9 hS9 => ?_)
            obtain ⟨f57, ef57⟩ : ∃ g : Nat → Int32, g = upd f5 (Int32.toNatClampNeg x4) (vp_nar .byte z56) := ⟨_, rfl⟩
            clear hP hD hS
            have hP : va_P (dC, dI) cls [(h_mm, .inr (8, (mo95 v_mm (.int 0) (.ref h_tap) (.int x4)))), (h_tap, .inl (cy_tap, 600, .inl f57))] H := by rw [ef57]; exact hP9
            have hD : va_D A [(h_mm, .inr (8, (mo95 v_mm (.int 0) (.ref h_tap) (.int x4)))), (h_tap, .inl (cy_tap, 600, .inl f57))] := by rw [ef57]; exact hD9
            have hS := hS9
            clear hP9 hD9 hS9
            have hw9 : p1 = wAt p1 p2 p3 p4 p5 (x3).toInt := by unfold wAt; rw [if_pos (by omega)]
            have fm58 : FEDM (x_mm_taped).toInt p1 p2 p3 p4 p5 ((x3).toInt + 1) f_tap f57 := fedm_step (s := z54) (w := p1) klp6_4 (by omega) (by omega) (by omega) hw9 (by omega) (by rw [ez56, ez55]) ef57 rfl
            refine lv_aload_n hx hb dX11_feed_101 rfl (lv_at hl 1 rfl) ?_
            refine lv_aload_n hx hb dX11_feed_102 rfl (lv_at hl 1 rfl) ?_
            refine va_get (D := (dC, dI)) (ci := 8) (v := .int x4) (C := RX11) (T := TX11) (N := 71) hx hb hw iwX11 hown hK hP 0 rfl rfl 14 (by decide) (hw _ w_f_X11_38) (fun _ h9 => h9) rfl dX11_feed_103 ?_
            refine lv_iconst (v := 1) hx hb dX11_feed_106 (by decide) ?_
            refine lv_iadd hx hb dX11_feed_107 ?_
            refine lv_topi (fun z59 ez59 => ?_)
            have tz59 : (z59).toInt = (x4).toInt + 1 := by rw [ez59]; exact i_add rfl (by decide) (by omega)
            refine va_put (D := (dC, dI)) (ci := 8) (v := .int z59) (ty := tyX11 14) (C := RX11) (T := TX11) (N := 71) hx hb hw iwX11 tyX11 tyX11_ok nmX11 hown hK hP hD hS 0 rfl rfl 14 (by decide) (hw _ w_f_X11_38) (fun _ h9 => h9) rfl (tyX11_ok 14 (by decide)) rfl rfl (Nat.le_of_ble_eq_true rfl) dX11_feed_108 (fun H locs hP9 hD9 hS9 => ?_)
            clear hP hD hS
            have hP : va_P (dC, dI) cls [(h_mm, .inr (8, (mo95 v_mm (.int 0) (.ref h_tap) (.int z59)))), (h_tap, .inl (cy_tap, 600, .inl f57))] H := hP9
            have hD : va_D A [(h_mm, .inr (8, (mo95 v_mm (.int 0) (.ref h_tap) (.int z59)))), (h_tap, .inl (cy_tap, 600, .inl f57))] := hD9
            have hS := hS9
            clear hP9 hD9 hS9
            obtain ⟨z60, ez60⟩ : ∃ y : Int32, y = x3 + 1 := ⟨_, rfl⟩
            have tz60 : (z60).toInt = (x3).toInt + 1 := by rw [ez60]; exact i_add rfl (by decide) (by omega)
            refine lv_iinc (v := z60) (lv' := [(6, .int z60), (7, .int p1), (0, .ref h_mm), (1, .int p1), (2, .int p2), (3, .int p3), (4, .int p4), (5, .int p5)]) hx hb dX11_feed_111 hl (k := 7) rfl (by rw [ez60]; rfl) (by decide) rfl (fun ls hl => ?_)
            refine lv_goto (tgt := 23) hx hb dX11_feed_114 (by decide) ?_
            exact ih7 (z60) (z59) (f57) _ _ _ (by omega) (by omega) (by omega) (by first | exact klp6_3 | omega) (fedm_cast fm58 (by omega)) (by omega) hP hD hS (lv_sub hl [2, 3, 4, 5, 6, 7, 0] rfl)
    have cst0 : (0 : Int32).toInt = 0 := by decide
    exact lp6 _ (0) (x_mm_taped) (f_tap) _ _ _ (by decide) (by first | exact hx_mm_taped | omega) (by omega) (by omega) (fedm_zero (by decide)) (Nat.le_refl _) hP hD hS (lv_sub hl [1, 2, 3, 4, 5, 6, 0] rfl)
  · have kc2 := (not_congr (cv_le (rfl : (z1).toInt = (z1).toInt) (by decide : (600 : Int32).toInt = 600))).mp c2
    refine lv_iconst (v := (-1)) hx hb dX11_feed_18 (by decide) ?_
    refine W.widen (k := 0) (n := 0) (Nat.le_of_ble_eq_true rfl) (Nat.le_of_ble_eq_true rfl) ?_
    have cstm1 : ((-1) : Int32).toInt = -1 := by decide
    have cst0 : (0 : Int32).toInt = 0 := by decide
    have w61 : 0 ≤ ((x_mm_taped)).toInt ∧ ((x_mm_taped)).toInt ≤ 600 := by first | exact hx_mm_taped | omega
    have w62 : ((x_mm_taped).toInt + 20 > 600 ∧ ((x_mm_taped)).toInt = (x_mm_taped).toInt ∧ (((-1) : Int32)).toInt = -1) ∨ ((x_mm_taped).toInt + 20 ≤ 600 ∧ ((x_mm_taped)).toInt = (x_mm_taped).toInt + 20 ∧ (((-1) : Int32)).toInt = (x_mm_taped).toInt + 20) := by omega
    have w63 : ((((-1) : Int32)).toInt = -1 ∧ (f_tap) = f_tap) ∨ FEDM (x_mm_taped).toInt p1 p2 p3 p4 p5 20 f_tap (f_tap) := (Or.inl ⟨by decide, rfl⟩)
    exact W.iret (v := (-1)) hx hb hr (fun t ht hW => ⟨⟨(-1), (0, x_mm_taped, f_tap), rfl, ⟨w61, w62, w63⟩, by rw [ht]; exact hP, hD⟩, hS.F ht⟩) hS.2.2 dX11_feed_19

set_option maxHeartbeats 8000000 in
set_option maxRecDepth 100000 in
theorem c_X11_end (l : Launch) (dC : Nat → ClassId) (dI : Nat → Nat → Nat) (sz : Nat) (h_mm : Nat) (v_mm : Nat → Value) (x_mm_taped : Int32) (p1 : Int32) (hx_mm_taped : 0 ≤ (x_mm_taped).toInt ∧ (x_mm_taped).toInt ≤ 600) : Met l yX11_end (Ws yX11_end cX11_end 2 (some .boolean)) (({ frames := 1, cells := 0, slots := 0, locals := 26 } : Room)) (PRE (dC, dI) cls [] [(h_mm, .inr (8, (mo96 v_mm (.int x_mm_taped))))] sz [.ref h_mm, .int p1]) (va_Qi (fun (r : Int32) (u : (Int32) × (Int32)) => (0 ≤ (u.2).toInt ∧ (u.2).toInt ≤ 600) ∧ ((r = 1 ∧ (0 ≤ (p1).toInt) ∧ ((p1).toInt ≤ (x_mm_taped).toInt) ∧ ((u.2).toInt = (p1).toInt)) ∨ (r = 0 ∧ ((p1).toInt < 0 ∨ (x_mm_taped).toInt < (p1).toInt) ∧ ((u.2).toInt = (x_mm_taped).toInt)))) (fun (u : (Int32) × (Int32)) (t : State) => va_P (dC, dI) cls [(h_mm, .inr (8, (mo97 v_mm (.int u.1) (.int u.2))))] t.heap ∧ va_D (va_A [(h_mm, .inr (8, (mo96 v_mm (.int x_mm_taped))))] sz) [(h_mm, .inr (8, (mo97 v_mm (.int u.1) (.int u.2))))]) (va_A [(h_mm, .inr (8, (mo96 v_mm (.int x_mm_taped))))] sz)) 0 0 (va_A [(h_mm, .inr (8, (mo96 v_mm (.int x_mm_taped))))] sz) := by
  refine Met.ofW (cc := cX11_end) (maxL := 2) (ret := (some .boolean)) (by decide) rfl ?_
  intro p e s m args below meth c s₁ B hml hv
  obtain ⟨rfl, hsz, hP, hK, hD0, hN⟩ := hv
  have hx := B.exec
  have hb := B.bytes
  have hr := B.returns
  have hts := atoms_spec (ws := Ws yX11_end cX11_end 2 (some .boolean)) B.pre
  have hT : ∀ w ∈ WALL, w ∈ Ws yX11_end cX11_end 2 (some .boolean) := fun w h => List.mem_cons_of_mem _ h
  have hw := fun w (h : w ∈ WALL) => hts w (hT w h)
  have hown : s.vm.findClass RX11 = some m.cls := findClass_of_methodNamed B.named
  have hlocks := B.notSynchronized
  subst hsz
  have hD := hD0.self (sz := s.heap.size)
  generalize hAe : va_A [(h_mm, .inr (8, (mo96 v_mm (.int x_mm_taped))))] s.heap.size = A at hD ⊢
  have hA : ∀ q : Nat, s.heap.size ≤ q → A q := fun q h => by rw [← hAe]; exact Or.inr h
  have hS : va_S A s.heap s.heap [] := va_S.rf
  have hl := lv_entry ([.ref h_mm, .int p1]) (n := 2) (Nat.le_of_ble_eq_true rfl)
  rw [lg_entry_eq]
  generalize (lg_sl ([.ref h_mm, .int p1]) ++ List.replicate (2 - (lg_sl ([.ref h_mm, .int p1])).length) Slot.unset).toArray = ls at hl ⊢
  have hl : lv_has ls 2 [(0, .ref h_mm), (1, .int p1)] := hl
  refine lv_aload_n hx hb dX11_end_0 rfl (lv_at hl 0 rfl) ?_
  refine lv_iconst (v := 0) hx hb dX11_end_1 (by decide) ?_
  refine va_put (D := (dC, dI)) (ci := 8) (v := .int 0) (ty := tyX11 0) (C := RX11) (T := TX11) (N := 71) hx hb hw iwX11 tyX11 tyX11_ok nmX11 hown hK hP hD hS 0 rfl rfl 0 (by decide) (hw _ w_f_X11_1) (fun _ h9 => h9) rfl (tyX11_ok 0 (by decide)) rfl rfl (Nat.le_of_ble_eq_true rfl) dX11_end_2 (fun H locs hP9 hD9 hS9 => ?_)
  clear hP hD hS
  have hP : va_P (dC, dI) cls [(h_mm, .inr (8, (mo97 v_mm (.int 0) (.int x_mm_taped))))] H := hP9
  have hD : va_D A [(h_mm, .inr (8, (mo97 v_mm (.int 0) (.int x_mm_taped))))] := hD9
  have hS := hS9
  clear hP9 hD9 hS9
  refine lv_aload_n hx hb dX11_end_5 rfl (lv_at hl 0 rfl) ?_
  refine lv_iload_n hx hb dX11_end_6 rfl (lv_at hl 1 rfl) ?_
  refine lv_i2l hx hb dX11_end_7 rfl ?_
  refine lv_topl (fun z1 ez1 => ?_)
  have tz1 : (z1).toInt = (p1).toInt := by rw [ez1]; exact Int32.toInt_toInt64 _
  have bz1 := i_bd p1
  refine lv_lconst (v := 0) hx hb dX11_end_8 (by decide) ?_
  refine lv_aload_n hx hb dX11_end_9 rfl (lv_at hl 0 rfl) ?_
  refine va_get (D := (dC, dI)) (ci := 8) (v := .int x_mm_taped) (C := RX11) (T := TX11) (N := 71) hx hb hw iwX11 hown hK hP 0 rfl rfl 14 (by decide) (hw _ w_f_X11_38) (fun _ h9 => h9) rfl dX11_end_10 ?_
  refine lv_i2l hx hb dX11_end_13 rfl ?_
  refine lv_topl (fun z2 ez2 => ?_)
  have tz2 : (z2).toInt = (x_mm_taped).toInt := by rw [ez2]; exact Int32.toInt_toInt64 _
  have bz2 := i_bd x_mm_taped
  have : (0 : Int64).toInt = 0 := by decide
  have hPc := hP.sub (ws' := []) [] rfl
  have hDc := hD.sub (ws' := []) [] (by decide) rfl
  have hKc := hK.sub (tys' := []) [] rfl
  have hFc := va_free (wc := []) hD hS hA [] rfl
  refine va_calli (va_runV (As := [.long z1, .long 0, .long z2]) (rest := []) ⟨hx, hb, hml, hown, hts⟩ (c_X11_isIn l dC dI H.size h_mm z1 0 z2) (cwV 3 hts (gv hT w_m_X11_49 w_instanceMethod_X11_isIn ws_sel_X11_isIn w_ini_X11 w_code_X11_isIn) rfl rfl rfl (by decide +kernel) ⟨(Nat.le_of_ble_eq_true rfl), (Nat.le_of_ble_eq_true rfl)⟩) ⟨pre_blind, va_recv hK hP (ci := 8) (q0 := 0) rfl rfl, pre_of hPc hKc hDc hN⟩ rfl rfl hl.1 rfl (lv_room (Nat.le_of_ble_eq_true rfl)) dX11_end_14 ⟨(Nat.le_of_ble_eq_true rfl), (Nat.le_of_ble_eq_true rfl)⟩) hS (fun q _ h => hFc q h) hFc (fun r3 u t H locs ht hvm hq hB hz1 hk1 hS9 => ?_)
  obtain ⟨hP1, hD1⟩ := hB
  rw [ht] at hP1
  obtain ⟨hP9, hD9⟩ := va_join (wr := [(h_mm, .inr (8, (mo97 v_mm (.int 0) (.int x_mm_taped))))]) (w1 := []) hP hD [] [0] rfl rfl (by decide) (by decide) hk1 hFc hP1 hD1
  clear hP hD hS hPc hDc hKc hFc hP1 hD1 hk1 hz1 ht hvm
  have hP : va_P (dC, dI) cls [(h_mm, .inr (8, (mo97 v_mm (.int 0) (.int x_mm_taped))))] H := hP9
  have hD : va_D A [(h_mm, .inr (8, (mo97 v_mm (.int 0) (.int x_mm_taped))))] := hD9
  have hS := hS9
  clear hP9 hD9 hS9
  rcases hq with ⟨rfl, hq⟩ | ⟨rfl, hq⟩
  · replace hq : (((0 : Int64)).toInt ≤ ((z1)).toInt) ∧ (((z1)).toInt ≤ ((z2)).toInt) := hq
    refine lv_if_ne (tgt := 22) hx hb dX11_end_17 (by decide) (fun _ => ?_) (fun c9 => absurd c9 (by decide))
    refine lv_aload_n hx hb dX11_end_22 rfl (lv_at hl 0 rfl) ?_
    refine lv_iload_n hx hb dX11_end_23 rfl (lv_at hl 1 rfl) ?_
    refine va_put (D := (dC, dI)) (ci := 8) (v := .int p1) (ty := tyX11 14) (C := RX11) (T := TX11) (N := 71) hx hb hw iwX11 tyX11 tyX11_ok nmX11 hown hK hP hD hS 0 rfl rfl 14 (by decide) (hw _ w_f_X11_38) (fun _ h9 => h9) rfl (tyX11_ok 14 (by decide)) rfl rfl (Nat.le_of_ble_eq_true rfl) dX11_end_24 (fun H locs hP9 hD9 hS9 => ?_)
    clear hP hD hS
    have hP : va_P (dC, dI) cls [(h_mm, .inr (8, (mo97 v_mm (.int 0) (.int p1))))] H := hP9
    have hD : va_D A [(h_mm, .inr (8, (mo97 v_mm (.int 0) (.int p1))))] := hD9
    have hS := hS9
    clear hP9 hD9 hS9
    refine lv_iconst (v := 1) hx hb dX11_end_27 (by decide) ?_
    refine W.widen (k := 0) (n := 0) (Nat.le_of_ble_eq_true rfl) (Nat.le_of_ble_eq_true rfl) ?_
    have cst1 : (1 : Int32).toInt = 1 := by decide
    have cst0 : (0 : Int32).toInt = 0 := by decide
    have w4 : 0 ≤ ((p1)).toInt ∧ ((p1)).toInt ≤ 600 := by omega
    have : 0 ≤ (p1).toInt := by omega
    have : (p1).toInt ≤ (x_mm_taped).toInt := by omega
    have : ((p1)).toInt = (p1).toInt := by omega
    exact W.zret (v := 1) (ty := .boolean) hx hb hr (by decide) (fun t ht hW => ⟨⟨1, (0, p1), rfl, ⟨w4, (Or.inl (⟨rfl, by assumption, by assumption, by assumption⟩))⟩, by rw [ht]; exact hP, hD⟩, hS.F ht⟩) hS.2.2 dX11_end_28
  · replace hq : (((z1)).toInt < ((0 : Int64)).toInt ∨ ((z2)).toInt < ((z1)).toInt) := hq
    refine lv_if_ne (tgt := 22) hx hb dX11_end_17 (by decide) (fun c9 => absurd c9 (by decide)) (fun _ => ?_)
    refine lv_iconst (v := 0) hx hb dX11_end_20 (by decide) ?_
    refine W.widen (k := 0) (n := 0) (Nat.le_of_ble_eq_true rfl) (Nat.le_of_ble_eq_true rfl) ?_
    have cst0 : (0 : Int32).toInt = 0 := by decide
    have w6 : 0 ≤ ((x_mm_taped)).toInt ∧ ((x_mm_taped)).toInt ≤ 600 := by first | exact hx_mm_taped | omega
    have : (p1).toInt < 0 ∨ (x_mm_taped).toInt < (p1).toInt := by omega
    have : ((x_mm_taped)).toInt = (x_mm_taped).toInt := by omega
    exact W.zret (v := 0) (ty := .boolean) hx hb hr (by decide) (fun t ht hW => ⟨⟨0, (0, x_mm_taped), rfl, ⟨w6, (Or.inr (⟨rfl, by assumption, by assumption⟩))⟩, by rw [ht]; exact hP, hD⟩, hS.F ht⟩) hS.2.2 dX11_end_21

set_option maxHeartbeats 8000000 in
set_option maxRecDepth 100000 in
theorem c_X11_fault (l : Launch) (dC : Nat → ClassId) (dI : Nat → Nat → Nat) (sz : Nat) (h_mm : Nat) (v_mm : Nat → Value) (x_mm_fault : Int32) (x_mm_faultPlace : Int32) (p1 : Int32)  : Met l yX11_fault (Ws yX11_fault cX11_fault 2 (some .int)) (({ frames := 0, cells := 0, slots := 0, locals := 0 } : Room)) (PRE (dC, dI) cls [] [(h_mm, .inr (8, (mo98 v_mm (.int x_mm_fault) (.int x_mm_faultPlace))))] sz [.ref h_mm, .int p1]) (va_Qi (fun (r : Int32) (u : (Int32)) => (((p1).toInt = 0 ∧ (r).toInt = (x_mm_fault).toInt) ∨ ((p1).toInt = 1 ∧ (r).toInt = (x_mm_faultPlace).toInt) ∨ (¬ (p1).toInt = 0 ∧ ¬ (p1).toInt = 1 ∧ (r).toInt = -1))) (fun (u : (Int32)) (t : State) => va_P (dC, dI) cls [(h_mm, .inr (8, (mo99 v_mm (.int u) (.int x_mm_fault) (.int x_mm_faultPlace))))] t.heap ∧ va_D (va_A [(h_mm, .inr (8, (mo98 v_mm (.int x_mm_fault) (.int x_mm_faultPlace))))] sz) [(h_mm, .inr (8, (mo99 v_mm (.int u) (.int x_mm_fault) (.int x_mm_faultPlace))))]) (va_A [(h_mm, .inr (8, (mo98 v_mm (.int x_mm_fault) (.int x_mm_faultPlace))))] sz)) 0 0 (va_A [(h_mm, .inr (8, (mo98 v_mm (.int x_mm_fault) (.int x_mm_faultPlace))))] sz) := by
  refine Met.ofW (cc := cX11_fault) (maxL := 2) (ret := (some .int)) (by decide) rfl ?_
  intro p e s m args below meth c s₁ B hml hv
  obtain ⟨rfl, hsz, hP, hK, hD0, hN⟩ := hv
  have hx := B.exec
  have hb := B.bytes
  have hr := B.returns
  have hts := atoms_spec (ws := Ws yX11_fault cX11_fault 2 (some .int)) B.pre
  have hT : ∀ w ∈ WALL, w ∈ Ws yX11_fault cX11_fault 2 (some .int) := fun w h => List.mem_cons_of_mem _ h
  have hw := fun w (h : w ∈ WALL) => hts w (hT w h)
  have hown : s.vm.findClass RX11 = some m.cls := findClass_of_methodNamed B.named
  have hlocks := B.notSynchronized
  subst hsz
  have hD := hD0.self (sz := s.heap.size)
  generalize hAe : va_A [(h_mm, .inr (8, (mo98 v_mm (.int x_mm_fault) (.int x_mm_faultPlace))))] s.heap.size = A at hD ⊢
  have hA : ∀ q : Nat, s.heap.size ≤ q → A q := fun q h => by rw [← hAe]; exact Or.inr h
  have hS : va_S A s.heap s.heap [] := va_S.rf
  have hl := lv_entry ([.ref h_mm, .int p1]) (n := 2) (Nat.le_of_ble_eq_true rfl)
  rw [lg_entry_eq]
  generalize (lg_sl ([.ref h_mm, .int p1]) ++ List.replicate (2 - (lg_sl ([.ref h_mm, .int p1])).length) Slot.unset).toArray = ls at hl ⊢
  have hl : lv_has ls 2 [(0, .ref h_mm), (1, .int p1)] := hl
  refine lv_aload_n hx hb dX11_fault_0 rfl (lv_at hl 0 rfl) ?_
  refine lv_iconst (v := 0) hx hb dX11_fault_1 (by decide) ?_
  refine va_put (D := (dC, dI)) (ci := 8) (v := .int 0) (ty := tyX11 0) (C := RX11) (T := TX11) (N := 71) hx hb hw iwX11 tyX11 tyX11_ok nmX11 hown hK hP hD hS 0 rfl rfl 0 (by decide) (hw _ w_f_X11_1) (fun _ h9 => h9) rfl (tyX11_ok 0 (by decide)) rfl rfl (Nat.le_of_ble_eq_true rfl) dX11_fault_2 (fun H locs hP9 hD9 hS9 => ?_)
  clear hP hD hS
  have hP : va_P (dC, dI) cls [(h_mm, .inr (8, (mo99 v_mm (.int 0) (.int x_mm_fault) (.int x_mm_faultPlace))))] H := hP9
  have hD : va_D A [(h_mm, .inr (8, (mo99 v_mm (.int 0) (.int x_mm_fault) (.int x_mm_faultPlace))))] := hD9
  have hS := hS9
  clear hP9 hD9 hS9
  refine lv_iload_n hx hb dX11_fault_5 rfl (lv_at hl 1 rfl) ?_
  refine lv_if_ne (tgt := 16) hx hb dX11_fault_6 (by decide) (fun c1 => ?_) (fun c1 => ?_)
  · have kc1 := (not_congr (cv_eq (rfl : (p1).toInt = (p1).toInt) (by decide : (0 : Int32).toInt = 0))).mp c1
    refine lv_iload_n hx hb dX11_fault_16 rfl (lv_at hl 1 rfl) ?_
    refine lv_iconst (v := 1) hx hb dX11_fault_17 (by decide) ?_
    refine lv_icmp_ne (tgt := 28) hx hb dX11_fault_18 (by decide) (fun c2 => ?_) (fun c2 => ?_)
    · have kc2 := (not_congr (cv_eq (rfl : (p1).toInt = (p1).toInt) (by decide : (1 : Int32).toInt = 1))).mp c2
      refine lv_iconst (v := (-1)) hx hb dX11_fault_28 (by decide) ?_
      refine W.widen (k := 0) (n := 0) (Nat.le_of_ble_eq_true rfl) (Nat.le_of_ble_eq_true rfl) ?_
      have cstm1 : ((-1) : Int32).toInt = -1 := by decide
      have cst0 : (0 : Int32).toInt = 0 := by decide
      have w3 : ((p1).toInt = 0 ∧ (((-1) : Int32)).toInt = (x_mm_fault).toInt) ∨ ((p1).toInt = 1 ∧ (((-1) : Int32)).toInt = (x_mm_faultPlace).toInt) ∨ (¬ (p1).toInt = 0 ∧ ¬ (p1).toInt = 1 ∧ (((-1) : Int32)).toInt = -1) := by omega
      exact W.iret (v := (-1)) hx hb hr (fun t ht hW => ⟨⟨(-1), 0, rfl, w3, by rw [ht]; exact hP, hD⟩, hS.F ht⟩) hS.2.2 dX11_fault_29
    · have kc2 := (cv_eq (rfl : (p1).toInt = (p1).toInt) (by decide : (1 : Int32).toInt = 1)).mp c2
      refine lv_aload_n hx hb dX11_fault_21 rfl (lv_at hl 0 rfl) ?_
      refine va_get (D := (dC, dI)) (ci := 8) (v := .int x_mm_faultPlace) (C := RX11) (T := TX11) (N := 71) hx hb hw iwX11 hown hK hP 0 rfl rfl 22 (by decide) (hw _ w_f_X11_71) (fun _ h9 => h9) rfl dX11_fault_22 ?_
      refine lv_goto (tgt := 29) hx hb dX11_fault_25 (by decide) ?_
      refine W.widen (k := 0) (n := 0) (Nat.le_of_ble_eq_true rfl) (Nat.le_of_ble_eq_true rfl) ?_
      have cst0 : (0 : Int32).toInt = 0 := by decide
      have w4 : ((p1).toInt = 0 ∧ ((x_mm_faultPlace : Int32)).toInt = (x_mm_fault).toInt) ∨ ((p1).toInt = 1 ∧ ((x_mm_faultPlace : Int32)).toInt = (x_mm_faultPlace).toInt) ∨ (¬ (p1).toInt = 0 ∧ ¬ (p1).toInt = 1 ∧ ((x_mm_faultPlace : Int32)).toInt = -1) := by omega
      exact W.iret (v := x_mm_faultPlace) hx hb hr (fun t ht hW => ⟨⟨x_mm_faultPlace, 0, rfl, w4, by rw [ht]; exact hP, hD⟩, hS.F ht⟩) hS.2.2 dX11_fault_29
  · have kc1 := (cv_eq (rfl : (p1).toInt = (p1).toInt) (by decide : (0 : Int32).toInt = 0)).mp c1
    refine lv_aload_n hx hb dX11_fault_9 rfl (lv_at hl 0 rfl) ?_
    refine va_get (D := (dC, dI)) (ci := 8) (v := .int x_mm_fault) (C := RX11) (T := TX11) (N := 71) hx hb hw iwX11 hown hK hP 0 rfl rfl 21 (by decide) (hw _ w_f_X11_65) (fun _ h9 => h9) rfl dX11_fault_10 ?_
    refine lv_goto (tgt := 29) hx hb dX11_fault_13 (by decide) ?_
    refine W.widen (k := 0) (n := 0) (Nat.le_of_ble_eq_true rfl) (Nat.le_of_ble_eq_true rfl) ?_
    have cst0 : (0 : Int32).toInt = 0 := by decide
    have w5 : ((p1).toInt = 0 ∧ ((x_mm_fault : Int32)).toInt = (x_mm_fault).toInt) ∨ ((p1).toInt = 1 ∧ ((x_mm_fault : Int32)).toInt = (x_mm_faultPlace).toInt) ∨ (¬ (p1).toInt = 0 ∧ ¬ (p1).toInt = 1 ∧ ((x_mm_fault : Int32)).toInt = -1) := by omega
    exact W.iret (v := x_mm_fault) hx hb hr (fun t ht hW => ⟨⟨x_mm_fault, 0, rfl, w5, by rw [ht]; exact hP, hD⟩, hS.F ht⟩) hS.2.2 dX11_fault_29

set_option maxHeartbeats 8000000 in
set_option maxRecDepth 100000 in
theorem c_X11_isClause (l : Launch) (dC : Nat → ClassId) (dI : Nat → Nat → Nat) (sz : Nat) (h_mm : Nat) (v_mm : Nat → Value) (x_mm_clauses : Int32) (p1 : Int32) (hx_mm_clauses : 0 ≤ (x_mm_clauses).toInt ∧ (x_mm_clauses).toInt ≤ 16) : Met l yX11_isClause (Ws yX11_isClause cX11_isClause 2 (some .boolean)) (({ frames := 1, cells := 0, slots := 0, locals := 26 } : Room)) (PRE (dC, dI) cls [] [(h_mm, .inr (8, (mo100 v_mm (.int x_mm_clauses))))] sz [.ref h_mm, .int p1]) (va_Qi (fun (r : Int32) (_ : Unit) => ((r = 1 ∧ (0 ≤ (p1).toInt) ∧ ((p1).toInt < (x_mm_clauses).toInt)) ∨ (r = 0 ∧ ((p1).toInt < 0 ∨ (x_mm_clauses).toInt ≤ (p1).toInt)))) (fun (_ : Unit) (t : State) => va_P (dC, dI) cls [(h_mm, .inr (8, (mo100 v_mm (.int x_mm_clauses))))] t.heap ∧ va_D (va_A [(h_mm, .inr (8, (mo100 v_mm (.int x_mm_clauses))))] sz) [(h_mm, .inr (8, (mo100 v_mm (.int x_mm_clauses))))]) (va_A [(h_mm, .inr (8, (mo100 v_mm (.int x_mm_clauses))))] sz)) 0 0 (va_A [(h_mm, .inr (8, (mo100 v_mm (.int x_mm_clauses))))] sz) := by
  refine Met.ofW (cc := cX11_isClause) (maxL := 2) (ret := (some .boolean)) (by decide) rfl ?_
  intro p e s m args below meth c s₁ B hml hv
  obtain ⟨rfl, hsz, hP, hK, hD0, hN⟩ := hv
  have hx := B.exec
  have hb := B.bytes
  have hr := B.returns
  have hts := atoms_spec (ws := Ws yX11_isClause cX11_isClause 2 (some .boolean)) B.pre
  have hT : ∀ w ∈ WALL, w ∈ Ws yX11_isClause cX11_isClause 2 (some .boolean) := fun w h => List.mem_cons_of_mem _ h
  have hw := fun w (h : w ∈ WALL) => hts w (hT w h)
  have hown : s.vm.findClass RX11 = some m.cls := findClass_of_methodNamed B.named
  have hlocks := B.notSynchronized
  subst hsz
  have hD := hD0.self (sz := s.heap.size)
  generalize hAe : va_A [(h_mm, .inr (8, (mo100 v_mm (.int x_mm_clauses))))] s.heap.size = A at hD ⊢
  have hA : ∀ q : Nat, s.heap.size ≤ q → A q := fun q h => by rw [← hAe]; exact Or.inr h
  have hS : va_S A s.heap s.heap [] := va_S.rf
  have hl := lv_entry ([.ref h_mm, .int p1]) (n := 2) (Nat.le_of_ble_eq_true rfl)
  rw [lg_entry_eq]
  generalize (lg_sl ([.ref h_mm, .int p1]) ++ List.replicate (2 - (lg_sl ([.ref h_mm, .int p1])).length) Slot.unset).toArray = ls at hl ⊢
  have hl : lv_has ls 2 [(0, .ref h_mm), (1, .int p1)] := hl
  refine lv_aload_n hx hb dX11_isClause_0 rfl (lv_at hl 0 rfl) ?_
  refine lv_iload_n hx hb dX11_isClause_1 rfl (lv_at hl 1 rfl) ?_
  refine lv_i2l hx hb dX11_isClause_2 rfl ?_
  refine lv_topl (fun z1 ez1 => ?_)
  have tz1 : (z1).toInt = (p1).toInt := by rw [ez1]; exact Int32.toInt_toInt64 _
  have bz1 := i_bd p1
  refine lv_lconst (v := 0) hx hb dX11_isClause_3 (by decide) ?_
  refine lv_aload_n hx hb dX11_isClause_4 rfl (lv_at hl 0 rfl) ?_
  refine va_get (D := (dC, dI)) (ci := 8) (v := .int x_mm_clauses) (C := RX11) (T := TX11) (N := 71) hx hb hw iwX11 hown hK hP 0 rfl rfl 7 (by decide) (hw _ w_f_X11_164) (fun _ h9 => h9) rfl dX11_isClause_5 ?_
  refine lv_i2l hx hb dX11_isClause_8 rfl ?_
  refine lv_topl (fun z2 ez2 => ?_)
  have tz2 : (z2).toInt = (x_mm_clauses).toInt := by rw [ez2]; exact Int32.toInt_toInt64 _
  have bz2 := i_bd x_mm_clauses
  refine lv_lconst (v := 1) hx hb dX11_isClause_9 (by decide) ?_
  refine lv_lsub hx hb dX11_isClause_10 ?_
  refine lv_topl (fun z3 ez3 => ?_)
  have tz3 : (z3).toInt = (z2).toInt - 1 := by rw [ez3]; exact l_sub rfl (by decide) (by omega)
  have : (0 : Int64).toInt = 0 := by decide
  have hPc := hP.sub (ws' := []) [] rfl
  have hDc := hD.sub (ws' := []) [] (by decide) rfl
  have hKc := hK.sub (tys' := []) [] rfl
  have hFc := va_free (wc := []) hD hS hA [] rfl
  refine va_calli (va_runV (As := [.long z1, .long 0, .long z3]) (rest := []) ⟨hx, hb, hml, hown, hts⟩ (c_X11_isIn l dC dI s.heap.size h_mm z1 0 z3) (cwV 3 hts (gv hT w_m_X11_49 w_instanceMethod_X11_isIn ws_sel_X11_isIn w_ini_X11 w_code_X11_isIn) rfl rfl rfl (by decide +kernel) ⟨(Nat.le_of_ble_eq_true rfl), (Nat.le_of_ble_eq_true rfl)⟩) ⟨pre_blind, va_recv hK hP (ci := 8) (q0 := 0) rfl rfl, pre_of hPc hKc hDc hN⟩ rfl rfl hl.1 rfl (lv_room (Nat.le_of_ble_eq_true rfl)) dX11_isClause_11 ⟨(Nat.le_of_ble_eq_true rfl), (Nat.le_of_ble_eq_true rfl)⟩) hS (fun q _ h => hFc q h) hFc (fun r4 u t H locs ht hvm hq hB hz1 hk1 hS9 => ?_)
  obtain ⟨hP1, hD1⟩ := hB
  rw [ht] at hP1
  obtain ⟨hP9, hD9⟩ := va_join (wr := [(h_mm, .inr (8, (mo100 v_mm (.int x_mm_clauses))))]) (w1 := []) hP hD [] [0] rfl rfl (by decide) (by decide) hk1 hFc hP1 hD1
  clear hP hD hS hPc hDc hKc hFc hP1 hD1 hk1 hz1 ht hvm
  have hP : va_P (dC, dI) cls [(h_mm, .inr (8, (mo100 v_mm (.int x_mm_clauses))))] H := hP9
  have hD : va_D A [(h_mm, .inr (8, (mo100 v_mm (.int x_mm_clauses))))] := hD9
  have hS := hS9
  clear hP9 hD9 hS9
  rcases hq with ⟨rfl, hq⟩ | ⟨rfl, hq⟩
  · replace hq : (((0 : Int64)).toInt ≤ ((z1)).toInt) ∧ (((z1)).toInt ≤ ((z3)).toInt) := hq
    refine W.widen (k := 0) (n := 0) (Nat.le_of_ble_eq_true rfl) (Nat.le_of_ble_eq_true rfl) ?_
    have cst1 : (1 : Int32).toInt = 1 := by decide
    have : 0 ≤ (p1).toInt := by omega
    have : (p1).toInt < (x_mm_clauses).toInt := by omega
    exact W.zret (v := 1) (ty := .boolean) hx hb hr (by decide) (fun t ht hW => ⟨⟨1, (), rfl, (Or.inl (⟨rfl, by assumption, by assumption⟩)), by rw [ht]; exact hP, hD⟩, hS.F ht⟩) hS.2.2 dX11_isClause_14
  · replace hq : (((z1)).toInt < ((0 : Int64)).toInt ∨ ((z3)).toInt < ((z1)).toInt) := hq
    refine W.widen (k := 0) (n := 0) (Nat.le_of_ble_eq_true rfl) (Nat.le_of_ble_eq_true rfl) ?_
    have cst0 : (0 : Int32).toInt = 0 := by decide
    have : (p1).toInt < 0 ∨ (x_mm_clauses).toInt ≤ (p1).toInt := by omega
    exact W.zret (v := 0) (ty := .boolean) hx hb hr (by decide) (fun t ht hW => ⟨⟨0, (), rfl, (Or.inr (⟨rfl, by assumption⟩)), by rw [ht]; exact hP, hD⟩, hS.F ht⟩) hS.2.2 dX11_isClause_14

set_option maxHeartbeats 8000000 in
set_option maxRecDepth 100000 in
theorem c_X11_isLiteral (l : Launch) (dC : Nat → ClassId) (dI : Nat → Nat → Nat) (sz : Nat) (h_mm : Nat) (h_mny : Nat) (v_mm : Nat → Value) (x_mm_clauses : Int32) (cy_mny : ClassId) (f_mny : Nat → Int32) (p1 : Int32) (p2 : Int32) (hx_mm_clauses : 0 ≤ (x_mm_clauses).toInt ∧ (x_mm_clauses).toInt ≤ 16) (hf_mny : Rg 0 6 f_mny) : Met l yX11_isLiteral (Ws yX11_isLiteral cX11_isLiteral 3 (some .boolean)) (({ frames := 2, cells := 0, slots := 0, locals := 47 } : Room)) (PRE (dC, dI) cls [(cy_mny, .int)] [(h_mm, .inr (8, (mo101 v_mm (.int x_mm_clauses) (.ref h_mny)))), (h_mny, .inl (cy_mny, 32, .inl f_mny))] sz [.ref h_mm, .int p1, .int p2]) (va_Qi (fun (r : Int32) (_ : Unit) => ((r = 1 ∧ (0 ≤ (p1).toInt) ∧ ((p1).toInt < (x_mm_clauses).toInt) ∧ (0 ≤ (p2).toInt) ∧ ((p2).toInt ≤ 5)) ∨ (r = 0))) (fun (_ : Unit) (t : State) => va_P (dC, dI) cls [(h_mm, .inr (8, (mo101 v_mm (.int x_mm_clauses) (.ref h_mny)))), (h_mny, .inl (cy_mny, 32, .inl f_mny))] t.heap ∧ va_D (va_A [(h_mm, .inr (8, (mo101 v_mm (.int x_mm_clauses) (.ref h_mny)))), (h_mny, .inl (cy_mny, 32, .inl f_mny))] sz) [(h_mm, .inr (8, (mo101 v_mm (.int x_mm_clauses) (.ref h_mny)))), (h_mny, .inl (cy_mny, 32, .inl f_mny))]) (va_A [(h_mm, .inr (8, (mo101 v_mm (.int x_mm_clauses) (.ref h_mny)))), (h_mny, .inl (cy_mny, 32, .inl f_mny))] sz)) 0 0 (va_A [(h_mm, .inr (8, (mo101 v_mm (.int x_mm_clauses) (.ref h_mny)))), (h_mny, .inl (cy_mny, 32, .inl f_mny))] sz) := by
  refine Met.ofW (cc := cX11_isLiteral) (maxL := 3) (ret := (some .boolean)) (by decide) rfl ?_
  intro p e s m args below meth c s₁ B hml hv
  obtain ⟨rfl, hsz, hP, hK, hD0, hN⟩ := hv
  have hx := B.exec
  have hb := B.bytes
  have hr := B.returns
  have hts := atoms_spec (ws := Ws yX11_isLiteral cX11_isLiteral 3 (some .boolean)) B.pre
  have hT : ∀ w ∈ WALL, w ∈ Ws yX11_isLiteral cX11_isLiteral 3 (some .boolean) := fun w h => List.mem_cons_of_mem _ h
  have hw := fun w (h : w ∈ WALL) => hts w (hT w h)
  have hown : s.vm.findClass RX11 = some m.cls := findClass_of_methodNamed B.named
  have hlocks := B.notSynchronized
  subst hsz
  have hD := hD0.self (sz := s.heap.size)
  generalize hAe : va_A [(h_mm, .inr (8, (mo101 v_mm (.int x_mm_clauses) (.ref h_mny)))), (h_mny, .inl (cy_mny, 32, .inl f_mny))] s.heap.size = A at hD ⊢
  have hA : ∀ q : Nat, s.heap.size ≤ q → A q := fun q h => by rw [← hAe]; exact Or.inr h
  have hS : va_S A s.heap s.heap [] := va_S.rf
  have hl := lv_entry ([.ref h_mm, .int p1, .int p2]) (n := 3) (Nat.le_of_ble_eq_true rfl)
  rw [lg_entry_eq]
  generalize (lg_sl ([.ref h_mm, .int p1, .int p2]) ++ List.replicate (3 - (lg_sl ([.ref h_mm, .int p1, .int p2])).length) Slot.unset).toArray = ls at hl ⊢
  have hl : lv_has ls 3 [(0, .ref h_mm), (1, .int p1), (2, .int p2)] := hl
  refine lv_aload_n hx hb dX11_isLiteral_0 rfl (lv_at hl 0 rfl) ?_
  refine lv_iload_n hx hb dX11_isLiteral_1 rfl (lv_at hl 1 rfl) ?_
  obtain ⟨vq1, evq1⟩ := mq101_100 v_mm (.ref h_mny)
  replace hP : va_P (dC, dI) cls [(h_mm, .inr (8, (mo100 vq1 (.int x_mm_clauses)))), (h_mny, .inl (cy_mny, 32, .inl f_mny))] s.heap := by rw [evq1]; exact hP
  replace hD : va_D A [(h_mm, .inr (8, (mo100 vq1 (.int x_mm_clauses)))), (h_mny, .inl (cy_mny, 32, .inl f_mny))] := by rw [evq1]; exact hD
  have hPc := hP.sub (ws' := [(h_mm, .inr (8, (mo100 vq1 (.int x_mm_clauses))))]) [0] rfl
  have hDc := hD.sub (ws' := [(h_mm, .inr (8, (mo100 vq1 (.int x_mm_clauses))))]) [0] (by decide) rfl
  have hKc := hK.sub (tys' := []) [] rfl
  have hFc := va_free (wc := [(h_mm, .inr (8, (mo100 vq1 (.int x_mm_clauses))))]) hD hS hA [0] rfl
  refine va_calli (va_runV (As := [.int p1]) (rest := []) ⟨hx, hb, hml, hown, hts⟩ (c_X11_isClause l dC dI s.heap.size h_mm vq1 x_mm_clauses p1 (by first | exact hx_mm_clauses | omega)) (cwV 1 hts (gv hT w_m_X11_174 w_instanceMethod_X11_isClause ws_sel_X11_isClause w_ini_X11 w_code_X11_isClause) rfl rfl rfl (by decide +kernel) ⟨(Nat.le_of_ble_eq_true rfl), (Nat.le_of_ble_eq_true rfl)⟩) ⟨pre_blind, va_recv hK hP (ci := 8) (q0 := 0) rfl rfl, pre_of hPc hKc hDc hN⟩ rfl rfl hl.1 rfl (lv_room (Nat.le_of_ble_eq_true rfl)) dX11_isLiteral_2 ⟨(Nat.le_of_ble_eq_true rfl), (Nat.le_of_ble_eq_true rfl)⟩) hS (fun q _ h => hFc q h) hFc (fun r2 u t H locs ht hvm hq hB hz1 hk1 hS9 => ?_)
  obtain ⟨hP1, hD1⟩ := hB
  rw [ht] at hP1
  obtain ⟨hP9, hD9⟩ := va_join (wr := [(h_mny, .inl (cy_mny, 32, .inl f_mny))]) (w1 := [(h_mm, .inr (8, (mo100 vq1 (.int x_mm_clauses))))]) hP hD [0] [1] rfl rfl (by decide) (by decide) hk1 hFc hP1 hD1
  clear hP hD hS hPc hDc hKc hFc hP1 hD1 hk1 hz1 ht hvm
  have hP : va_P (dC, dI) cls [(h_mny, .inl (cy_mny, 32, .inl f_mny)), (h_mm, .inr (8, (mo100 vq1 (.int x_mm_clauses))))] H := hP9
  have hD : va_D A [(h_mny, .inl (cy_mny, 32, .inl f_mny)), (h_mm, .inr (8, (mo100 vq1 (.int x_mm_clauses))))] := hD9
  have hS := hS9
  clear hP9 hD9 hS9
  rw [evq1] at hP hD
  replace hP : va_P (dC, dI) cls [(h_mny, .inl (cy_mny, 32, .inl f_mny)), (h_mm, .inr (8, (mo101 v_mm (.int x_mm_clauses) (.ref h_mny))))] H := hP
  replace hD : va_D A [(h_mny, .inl (cy_mny, 32, .inl f_mny)), (h_mm, .inr (8, (mo101 v_mm (.int x_mm_clauses) (.ref h_mny))))] := hD
  clear evq1 
  rcases hq with ⟨rfl, hq⟩ | ⟨rfl, hq⟩
  · replace hq : (0 ≤ ((p1)).toInt) ∧ (((p1)).toInt < ((x_mm_clauses)).toInt) := hq
    refine lv_if_eq (tgt := 31) hx hb dX11_isLiteral_5 (by decide) (fun c9 => absurd c9 (by decide)) (fun _ => ?_)
    refine lv_aload_n hx hb dX11_isLiteral_8 rfl (lv_at hl 0 rfl) ?_
    refine lv_iload_n hx hb dX11_isLiteral_9 rfl (lv_at hl 2 rfl) ?_
    refine lv_i2l hx hb dX11_isLiteral_10 rfl ?_
    refine lv_topl (fun z3 ez3 => ?_)
    have tz3 : (z3).toInt = (p2).toInt := by rw [ez3]; exact Int32.toInt_toInt64 _
    have bz3 := i_bd p2
    refine lv_lconst (v := 0) hx hb dX11_isLiteral_11 (by decide) ?_
    refine lv_aload_n hx hb dX11_isLiteral_12 rfl (lv_at hl 0 rfl) ?_
    refine va_get (D := (dC, dI)) (ci := 8) (v := .ref h_mny) (C := RX11) (T := TX11) (N := 71) hx hb hw iwX11 hown hK hP 1 rfl rfl 8 (by decide) (hw _ w_f_X11_142) (fun _ h9 => h9) rfl dX11_isLiteral_13 ?_
    refine lv_iload_n hx hb dX11_isLiteral_16 rfl (lv_at hl 1 rfl) ?_
    refine va_iald hx hb hK hP 0 0 rfl rfl (i := p1) (vp_in_iff.mpr (by omega)) dX11_isLiteral_17 ?_
    refine lv_topi (fun z4 ez4 => ?_)
    have rz4 : 0 ≤ (z4).toInt ∧ (z4).toInt ≤ 6 := by rw [ez4]; exact hf_mny _
    refine lv_i2l hx hb dX11_isLiteral_18 rfl ?_
    refine lv_topl (fun z5 ez5 => ?_)
    have tz5 : (z5).toInt = (z4).toInt := by rw [ez5]; exact Int32.toInt_toInt64 _
    have bz5 := i_bd z4
    refine lv_lconst (v := 1) hx hb dX11_isLiteral_19 (by decide) ?_
    refine lv_lsub hx hb dX11_isLiteral_20 ?_
    refine lv_topl (fun z6 ez6 => ?_)
    have tz6 : (z6).toInt = (z5).toInt - 1 := by rw [ez6]; exact l_sub rfl (by decide) (by omega)
    have : (0 : Int64).toInt = 0 := by decide
    have hPc := hP.sub (ws' := []) [] rfl
    have hDc := hD.sub (ws' := []) [] (by decide) rfl
    have hKc := hK.sub (tys' := []) [] rfl
    have hFc := va_free (wc := []) hD hS hA [] rfl
    refine va_calli (va_runV (As := [.long z3, .long 0, .long z6]) (rest := []) ⟨hx, hb, hml, hown, hts⟩ (c_X11_isIn l dC dI H.size h_mm z3 0 z6) (cwV 3 hts (gv hT w_m_X11_49 w_instanceMethod_X11_isIn ws_sel_X11_isIn w_ini_X11 w_code_X11_isIn) rfl rfl rfl (by decide +kernel) ⟨(Nat.le_of_ble_eq_true rfl), (Nat.le_of_ble_eq_true rfl)⟩) ⟨pre_blind, va_recv hK hP (ci := 8) (q0 := 1) rfl rfl, pre_of hPc hKc hDc hN⟩ rfl rfl hl.1 rfl (lv_room (Nat.le_of_ble_eq_true rfl)) dX11_isLiteral_21 ⟨(Nat.le_of_ble_eq_true rfl), (Nat.le_of_ble_eq_true rfl)⟩) hS (fun q _ h => hFc q h) hFc (fun r7 u t H locs ht hvm hq hB hz1 hk1 hS9 => ?_)
    obtain ⟨hP1, hD1⟩ := hB
    rw [ht] at hP1
    obtain ⟨hP9, hD9⟩ := va_join (wr := [(h_mny, .inl (cy_mny, 32, .inl f_mny)), (h_mm, .inr (8, (mo101 v_mm (.int x_mm_clauses) (.ref h_mny))))]) (w1 := []) hP hD [] [0, 1] rfl rfl (by decide) (by decide) hk1 hFc hP1 hD1
    clear hP hD hS hPc hDc hKc hFc hP1 hD1 hk1 hz1 ht hvm
    have hP : va_P (dC, dI) cls [(h_mny, .inl (cy_mny, 32, .inl f_mny)), (h_mm, .inr (8, (mo101 v_mm (.int x_mm_clauses) (.ref h_mny))))] H := hP9
    have hD : va_D A [(h_mny, .inl (cy_mny, 32, .inl f_mny)), (h_mm, .inr (8, (mo101 v_mm (.int x_mm_clauses) (.ref h_mny))))] := hD9
    have hS := hS9
    clear hP9 hD9 hS9
    rcases hq with ⟨rfl, hq⟩ | ⟨rfl, hq⟩
    · replace hq : (((0 : Int64)).toInt ≤ ((z3)).toInt) ∧ (((z3)).toInt ≤ ((z6)).toInt) := hq
      refine lv_if_eq (tgt := 31) hx hb dX11_isLiteral_24 (by decide) (fun c9 => absurd c9 (by decide)) (fun _ => ?_)
      refine lv_iconst (v := 1) hx hb dX11_isLiteral_27 (by decide) ?_
      refine lv_goto (tgt := 32) hx hb dX11_isLiteral_28 (by decide) ?_
      replace hP : va_P (dC, dI) cls [(h_mm, .inr (8, (mo101 v_mm (.int x_mm_clauses) (.ref h_mny)))), (h_mny, .inl (cy_mny, 32, .inl f_mny))] H := hP.sub [1, 0] rfl
      replace hD : va_D A [(h_mm, .inr (8, (mo101 v_mm (.int x_mm_clauses) (.ref h_mny)))), (h_mny, .inl (cy_mny, 32, .inl f_mny))] := hD.sub [1, 0] (by decide) rfl
      refine W.widen (k := 0) (n := 0) (Nat.le_of_ble_eq_true rfl) (Nat.le_of_ble_eq_true rfl) ?_
      have cst1 : (1 : Int32).toInt = 1 := by decide
      have : 0 ≤ (p1).toInt := by omega
      have : (p1).toInt < (x_mm_clauses).toInt := by omega
      have : 0 ≤ (p2).toInt := by omega
      have : (p2).toInt ≤ 5 := by omega
      exact W.zret (v := 1) (ty := .boolean) hx hb hr (by decide) (fun t ht hW => ⟨⟨1, (), rfl, (Or.inl (⟨rfl, by assumption, by assumption, by assumption, by assumption⟩)), by rw [ht]; exact hP, hD⟩, hS.F ht⟩) hS.2.2 dX11_isLiteral_32
    · replace hq : (((z3)).toInt < ((0 : Int64)).toInt ∨ ((z6)).toInt < ((z3)).toInt) := hq
      refine lv_if_eq (tgt := 31) hx hb dX11_isLiteral_24 (by decide) (fun _ => ?_) (fun c9 => absurd c9 (by decide))
      refine lv_iconst (v := 0) hx hb dX11_isLiteral_31 (by decide) ?_
      replace hP : va_P (dC, dI) cls [(h_mm, .inr (8, (mo101 v_mm (.int x_mm_clauses) (.ref h_mny)))), (h_mny, .inl (cy_mny, 32, .inl f_mny))] H := hP.sub [1, 0] rfl
      replace hD : va_D A [(h_mm, .inr (8, (mo101 v_mm (.int x_mm_clauses) (.ref h_mny)))), (h_mny, .inl (cy_mny, 32, .inl f_mny))] := hD.sub [1, 0] (by decide) rfl
      refine W.widen (k := 0) (n := 0) (Nat.le_of_ble_eq_true rfl) (Nat.le_of_ble_eq_true rfl) ?_
      have cst0 : (0 : Int32).toInt = 0 := by decide
      exact W.zret (v := 0) (ty := .boolean) hx hb hr (by decide) (fun t ht hW => ⟨⟨0, (), rfl, (Or.inr (rfl)), by rw [ht]; exact hP, hD⟩, hS.F ht⟩) hS.2.2 dX11_isLiteral_32
  · replace hq : (((p1)).toInt < 0 ∨ ((x_mm_clauses)).toInt ≤ ((p1)).toInt) := hq
    refine lv_if_eq (tgt := 31) hx hb dX11_isLiteral_5 (by decide) (fun _ => ?_) (fun c9 => absurd c9 (by decide))
    refine lv_iconst (v := 0) hx hb dX11_isLiteral_31 (by decide) ?_
    replace hP : va_P (dC, dI) cls [(h_mm, .inr (8, (mo101 v_mm (.int x_mm_clauses) (.ref h_mny)))), (h_mny, .inl (cy_mny, 32, .inl f_mny))] H := hP.sub [1, 0] rfl
    replace hD : va_D A [(h_mm, .inr (8, (mo101 v_mm (.int x_mm_clauses) (.ref h_mny)))), (h_mny, .inl (cy_mny, 32, .inl f_mny))] := hD.sub [1, 0] (by decide) rfl
    refine W.widen (k := 0) (n := 0) (Nat.le_of_ble_eq_true rfl) (Nat.le_of_ble_eq_true rfl) ?_
    have cst0 : (0 : Int32).toInt = 0 := by decide
    exact W.zret (v := 0) (ty := .boolean) hx hb hr (by decide) (fun t ht hW => ⟨⟨0, (), rfl, (Or.inr (rfl)), by rw [ht]; exact hP, hD⟩, hS.F ht⟩) hS.2.2 dX11_isLiteral_32

set_option maxHeartbeats 8000000 in
set_option maxRecDepth 100000 in
theorem c_X11_copiesClause (l : Launch) (dC : Nat → ClassId) (dI : Nat → Nat → Nat) (sz : Nat) (h_mm : Nat) (h_mny : Nat) (h_vrs : Nat) (h_let : Nat) (h_isn : Nat) (h_tem : Nat) (v_mm : Nat → Value) (cy_mny : ClassId) (f_mny : Nat → Int32) (cy_vrs : ClassId) (f_vrs : Nat → Int32) (cy_let : ClassId) (f_let : Nat → Int32) (cy_isn : ClassId) (f_isn : Nat → Int32) (cy_tem : ClassId) (f_tem : Nat → Int32) (p1 : Int32) (p2 : Int32) (hf_mny : Rg 0 6 f_mny) (hf_vrs : Rg 0 8 f_vrs) (hf_isn : Rg 0 1 f_isn) (hf_tem : Rg 0 7999 f_tem) (q0 : 0 ≤ (p1).toInt ∧ (p1).toInt ≤ 31) (q1 : 0 ≤ (p2).toInt ∧ (p2).toInt ≤ 31) : Met l yX11_copiesClause (Ws yX11_copiesClause cX11_copiesClause 4 none) (({ frames := 1, cells := 0, slots := 0, locals := 22 } : Room)) (PRE (dC, dI) cls [(cy_mny, .int), (cy_vrs, .int), (cy_let, .int), (cy_isn, .boolean), (cy_tem, .int)] [(h_mm, .inr (8, (mo102 v_mm (.ref h_mny) (.ref h_vrs) (.ref h_let) (.ref h_isn) (.ref h_tem)))), (h_mny, .inl (cy_mny, 32, .inl f_mny)), (h_vrs, .inl (cy_vrs, 32, .inl f_vrs)), (h_let, .inl (cy_let, 256, .inl f_let)), (h_isn, .inl (cy_isn, 192, .inl f_isn)), (h_tem, .inl (cy_tem, 192, .inl f_tem))] sz [.ref h_mm, .int p1, .int p2]) (va_Qv (fun (u : (Nat → Int32) × (Nat → Int32) × (Nat → Int32) × (Nat → Int32) × (Nat → Int32)) => (Rg 0 6 u.1) ∧ (Rg 0 8 u.2.1) ∧ (Rg 0 1 u.2.2.2.1) ∧ (Rg 0 7999 u.2.2.2.2)) (fun (u : (Nat → Int32) × (Nat → Int32) × (Nat → Int32) × (Nat → Int32) × (Nat → Int32)) (t : State) => va_P (dC, dI) cls [(h_mm, .inr (8, (mo102 v_mm (.ref h_mny) (.ref h_vrs) (.ref h_let) (.ref h_isn) (.ref h_tem)))), (h_mny, .inl (cy_mny, 32, .inl u.1)), (h_vrs, .inl (cy_vrs, 32, .inl u.2.1)), (h_let, .inl (cy_let, 256, .inl u.2.2.1)), (h_isn, .inl (cy_isn, 192, .inl u.2.2.2.1)), (h_tem, .inl (cy_tem, 192, .inl u.2.2.2.2))] t.heap ∧ va_D (va_A [(h_mm, .inr (8, (mo102 v_mm (.ref h_mny) (.ref h_vrs) (.ref h_let) (.ref h_isn) (.ref h_tem)))), (h_mny, .inl (cy_mny, 32, .inl f_mny)), (h_vrs, .inl (cy_vrs, 32, .inl f_vrs)), (h_let, .inl (cy_let, 256, .inl f_let)), (h_isn, .inl (cy_isn, 192, .inl f_isn)), (h_tem, .inl (cy_tem, 192, .inl f_tem))] sz) [(h_mm, .inr (8, (mo102 v_mm (.ref h_mny) (.ref h_vrs) (.ref h_let) (.ref h_isn) (.ref h_tem)))), (h_mny, .inl (cy_mny, 32, .inl u.1)), (h_vrs, .inl (cy_vrs, 32, .inl u.2.1)), (h_let, .inl (cy_let, 256, .inl u.2.2.1)), (h_isn, .inl (cy_isn, 192, .inl u.2.2.2.1)), (h_tem, .inl (cy_tem, 192, .inl u.2.2.2.2))]) (va_A [(h_mm, .inr (8, (mo102 v_mm (.ref h_mny) (.ref h_vrs) (.ref h_let) (.ref h_isn) (.ref h_tem)))), (h_mny, .inl (cy_mny, 32, .inl f_mny)), (h_vrs, .inl (cy_vrs, 32, .inl f_vrs)), (h_let, .inl (cy_let, 256, .inl f_let)), (h_isn, .inl (cy_isn, 192, .inl f_isn)), (h_tem, .inl (cy_tem, 192, .inl f_tem))] sz)) 0 0 (va_A [(h_mm, .inr (8, (mo102 v_mm (.ref h_mny) (.ref h_vrs) (.ref h_let) (.ref h_isn) (.ref h_tem)))), (h_mny, .inl (cy_mny, 32, .inl f_mny)), (h_vrs, .inl (cy_vrs, 32, .inl f_vrs)), (h_let, .inl (cy_let, 256, .inl f_let)), (h_isn, .inl (cy_isn, 192, .inl f_isn)), (h_tem, .inl (cy_tem, 192, .inl f_tem))] sz) := by
  refine Met.ofW (cc := cX11_copiesClause) (maxL := 4) (ret := none) (by decide) rfl ?_
  intro p e s m args below meth c s₁ B hml hv
  obtain ⟨rfl, hsz, hP, hK, hD0, hN⟩ := hv
  have hx := B.exec
  have hb := B.bytes
  have hr := B.returns
  have hts := atoms_spec (ws := Ws yX11_copiesClause cX11_copiesClause 4 none) B.pre
  have hT : ∀ w ∈ WALL, w ∈ Ws yX11_copiesClause cX11_copiesClause 4 none := fun w h => List.mem_cons_of_mem _ h
  have hw := fun w (h : w ∈ WALL) => hts w (hT w h)
  have hown : s.vm.findClass RX11 = some m.cls := findClass_of_methodNamed B.named
  have hlocks := B.notSynchronized
  subst hsz
  have hD := hD0.self (sz := s.heap.size)
  generalize hAe : va_A [(h_mm, .inr (8, (mo102 v_mm (.ref h_mny) (.ref h_vrs) (.ref h_let) (.ref h_isn) (.ref h_tem)))), (h_mny, .inl (cy_mny, 32, .inl f_mny)), (h_vrs, .inl (cy_vrs, 32, .inl f_vrs)), (h_let, .inl (cy_let, 256, .inl f_let)), (h_isn, .inl (cy_isn, 192, .inl f_isn)), (h_tem, .inl (cy_tem, 192, .inl f_tem))] s.heap.size = A at hD ⊢
  have hA : ∀ q : Nat, s.heap.size ≤ q → A q := fun q h => by rw [← hAe]; exact Or.inr h
  have hS : va_S A s.heap s.heap [] := va_S.rf
  have hl := lv_entry ([.ref h_mm, .int p1, .int p2]) (n := 4) (Nat.le_of_ble_eq_true rfl)
  rw [lg_entry_eq]
  generalize (lg_sl ([.ref h_mm, .int p1, .int p2]) ++ List.replicate (4 - (lg_sl ([.ref h_mm, .int p1, .int p2])).length) Slot.unset).toArray = ls at hl ⊢
  have hl : lv_has ls 4 [(0, .ref h_mm), (1, .int p1), (2, .int p2)] := hl
  refine lv_aload_n hx hb dX11_copiesClause_0 rfl (lv_at hl 0 rfl) ?_
  refine va_get (D := (dC, dI)) (ci := 8) (v := .ref h_mny) (C := RX11) (T := TX11) (N := 71) hx hb hw iwX11 hown hK hP 0 rfl rfl 8 (by decide) (hw _ w_f_X11_142) (fun _ h9 => h9) rfl dX11_copiesClause_1 ?_
  refine lv_iload_n hx hb dX11_copiesClause_4 rfl (lv_at hl 2 rfl) ?_
  refine lv_aload_n hx hb dX11_copiesClause_5 rfl (lv_at hl 0 rfl) ?_
  refine va_get (D := (dC, dI)) (ci := 8) (v := .ref h_mny) (C := RX11) (T := TX11) (N := 71) hx hb hw iwX11 hown hK hP 0 rfl rfl 8 (by decide) (hw _ w_f_X11_142) (fun _ h9 => h9) rfl dX11_copiesClause_6 ?_
  refine lv_iload_n hx hb dX11_copiesClause_9 rfl (lv_at hl 1 rfl) ?_
  refine va_iald hx hb hK hP 1 0 rfl rfl (i := p1) (vp_in_iff.mpr (by omega)) dX11_copiesClause_10 ?_
  refine lv_topi (fun z1 ez1 => ?_)
  have rz1 : 0 ≤ (z1).toInt ∧ (z1).toInt ≤ 6 := by rw [ez1]; exact hf_mny _
  refine va_iast hx hb hK hP hD hS 1 0 rfl rfl (i := p2) (x := z1) (vp_in_iff.mpr (by omega)) dX11_copiesClause_11 (fun H locs hP9 hD9 hS9 => ?_)
  obtain ⟨f2, ef2⟩ : ∃ g : Nat → Int32, g = upd f_mny (Int32.toNatClampNeg p2) z1 := ⟨_, rfl⟩
  clear hP hD hS
  have hP : va_P (dC, dI) cls [(h_mm, .inr (8, (mo102 v_mm (.ref h_mny) (.ref h_vrs) (.ref h_let) (.ref h_isn) (.ref h_tem)))), (h_mny, .inl (cy_mny, 32, .inl f2)), (h_vrs, .inl (cy_vrs, 32, .inl f_vrs)), (h_let, .inl (cy_let, 256, .inl f_let)), (h_isn, .inl (cy_isn, 192, .inl f_isn)), (h_tem, .inl (cy_tem, 192, .inl f_tem))] H := by rw [ef2]; exact hP9
  have hD : va_D A [(h_mm, .inr (8, (mo102 v_mm (.ref h_mny) (.ref h_vrs) (.ref h_let) (.ref h_isn) (.ref h_tem)))), (h_mny, .inl (cy_mny, 32, .inl f2)), (h_vrs, .inl (cy_vrs, 32, .inl f_vrs)), (h_let, .inl (cy_let, 256, .inl f_let)), (h_isn, .inl (cy_isn, 192, .inl f_isn)), (h_tem, .inl (cy_tem, 192, .inl f_tem))] := by rw [ef2]; exact hD9
  have hS := hS9
  clear hP9 hD9 hS9
  have hf2 : Rg 0 6 f2 := by rw [ef2]; exact rg_upd hf_mny (by omega)
  clear ef2
  refine lv_aload_n hx hb dX11_copiesClause_12 rfl (lv_at hl 0 rfl) ?_
  refine va_get (D := (dC, dI)) (ci := 8) (v := .ref h_vrs) (C := RX11) (T := TX11) (N := 71) hx hb hw iwX11 hown hK hP 0 rfl rfl 9 (by decide) (hw _ w_f_X11_102) (fun _ h9 => h9) rfl dX11_copiesClause_13 ?_
  refine lv_iload_n hx hb dX11_copiesClause_16 rfl (lv_at hl 2 rfl) ?_
  refine lv_aload_n hx hb dX11_copiesClause_17 rfl (lv_at hl 0 rfl) ?_
  refine va_get (D := (dC, dI)) (ci := 8) (v := .ref h_vrs) (C := RX11) (T := TX11) (N := 71) hx hb hw iwX11 hown hK hP 0 rfl rfl 9 (by decide) (hw _ w_f_X11_102) (fun _ h9 => h9) rfl dX11_copiesClause_18 ?_
  refine lv_iload_n hx hb dX11_copiesClause_21 rfl (lv_at hl 1 rfl) ?_
  refine va_iald hx hb hK hP 2 1 rfl rfl (i := p1) (vp_in_iff.mpr (by omega)) dX11_copiesClause_22 ?_
  refine lv_topi (fun z3 ez3 => ?_)
  have rz3 : 0 ≤ (z3).toInt ∧ (z3).toInt ≤ 8 := by rw [ez3]; exact hf_vrs _
  refine va_iast hx hb hK hP hD hS 2 1 rfl rfl (i := p2) (x := z3) (vp_in_iff.mpr (by omega)) dX11_copiesClause_23 (fun H locs hP9 hD9 hS9 => ?_)
  obtain ⟨f4, ef4⟩ : ∃ g : Nat → Int32, g = upd f_vrs (Int32.toNatClampNeg p2) z3 := ⟨_, rfl⟩
  clear hP hD hS
  have hP : va_P (dC, dI) cls [(h_mm, .inr (8, (mo102 v_mm (.ref h_mny) (.ref h_vrs) (.ref h_let) (.ref h_isn) (.ref h_tem)))), (h_mny, .inl (cy_mny, 32, .inl f2)), (h_vrs, .inl (cy_vrs, 32, .inl f4)), (h_let, .inl (cy_let, 256, .inl f_let)), (h_isn, .inl (cy_isn, 192, .inl f_isn)), (h_tem, .inl (cy_tem, 192, .inl f_tem))] H := by rw [ef4]; exact hP9
  have hD : va_D A [(h_mm, .inr (8, (mo102 v_mm (.ref h_mny) (.ref h_vrs) (.ref h_let) (.ref h_isn) (.ref h_tem)))), (h_mny, .inl (cy_mny, 32, .inl f2)), (h_vrs, .inl (cy_vrs, 32, .inl f4)), (h_let, .inl (cy_let, 256, .inl f_let)), (h_isn, .inl (cy_isn, 192, .inl f_isn)), (h_tem, .inl (cy_tem, 192, .inl f_tem))] := by rw [ef4]; exact hD9
  have hS := hS9
  clear hP9 hD9 hS9
  have hf4 : Rg 0 8 f4 := by rw [ef4]; exact rg_upd hf_vrs (by omega)
  clear ef4
  refine lv_iconst (v := 0) hx hb dX11_copiesClause_24 (by decide) ?_
  refine lv_istore_n (lv' := [(3, .int 0), (0, .ref h_mm), (1, .int p1), (2, .int p2)]) hx hb dX11_copiesClause_25 rfl hl (by decide) rfl (fun ls hl => ?_)
  have lp7 : ∀ (n : Nat) (x5 : Int32) (f6 : Nat → Int32) (H : Heap) (locs : List Loc) (ls : Array Slot), (0 ≤ (x5).toInt ∧ (x5).toInt ≤ 8) → (8 - (x5).toInt).toNat + 1 ≤ n → va_P (dC, dI) cls [(h_mm, .inr (8, (mo102 v_mm (.ref h_mny) (.ref h_vrs) (.ref h_let) (.ref h_isn) (.ref h_tem)))), (h_mny, .inl (cy_mny, 32, .inl f2)), (h_vrs, .inl (cy_vrs, 32, .inl f4)), (h_let, .inl (cy_let, 256, .inl f6)), (h_isn, .inl (cy_isn, 192, .inl f_isn)), (h_tem, .inl (cy_tem, 192, .inl f_tem))] H → va_D A [(h_mm, .inr (8, (mo102 v_mm (.ref h_mny) (.ref h_vrs) (.ref h_let) (.ref h_isn) (.ref h_tem)))), (h_mny, .inl (cy_mny, 32, .inl f2)), (h_vrs, .inl (cy_vrs, 32, .inl f4)), (h_let, .inl (cy_let, 256, .inl f6)), (h_isn, .inl (cy_isn, 192, .inl f_isn)), (h_tem, .inl (cy_tem, 192, .inl f_tem))] → va_S A s.heap H locs → lv_has ls 4 [(0, .ref h_mm), (1, .int p1), (2, .int p2), (3, .int x5)] → W p l e ({ frames := 1, cells := 0, slots := 0, locals := 22 } : Room) s m ([.ref h_mm, .int p1, .int p2] : List Value).toArray below meth c H locs 0 0 (MQ below (va_Qv (fun (u : (Nat → Int32) × (Nat → Int32) × (Nat → Int32) × (Nat → Int32) × (Nat → Int32)) => (Rg 0 6 u.1) ∧ (Rg 0 8 u.2.1) ∧ (Rg 0 1 u.2.2.2.1) ∧ (Rg 0 7999 u.2.2.2.2)) (fun (u : (Nat → Int32) × (Nat → Int32) × (Nat → Int32) × (Nat → Int32) × (Nat → Int32)) (t : State) => va_P (dC, dI) cls [(h_mm, .inr (8, (mo102 v_mm (.ref h_mny) (.ref h_vrs) (.ref h_let) (.ref h_isn) (.ref h_tem)))), (h_mny, .inl (cy_mny, 32, .inl u.1)), (h_vrs, .inl (cy_vrs, 32, .inl u.2.1)), (h_let, .inl (cy_let, 256, .inl u.2.2.1)), (h_isn, .inl (cy_isn, 192, .inl u.2.2.2.1)), (h_tem, .inl (cy_tem, 192, .inl u.2.2.2.2))] t.heap ∧ va_D A [(h_mm, .inr (8, (mo102 v_mm (.ref h_mny) (.ref h_vrs) (.ref h_let) (.ref h_isn) (.ref h_tem)))), (h_mny, .inl (cy_mny, 32, .inl u.1)), (h_vrs, .inl (cy_vrs, 32, .inl u.2.1)), (h_let, .inl (cy_let, 256, .inl u.2.2.1)), (h_isn, .inl (cy_isn, 192, .inl u.2.2.2.1)), (h_tem, .inl (cy_tem, 192, .inl u.2.2.2.2))]) A) ([.ref h_mm, .int p1, .int p2] : List Value).toArray s 0 0 A) (F0 m 26 ls []) := by
    clear hP hD hS hl
    intro n
    induction n with
    | zero => intro x5 f6 H locs ls klp7_0 hm hP hD hS hl; exact False.elim (by omega)
    | succ n ih => 
      intro x5 f6 H locs ls klp7_0 hm hP hD hS hl
      have ih8 := ih
      clear ih
      refine lv_iload_n hx hb dX11_copiesClause_26 rfl (lv_at hl 3 rfl) ?_
      refine lv_bipush (v := 8) hx hb dX11_copiesClause_27 (by decide) ?_
      refine lv_icmp_ge (tgt := 60) hx hb dX11_copiesClause_29 (by decide) (fun c9 => ?_) (fun c9 => ?_)
      · have kc9 := (cv_le (by decide : (8 : Int32).toInt = 8) (rfl : (x5).toInt = (x5).toInt)).mp c9
        refine lv_iconst (v := 0) hx hb dX11_copiesClause_60 (by decide) ?_
        refine lv_istore_n (lv' := [(3, .int 0), (0, .ref h_mm), (1, .int p1), (2, .int p2)]) hx hb dX11_copiesClause_61 rfl hl (by decide) rfl (fun ls hl => ?_)
        have lp13 : ∀ (n : Nat) (x10 : Int32) (f11 : Nat → Int32) (f12 : Nat → Int32) (H : Heap) (locs : List Loc) (ls : Array Slot), (0 ≤ (x10).toInt ∧ (x10).toInt ≤ 6) → (Rg 0 1 f11) → (Rg 0 7999 f12) → (6 - (x10).toInt).toNat + 1 ≤ n → va_P (dC, dI) cls [(h_mm, .inr (8, (mo102 v_mm (.ref h_mny) (.ref h_vrs) (.ref h_let) (.ref h_isn) (.ref h_tem)))), (h_mny, .inl (cy_mny, 32, .inl f2)), (h_vrs, .inl (cy_vrs, 32, .inl f4)), (h_let, .inl (cy_let, 256, .inl f6)), (h_isn, .inl (cy_isn, 192, .inl f11)), (h_tem, .inl (cy_tem, 192, .inl f12))] H → va_D A [(h_mm, .inr (8, (mo102 v_mm (.ref h_mny) (.ref h_vrs) (.ref h_let) (.ref h_isn) (.ref h_tem)))), (h_mny, .inl (cy_mny, 32, .inl f2)), (h_vrs, .inl (cy_vrs, 32, .inl f4)), (h_let, .inl (cy_let, 256, .inl f6)), (h_isn, .inl (cy_isn, 192, .inl f11)), (h_tem, .inl (cy_tem, 192, .inl f12))] → va_S A s.heap H locs → lv_has ls 4 [(0, .ref h_mm), (1, .int p1), (2, .int p2), (3, .int x10)] → W p l e ({ frames := 1, cells := 0, slots := 0, locals := 22 } : Room) s m ([.ref h_mm, .int p1, .int p2] : List Value).toArray below meth c H locs 0 0 (MQ below (va_Qv (fun (u : (Nat → Int32) × (Nat → Int32) × (Nat → Int32) × (Nat → Int32) × (Nat → Int32)) => (Rg 0 6 u.1) ∧ (Rg 0 8 u.2.1) ∧ (Rg 0 1 u.2.2.2.1) ∧ (Rg 0 7999 u.2.2.2.2)) (fun (u : (Nat → Int32) × (Nat → Int32) × (Nat → Int32) × (Nat → Int32) × (Nat → Int32)) (t : State) => va_P (dC, dI) cls [(h_mm, .inr (8, (mo102 v_mm (.ref h_mny) (.ref h_vrs) (.ref h_let) (.ref h_isn) (.ref h_tem)))), (h_mny, .inl (cy_mny, 32, .inl u.1)), (h_vrs, .inl (cy_vrs, 32, .inl u.2.1)), (h_let, .inl (cy_let, 256, .inl u.2.2.1)), (h_isn, .inl (cy_isn, 192, .inl u.2.2.2.1)), (h_tem, .inl (cy_tem, 192, .inl u.2.2.2.2))] t.heap ∧ va_D A [(h_mm, .inr (8, (mo102 v_mm (.ref h_mny) (.ref h_vrs) (.ref h_let) (.ref h_isn) (.ref h_tem)))), (h_mny, .inl (cy_mny, 32, .inl u.1)), (h_vrs, .inl (cy_vrs, 32, .inl u.2.1)), (h_let, .inl (cy_let, 256, .inl u.2.2.1)), (h_isn, .inl (cy_isn, 192, .inl u.2.2.2.1)), (h_tem, .inl (cy_tem, 192, .inl u.2.2.2.2))]) A) ([.ref h_mm, .int p1, .int p2] : List Value).toArray s 0 0 A) (F0 m 62 ls []) := by
          clear hP hD hS hl
          intro n
          induction n with
          | zero => intro x10 f11 f12 H locs ls klp13_0 hf11 hf12 hm hP hD hS hl; exact False.elim (by omega)
          | succ n ih => 
            intro x10 f11 f12 H locs ls klp13_0 hf11 hf12 hm hP hD hS hl
            have ih14 := ih
            clear ih
            refine lv_iload_n hx hb dX11_copiesClause_62 rfl (lv_at hl 3 rfl) ?_
            refine lv_bipush (v := 6) hx hb dX11_copiesClause_63 (by decide) ?_
            refine lv_icmp_ge (tgt := 118) hx hb dX11_copiesClause_65 (by decide) (fun c15 => ?_) (fun c15 => ?_)
            · have kc15 := (cv_le (by decide : (6 : Int32).toInt = 6) (rfl : (x10).toInt = (x10).toInt)).mp c15
              refine W.widen (k := 0) (n := 0) (Nat.le_of_ble_eq_true rfl) (Nat.le_of_ble_eq_true rfl) ?_
              exact W.vret hx hb hr (fun t ht hW => ⟨⟨(f2, f4, f6, f11, f12), rfl, ⟨hf2, hf4, hf11, hf12⟩, by rw [ht]; exact hP, hD⟩, hS.F ht⟩) hS.2.2 dX11_copiesClause_118
            · have kc15 := (not_congr (cv_le (by decide : (6 : Int32).toInt = 6) (rfl : (x10).toInt = (x10).toInt))).mp c15
              refine lv_aload_n hx hb dX11_copiesClause_68 rfl (lv_at hl 0 rfl) ?_
              refine va_get (D := (dC, dI)) (ci := 8) (v := .ref h_isn) (C := RX11) (T := TX11) (N := 71) hx hb hw iwX11 hown hK hP 0 rfl rfl 11 (by decide) (hw _ w_f_X11_145) (fun _ h9 => h9) rfl dX11_copiesClause_69 ?_
              refine lv_aload_n hx hb dX11_copiesClause_72 rfl (lv_at hl 0 rfl) ?_
              refine lv_iload_n hx hb dX11_copiesClause_73 rfl (lv_at hl 2 rfl) ?_
              refine lv_iload_n hx hb dX11_copiesClause_74 rfl (lv_at hl 3 rfl) ?_
              have hPc := hP.sub (ws' := []) [] rfl
              have hDc := hD.sub (ws' := []) [] (by decide) rfl
              have hKc := hK.sub (tys' := []) [] rfl
              have hFc := va_free (wc := []) hD hS hA [] rfl
              refine va_calli (va_runV (As := [.int p2, .int x10]) (rest := [.ref h_isn]) ⟨hx, hb, hml, hown, hts⟩ (c_X11_litAt l dC dI H.size h_mm p2 x10 (by first | exact q1 | omega) (by omega)) (cwV 2 hts (gv hT w_m_X11_149 w_instanceMethod_X11_litAt ws_sel_X11_litAt w_ini_X11 w_code_X11_litAt) rfl rfl rfl (by decide +kernel) ⟨(Nat.le_of_ble_eq_true rfl), (Nat.le_of_ble_eq_true rfl)⟩) ⟨pre_blind, va_recv hK hP (ci := 8) (q0 := 0) rfl rfl, pre_of hPc hKc hDc hN⟩ rfl rfl hl.1 rfl (lv_room (Nat.le_of_ble_eq_true rfl)) dX11_copiesClause_75 ⟨(Nat.le_of_ble_eq_true rfl), (Nat.le_of_ble_eq_true rfl)⟩) hS (fun q _ h => hFc q h) hFc (fun r16 u t H locs ht hvm hq hB hz1 hk1 hS9 => ?_)
              obtain ⟨hP1, hD1⟩ := hB
              rw [ht] at hP1
              obtain ⟨hP9, hD9⟩ := va_join (wr := [(h_mm, .inr (8, (mo102 v_mm (.ref h_mny) (.ref h_vrs) (.ref h_let) (.ref h_isn) (.ref h_tem)))), (h_mny, .inl (cy_mny, 32, .inl f2)), (h_vrs, .inl (cy_vrs, 32, .inl f4)), (h_let, .inl (cy_let, 256, .inl f6)), (h_isn, .inl (cy_isn, 192, .inl f11)), (h_tem, .inl (cy_tem, 192, .inl f12))]) (w1 := []) hP hD [] [0, 1, 2, 3, 4, 5] rfl rfl (by decide) (by decide) hk1 hFc hP1 hD1
              clear hP hD hS hPc hDc hKc hFc hP1 hD1 hk1 hz1 ht hvm
              have hP : va_P (dC, dI) cls [(h_mm, .inr (8, (mo102 v_mm (.ref h_mny) (.ref h_vrs) (.ref h_let) (.ref h_isn) (.ref h_tem)))), (h_mny, .inl (cy_mny, 32, .inl f2)), (h_vrs, .inl (cy_vrs, 32, .inl f4)), (h_let, .inl (cy_let, 256, .inl f6)), (h_isn, .inl (cy_isn, 192, .inl f11)), (h_tem, .inl (cy_tem, 192, .inl f12))] H := hP9
              have hD : va_D A [(h_mm, .inr (8, (mo102 v_mm (.ref h_mny) (.ref h_vrs) (.ref h_let) (.ref h_isn) (.ref h_tem)))), (h_mny, .inl (cy_mny, 32, .inl f2)), (h_vrs, .inl (cy_vrs, 32, .inl f4)), (h_let, .inl (cy_let, 256, .inl f6)), (h_isn, .inl (cy_isn, 192, .inl f11)), (h_tem, .inl (cy_tem, 192, .inl f12))] := hD9
              have hS := hS9
              clear hP9 hD9 hS9
              obtain ⟨k17, k18⟩ := hq
              replace k17 : 0 ≤ (r16).toInt ∧ (r16).toInt ≤ 191 := k17
              replace k18 : ((r16)).toInt = 6 * ((p2)).toInt + ((x10)).toInt := k18
              refine lv_aload_n hx hb dX11_copiesClause_78 rfl (lv_at hl 0 rfl) ?_
              refine va_get (D := (dC, dI)) (ci := 8) (v := .ref h_isn) (C := RX11) (T := TX11) (N := 71) hx hb hw iwX11 hown hK hP 0 rfl rfl 11 (by decide) (hw _ w_f_X11_145) (fun _ h9 => h9) rfl dX11_copiesClause_79 ?_
              refine lv_aload_n hx hb dX11_copiesClause_82 rfl (lv_at hl 0 rfl) ?_
              refine lv_iload_n hx hb dX11_copiesClause_83 rfl (lv_at hl 1 rfl) ?_
              refine lv_iload_n hx hb dX11_copiesClause_84 rfl (lv_at hl 3 rfl) ?_
              have hPc := hP.sub (ws' := []) [] rfl
              have hDc := hD.sub (ws' := []) [] (by decide) rfl
              have hKc := hK.sub (tys' := []) [] rfl
              have hFc := va_free (wc := []) hD hS hA [] rfl
              refine va_calli (va_runV (As := [.int p1, .int x10]) (rest := [.ref h_isn, .int r16, .ref h_isn]) ⟨hx, hb, hml, hown, hts⟩ (c_X11_litAt l dC dI H.size h_mm p1 x10 (by first | exact q0 | omega) (by omega)) (cwV 2 hts (gv hT w_m_X11_149 w_instanceMethod_X11_litAt ws_sel_X11_litAt w_ini_X11 w_code_X11_litAt) rfl rfl rfl (by decide +kernel) ⟨(Nat.le_of_ble_eq_true rfl), (Nat.le_of_ble_eq_true rfl)⟩) ⟨pre_blind, va_recv hK hP (ci := 8) (q0 := 0) rfl rfl, pre_of hPc hKc hDc hN⟩ rfl rfl hl.1 rfl (lv_room (Nat.le_of_ble_eq_true rfl)) dX11_copiesClause_85 ⟨(Nat.le_of_ble_eq_true rfl), (Nat.le_of_ble_eq_true rfl)⟩) hS (fun q _ h => hFc q h) hFc (fun r19 u t H locs ht hvm hq hB hz1 hk1 hS9 => ?_)
              obtain ⟨hP1, hD1⟩ := hB
              rw [ht] at hP1
              obtain ⟨hP9, hD9⟩ := va_join (wr := [(h_mm, .inr (8, (mo102 v_mm (.ref h_mny) (.ref h_vrs) (.ref h_let) (.ref h_isn) (.ref h_tem)))), (h_mny, .inl (cy_mny, 32, .inl f2)), (h_vrs, .inl (cy_vrs, 32, .inl f4)), (h_let, .inl (cy_let, 256, .inl f6)), (h_isn, .inl (cy_isn, 192, .inl f11)), (h_tem, .inl (cy_tem, 192, .inl f12))]) (w1 := []) hP hD [] [0, 1, 2, 3, 4, 5] rfl rfl (by decide) (by decide) hk1 hFc hP1 hD1
              clear hP hD hS hPc hDc hKc hFc hP1 hD1 hk1 hz1 ht hvm
              have hP : va_P (dC, dI) cls [(h_mm, .inr (8, (mo102 v_mm (.ref h_mny) (.ref h_vrs) (.ref h_let) (.ref h_isn) (.ref h_tem)))), (h_mny, .inl (cy_mny, 32, .inl f2)), (h_vrs, .inl (cy_vrs, 32, .inl f4)), (h_let, .inl (cy_let, 256, .inl f6)), (h_isn, .inl (cy_isn, 192, .inl f11)), (h_tem, .inl (cy_tem, 192, .inl f12))] H := hP9
              have hD : va_D A [(h_mm, .inr (8, (mo102 v_mm (.ref h_mny) (.ref h_vrs) (.ref h_let) (.ref h_isn) (.ref h_tem)))), (h_mny, .inl (cy_mny, 32, .inl f2)), (h_vrs, .inl (cy_vrs, 32, .inl f4)), (h_let, .inl (cy_let, 256, .inl f6)), (h_isn, .inl (cy_isn, 192, .inl f11)), (h_tem, .inl (cy_tem, 192, .inl f12))] := hD9
              have hS := hS9
              clear hP9 hD9 hS9
              obtain ⟨k20, k21⟩ := hq
              replace k20 : 0 ≤ (r19).toInt ∧ (r19).toInt ≤ 191 := k20
              replace k21 : ((r19)).toInt = 6 * ((p1)).toInt + ((x10)).toInt := k21
              refine va_zald hx hb hK hP 4 3 rfl rfl (i := r19) (vp_in_iff.mpr (by omega)) dX11_copiesClause_88 ?_
              refine lv_topi (fun z22 ez22 => ?_)
              have rz22 : 0 ≤ (z22).toInt ∧ (z22).toInt ≤ 1 := by rw [ez22]; exact hf11 _
              refine va_zast hx hb hK hP hD hS 4 3 rfl rfl (i := r16) (x := z22) (vp_in_iff.mpr (by omega)) dX11_copiesClause_89 (fun H locs hP9 hD9 hS9 => ?_)
              obtain ⟨f23, ef23⟩ : ∃ g : Nat → Int32, g = upd f11 (Int32.toNatClampNeg r16) (vp_nar .boolean z22) := ⟨_, rfl⟩
              clear hP hD hS
              have hP : va_P (dC, dI) cls [(h_mm, .inr (8, (mo102 v_mm (.ref h_mny) (.ref h_vrs) (.ref h_let) (.ref h_isn) (.ref h_tem)))), (h_mny, .inl (cy_mny, 32, .inl f2)), (h_vrs, .inl (cy_vrs, 32, .inl f4)), (h_let, .inl (cy_let, 256, .inl f6)), (h_isn, .inl (cy_isn, 192, .inl f23)), (h_tem, .inl (cy_tem, 192, .inl f12))] H := by rw [ef23]; exact hP9
              have hD : va_D A [(h_mm, .inr (8, (mo102 v_mm (.ref h_mny) (.ref h_vrs) (.ref h_let) (.ref h_isn) (.ref h_tem)))), (h_mny, .inl (cy_mny, 32, .inl f2)), (h_vrs, .inl (cy_vrs, 32, .inl f4)), (h_let, .inl (cy_let, 256, .inl f6)), (h_isn, .inl (cy_isn, 192, .inl f23)), (h_tem, .inl (cy_tem, 192, .inl f12))] := by rw [ef23]; exact hD9
              have hS := hS9
              clear hP9 hD9 hS9
              have hf23 : Rg 0 1 f23 := by rw [ef23]; exact rg_upd hf11 (nar_b01 _)
              clear ef23
              refine lv_aload_n hx hb dX11_copiesClause_90 rfl (lv_at hl 0 rfl) ?_
              refine va_get (D := (dC, dI)) (ci := 8) (v := .ref h_tem) (C := RX11) (T := TX11) (N := 71) hx hb hw iwX11 hown hK hP 0 rfl rfl 12 (by decide) (hw _ w_f_X11_152) (fun _ h9 => h9) rfl dX11_copiesClause_91 ?_
              refine lv_aload_n hx hb dX11_copiesClause_94 rfl (lv_at hl 0 rfl) ?_
              refine lv_iload_n hx hb dX11_copiesClause_95 rfl (lv_at hl 2 rfl) ?_
              refine lv_iload_n hx hb dX11_copiesClause_96 rfl (lv_at hl 3 rfl) ?_
              have hPc := hP.sub (ws' := []) [] rfl
              have hDc := hD.sub (ws' := []) [] (by decide) rfl
              have hKc := hK.sub (tys' := []) [] rfl
              have hFc := va_free (wc := []) hD hS hA [] rfl
              refine va_calli (va_runV (As := [.int p2, .int x10]) (rest := [.ref h_tem]) ⟨hx, hb, hml, hown, hts⟩ (c_X11_litAt l dC dI H.size h_mm p2 x10 (by first | exact q1 | omega) (by omega)) (cwV 2 hts (gv hT w_m_X11_149 w_instanceMethod_X11_litAt ws_sel_X11_litAt w_ini_X11 w_code_X11_litAt) rfl rfl rfl (by decide +kernel) ⟨(Nat.le_of_ble_eq_true rfl), (Nat.le_of_ble_eq_true rfl)⟩) ⟨pre_blind, va_recv hK hP (ci := 8) (q0 := 0) rfl rfl, pre_of hPc hKc hDc hN⟩ rfl rfl hl.1 rfl (lv_room (Nat.le_of_ble_eq_true rfl)) dX11_copiesClause_97 ⟨(Nat.le_of_ble_eq_true rfl), (Nat.le_of_ble_eq_true rfl)⟩) hS (fun q _ h => hFc q h) hFc (fun r24 u t H locs ht hvm hq hB hz1 hk1 hS9 => ?_)
              obtain ⟨hP1, hD1⟩ := hB
              rw [ht] at hP1
              obtain ⟨hP9, hD9⟩ := va_join (wr := [(h_mm, .inr (8, (mo102 v_mm (.ref h_mny) (.ref h_vrs) (.ref h_let) (.ref h_isn) (.ref h_tem)))), (h_mny, .inl (cy_mny, 32, .inl f2)), (h_vrs, .inl (cy_vrs, 32, .inl f4)), (h_let, .inl (cy_let, 256, .inl f6)), (h_isn, .inl (cy_isn, 192, .inl f23)), (h_tem, .inl (cy_tem, 192, .inl f12))]) (w1 := []) hP hD [] [0, 1, 2, 3, 4, 5] rfl rfl (by decide) (by decide) hk1 hFc hP1 hD1
              clear hP hD hS hPc hDc hKc hFc hP1 hD1 hk1 hz1 ht hvm
              have hP : va_P (dC, dI) cls [(h_mm, .inr (8, (mo102 v_mm (.ref h_mny) (.ref h_vrs) (.ref h_let) (.ref h_isn) (.ref h_tem)))), (h_mny, .inl (cy_mny, 32, .inl f2)), (h_vrs, .inl (cy_vrs, 32, .inl f4)), (h_let, .inl (cy_let, 256, .inl f6)), (h_isn, .inl (cy_isn, 192, .inl f23)), (h_tem, .inl (cy_tem, 192, .inl f12))] H := hP9
              have hD : va_D A [(h_mm, .inr (8, (mo102 v_mm (.ref h_mny) (.ref h_vrs) (.ref h_let) (.ref h_isn) (.ref h_tem)))), (h_mny, .inl (cy_mny, 32, .inl f2)), (h_vrs, .inl (cy_vrs, 32, .inl f4)), (h_let, .inl (cy_let, 256, .inl f6)), (h_isn, .inl (cy_isn, 192, .inl f23)), (h_tem, .inl (cy_tem, 192, .inl f12))] := hD9
              have hS := hS9
              clear hP9 hD9 hS9
              obtain ⟨k25, k26⟩ := hq
              replace k25 : 0 ≤ (r24).toInt ∧ (r24).toInt ≤ 191 := k25
              replace k26 : ((r24)).toInt = 6 * ((p2)).toInt + ((x10)).toInt := k26
              refine lv_aload_n hx hb dX11_copiesClause_100 rfl (lv_at hl 0 rfl) ?_
              refine va_get (D := (dC, dI)) (ci := 8) (v := .ref h_tem) (C := RX11) (T := TX11) (N := 71) hx hb hw iwX11 hown hK hP 0 rfl rfl 12 (by decide) (hw _ w_f_X11_152) (fun _ h9 => h9) rfl dX11_copiesClause_101 ?_
              refine lv_aload_n hx hb dX11_copiesClause_104 rfl (lv_at hl 0 rfl) ?_
              refine lv_iload_n hx hb dX11_copiesClause_105 rfl (lv_at hl 1 rfl) ?_
              refine lv_iload_n hx hb dX11_copiesClause_106 rfl (lv_at hl 3 rfl) ?_
              have hPc := hP.sub (ws' := []) [] rfl
              have hDc := hD.sub (ws' := []) [] (by decide) rfl
              have hKc := hK.sub (tys' := []) [] rfl
              have hFc := va_free (wc := []) hD hS hA [] rfl
              refine va_calli (va_runV (As := [.int p1, .int x10]) (rest := [.ref h_tem, .int r24, .ref h_tem]) ⟨hx, hb, hml, hown, hts⟩ (c_X11_litAt l dC dI H.size h_mm p1 x10 (by first | exact q0 | omega) (by omega)) (cwV 2 hts (gv hT w_m_X11_149 w_instanceMethod_X11_litAt ws_sel_X11_litAt w_ini_X11 w_code_X11_litAt) rfl rfl rfl (by decide +kernel) ⟨(Nat.le_of_ble_eq_true rfl), (Nat.le_of_ble_eq_true rfl)⟩) ⟨pre_blind, va_recv hK hP (ci := 8) (q0 := 0) rfl rfl, pre_of hPc hKc hDc hN⟩ rfl rfl hl.1 rfl (lv_room (Nat.le_of_ble_eq_true rfl)) dX11_copiesClause_107 ⟨(Nat.le_of_ble_eq_true rfl), (Nat.le_of_ble_eq_true rfl)⟩) hS (fun q _ h => hFc q h) hFc (fun r27 u t H locs ht hvm hq hB hz1 hk1 hS9 => ?_)
              obtain ⟨hP1, hD1⟩ := hB
              rw [ht] at hP1
              obtain ⟨hP9, hD9⟩ := va_join (wr := [(h_mm, .inr (8, (mo102 v_mm (.ref h_mny) (.ref h_vrs) (.ref h_let) (.ref h_isn) (.ref h_tem)))), (h_mny, .inl (cy_mny, 32, .inl f2)), (h_vrs, .inl (cy_vrs, 32, .inl f4)), (h_let, .inl (cy_let, 256, .inl f6)), (h_isn, .inl (cy_isn, 192, .inl f23)), (h_tem, .inl (cy_tem, 192, .inl f12))]) (w1 := []) hP hD [] [0, 1, 2, 3, 4, 5] rfl rfl (by decide) (by decide) hk1 hFc hP1 hD1
              clear hP hD hS hPc hDc hKc hFc hP1 hD1 hk1 hz1 ht hvm
              have hP : va_P (dC, dI) cls [(h_mm, .inr (8, (mo102 v_mm (.ref h_mny) (.ref h_vrs) (.ref h_let) (.ref h_isn) (.ref h_tem)))), (h_mny, .inl (cy_mny, 32, .inl f2)), (h_vrs, .inl (cy_vrs, 32, .inl f4)), (h_let, .inl (cy_let, 256, .inl f6)), (h_isn, .inl (cy_isn, 192, .inl f23)), (h_tem, .inl (cy_tem, 192, .inl f12))] H := hP9
              have hD : va_D A [(h_mm, .inr (8, (mo102 v_mm (.ref h_mny) (.ref h_vrs) (.ref h_let) (.ref h_isn) (.ref h_tem)))), (h_mny, .inl (cy_mny, 32, .inl f2)), (h_vrs, .inl (cy_vrs, 32, .inl f4)), (h_let, .inl (cy_let, 256, .inl f6)), (h_isn, .inl (cy_isn, 192, .inl f23)), (h_tem, .inl (cy_tem, 192, .inl f12))] := hD9
              have hS := hS9
              clear hP9 hD9 hS9
              obtain ⟨k28, k29⟩ := hq
              replace k28 : 0 ≤ (r27).toInt ∧ (r27).toInt ≤ 191 := k28
              replace k29 : ((r27)).toInt = 6 * ((p1)).toInt + ((x10)).toInt := k29
              refine va_iald hx hb hK hP 5 4 rfl rfl (i := r27) (vp_in_iff.mpr (by omega)) dX11_copiesClause_110 ?_
              refine lv_topi (fun z30 ez30 => ?_)
              have rz30 : 0 ≤ (z30).toInt ∧ (z30).toInt ≤ 7999 := by rw [ez30]; exact hf12 _
              refine va_iast hx hb hK hP hD hS 5 4 rfl rfl (i := r24) (x := z30) (vp_in_iff.mpr (by omega)) dX11_copiesClause_111 (fun H locs hP9 hD9 hS9 => ?_)
              obtain ⟨f31, ef31⟩ : ∃ g : Nat → Int32, g = upd f12 (Int32.toNatClampNeg r24) z30 := ⟨_, rfl⟩
              clear hP hD hS
              have hP : va_P (dC, dI) cls [(h_mm, .inr (8, (mo102 v_mm (.ref h_mny) (.ref h_vrs) (.ref h_let) (.ref h_isn) (.ref h_tem)))), (h_mny, .inl (cy_mny, 32, .inl f2)), (h_vrs, .inl (cy_vrs, 32, .inl f4)), (h_let, .inl (cy_let, 256, .inl f6)), (h_isn, .inl (cy_isn, 192, .inl f23)), (h_tem, .inl (cy_tem, 192, .inl f31))] H := by rw [ef31]; exact hP9
              have hD : va_D A [(h_mm, .inr (8, (mo102 v_mm (.ref h_mny) (.ref h_vrs) (.ref h_let) (.ref h_isn) (.ref h_tem)))), (h_mny, .inl (cy_mny, 32, .inl f2)), (h_vrs, .inl (cy_vrs, 32, .inl f4)), (h_let, .inl (cy_let, 256, .inl f6)), (h_isn, .inl (cy_isn, 192, .inl f23)), (h_tem, .inl (cy_tem, 192, .inl f31))] := by rw [ef31]; exact hD9
              have hS := hS9
              clear hP9 hD9 hS9
              have hf31 : Rg 0 7999 f31 := by rw [ef31]; exact rg_upd hf12 (by omega)
              clear ef31
              obtain ⟨z32, ez32⟩ : ∃ y : Int32, y = x10 + 1 := ⟨_, rfl⟩
              have tz32 : (z32).toInt = (x10).toInt + 1 := by rw [ez32]; exact i_add rfl (by decide) (by omega)
              refine lv_iinc (v := z32) (lv' := [(3, .int z32), (0, .ref h_mm), (1, .int p1), (2, .int p2)]) hx hb dX11_copiesClause_112 hl (k := 3) rfl (by rw [ez32]; rfl) (by decide) rfl (fun ls hl => ?_)
              refine lv_goto (tgt := 62) hx hb dX11_copiesClause_115 (by decide) ?_
              exact ih14 (z32) (f23) (f31) _ _ _ (by omega) hf23 hf31 (by omega) hP hD hS (lv_sub hl [1, 2, 3, 0] rfl)
        have cst0 : (0 : Int32).toInt = 0 := by decide
        exact lp13 _ (0) (f_isn) (f_tem) _ _ _ (by decide) hf_isn hf_tem (Nat.le_refl _) hP hD hS (lv_sub hl [1, 2, 3, 0] rfl)
      · have kc9 := (not_congr (cv_le (by decide : (8 : Int32).toInt = 8) (rfl : (x5).toInt = (x5).toInt))).mp c9
        refine lv_aload_n hx hb dX11_copiesClause_32 rfl (lv_at hl 0 rfl) ?_
        refine va_get (D := (dC, dI)) (ci := 8) (v := .ref h_let) (C := RX11) (T := TX11) (N := 71) hx hb hw iwX11 hown hK hP 0 rfl rfl 10 (by decide) (hw _ w_f_X11_108) (fun _ h9 => h9) rfl dX11_copiesClause_33 ?_
        refine lv_bipush (v := 8) hx hb dX11_copiesClause_36 (by decide) ?_
        refine lv_iload_n hx hb dX11_copiesClause_38 rfl (lv_at hl 2 rfl) ?_
        refine lv_imul hx hb dX11_copiesClause_39 ?_
        refine lv_topi (fun z33 ez33 => ?_)
        have tz33 : (z33).toInt = 8 * (p2).toInt := by rw [ez33]; exact i_mul (by decide) rfl (by omega)
        refine lv_iload_n hx hb dX11_copiesClause_40 rfl (lv_at hl 3 rfl) ?_
        refine lv_iadd hx hb dX11_copiesClause_41 ?_
        refine lv_topi (fun z34 ez34 => ?_)
        have tz34 : (z34).toInt = (z33).toInt + (x5).toInt := by rw [ez34]; exact i_add rfl rfl (by omega)
        refine lv_aload_n hx hb dX11_copiesClause_42 rfl (lv_at hl 0 rfl) ?_
        refine va_get (D := (dC, dI)) (ci := 8) (v := .ref h_let) (C := RX11) (T := TX11) (N := 71) hx hb hw iwX11 hown hK hP 0 rfl rfl 10 (by decide) (hw _ w_f_X11_108) (fun _ h9 => h9) rfl dX11_copiesClause_43 ?_
        refine lv_bipush (v := 8) hx hb dX11_copiesClause_46 (by decide) ?_
        refine lv_iload_n hx hb dX11_copiesClause_48 rfl (lv_at hl 1 rfl) ?_
        refine lv_imul hx hb dX11_copiesClause_49 ?_
        refine lv_topi (fun z35 ez35 => ?_)
        have tz35 : (z35).toInt = 8 * (p1).toInt := by rw [ez35]; exact i_mul (by decide) rfl (by omega)
        refine lv_iload_n hx hb dX11_copiesClause_50 rfl (lv_at hl 3 rfl) ?_
        refine lv_iadd hx hb dX11_copiesClause_51 ?_
        refine lv_topi (fun z36 ez36 => ?_)
        have tz36 : (z36).toInt = (z35).toInt + (x5).toInt := by rw [ez36]; exact i_add rfl rfl (by omega)
        refine va_iald hx hb hK hP 3 2 rfl rfl (i := z36) (vp_in_iff.mpr (by omega)) dX11_copiesClause_52 ?_
        refine lv_topi (fun z37 ez37 => ?_)
        refine va_iast hx hb hK hP hD hS 3 2 rfl rfl (i := z34) (x := z37) (vp_in_iff.mpr (by omega)) dX11_copiesClause_53 (fun H locs hP9 hD9 hS9 => ?_)
        obtain ⟨f38, ef38⟩ : ∃ g : Nat → Int32, g = upd f6 (Int32.toNatClampNeg z34) z37 := ⟨_, rfl⟩
        clear hP hD hS
        have hP : va_P (dC, dI) cls [(h_mm, .inr (8, (mo102 v_mm (.ref h_mny) (.ref h_vrs) (.ref h_let) (.ref h_isn) (.ref h_tem)))), (h_mny, .inl (cy_mny, 32, .inl f2)), (h_vrs, .inl (cy_vrs, 32, .inl f4)), (h_let, .inl (cy_let, 256, .inl f38)), (h_isn, .inl (cy_isn, 192, .inl f_isn)), (h_tem, .inl (cy_tem, 192, .inl f_tem))] H := by rw [ef38]; exact hP9
        have hD : va_D A [(h_mm, .inr (8, (mo102 v_mm (.ref h_mny) (.ref h_vrs) (.ref h_let) (.ref h_isn) (.ref h_tem)))), (h_mny, .inl (cy_mny, 32, .inl f2)), (h_vrs, .inl (cy_vrs, 32, .inl f4)), (h_let, .inl (cy_let, 256, .inl f38)), (h_isn, .inl (cy_isn, 192, .inl f_isn)), (h_tem, .inl (cy_tem, 192, .inl f_tem))] := by rw [ef38]; exact hD9
        have hS := hS9
        clear hP9 hD9 hS9
        clear ef38
        obtain ⟨z39, ez39⟩ : ∃ y : Int32, y = x5 + 1 := ⟨_, rfl⟩
        have tz39 : (z39).toInt = (x5).toInt + 1 := by rw [ez39]; exact i_add rfl (by decide) (by omega)
        refine lv_iinc (v := z39) (lv' := [(3, .int z39), (0, .ref h_mm), (1, .int p1), (2, .int p2)]) hx hb dX11_copiesClause_54 hl (k := 3) rfl (by rw [ez39]; rfl) (by decide) rfl (fun ls hl => ?_)
        refine lv_goto (tgt := 26) hx hb dX11_copiesClause_57 (by decide) ?_
        exact ih8 (z39) (f38) _ _ _ (by omega) (by omega) hP hD hS (lv_sub hl [1, 2, 3, 0] rfl)
  have cst0 : (0 : Int32).toInt = 0 := by decide
  exact lp7 _ (0) (f_let) _ _ _ (by decide) (Nat.le_refl _) hP hD hS (lv_sub hl [1, 2, 3, 0] rfl)

set_option maxHeartbeats 8000000 in
set_option maxRecDepth 100000 in
theorem c_X11_positives (l : Launch) (dC : Nat → ClassId) (dI : Nat → Nat → Nat) (sz : Nat) (h_mm : Nat) (h_mny : Nat) (h_isn : Nat) (v_mm : Nat → Value) (cy_mny : ClassId) (f_mny : Nat → Int32) (cy_isn : ClassId) (f_isn : Nat → Int32) (p1 : Int32) (hf_mny : Rg 0 6 f_mny) (hf_isn : Rg 0 1 f_isn) (q0 : 0 ≤ (p1).toInt ∧ (p1).toInt ≤ 15) : Met l yX11_positives (Ws yX11_positives cX11_positives 4 (some .int)) (({ frames := 1, cells := 0, slots := 0, locals := 22 } : Room)) (PRE (dC, dI) cls [(cy_mny, .int), (cy_isn, .boolean)] [(h_mm, .inr (8, (mo103 v_mm (.ref h_mny) (.ref h_isn)))), (h_mny, .inl (cy_mny, 32, .inl f_mny)), (h_isn, .inl (cy_isn, 192, .inl f_isn))] sz [.ref h_mm, .int p1]) (va_Qi (fun (r : Int32) (_ : Unit) => True) (fun (_ : Unit) (t : State) => va_P (dC, dI) cls [(h_mm, .inr (8, (mo103 v_mm (.ref h_mny) (.ref h_isn)))), (h_mny, .inl (cy_mny, 32, .inl f_mny)), (h_isn, .inl (cy_isn, 192, .inl f_isn))] t.heap ∧ va_D (va_A [(h_mm, .inr (8, (mo103 v_mm (.ref h_mny) (.ref h_isn)))), (h_mny, .inl (cy_mny, 32, .inl f_mny)), (h_isn, .inl (cy_isn, 192, .inl f_isn))] sz) [(h_mm, .inr (8, (mo103 v_mm (.ref h_mny) (.ref h_isn)))), (h_mny, .inl (cy_mny, 32, .inl f_mny)), (h_isn, .inl (cy_isn, 192, .inl f_isn))]) (va_A [(h_mm, .inr (8, (mo103 v_mm (.ref h_mny) (.ref h_isn)))), (h_mny, .inl (cy_mny, 32, .inl f_mny)), (h_isn, .inl (cy_isn, 192, .inl f_isn))] sz)) 0 0 (va_A [(h_mm, .inr (8, (mo103 v_mm (.ref h_mny) (.ref h_isn)))), (h_mny, .inl (cy_mny, 32, .inl f_mny)), (h_isn, .inl (cy_isn, 192, .inl f_isn))] sz) := by
  refine Met.ofW (cc := cX11_positives) (maxL := 4) (ret := (some .int)) (by decide) rfl ?_
  intro p e s m args below meth c s₁ B hml hv
  obtain ⟨rfl, hsz, hP, hK, hD0, hN⟩ := hv
  have hx := B.exec
  have hb := B.bytes
  have hr := B.returns
  have hts := atoms_spec (ws := Ws yX11_positives cX11_positives 4 (some .int)) B.pre
  have hT : ∀ w ∈ WALL, w ∈ Ws yX11_positives cX11_positives 4 (some .int) := fun w h => List.mem_cons_of_mem _ h
  have hw := fun w (h : w ∈ WALL) => hts w (hT w h)
  have hown : s.vm.findClass RX11 = some m.cls := findClass_of_methodNamed B.named
  have hlocks := B.notSynchronized
  subst hsz
  have hD := hD0.self (sz := s.heap.size)
  generalize hAe : va_A [(h_mm, .inr (8, (mo103 v_mm (.ref h_mny) (.ref h_isn)))), (h_mny, .inl (cy_mny, 32, .inl f_mny)), (h_isn, .inl (cy_isn, 192, .inl f_isn))] s.heap.size = A at hD ⊢
  have hA : ∀ q : Nat, s.heap.size ≤ q → A q := fun q h => by rw [← hAe]; exact Or.inr h
  have hS : va_S A s.heap s.heap [] := va_S.rf
  have hl := lv_entry ([.ref h_mm, .int p1]) (n := 4) (Nat.le_of_ble_eq_true rfl)
  rw [lg_entry_eq]
  generalize (lg_sl ([.ref h_mm, .int p1]) ++ List.replicate (4 - (lg_sl ([.ref h_mm, .int p1])).length) Slot.unset).toArray = ls at hl ⊢
  have hl : lv_has ls 4 [(0, .ref h_mm), (1, .int p1)] := hl
  refine lv_iconst (v := 0) hx hb dX11_positives_0 (by decide) ?_
  refine lv_istore_n (lv' := [(2, .int 0), (0, .ref h_mm), (1, .int p1)]) hx hb dX11_positives_1 rfl hl (by decide) rfl (fun ls hl => ?_)
  refine lv_iconst (v := 0) hx hb dX11_positives_2 (by decide) ?_
  refine lv_istore_n (lv' := [(3, .int 0), (2, .int 0), (0, .ref h_mm), (1, .int p1)]) hx hb dX11_positives_3 rfl hl (by decide) rfl (fun ls hl => ?_)
  have lp3 : ∀ (n : Nat) (x1 : Int32) (x2 : Int32) (H : Heap) (locs : List Loc) (ls : Array Slot), (0 ≤ (x2).toInt ∧ (x2).toInt ≤ 6) → (6 - (x2).toInt).toNat + 1 ≤ n → va_P (dC, dI) cls [(h_mm, .inr (8, (mo103 v_mm (.ref h_mny) (.ref h_isn)))), (h_mny, .inl (cy_mny, 32, .inl f_mny)), (h_isn, .inl (cy_isn, 192, .inl f_isn))] H → va_D A [(h_mm, .inr (8, (mo103 v_mm (.ref h_mny) (.ref h_isn)))), (h_mny, .inl (cy_mny, 32, .inl f_mny)), (h_isn, .inl (cy_isn, 192, .inl f_isn))] → va_S A s.heap H locs → lv_has ls 4 [(0, .ref h_mm), (1, .int p1), (2, .int x1), (3, .int x2)] → W p l e ({ frames := 1, cells := 0, slots := 0, locals := 22 } : Room) s m ([.ref h_mm, .int p1] : List Value).toArray below meth c H locs 0 0 (MQ below (va_Qi (fun (r : Int32) (_ : Unit) => True) (fun (_ : Unit) (t : State) => va_P (dC, dI) cls [(h_mm, .inr (8, (mo103 v_mm (.ref h_mny) (.ref h_isn)))), (h_mny, .inl (cy_mny, 32, .inl f_mny)), (h_isn, .inl (cy_isn, 192, .inl f_isn))] t.heap ∧ va_D A [(h_mm, .inr (8, (mo103 v_mm (.ref h_mny) (.ref h_isn)))), (h_mny, .inl (cy_mny, 32, .inl f_mny)), (h_isn, .inl (cy_isn, 192, .inl f_isn))]) A) ([.ref h_mm, .int p1] : List Value).toArray s 0 0 A) (F0 m 4 ls []) := by
    clear hP hD hS hl
    intro n
    induction n with
    | zero => intro x1 x2 H locs ls klp3_0 hm hP hD hS hl; exact False.elim (by omega)
    | succ n ih => 
      intro x1 x2 H locs ls klp3_0 hm hP hD hS hl
      have ih4 := ih
      clear ih
      refine lv_iload_n hx hb dX11_positives_4 rfl (lv_at hl 3 rfl) ?_
      refine lv_aload_n hx hb dX11_positives_5 rfl (lv_at hl 0 rfl) ?_
      refine va_get (D := (dC, dI)) (ci := 8) (v := .ref h_mny) (C := RX11) (T := TX11) (N := 71) hx hb hw iwX11 hown hK hP 0 rfl rfl 8 (by decide) (hw _ w_f_X11_142) (fun _ h9 => h9) rfl dX11_positives_6 ?_
      refine lv_iload_n hx hb dX11_positives_9 rfl (lv_at hl 1 rfl) ?_
      refine va_iald hx hb hK hP 1 0 rfl rfl (i := p1) (vp_in_iff.mpr (by omega)) dX11_positives_10 ?_
      refine lv_topi (fun z5 ez5 => ?_)
      have rz5 : 0 ≤ (z5).toInt ∧ (z5).toInt ≤ 6 := by rw [ez5]; exact hf_mny _
      refine lv_icmp_ge (tgt := 44) hx hb dX11_positives_11 (by decide) (fun c6 => ?_) (fun c6 => ?_)
      · have kc6 := (cv_le (rfl : (z5).toInt = (z5).toInt) (rfl : (x2).toInt = (x2).toInt)).mp c6
        refine lv_iload_n hx hb dX11_positives_44 rfl (lv_at hl 2 rfl) ?_
        refine W.widen (k := 0) (n := 0) (Nat.le_of_ble_eq_true rfl) (Nat.le_of_ble_eq_true rfl) ?_
        exact W.iret (v := x1) hx hb hr (fun t ht hW => ⟨⟨x1, (), rfl, trivial, by rw [ht]; exact hP, hD⟩, hS.F ht⟩) hS.2.2 dX11_positives_45
      · have kc6 := (not_congr (cv_le (rfl : (z5).toInt = (z5).toInt) (rfl : (x2).toInt = (x2).toInt))).mp c6
        refine lv_aload_n hx hb dX11_positives_14 rfl (lv_at hl 0 rfl) ?_
        refine va_get (D := (dC, dI)) (ci := 8) (v := .ref h_isn) (C := RX11) (T := TX11) (N := 71) hx hb hw iwX11 hown hK hP 0 rfl rfl 11 (by decide) (hw _ w_f_X11_145) (fun _ h9 => h9) rfl dX11_positives_15 ?_
        refine lv_aload_n hx hb dX11_positives_18 rfl (lv_at hl 0 rfl) ?_
        refine lv_iload_n hx hb dX11_positives_19 rfl (lv_at hl 1 rfl) ?_
        refine lv_iload_n hx hb dX11_positives_20 rfl (lv_at hl 3 rfl) ?_
        have hPc := hP.sub (ws' := []) [] rfl
        have hDc := hD.sub (ws' := []) [] (by decide) rfl
        have hKc := hK.sub (tys' := []) [] rfl
        have hFc := va_free (wc := []) hD hS hA [] rfl
        refine va_calli (va_runV (As := [.int p1, .int x2]) (rest := [.ref h_isn]) ⟨hx, hb, hml, hown, hts⟩ (c_X11_litAt l dC dI H.size h_mm p1 x2 (by omega) (by omega)) (cwV 2 hts (gv hT w_m_X11_149 w_instanceMethod_X11_litAt ws_sel_X11_litAt w_ini_X11 w_code_X11_litAt) rfl rfl rfl (by decide +kernel) ⟨(Nat.le_of_ble_eq_true rfl), (Nat.le_of_ble_eq_true rfl)⟩) ⟨pre_blind, va_recv hK hP (ci := 8) (q0 := 0) rfl rfl, pre_of hPc hKc hDc hN⟩ rfl rfl hl.1 rfl (lv_room (Nat.le_of_ble_eq_true rfl)) dX11_positives_21 ⟨(Nat.le_of_ble_eq_true rfl), (Nat.le_of_ble_eq_true rfl)⟩) hS (fun q _ h => hFc q h) hFc (fun r7 u t H locs ht hvm hq hB hz1 hk1 hS9 => ?_)
        obtain ⟨hP1, hD1⟩ := hB
        rw [ht] at hP1
        obtain ⟨hP9, hD9⟩ := va_join (wr := [(h_mm, .inr (8, (mo103 v_mm (.ref h_mny) (.ref h_isn)))), (h_mny, .inl (cy_mny, 32, .inl f_mny)), (h_isn, .inl (cy_isn, 192, .inl f_isn))]) (w1 := []) hP hD [] [0, 1, 2] rfl rfl (by decide) (by decide) hk1 hFc hP1 hD1
        clear hP hD hS hPc hDc hKc hFc hP1 hD1 hk1 hz1 ht hvm
        have hP : va_P (dC, dI) cls [(h_mm, .inr (8, (mo103 v_mm (.ref h_mny) (.ref h_isn)))), (h_mny, .inl (cy_mny, 32, .inl f_mny)), (h_isn, .inl (cy_isn, 192, .inl f_isn))] H := hP9
        have hD : va_D A [(h_mm, .inr (8, (mo103 v_mm (.ref h_mny) (.ref h_isn)))), (h_mny, .inl (cy_mny, 32, .inl f_mny)), (h_isn, .inl (cy_isn, 192, .inl f_isn))] := hD9
        have hS := hS9
        clear hP9 hD9 hS9
        obtain ⟨k8, k9⟩ := hq
        replace k8 : 0 ≤ (r7).toInt ∧ (r7).toInt ≤ 191 := k8
        replace k9 : ((r7)).toInt = 6 * ((p1)).toInt + ((x2)).toInt := k9
        refine va_zald hx hb hK hP 2 1 rfl rfl (i := r7) (vp_in_iff.mpr (by omega)) dX11_positives_24 ?_
        refine lv_topi (fun z10 ez10 => ?_)
        have rz10 : 0 ≤ (z10).toInt ∧ (z10).toInt ≤ 1 := by rw [ez10]; exact hf_isn _
        refine lv_if_eq (tgt := 32) hx hb dX11_positives_25 (by decide) (fun c11 => ?_) (fun c11 => ?_)
        · have kc11 := (cv_eq (rfl : (z10).toInt = (z10).toInt) (by decide : (0 : Int32).toInt = 0)).mp c11
          refine lv_iload_n hx hb dX11_positives_32 rfl (lv_at hl 2 rfl) ?_
          refine lv_iconst (v := 1) hx hb dX11_positives_33 (by decide) ?_
          refine lv_iload_n hx hb dX11_positives_34 rfl (lv_at hl 3 rfl) ?_
          refine lv_ishl hx hb dX11_positives_35 ?_
          refine lv_topi (fun z12 ez12 => ?_)
          refine lv_ior hx hb dX11_positives_36 ?_
          refine lv_topi (fun z13 ez13 => ?_)
          refine lv_istore_n (lv' := [(2, .int z13), (0, .ref h_mm), (1, .int p1), (3, .int x2)]) hx hb dX11_positives_37 rfl hl (by decide) rfl (fun ls hl => ?_)
          obtain ⟨z14, ez14⟩ : ∃ y : Int32, y = x2 + 1 := ⟨_, rfl⟩
          have tz14 : (z14).toInt = (x2).toInt + 1 := by rw [ez14]; exact i_add rfl (by decide) (by omega)
          refine lv_iinc (v := z14) (lv' := [(3, .int z14), (2, .int z13), (0, .ref h_mm), (1, .int p1)]) hx hb dX11_positives_38 hl (k := 3) rfl (by rw [ez14]; rfl) (by decide) rfl (fun ls hl => ?_)
          refine lv_goto (tgt := 4) hx hb dX11_positives_41 (by decide) ?_
          exact ih4 (z13) (z14) _ _ _ (by omega) (by omega) hP hD hS (lv_sub hl [2, 3, 1, 0] rfl)
        · have kc11 := (not_congr (cv_eq (rfl : (z10).toInt = (z10).toInt) (by decide : (0 : Int32).toInt = 0))).mp c11
          refine lv_iload_n hx hb dX11_positives_28 rfl (lv_at hl 2 rfl) ?_
          refine lv_goto (tgt := 37) hx hb dX11_positives_29 (by decide) ?_
          refine lv_istore_n (lv' := [(2, .int x1), (0, .ref h_mm), (1, .int p1), (3, .int x2)]) hx hb dX11_positives_37 rfl hl (by decide) rfl (fun ls hl => ?_)
          obtain ⟨z15, ez15⟩ : ∃ y : Int32, y = x2 + 1 := ⟨_, rfl⟩
          have tz15 : (z15).toInt = (x2).toInt + 1 := by rw [ez15]; exact i_add rfl (by decide) (by omega)
          refine lv_iinc (v := z15) (lv' := [(3, .int z15), (2, .int x1), (0, .ref h_mm), (1, .int p1)]) hx hb dX11_positives_38 hl (k := 3) rfl (by rw [ez15]; rfl) (by decide) rfl (fun ls hl => ?_)
          refine lv_goto (tgt := 4) hx hb dX11_positives_41 (by decide) ?_
          exact ih4 (x1) (z15) _ _ _ (by omega) (by omega) hP hD hS (lv_sub hl [2, 3, 1, 0] rfl)
  have cst0 : (0 : Int32).toInt = 0 := by decide
  exact lp3 _ (0) (0) _ _ _ (by decide) (Nat.le_refl _) hP hD hS (lv_sub hl [2, 3, 1, 0] rfl)

set_option maxHeartbeats 8000000 in
set_option maxRecDepth 100000 in
theorem c_X11_forgets (l : Launch) (dC : Nat → ClassId) (dI : Nat → Nat → Nat) (sz : Nat) (h_mm : Nat) (v_mm : Nat → Value) (x_mm_isProof : Int32) (x_mm_answers : Int32) (hx_mm_isProof : 0 ≤ (x_mm_isProof).toInt ∧ (x_mm_isProof).toInt ≤ 1) (hx_mm_answers : 0 ≤ (x_mm_answers).toInt ∧ (x_mm_answers).toInt ≤ 8) : Met l yX11_forgets (Ws yX11_forgets cX11_forgets 1 none) (({ frames := 0, cells := 0, slots := 0, locals := 0 } : Room)) (PRE (dC, dI) cls [] [(h_mm, .inr (8, (mo104 v_mm (.int x_mm_isProof) (.int x_mm_answers))))] sz [.ref h_mm]) (va_Qv (fun (u : (Int32) × (Int32)) => (0 ≤ (u.1).toInt ∧ (u.1).toInt ≤ 1) ∧ (0 ≤ (u.2).toInt ∧ (u.2).toInt ≤ 8)) (fun (u : (Int32) × (Int32)) (t : State) => va_P (dC, dI) cls [(h_mm, .inr (8, (mo104 v_mm (.int u.1) (.int u.2))))] t.heap ∧ va_D (va_A [(h_mm, .inr (8, (mo104 v_mm (.int x_mm_isProof) (.int x_mm_answers))))] sz) [(h_mm, .inr (8, (mo104 v_mm (.int u.1) (.int u.2))))]) (va_A [(h_mm, .inr (8, (mo104 v_mm (.int x_mm_isProof) (.int x_mm_answers))))] sz)) 0 0 (va_A [(h_mm, .inr (8, (mo104 v_mm (.int x_mm_isProof) (.int x_mm_answers))))] sz) := by
  refine Met.ofW (cc := cX11_forgets) (maxL := 1) (ret := none) (by decide) rfl ?_
  intro p e s m args below meth c s₁ B hml hv
  obtain ⟨rfl, hsz, hP, hK, hD0, hN⟩ := hv
  have hx := B.exec
  have hb := B.bytes
  have hr := B.returns
  have hts := atoms_spec (ws := Ws yX11_forgets cX11_forgets 1 none) B.pre
  have hT : ∀ w ∈ WALL, w ∈ Ws yX11_forgets cX11_forgets 1 none := fun w h => List.mem_cons_of_mem _ h
  have hw := fun w (h : w ∈ WALL) => hts w (hT w h)
  have hown : s.vm.findClass RX11 = some m.cls := findClass_of_methodNamed B.named
  have hlocks := B.notSynchronized
  subst hsz
  have hD := hD0.self (sz := s.heap.size)
  generalize hAe : va_A [(h_mm, .inr (8, (mo104 v_mm (.int x_mm_isProof) (.int x_mm_answers))))] s.heap.size = A at hD ⊢
  have hA : ∀ q : Nat, s.heap.size ≤ q → A q := fun q h => by rw [← hAe]; exact Or.inr h
  have hS : va_S A s.heap s.heap [] := va_S.rf
  have hl := lv_entry ([.ref h_mm]) (n := 1) (Nat.le_of_ble_eq_true rfl)
  rw [lg_entry_eq]
  generalize (lg_sl ([.ref h_mm]) ++ List.replicate (1 - (lg_sl ([.ref h_mm])).length) Slot.unset).toArray = ls at hl ⊢
  have hl : lv_has ls 1 [(0, .ref h_mm)] := hl
  refine lv_aload_n hx hb dX11_forgets_0 rfl (lv_at hl 0 rfl) ?_
  refine lv_iconst (v := 0) hx hb dX11_forgets_1 (by decide) ?_
  refine va_put (D := (dC, dI)) (ci := 8) (v := .int 0) (ty := tyX11 58) (C := RX11) (T := TX11) (N := 71) hx hb hw iwX11 tyX11 tyX11_ok nmX11 hown hK hP hD hS 0 rfl rfl 58 (by decide) (hw _ w_f_X11_410) (fun _ h9 => h9) rfl (tyX11_ok 58 (by decide)) rfl rfl (Nat.le_of_ble_eq_true rfl) dX11_forgets_2 (fun H locs hP9 hD9 hS9 => ?_)
  clear hP hD hS
  have hP : va_P (dC, dI) cls [(h_mm, .inr (8, (mo104 v_mm (.int 0) (.int x_mm_answers))))] H := hP9
  have hD : va_D A [(h_mm, .inr (8, (mo104 v_mm (.int 0) (.int x_mm_answers))))] := hD9
  have hS := hS9
  clear hP9 hD9 hS9
  refine lv_aload_n hx hb dX11_forgets_5 rfl (lv_at hl 0 rfl) ?_
  refine lv_iconst (v := 0) hx hb dX11_forgets_6 (by decide) ?_
  refine va_put (D := (dC, dI)) (ci := 8) (v := .int 0) (ty := tyX11 60) (C := RX11) (T := TX11) (N := 71) hx hb hw iwX11 tyX11 tyX11_ok nmX11 hown hK hP hD hS 0 rfl rfl 60 (by decide) (hw _ w_f_X11_413) (fun _ h9 => h9) rfl (tyX11_ok 60 (by decide)) rfl rfl (Nat.le_of_ble_eq_true rfl) dX11_forgets_7 (fun H locs hP9 hD9 hS9 => ?_)
  clear hP hD hS
  have hP : va_P (dC, dI) cls [(h_mm, .inr (8, (mo104 v_mm (.int 0) (.int 0))))] H := hP9
  have hD : va_D A [(h_mm, .inr (8, (mo104 v_mm (.int 0) (.int 0))))] := hD9
  have hS := hS9
  clear hP9 hD9 hS9
  refine W.widen (k := 0) (n := 0) (Nat.le_of_ble_eq_true rfl) (Nat.le_of_ble_eq_true rfl) ?_
  have cst0 : (0 : Int32).toInt = 0 := by decide
  have w1 : 0 ≤ ((0 : Int32)).toInt ∧ ((0 : Int32)).toInt ≤ 1 := by omega
  have w2 : 0 ≤ ((0 : Int32)).toInt ∧ ((0 : Int32)).toInt ≤ 8 := by omega
  exact W.vret hx hb hr (fun t ht hW => ⟨⟨(0, 0), rfl, ⟨w1, w2⟩, by rw [ht]; exact hP, hD⟩, hS.F ht⟩) hS.2.2 dX11_forgets_10

set_option maxHeartbeats 8000000 in
set_option maxRecDepth 100000 in
theorem c_X11_drop (l : Launch) (dC : Nat → ClassId) (dI : Nat → Nat → Nat) (sz : Nat) (h_mm : Nat) (h_mny : Nat) (h_vrs : Nat) (h_let : Nat) (h_isn : Nat) (h_tem : Nat) (v_mm : Nat → Value) (x_mm_clauses : Int32) (x_mm_isProof : Int32) (x_mm_answers : Int32) (cy_mny : ClassId) (f_mny : Nat → Int32) (cy_vrs : ClassId) (f_vrs : Nat → Int32) (cy_let : ClassId) (f_let : Nat → Int32) (cy_isn : ClassId) (f_isn : Nat → Int32) (cy_tem : ClassId) (f_tem : Nat → Int32) (p1 : Int32) (hx_mm_clauses : 0 ≤ (x_mm_clauses).toInt ∧ (x_mm_clauses).toInt ≤ 16) (hx_mm_isProof : 0 ≤ (x_mm_isProof).toInt ∧ (x_mm_isProof).toInt ≤ 1) (hx_mm_answers : 0 ≤ (x_mm_answers).toInt ∧ (x_mm_answers).toInt ≤ 8) (hf_mny : Rg 0 6 f_mny) (hf_vrs : Rg 0 8 f_vrs) (hf_isn : Rg 0 1 f_isn) (hf_tem : Rg 0 7999 f_tem) : Met l yX11_drop (Ws yX11_drop cX11_drop 3 (some .boolean)) (({ frames := 2, cells := 0, slots := 0, locals := 47 } : Room)) (PRE (dC, dI) cls [(cy_mny, .int), (cy_vrs, .int), (cy_let, .int), (cy_isn, .boolean), (cy_tem, .int)] [(h_mm, .inr (8, (mo105 v_mm (.int x_mm_clauses) (.ref h_mny) (.ref h_vrs) (.ref h_let) (.ref h_isn) (.ref h_tem) (.int x_mm_isProof) (.int x_mm_answers)))), (h_mny, .inl (cy_mny, 32, .inl f_mny)), (h_vrs, .inl (cy_vrs, 32, .inl f_vrs)), (h_let, .inl (cy_let, 256, .inl f_let)), (h_isn, .inl (cy_isn, 192, .inl f_isn)), (h_tem, .inl (cy_tem, 192, .inl f_tem))] sz [.ref h_mm, .int p1]) (va_Qi (fun (r : Int32) (u : (Int32) × (Int32) × (Int32) × (Int32) × (Nat → Int32) × (Nat → Int32) × (Nat → Int32) × (Nat → Int32) × (Nat → Int32)) => (0 ≤ (u.2.1).toInt ∧ (u.2.1).toInt ≤ 16) ∧ (0 ≤ (u.2.2.1).toInt ∧ (u.2.2.1).toInt ≤ 1) ∧ (0 ≤ (u.2.2.2.1).toInt ∧ (u.2.2.2.1).toInt ≤ 8) ∧ (Rg 0 6 u.2.2.2.2.1) ∧ (Rg 0 8 u.2.2.2.2.2.1) ∧ (Rg 0 1 u.2.2.2.2.2.2.2.1) ∧ (Rg 0 7999 u.2.2.2.2.2.2.2.2) ∧ (0 ≤ r.toInt ∧ r.toInt ≤ 1)) (fun (u : (Int32) × (Int32) × (Int32) × (Int32) × (Nat → Int32) × (Nat → Int32) × (Nat → Int32) × (Nat → Int32) × (Nat → Int32)) (t : State) => va_P (dC, dI) cls [(h_mm, .inr (8, (mo106 v_mm (.int u.1) (.int u.2.1) (.ref h_mny) (.ref h_vrs) (.ref h_let) (.ref h_isn) (.ref h_tem) (.int u.2.2.1) (.int u.2.2.2.1)))), (h_mny, .inl (cy_mny, 32, .inl u.2.2.2.2.1)), (h_vrs, .inl (cy_vrs, 32, .inl u.2.2.2.2.2.1)), (h_let, .inl (cy_let, 256, .inl u.2.2.2.2.2.2.1)), (h_isn, .inl (cy_isn, 192, .inl u.2.2.2.2.2.2.2.1)), (h_tem, .inl (cy_tem, 192, .inl u.2.2.2.2.2.2.2.2))] t.heap ∧ va_D (va_A [(h_mm, .inr (8, (mo105 v_mm (.int x_mm_clauses) (.ref h_mny) (.ref h_vrs) (.ref h_let) (.ref h_isn) (.ref h_tem) (.int x_mm_isProof) (.int x_mm_answers)))), (h_mny, .inl (cy_mny, 32, .inl f_mny)), (h_vrs, .inl (cy_vrs, 32, .inl f_vrs)), (h_let, .inl (cy_let, 256, .inl f_let)), (h_isn, .inl (cy_isn, 192, .inl f_isn)), (h_tem, .inl (cy_tem, 192, .inl f_tem))] sz) [(h_mm, .inr (8, (mo106 v_mm (.int u.1) (.int u.2.1) (.ref h_mny) (.ref h_vrs) (.ref h_let) (.ref h_isn) (.ref h_tem) (.int u.2.2.1) (.int u.2.2.2.1)))), (h_mny, .inl (cy_mny, 32, .inl u.2.2.2.2.1)), (h_vrs, .inl (cy_vrs, 32, .inl u.2.2.2.2.2.1)), (h_let, .inl (cy_let, 256, .inl u.2.2.2.2.2.2.1)), (h_isn, .inl (cy_isn, 192, .inl u.2.2.2.2.2.2.2.1)), (h_tem, .inl (cy_tem, 192, .inl u.2.2.2.2.2.2.2.2))]) (va_A [(h_mm, .inr (8, (mo105 v_mm (.int x_mm_clauses) (.ref h_mny) (.ref h_vrs) (.ref h_let) (.ref h_isn) (.ref h_tem) (.int x_mm_isProof) (.int x_mm_answers)))), (h_mny, .inl (cy_mny, 32, .inl f_mny)), (h_vrs, .inl (cy_vrs, 32, .inl f_vrs)), (h_let, .inl (cy_let, 256, .inl f_let)), (h_isn, .inl (cy_isn, 192, .inl f_isn)), (h_tem, .inl (cy_tem, 192, .inl f_tem))] sz)) 0 0 (va_A [(h_mm, .inr (8, (mo105 v_mm (.int x_mm_clauses) (.ref h_mny) (.ref h_vrs) (.ref h_let) (.ref h_isn) (.ref h_tem) (.int x_mm_isProof) (.int x_mm_answers)))), (h_mny, .inl (cy_mny, 32, .inl f_mny)), (h_vrs, .inl (cy_vrs, 32, .inl f_vrs)), (h_let, .inl (cy_let, 256, .inl f_let)), (h_isn, .inl (cy_isn, 192, .inl f_isn)), (h_tem, .inl (cy_tem, 192, .inl f_tem))] sz) := by
  refine Met.ofW (cc := cX11_drop) (maxL := 3) (ret := (some .boolean)) (by decide) rfl ?_
  intro p e s m args below meth c s₁ B hml hv
  obtain ⟨rfl, hsz, hP, hK, hD0, hN⟩ := hv
  have hx := B.exec
  have hb := B.bytes
  have hr := B.returns
  have hts := atoms_spec (ws := Ws yX11_drop cX11_drop 3 (some .boolean)) B.pre
  have hT : ∀ w ∈ WALL, w ∈ Ws yX11_drop cX11_drop 3 (some .boolean) := fun w h => List.mem_cons_of_mem _ h
  have hw := fun w (h : w ∈ WALL) => hts w (hT w h)
  have hown : s.vm.findClass RX11 = some m.cls := findClass_of_methodNamed B.named
  have hlocks := B.notSynchronized
  subst hsz
  have hD := hD0.self (sz := s.heap.size)
  generalize hAe : va_A [(h_mm, .inr (8, (mo105 v_mm (.int x_mm_clauses) (.ref h_mny) (.ref h_vrs) (.ref h_let) (.ref h_isn) (.ref h_tem) (.int x_mm_isProof) (.int x_mm_answers)))), (h_mny, .inl (cy_mny, 32, .inl f_mny)), (h_vrs, .inl (cy_vrs, 32, .inl f_vrs)), (h_let, .inl (cy_let, 256, .inl f_let)), (h_isn, .inl (cy_isn, 192, .inl f_isn)), (h_tem, .inl (cy_tem, 192, .inl f_tem))] s.heap.size = A at hD ⊢
  have hA : ∀ q : Nat, s.heap.size ≤ q → A q := fun q h => by rw [← hAe]; exact Or.inr h
  have hS : va_S A s.heap s.heap [] := va_S.rf
  have hl := lv_entry ([.ref h_mm, .int p1]) (n := 3) (Nat.le_of_ble_eq_true rfl)
  rw [lg_entry_eq]
  generalize (lg_sl ([.ref h_mm, .int p1]) ++ List.replicate (3 - (lg_sl ([.ref h_mm, .int p1])).length) Slot.unset).toArray = ls at hl ⊢
  have hl : lv_has ls 3 [(0, .ref h_mm), (1, .int p1)] := hl
  refine lv_aload_n hx hb dX11_drop_0 rfl (lv_at hl 0 rfl) ?_
  refine lv_iconst (v := 0) hx hb dX11_drop_1 (by decide) ?_
  refine va_put (D := (dC, dI)) (ci := 8) (v := .int 0) (ty := tyX11 0) (C := RX11) (T := TX11) (N := 71) hx hb hw iwX11 tyX11 tyX11_ok nmX11 hown hK hP hD hS 0 rfl rfl 0 (by decide) (hw _ w_f_X11_1) (fun _ h9 => h9) rfl (tyX11_ok 0 (by decide)) rfl rfl (Nat.le_of_ble_eq_true rfl) dX11_drop_2 (fun H locs hP9 hD9 hS9 => ?_)
  clear hP hD hS
  have hP : va_P (dC, dI) cls [(h_mm, .inr (8, (mo106 v_mm (.int 0) (.int x_mm_clauses) (.ref h_mny) (.ref h_vrs) (.ref h_let) (.ref h_isn) (.ref h_tem) (.int x_mm_isProof) (.int x_mm_answers)))), (h_mny, .inl (cy_mny, 32, .inl f_mny)), (h_vrs, .inl (cy_vrs, 32, .inl f_vrs)), (h_let, .inl (cy_let, 256, .inl f_let)), (h_isn, .inl (cy_isn, 192, .inl f_isn)), (h_tem, .inl (cy_tem, 192, .inl f_tem))] H := hP9
  have hD : va_D A [(h_mm, .inr (8, (mo106 v_mm (.int 0) (.int x_mm_clauses) (.ref h_mny) (.ref h_vrs) (.ref h_let) (.ref h_isn) (.ref h_tem) (.int x_mm_isProof) (.int x_mm_answers)))), (h_mny, .inl (cy_mny, 32, .inl f_mny)), (h_vrs, .inl (cy_vrs, 32, .inl f_vrs)), (h_let, .inl (cy_let, 256, .inl f_let)), (h_isn, .inl (cy_isn, 192, .inl f_isn)), (h_tem, .inl (cy_tem, 192, .inl f_tem))] := hD9
  have hS := hS9
  clear hP9 hD9 hS9
  refine lv_aload_n hx hb dX11_drop_5 rfl (lv_at hl 0 rfl) ?_
  refine lv_iload_n hx hb dX11_drop_6 rfl (lv_at hl 1 rfl) ?_
  obtain ⟨vq1, evq1⟩ := mq106_100 v_mm (.int 0) (.ref h_mny) (.ref h_vrs) (.ref h_let) (.ref h_isn) (.ref h_tem) (.int x_mm_isProof) (.int x_mm_answers)
  replace hP : va_P (dC, dI) cls [(h_mm, .inr (8, (mo100 vq1 (.int x_mm_clauses)))), (h_mny, .inl (cy_mny, 32, .inl f_mny)), (h_vrs, .inl (cy_vrs, 32, .inl f_vrs)), (h_let, .inl (cy_let, 256, .inl f_let)), (h_isn, .inl (cy_isn, 192, .inl f_isn)), (h_tem, .inl (cy_tem, 192, .inl f_tem))] H := by rw [evq1]; exact hP
  replace hD : va_D A [(h_mm, .inr (8, (mo100 vq1 (.int x_mm_clauses)))), (h_mny, .inl (cy_mny, 32, .inl f_mny)), (h_vrs, .inl (cy_vrs, 32, .inl f_vrs)), (h_let, .inl (cy_let, 256, .inl f_let)), (h_isn, .inl (cy_isn, 192, .inl f_isn)), (h_tem, .inl (cy_tem, 192, .inl f_tem))] := by rw [evq1]; exact hD
  have hPc := hP.sub (ws' := [(h_mm, .inr (8, (mo100 vq1 (.int x_mm_clauses))))]) [0] rfl
  have hDc := hD.sub (ws' := [(h_mm, .inr (8, (mo100 vq1 (.int x_mm_clauses))))]) [0] (by decide) rfl
  have hKc := hK.sub (tys' := []) [] rfl
  have hFc := va_free (wc := [(h_mm, .inr (8, (mo100 vq1 (.int x_mm_clauses))))]) hD hS hA [0] rfl
  refine va_calli (va_runV (As := [.int p1]) (rest := []) ⟨hx, hb, hml, hown, hts⟩ (c_X11_isClause l dC dI H.size h_mm vq1 x_mm_clauses p1 (by first | exact hx_mm_clauses | omega)) (cwV 1 hts (gv hT w_m_X11_174 w_instanceMethod_X11_isClause ws_sel_X11_isClause w_ini_X11 w_code_X11_isClause) rfl rfl rfl (by decide +kernel) ⟨(Nat.le_of_ble_eq_true rfl), (Nat.le_of_ble_eq_true rfl)⟩) ⟨pre_blind, va_recv hK hP (ci := 8) (q0 := 0) rfl rfl, pre_of hPc hKc hDc hN⟩ rfl rfl hl.1 rfl (lv_room (Nat.le_of_ble_eq_true rfl)) dX11_drop_7 ⟨(Nat.le_of_ble_eq_true rfl), (Nat.le_of_ble_eq_true rfl)⟩) hS (fun q _ h => hFc q h) hFc (fun r2 u t H locs ht hvm hq hB hz1 hk1 hS9 => ?_)
  obtain ⟨hP1, hD1⟩ := hB
  rw [ht] at hP1
  obtain ⟨hP9, hD9⟩ := va_join (wr := [(h_mny, .inl (cy_mny, 32, .inl f_mny)), (h_vrs, .inl (cy_vrs, 32, .inl f_vrs)), (h_let, .inl (cy_let, 256, .inl f_let)), (h_isn, .inl (cy_isn, 192, .inl f_isn)), (h_tem, .inl (cy_tem, 192, .inl f_tem))]) (w1 := [(h_mm, .inr (8, (mo100 vq1 (.int x_mm_clauses))))]) hP hD [0] [1, 2, 3, 4, 5] rfl rfl (by decide) (by decide) hk1 hFc hP1 hD1
  clear hP hD hS hPc hDc hKc hFc hP1 hD1 hk1 hz1 ht hvm
  have hP : va_P (dC, dI) cls [(h_mny, .inl (cy_mny, 32, .inl f_mny)), (h_vrs, .inl (cy_vrs, 32, .inl f_vrs)), (h_let, .inl (cy_let, 256, .inl f_let)), (h_isn, .inl (cy_isn, 192, .inl f_isn)), (h_tem, .inl (cy_tem, 192, .inl f_tem)), (h_mm, .inr (8, (mo100 vq1 (.int x_mm_clauses))))] H := hP9
  have hD : va_D A [(h_mny, .inl (cy_mny, 32, .inl f_mny)), (h_vrs, .inl (cy_vrs, 32, .inl f_vrs)), (h_let, .inl (cy_let, 256, .inl f_let)), (h_isn, .inl (cy_isn, 192, .inl f_isn)), (h_tem, .inl (cy_tem, 192, .inl f_tem)), (h_mm, .inr (8, (mo100 vq1 (.int x_mm_clauses))))] := hD9
  have hS := hS9
  clear hP9 hD9 hS9
  rw [evq1] at hP hD
  replace hP : va_P (dC, dI) cls [(h_mny, .inl (cy_mny, 32, .inl f_mny)), (h_vrs, .inl (cy_vrs, 32, .inl f_vrs)), (h_let, .inl (cy_let, 256, .inl f_let)), (h_isn, .inl (cy_isn, 192, .inl f_isn)), (h_tem, .inl (cy_tem, 192, .inl f_tem)), (h_mm, .inr (8, (mo106 v_mm (.int 0) (.int x_mm_clauses) (.ref h_mny) (.ref h_vrs) (.ref h_let) (.ref h_isn) (.ref h_tem) (.int x_mm_isProof) (.int x_mm_answers))))] H := hP
  replace hD : va_D A [(h_mny, .inl (cy_mny, 32, .inl f_mny)), (h_vrs, .inl (cy_vrs, 32, .inl f_vrs)), (h_let, .inl (cy_let, 256, .inl f_let)), (h_isn, .inl (cy_isn, 192, .inl f_isn)), (h_tem, .inl (cy_tem, 192, .inl f_tem)), (h_mm, .inr (8, (mo106 v_mm (.int 0) (.int x_mm_clauses) (.ref h_mny) (.ref h_vrs) (.ref h_let) (.ref h_isn) (.ref h_tem) (.int x_mm_isProof) (.int x_mm_answers))))] := hD
  clear evq1 
  rcases hq with ⟨rfl, hq⟩ | ⟨rfl, hq⟩
  · replace hq : (0 ≤ ((p1)).toInt) ∧ (((p1)).toInt < ((x_mm_clauses)).toInt) := hq
    refine lv_if_ne (tgt := 15) hx hb dX11_drop_10 (by decide) (fun _ => ?_) (fun c9 => absurd c9 (by decide))
    refine lv_iload_n hx hb dX11_drop_15 rfl (lv_at hl 1 rfl) ?_
    refine lv_istore_n (lv' := [(2, .int p1), (0, .ref h_mm), (1, .int p1)]) hx hb dX11_drop_16 rfl hl (by decide) rfl (fun ls hl => ?_)
    have lp9 : ∀ (n : Nat) (x3 : Int32) (f4 : Nat → Int32) (f5 : Nat → Int32) (f6 : Nat → Int32) (f7 : Nat → Int32) (f8 : Nat → Int32) (H : Heap) (locs : List Loc) (ls : Array Slot), (0 ≤ (x3).toInt ∧ (x3).toInt ≤ 15) → (Rg 0 6 f4) → (Rg 0 8 f5) → (Rg 0 1 f7) → (Rg 0 7999 f8) → ((x3).toInt < (x_mm_clauses).toInt) → (16 - (x3).toInt).toNat + 1 ≤ n → va_P (dC, dI) cls [(h_mny, .inl (cy_mny, 32, .inl f4)), (h_vrs, .inl (cy_vrs, 32, .inl f5)), (h_let, .inl (cy_let, 256, .inl f6)), (h_isn, .inl (cy_isn, 192, .inl f7)), (h_tem, .inl (cy_tem, 192, .inl f8)), (h_mm, .inr (8, (mo106 v_mm (.int 0) (.int x_mm_clauses) (.ref h_mny) (.ref h_vrs) (.ref h_let) (.ref h_isn) (.ref h_tem) (.int x_mm_isProof) (.int x_mm_answers))))] H → va_D A [(h_mny, .inl (cy_mny, 32, .inl f4)), (h_vrs, .inl (cy_vrs, 32, .inl f5)), (h_let, .inl (cy_let, 256, .inl f6)), (h_isn, .inl (cy_isn, 192, .inl f7)), (h_tem, .inl (cy_tem, 192, .inl f8)), (h_mm, .inr (8, (mo106 v_mm (.int 0) (.int x_mm_clauses) (.ref h_mny) (.ref h_vrs) (.ref h_let) (.ref h_isn) (.ref h_tem) (.int x_mm_isProof) (.int x_mm_answers))))] → va_S A s.heap H locs → lv_has ls 3 [(0, .ref h_mm), (1, .int p1), (2, .int x3)] → W p l e ({ frames := 2, cells := 0, slots := 0, locals := 47 } : Room) s m ([.ref h_mm, .int p1] : List Value).toArray below meth c H locs 0 0 (MQ below (va_Qi (fun (r : Int32) (u : (Int32) × (Int32) × (Int32) × (Int32) × (Nat → Int32) × (Nat → Int32) × (Nat → Int32) × (Nat → Int32) × (Nat → Int32)) => (0 ≤ (u.2.1).toInt ∧ (u.2.1).toInt ≤ 16) ∧ (0 ≤ (u.2.2.1).toInt ∧ (u.2.2.1).toInt ≤ 1) ∧ (0 ≤ (u.2.2.2.1).toInt ∧ (u.2.2.2.1).toInt ≤ 8) ∧ (Rg 0 6 u.2.2.2.2.1) ∧ (Rg 0 8 u.2.2.2.2.2.1) ∧ (Rg 0 1 u.2.2.2.2.2.2.2.1) ∧ (Rg 0 7999 u.2.2.2.2.2.2.2.2) ∧ (0 ≤ r.toInt ∧ r.toInt ≤ 1)) (fun (u : (Int32) × (Int32) × (Int32) × (Int32) × (Nat → Int32) × (Nat → Int32) × (Nat → Int32) × (Nat → Int32) × (Nat → Int32)) (t : State) => va_P (dC, dI) cls [(h_mm, .inr (8, (mo106 v_mm (.int u.1) (.int u.2.1) (.ref h_mny) (.ref h_vrs) (.ref h_let) (.ref h_isn) (.ref h_tem) (.int u.2.2.1) (.int u.2.2.2.1)))), (h_mny, .inl (cy_mny, 32, .inl u.2.2.2.2.1)), (h_vrs, .inl (cy_vrs, 32, .inl u.2.2.2.2.2.1)), (h_let, .inl (cy_let, 256, .inl u.2.2.2.2.2.2.1)), (h_isn, .inl (cy_isn, 192, .inl u.2.2.2.2.2.2.2.1)), (h_tem, .inl (cy_tem, 192, .inl u.2.2.2.2.2.2.2.2))] t.heap ∧ va_D A [(h_mm, .inr (8, (mo106 v_mm (.int u.1) (.int u.2.1) (.ref h_mny) (.ref h_vrs) (.ref h_let) (.ref h_isn) (.ref h_tem) (.int u.2.2.1) (.int u.2.2.2.1)))), (h_mny, .inl (cy_mny, 32, .inl u.2.2.2.2.1)), (h_vrs, .inl (cy_vrs, 32, .inl u.2.2.2.2.2.1)), (h_let, .inl (cy_let, 256, .inl u.2.2.2.2.2.2.1)), (h_isn, .inl (cy_isn, 192, .inl u.2.2.2.2.2.2.2.1)), (h_tem, .inl (cy_tem, 192, .inl u.2.2.2.2.2.2.2.2))]) A) ([.ref h_mm, .int p1] : List Value).toArray s 0 0 A) (F0 m 17 ls []) := by
      clear hP hD hS hl
      intro n
      induction n with
      | zero => intro x3 f4 f5 f6 f7 f8 H locs ls klp9_0 hf4 hf5 hf7 hf8 klp9_5 hm hP hD hS hl; exact False.elim (by omega)
      | succ n ih => 
        intro x3 f4 f5 f6 f7 f8 H locs ls klp9_0 hf4 hf5 hf7 hf8 klp9_5 hm hP hD hS hl
        have ih10 := ih
        clear ih
        refine lv_iload_n hx hb dX11_drop_17 rfl (lv_at hl 2 rfl) ?_
        refine lv_iconst (v := 1) hx hb dX11_drop_18 (by decide) ?_
        refine lv_iadd hx hb dX11_drop_19 ?_
        refine lv_topi (fun z11 ez11 => ?_)
        have tz11 : (z11).toInt = (x3).toInt + 1 := by rw [ez11]; exact i_add rfl (by decide) (by omega)
        refine lv_aload_n hx hb dX11_drop_20 rfl (lv_at hl 0 rfl) ?_
        refine va_get (D := (dC, dI)) (ci := 8) (v := .int x_mm_clauses) (C := RX11) (T := TX11) (N := 71) hx hb hw iwX11 hown hK hP 5 rfl rfl 7 (by decide) (hw _ w_f_X11_164) (fun _ h9 => h9) rfl dX11_drop_21 ?_
        refine lv_icmp_ge (tgt := 41) hx hb dX11_drop_24 (by decide) (fun c12 => ?_) (fun c12 => ?_)
        · have kc12 := (cv_le (rfl : (x_mm_clauses).toInt = (x_mm_clauses).toInt) (rfl : (z11).toInt = (z11).toInt)).mp c12
          refine lv_aload_n hx hb dX11_drop_41 rfl (lv_at hl 0 rfl) ?_
          refine lv_aload_n hx hb dX11_drop_42 rfl (lv_at hl 0 rfl) ?_
          refine va_get (D := (dC, dI)) (ci := 8) (v := .int x_mm_clauses) (C := RX11) (T := TX11) (N := 71) hx hb hw iwX11 hown hK hP 5 rfl rfl 7 (by decide) (hw _ w_f_X11_164) (fun _ h9 => h9) rfl dX11_drop_43 ?_
          refine lv_iconst (v := 1) hx hb dX11_drop_46 (by decide) ?_
          refine lv_isub hx hb dX11_drop_47 ?_
          refine lv_topi (fun z13 ez13 => ?_)
          have tz13 : (z13).toInt = (x_mm_clauses).toInt - 1 := by rw [ez13]; exact i_sub rfl (by decide) (by omega)
          refine va_put (D := (dC, dI)) (ci := 8) (v := .int z13) (ty := tyX11 7) (C := RX11) (T := TX11) (N := 71) hx hb hw iwX11 tyX11 tyX11_ok nmX11 hown hK hP hD hS 5 rfl rfl 7 (by decide) (hw _ w_f_X11_164) (fun _ h9 => h9) rfl (tyX11_ok 7 (by decide)) rfl rfl (Nat.le_of_ble_eq_true rfl) dX11_drop_48 (fun H locs hP9 hD9 hS9 => ?_)
          clear hP hD hS
          have hP : va_P (dC, dI) cls [(h_mny, .inl (cy_mny, 32, .inl f4)), (h_vrs, .inl (cy_vrs, 32, .inl f5)), (h_let, .inl (cy_let, 256, .inl f6)), (h_isn, .inl (cy_isn, 192, .inl f7)), (h_tem, .inl (cy_tem, 192, .inl f8)), (h_mm, .inr (8, (mo106 v_mm (.int 0) (.int z13) (.ref h_mny) (.ref h_vrs) (.ref h_let) (.ref h_isn) (.ref h_tem) (.int x_mm_isProof) (.int x_mm_answers))))] H := hP9
          have hD : va_D A [(h_mny, .inl (cy_mny, 32, .inl f4)), (h_vrs, .inl (cy_vrs, 32, .inl f5)), (h_let, .inl (cy_let, 256, .inl f6)), (h_isn, .inl (cy_isn, 192, .inl f7)), (h_tem, .inl (cy_tem, 192, .inl f8)), (h_mm, .inr (8, (mo106 v_mm (.int 0) (.int z13) (.ref h_mny) (.ref h_vrs) (.ref h_let) (.ref h_isn) (.ref h_tem) (.int x_mm_isProof) (.int x_mm_answers))))] := hD9
          have hS := hS9
          clear hP9 hD9 hS9
          refine lv_aload_n hx hb dX11_drop_51 rfl (lv_at hl 0 rfl) ?_
          obtain ⟨vq14, evq14⟩ := mq106_104 v_mm (.int 0) (.int z13) (.ref h_mny) (.ref h_vrs) (.ref h_let) (.ref h_isn) (.ref h_tem)
          replace hP : va_P (dC, dI) cls [(h_mny, .inl (cy_mny, 32, .inl f4)), (h_vrs, .inl (cy_vrs, 32, .inl f5)), (h_let, .inl (cy_let, 256, .inl f6)), (h_isn, .inl (cy_isn, 192, .inl f7)), (h_tem, .inl (cy_tem, 192, .inl f8)), (h_mm, .inr (8, (mo104 vq14 (.int x_mm_isProof) (.int x_mm_answers))))] H := by rw [evq14]; exact hP
          replace hD : va_D A [(h_mny, .inl (cy_mny, 32, .inl f4)), (h_vrs, .inl (cy_vrs, 32, .inl f5)), (h_let, .inl (cy_let, 256, .inl f6)), (h_isn, .inl (cy_isn, 192, .inl f7)), (h_tem, .inl (cy_tem, 192, .inl f8)), (h_mm, .inr (8, (mo104 vq14 (.int x_mm_isProof) (.int x_mm_answers))))] := by rw [evq14]; exact hD
          have hPc := hP.sub (ws' := [(h_mm, .inr (8, (mo104 vq14 (.int x_mm_isProof) (.int x_mm_answers))))]) [5] rfl
          have hDc := hD.sub (ws' := [(h_mm, .inr (8, (mo104 vq14 (.int x_mm_isProof) (.int x_mm_answers))))]) [5] (by decide) rfl
          have hKc := hK.sub (tys' := []) [] rfl
          have hFc := va_free (wc := [(h_mm, .inr (8, (mo104 vq14 (.int x_mm_isProof) (.int x_mm_answers))))]) hD hS hA [5] rfl
          refine va_callv (va_runV (As := []) (rest := []) ⟨hx, hb, hml, hown, hts⟩ (c_X11_forgets l dC dI H.size h_mm vq14 x_mm_isProof x_mm_answers (by first | exact hx_mm_isProof | omega) (by first | exact hx_mm_answers | omega)) (cwV 0 hts (gv hT w_m_X11_171 w_instanceMethod_X11_forgets ws_sel_X11_forgets w_ini_X11 w_code_X11_forgets) rfl rfl rfl (by decide +kernel) ⟨(Nat.le_of_ble_eq_true rfl), (Nat.le_of_ble_eq_true rfl)⟩) ⟨pre_blind, va_recv hK hP (ci := 8) (q0 := 5) rfl rfl, pre_of hPc hKc hDc hN⟩ rfl rfl hl.1 rfl (lv_room (Nat.le_of_ble_eq_true rfl)) dX11_drop_52 ⟨(Nat.le_of_ble_eq_true rfl), (Nat.le_of_ble_eq_true rfl)⟩) hS (fun q _ h => hFc q h) hFc (fun u t H locs ht hvm hq hB hz1 hk1 hS9 => ?_)
          obtain ⟨z16, z17⟩ := u
          obtain ⟨hP1, hD1⟩ := hB
          rw [ht] at hP1
          obtain ⟨hP9, hD9⟩ := va_join (wr := [(h_mny, .inl (cy_mny, 32, .inl f4)), (h_vrs, .inl (cy_vrs, 32, .inl f5)), (h_let, .inl (cy_let, 256, .inl f6)), (h_isn, .inl (cy_isn, 192, .inl f7)), (h_tem, .inl (cy_tem, 192, .inl f8))]) (w1 := [(h_mm, .inr (8, (mo104 vq14 (.int z16) (.int z17))))]) hP hD [5] [0, 1, 2, 3, 4] rfl rfl (by decide) (by decide) hk1 hFc hP1 hD1
          clear hP hD hS hPc hDc hKc hFc hP1 hD1 hk1 hz1 ht hvm
          have hP : va_P (dC, dI) cls [(h_mny, .inl (cy_mny, 32, .inl f4)), (h_vrs, .inl (cy_vrs, 32, .inl f5)), (h_let, .inl (cy_let, 256, .inl f6)), (h_isn, .inl (cy_isn, 192, .inl f7)), (h_tem, .inl (cy_tem, 192, .inl f8)), (h_mm, .inr (8, (mo104 vq14 (.int z16) (.int z17))))] H := hP9
          have hD : va_D A [(h_mny, .inl (cy_mny, 32, .inl f4)), (h_vrs, .inl (cy_vrs, 32, .inl f5)), (h_let, .inl (cy_let, 256, .inl f6)), (h_isn, .inl (cy_isn, 192, .inl f7)), (h_tem, .inl (cy_tem, 192, .inl f8)), (h_mm, .inr (8, (mo104 vq14 (.int z16) (.int z17))))] := hD9
          have hS := hS9
          clear hP9 hD9 hS9
          rw [evq14] at hP hD
          replace hP : va_P (dC, dI) cls [(h_mny, .inl (cy_mny, 32, .inl f4)), (h_vrs, .inl (cy_vrs, 32, .inl f5)), (h_let, .inl (cy_let, 256, .inl f6)), (h_isn, .inl (cy_isn, 192, .inl f7)), (h_tem, .inl (cy_tem, 192, .inl f8)), (h_mm, .inr (8, (mo106 v_mm (.int 0) (.int z13) (.ref h_mny) (.ref h_vrs) (.ref h_let) (.ref h_isn) (.ref h_tem) (.int z16) (.int z17))))] H := hP
          replace hD : va_D A [(h_mny, .inl (cy_mny, 32, .inl f4)), (h_vrs, .inl (cy_vrs, 32, .inl f5)), (h_let, .inl (cy_let, 256, .inl f6)), (h_isn, .inl (cy_isn, 192, .inl f7)), (h_tem, .inl (cy_tem, 192, .inl f8)), (h_mm, .inr (8, (mo106 v_mm (.int 0) (.int z13) (.ref h_mny) (.ref h_vrs) (.ref h_let) (.ref h_isn) (.ref h_tem) (.int z16) (.int z17))))] := hD
          clear evq14 
          obtain ⟨k18, k19⟩ := hq
          replace k18 : 0 ≤ ((z16)).toInt ∧ ((z16)).toInt ≤ 1 := k18
          replace k19 : 0 ≤ ((z17)).toInt ∧ ((z17)).toInt ≤ 8 := k19
          refine lv_iconst (v := 1) hx hb dX11_drop_55 (by decide) ?_
          replace hP : va_P (dC, dI) cls [(h_mm, .inr (8, (mo106 v_mm (.int 0) (.int z13) (.ref h_mny) (.ref h_vrs) (.ref h_let) (.ref h_isn) (.ref h_tem) (.int z16) (.int z17)))), (h_mny, .inl (cy_mny, 32, .inl f4)), (h_vrs, .inl (cy_vrs, 32, .inl f5)), (h_let, .inl (cy_let, 256, .inl f6)), (h_isn, .inl (cy_isn, 192, .inl f7)), (h_tem, .inl (cy_tem, 192, .inl f8))] H := hP.sub [5, 0, 1, 2, 3, 4] rfl
          replace hD : va_D A [(h_mm, .inr (8, (mo106 v_mm (.int 0) (.int z13) (.ref h_mny) (.ref h_vrs) (.ref h_let) (.ref h_isn) (.ref h_tem) (.int z16) (.int z17)))), (h_mny, .inl (cy_mny, 32, .inl f4)), (h_vrs, .inl (cy_vrs, 32, .inl f5)), (h_let, .inl (cy_let, 256, .inl f6)), (h_isn, .inl (cy_isn, 192, .inl f7)), (h_tem, .inl (cy_tem, 192, .inl f8))] := hD.sub [5, 0, 1, 2, 3, 4] (by decide) rfl
          refine W.widen (k := 0) (n := 0) (Nat.le_of_ble_eq_true rfl) (Nat.le_of_ble_eq_true rfl) ?_
          have cst1 : (1 : Int32).toInt = 1 := by decide
          have cst0 : (0 : Int32).toInt = 0 := by decide
          have w20 : 0 ≤ ((z13)).toInt ∧ ((z13)).toInt ≤ 16 := by omega
          have w21 : 0 ≤ ((z16)).toInt ∧ ((z16)).toInt ≤ 1 := by first | exact k18 | omega
          have w22 : 0 ≤ ((z17)).toInt ∧ ((z17)).toInt ≤ 8 := by first | exact k19 | omega
          have w23 : 0 ≤ (1 : Int32).toInt ∧ (1 : Int32).toInt ≤ 1 := by omega
          exact W.zret (v := 1) (ty := .boolean) hx hb hr (by decide) (fun t ht hW => ⟨⟨1, (0, z13, z16, z17, f4, f5, f6, f7, f8), rfl, ⟨w20, w21, w22, hf4, hf5, hf7, hf8, w23⟩, by rw [ht]; exact hP, hD⟩, hS.F ht⟩) hS.2.2 dX11_drop_56
        · have kc12 := (not_congr (cv_le (rfl : (x_mm_clauses).toInt = (x_mm_clauses).toInt) (rfl : (z11).toInt = (z11).toInt))).mp c12
          refine lv_aload_n hx hb dX11_drop_27 rfl (lv_at hl 0 rfl) ?_
          refine lv_iload_n hx hb dX11_drop_28 rfl (lv_at hl 2 rfl) ?_
          refine lv_iconst (v := 1) hx hb dX11_drop_29 (by decide) ?_
          refine lv_iadd hx hb dX11_drop_30 ?_
          refine lv_topi (fun z24 ez24 => ?_)
          have qz24 : (z24).toInt = (z11).toInt := by rw [ez24, ez11]
          have tz24 : (z24).toInt = (x3).toInt + 1 := by rw [ez24]; exact i_add rfl (by decide) (by omega)
          refine lv_iload_n hx hb dX11_drop_31 rfl (lv_at hl 2 rfl) ?_
          obtain ⟨vq25, evq25⟩ := mq106_102 v_mm (.int 0) (.int x_mm_clauses) (.int x_mm_isProof) (.int x_mm_answers)
          replace hP : va_P (dC, dI) cls [(h_mny, .inl (cy_mny, 32, .inl f4)), (h_vrs, .inl (cy_vrs, 32, .inl f5)), (h_let, .inl (cy_let, 256, .inl f6)), (h_isn, .inl (cy_isn, 192, .inl f7)), (h_tem, .inl (cy_tem, 192, .inl f8)), (h_mm, .inr (8, (mo102 vq25 (.ref h_mny) (.ref h_vrs) (.ref h_let) (.ref h_isn) (.ref h_tem))))] H := by rw [evq25]; exact hP
          replace hD : va_D A [(h_mny, .inl (cy_mny, 32, .inl f4)), (h_vrs, .inl (cy_vrs, 32, .inl f5)), (h_let, .inl (cy_let, 256, .inl f6)), (h_isn, .inl (cy_isn, 192, .inl f7)), (h_tem, .inl (cy_tem, 192, .inl f8)), (h_mm, .inr (8, (mo102 vq25 (.ref h_mny) (.ref h_vrs) (.ref h_let) (.ref h_isn) (.ref h_tem))))] := by rw [evq25]; exact hD
          have hPc := hP.sub (ws' := [(h_mm, .inr (8, (mo102 vq25 (.ref h_mny) (.ref h_vrs) (.ref h_let) (.ref h_isn) (.ref h_tem)))), (h_mny, .inl (cy_mny, 32, .inl f4)), (h_vrs, .inl (cy_vrs, 32, .inl f5)), (h_let, .inl (cy_let, 256, .inl f6)), (h_isn, .inl (cy_isn, 192, .inl f7)), (h_tem, .inl (cy_tem, 192, .inl f8))]) [5, 0, 1, 2, 3, 4] rfl
          have hDc := hD.sub (ws' := [(h_mm, .inr (8, (mo102 vq25 (.ref h_mny) (.ref h_vrs) (.ref h_let) (.ref h_isn) (.ref h_tem)))), (h_mny, .inl (cy_mny, 32, .inl f4)), (h_vrs, .inl (cy_vrs, 32, .inl f5)), (h_let, .inl (cy_let, 256, .inl f6)), (h_isn, .inl (cy_isn, 192, .inl f7)), (h_tem, .inl (cy_tem, 192, .inl f8))]) [5, 0, 1, 2, 3, 4] (by decide) rfl
          have hKc := hK.sub (tys' := [(cy_mny, .int), (cy_vrs, .int), (cy_let, .int), (cy_isn, .boolean), (cy_tem, .int)]) [0, 1, 2, 3, 4] rfl
          have hFc := va_free (wc := [(h_mm, .inr (8, (mo102 vq25 (.ref h_mny) (.ref h_vrs) (.ref h_let) (.ref h_isn) (.ref h_tem)))), (h_mny, .inl (cy_mny, 32, .inl f4)), (h_vrs, .inl (cy_vrs, 32, .inl f5)), (h_let, .inl (cy_let, 256, .inl f6)), (h_isn, .inl (cy_isn, 192, .inl f7)), (h_tem, .inl (cy_tem, 192, .inl f8))]) hD hS hA [5, 0, 1, 2, 3, 4] rfl
          refine va_callv (va_runV (As := [.int z24, .int x3]) (rest := []) ⟨hx, hb, hml, hown, hts⟩ (c_X11_copiesClause l dC dI H.size h_mm h_mny h_vrs h_let h_isn h_tem vq25 cy_mny f4 cy_vrs f5 cy_let f6 cy_isn f7 cy_tem f8 z24 x3 hf4 hf5 hf7 hf8 (by omega) (by omega)) (cwV 2 hts (gv hT w_m_X11_167 w_instanceMethod_X11_copiesClause ws_sel_X11_copiesClause w_ini_X11 w_code_X11_copiesClause) rfl rfl rfl (by decide +kernel) ⟨(Nat.le_of_ble_eq_true rfl), (Nat.le_of_ble_eq_true rfl)⟩) ⟨pre_blind, va_recv hK hP (ci := 8) (q0 := 5) rfl rfl, pre_of hPc hKc hDc hN⟩ rfl rfl hl.1 rfl (lv_room (Nat.le_of_ble_eq_true rfl)) dX11_drop_32 ⟨(Nat.le_of_ble_eq_true rfl), (Nat.le_of_ble_eq_true rfl)⟩) hS (fun q _ h => hFc q h) hFc (fun u t H locs ht hvm hq hB hz1 hk1 hS9 => ?_)
          obtain ⟨f27, f28, f29, f30, f31⟩ := u
          obtain ⟨hP1, hD1⟩ := hB
          rw [ht] at hP1
          obtain ⟨hP9, hD9⟩ := va_join (wr := []) (w1 := [(h_mm, .inr (8, (mo102 vq25 (.ref h_mny) (.ref h_vrs) (.ref h_let) (.ref h_isn) (.ref h_tem)))), (h_mny, .inl (cy_mny, 32, .inl f27)), (h_vrs, .inl (cy_vrs, 32, .inl f28)), (h_let, .inl (cy_let, 256, .inl f29)), (h_isn, .inl (cy_isn, 192, .inl f30)), (h_tem, .inl (cy_tem, 192, .inl f31))]) hP hD [5, 0, 1, 2, 3, 4] [] rfl rfl (by decide) (by decide) hk1 hFc hP1 hD1
          clear hP hD hS hPc hDc hKc hFc hP1 hD1 hk1 hz1 ht hvm
          have hP : va_P (dC, dI) cls [(h_mm, .inr (8, (mo102 vq25 (.ref h_mny) (.ref h_vrs) (.ref h_let) (.ref h_isn) (.ref h_tem)))), (h_mny, .inl (cy_mny, 32, .inl f27)), (h_vrs, .inl (cy_vrs, 32, .inl f28)), (h_let, .inl (cy_let, 256, .inl f29)), (h_isn, .inl (cy_isn, 192, .inl f30)), (h_tem, .inl (cy_tem, 192, .inl f31))] H := hP9
          have hD : va_D A [(h_mm, .inr (8, (mo102 vq25 (.ref h_mny) (.ref h_vrs) (.ref h_let) (.ref h_isn) (.ref h_tem)))), (h_mny, .inl (cy_mny, 32, .inl f27)), (h_vrs, .inl (cy_vrs, 32, .inl f28)), (h_let, .inl (cy_let, 256, .inl f29)), (h_isn, .inl (cy_isn, 192, .inl f30)), (h_tem, .inl (cy_tem, 192, .inl f31))] := hD9
          have hS := hS9
          clear hP9 hD9 hS9
          rw [evq25] at hP hD
          replace hP : va_P (dC, dI) cls [(h_mm, .inr (8, (mo106 v_mm (.int 0) (.int x_mm_clauses) (.ref h_mny) (.ref h_vrs) (.ref h_let) (.ref h_isn) (.ref h_tem) (.int x_mm_isProof) (.int x_mm_answers)))), (h_mny, .inl (cy_mny, 32, .inl f27)), (h_vrs, .inl (cy_vrs, 32, .inl f28)), (h_let, .inl (cy_let, 256, .inl f29)), (h_isn, .inl (cy_isn, 192, .inl f30)), (h_tem, .inl (cy_tem, 192, .inl f31))] H := hP
          replace hD : va_D A [(h_mm, .inr (8, (mo106 v_mm (.int 0) (.int x_mm_clauses) (.ref h_mny) (.ref h_vrs) (.ref h_let) (.ref h_isn) (.ref h_tem) (.int x_mm_isProof) (.int x_mm_answers)))), (h_mny, .inl (cy_mny, 32, .inl f27)), (h_vrs, .inl (cy_vrs, 32, .inl f28)), (h_let, .inl (cy_let, 256, .inl f29)), (h_isn, .inl (cy_isn, 192, .inl f30)), (h_tem, .inl (cy_tem, 192, .inl f31))] := hD
          clear evq25 
          obtain ⟨hf27, hf28, hf30, hf31⟩ := hq
          replace hf27 : Rg 0 6 (f27) := hf27
          replace hf28 : Rg 0 8 (f28) := hf28
          replace hf30 : Rg 0 1 (f30) := hf30
          replace hf31 : Rg 0 7999 (f31) := hf31
          obtain ⟨z32, ez32⟩ : ∃ y : Int32, y = x3 + 1 := ⟨_, rfl⟩
          have tz32 : (z32).toInt = (x3).toInt + 1 := by rw [ez32]; exact i_add rfl (by decide) (by omega)
          refine lv_iinc (v := z32) (lv' := [(2, .int z32), (0, .ref h_mm), (1, .int p1)]) hx hb dX11_drop_35 hl (k := 2) rfl (by rw [ez32]; rfl) (by decide) rfl (fun ls hl => ?_)
          refine lv_goto (tgt := 17) hx hb dX11_drop_38 (by decide) ?_
          replace hP : va_P (dC, dI) cls [(h_mny, .inl (cy_mny, 32, .inl f27)), (h_vrs, .inl (cy_vrs, 32, .inl f28)), (h_let, .inl (cy_let, 256, .inl f29)), (h_isn, .inl (cy_isn, 192, .inl f30)), (h_tem, .inl (cy_tem, 192, .inl f31)), (h_mm, .inr (8, (mo106 v_mm (.int 0) (.int x_mm_clauses) (.ref h_mny) (.ref h_vrs) (.ref h_let) (.ref h_isn) (.ref h_tem) (.int x_mm_isProof) (.int x_mm_answers))))] H := hP.sub [1, 2, 3, 4, 5, 0] rfl
          replace hD : va_D A [(h_mny, .inl (cy_mny, 32, .inl f27)), (h_vrs, .inl (cy_vrs, 32, .inl f28)), (h_let, .inl (cy_let, 256, .inl f29)), (h_isn, .inl (cy_isn, 192, .inl f30)), (h_tem, .inl (cy_tem, 192, .inl f31)), (h_mm, .inr (8, (mo106 v_mm (.int 0) (.int x_mm_clauses) (.ref h_mny) (.ref h_vrs) (.ref h_let) (.ref h_isn) (.ref h_tem) (.int x_mm_isProof) (.int x_mm_answers))))] := hD.sub [1, 2, 3, 4, 5, 0] (by decide) rfl
          exact ih10 (z32) (f27) (f28) (f29) (f30) (f31) _ _ _ (by omega) hf27 hf28 hf30 hf31 (by omega) (by omega) hP hD hS (lv_sub hl [1, 2, 0] rfl)
    exact lp9 _ (p1) (f_mny) (f_vrs) (f_let) (f_isn) (f_tem) _ _ _ (by omega) hf_mny hf_vrs hf_isn hf_tem (by omega) (Nat.le_refl _) hP hD hS (lv_sub hl [1, 2, 0] rfl)
  · replace hq : (((p1)).toInt < 0 ∨ ((x_mm_clauses)).toInt ≤ ((p1)).toInt) := hq
    refine lv_if_ne (tgt := 15) hx hb dX11_drop_10 (by decide) (fun c9 => absurd c9 (by decide)) (fun _ => ?_)
    refine lv_iconst (v := 0) hx hb dX11_drop_13 (by decide) ?_
    replace hP : va_P (dC, dI) cls [(h_mm, .inr (8, (mo106 v_mm (.int 0) (.int x_mm_clauses) (.ref h_mny) (.ref h_vrs) (.ref h_let) (.ref h_isn) (.ref h_tem) (.int x_mm_isProof) (.int x_mm_answers)))), (h_mny, .inl (cy_mny, 32, .inl f_mny)), (h_vrs, .inl (cy_vrs, 32, .inl f_vrs)), (h_let, .inl (cy_let, 256, .inl f_let)), (h_isn, .inl (cy_isn, 192, .inl f_isn)), (h_tem, .inl (cy_tem, 192, .inl f_tem))] H := hP.sub [5, 0, 1, 2, 3, 4] rfl
    replace hD : va_D A [(h_mm, .inr (8, (mo106 v_mm (.int 0) (.int x_mm_clauses) (.ref h_mny) (.ref h_vrs) (.ref h_let) (.ref h_isn) (.ref h_tem) (.int x_mm_isProof) (.int x_mm_answers)))), (h_mny, .inl (cy_mny, 32, .inl f_mny)), (h_vrs, .inl (cy_vrs, 32, .inl f_vrs)), (h_let, .inl (cy_let, 256, .inl f_let)), (h_isn, .inl (cy_isn, 192, .inl f_isn)), (h_tem, .inl (cy_tem, 192, .inl f_tem))] := hD.sub [5, 0, 1, 2, 3, 4] (by decide) rfl
    refine W.widen (k := 0) (n := 0) (Nat.le_of_ble_eq_true rfl) (Nat.le_of_ble_eq_true rfl) ?_
    have cst0 : (0 : Int32).toInt = 0 := by decide
    have w33 : 0 ≤ ((x_mm_clauses)).toInt ∧ ((x_mm_clauses)).toInt ≤ 16 := by first | exact hx_mm_clauses | omega
    have w34 : 0 ≤ ((x_mm_isProof)).toInt ∧ ((x_mm_isProof)).toInt ≤ 1 := by first | exact hx_mm_isProof | omega
    have w35 : 0 ≤ ((x_mm_answers)).toInt ∧ ((x_mm_answers)).toInt ≤ 8 := by first | exact hx_mm_answers | omega
    have w36 : 0 ≤ (0 : Int32).toInt ∧ (0 : Int32).toInt ≤ 1 := by omega
    exact W.zret (v := 0) (ty := .boolean) hx hb hr (by decide) (fun t ht hW => ⟨⟨0, (0, x_mm_clauses, x_mm_isProof, x_mm_answers, f_mny, f_vrs, f_let, f_isn, f_tem), rfl, ⟨w33, w34, w35, hf_mny, hf_vrs, hf_isn, hf_tem, w36⟩, by rw [ht]; exact hP, hD⟩, hS.F ht⟩) hS.2.2 dX11_drop_14

set_option maxHeartbeats 8000000 in
set_option maxRecDepth 100000 in
theorem c_X11_clearsBindings (l : Launch) (dC : Nat → ClassId) (dI : Nat → Nat → Nat) (sz : Nat) (h_mm : Nat) (h_bto : Nat) (v_mm : Nat → Value) (x_mm_trailed : Int32) (cy_bto : ClassId) (f_bto : Nat → Int32) (hx_mm_trailed : 0 ≤ (x_mm_trailed).toInt ∧ (x_mm_trailed).toInt ≤ 256) (hf_bto : Rg (-1) 7999 f_bto) : Met l yX11_clearsBindings (Ws yX11_clearsBindings cX11_clearsBindings 2 none) (({ frames := 0, cells := 0, slots := 0, locals := 0 } : Room)) (PRE (dC, dI) cls [(cy_bto, .int)] [(h_mm, .inr (8, (mo107 v_mm (.ref h_bto) (.int x_mm_trailed)))), (h_bto, .inl (cy_bto, 256, .inl f_bto))] sz [.ref h_mm]) (va_Qv (fun (u : (Int32) × (Nat → Int32)) => (0 ≤ (u.1).toInt ∧ (u.1).toInt ≤ 256) ∧ (Rg (-1) 7999 u.2)) (fun (u : (Int32) × (Nat → Int32)) (t : State) => va_P (dC, dI) cls [(h_mm, .inr (8, (mo107 v_mm (.ref h_bto) (.int u.1)))), (h_bto, .inl (cy_bto, 256, .inl u.2))] t.heap ∧ va_D (va_A [(h_mm, .inr (8, (mo107 v_mm (.ref h_bto) (.int x_mm_trailed)))), (h_bto, .inl (cy_bto, 256, .inl f_bto))] sz) [(h_mm, .inr (8, (mo107 v_mm (.ref h_bto) (.int u.1)))), (h_bto, .inl (cy_bto, 256, .inl u.2))]) (va_A [(h_mm, .inr (8, (mo107 v_mm (.ref h_bto) (.int x_mm_trailed)))), (h_bto, .inl (cy_bto, 256, .inl f_bto))] sz)) 0 0 (va_A [(h_mm, .inr (8, (mo107 v_mm (.ref h_bto) (.int x_mm_trailed)))), (h_bto, .inl (cy_bto, 256, .inl f_bto))] sz) := by
  refine Met.ofW (cc := cX11_clearsBindings) (maxL := 2) (ret := none) (by decide) rfl ?_
  intro p e s m args below meth c s₁ B hml hv
  obtain ⟨rfl, hsz, hP, hK, hD0, hN⟩ := hv
  have hx := B.exec
  have hb := B.bytes
  have hr := B.returns
  have hts := atoms_spec (ws := Ws yX11_clearsBindings cX11_clearsBindings 2 none) B.pre
  have hT : ∀ w ∈ WALL, w ∈ Ws yX11_clearsBindings cX11_clearsBindings 2 none := fun w h => List.mem_cons_of_mem _ h
  have hw := fun w (h : w ∈ WALL) => hts w (hT w h)
  have hown : s.vm.findClass RX11 = some m.cls := findClass_of_methodNamed B.named
  have hlocks := B.notSynchronized
  subst hsz
  have hD := hD0.self (sz := s.heap.size)
  generalize hAe : va_A [(h_mm, .inr (8, (mo107 v_mm (.ref h_bto) (.int x_mm_trailed)))), (h_bto, .inl (cy_bto, 256, .inl f_bto))] s.heap.size = A at hD ⊢
  have hA : ∀ q : Nat, s.heap.size ≤ q → A q := fun q h => by rw [← hAe]; exact Or.inr h
  have hS : va_S A s.heap s.heap [] := va_S.rf
  have hl := lv_entry ([.ref h_mm]) (n := 2) (Nat.le_of_ble_eq_true rfl)
  rw [lg_entry_eq]
  generalize (lg_sl ([.ref h_mm]) ++ List.replicate (2 - (lg_sl ([.ref h_mm])).length) Slot.unset).toArray = ls at hl ⊢
  have hl : lv_has ls 2 [(0, .ref h_mm)] := hl
  refine lv_iconst (v := 0) hx hb dX11_clearsBindings_0 (by decide) ?_
  refine lv_istore_n (lv' := [(1, .int 0), (0, .ref h_mm)]) hx hb dX11_clearsBindings_1 rfl hl (by decide) rfl (fun ls hl => ?_)
  have lp3 : ∀ (n : Nat) (x1 : Int32) (f2 : Nat → Int32) (H : Heap) (locs : List Loc) (ls : Array Slot), (0 ≤ (x1).toInt ∧ (x1).toInt ≤ 256) → (Rg (-1) 7999 f2) → (256 - (x1).toInt).toNat + 1 ≤ n → va_P (dC, dI) cls [(h_mm, .inr (8, (mo107 v_mm (.ref h_bto) (.int x_mm_trailed)))), (h_bto, .inl (cy_bto, 256, .inl f2))] H → va_D A [(h_mm, .inr (8, (mo107 v_mm (.ref h_bto) (.int x_mm_trailed)))), (h_bto, .inl (cy_bto, 256, .inl f2))] → va_S A s.heap H locs → lv_has ls 2 [(0, .ref h_mm), (1, .int x1)] → W p l e ({ frames := 0, cells := 0, slots := 0, locals := 0 } : Room) s m ([.ref h_mm] : List Value).toArray below meth c H locs 0 0 (MQ below (va_Qv (fun (u : (Int32) × (Nat → Int32)) => (0 ≤ (u.1).toInt ∧ (u.1).toInt ≤ 256) ∧ (Rg (-1) 7999 u.2)) (fun (u : (Int32) × (Nat → Int32)) (t : State) => va_P (dC, dI) cls [(h_mm, .inr (8, (mo107 v_mm (.ref h_bto) (.int u.1)))), (h_bto, .inl (cy_bto, 256, .inl u.2))] t.heap ∧ va_D A [(h_mm, .inr (8, (mo107 v_mm (.ref h_bto) (.int u.1)))), (h_bto, .inl (cy_bto, 256, .inl u.2))]) A) ([.ref h_mm] : List Value).toArray s 0 0 A) (F0 m 2 ls []) := by
    clear hP hD hS hl
    intro n
    induction n with
    | zero => intro x1 f2 H locs ls klp3_0 hf2 hm hP hD hS hl; exact False.elim (by omega)
    | succ n ih => 
      intro x1 f2 H locs ls klp3_0 hf2 hm hP hD hS hl
      have ih4 := ih
      clear ih
      refine lv_iload_n hx hb dX11_clearsBindings_2 rfl (lv_at hl 1 rfl) ?_
      refine lv_sipush (v := 256) hx hb dX11_clearsBindings_3 (by decide) ?_
      refine lv_icmp_ge (tgt := 22) hx hb dX11_clearsBindings_6 (by decide) (fun c5 => ?_) (fun c5 => ?_)
      · have kc5 := (cv_le (by decide : (256 : Int32).toInt = 256) (rfl : (x1).toInt = (x1).toInt)).mp c5
        refine lv_aload_n hx hb dX11_clearsBindings_22 rfl (lv_at hl 0 rfl) ?_
        refine lv_iconst (v := 0) hx hb dX11_clearsBindings_23 (by decide) ?_
        refine va_put (D := (dC, dI)) (ci := 8) (v := .int 0) (ty := tyX11 30) (C := RX11) (T := TX11) (N := 71) hx hb hw iwX11 tyX11 tyX11_ok nmX11 hown hK hP hD hS 0 rfl rfl 30 (by decide) (hw _ w_f_X11_261) (fun _ h9 => h9) rfl (tyX11_ok 30 (by decide)) rfl rfl (Nat.le_of_ble_eq_true rfl) dX11_clearsBindings_24 (fun H locs hP9 hD9 hS9 => ?_)
        clear hP hD hS
        have hP : va_P (dC, dI) cls [(h_mm, .inr (8, (mo107 v_mm (.ref h_bto) (.int 0)))), (h_bto, .inl (cy_bto, 256, .inl f2))] H := hP9
        have hD : va_D A [(h_mm, .inr (8, (mo107 v_mm (.ref h_bto) (.int 0)))), (h_bto, .inl (cy_bto, 256, .inl f2))] := hD9
        have hS := hS9
        clear hP9 hD9 hS9
        refine W.widen (k := 0) (n := 0) (Nat.le_of_ble_eq_true rfl) (Nat.le_of_ble_eq_true rfl) ?_
        have cst0 : (0 : Int32).toInt = 0 := by decide
        have w6 : 0 ≤ ((0 : Int32)).toInt ∧ ((0 : Int32)).toInt ≤ 256 := by omega
        exact W.vret hx hb hr (fun t ht hW => ⟨⟨(0, f2), rfl, ⟨w6, hf2⟩, by rw [ht]; exact hP, hD⟩, hS.F ht⟩) hS.2.2 dX11_clearsBindings_27
      · have kc5 := (not_congr (cv_le (by decide : (256 : Int32).toInt = 256) (rfl : (x1).toInt = (x1).toInt))).mp c5
        refine lv_aload_n hx hb dX11_clearsBindings_9 rfl (lv_at hl 0 rfl) ?_
        refine va_get (D := (dC, dI)) (ci := 8) (v := .ref h_bto) (C := RX11) (T := TX11) (N := 71) hx hb hw iwX11 hown hK hP 0 rfl rfl 27 (by decide) (hw _ w_f_X11_195) (fun _ h9 => h9) rfl dX11_clearsBindings_10 ?_
        refine lv_iload_n hx hb dX11_clearsBindings_13 rfl (lv_at hl 1 rfl) ?_
        refine lv_iconst (v := (-1)) hx hb dX11_clearsBindings_14 (by decide) ?_
        refine va_iast hx hb hK hP hD hS 1 0 rfl rfl (i := x1) (x := (-1)) (vp_in_iff.mpr (by omega)) dX11_clearsBindings_15 (fun H locs hP9 hD9 hS9 => ?_)
        obtain ⟨f7, ef7⟩ : ∃ g : Nat → Int32, g = upd f2 (Int32.toNatClampNeg x1) (-1) := ⟨_, rfl⟩
        clear hP hD hS
        have hP : va_P (dC, dI) cls [(h_mm, .inr (8, (mo107 v_mm (.ref h_bto) (.int x_mm_trailed)))), (h_bto, .inl (cy_bto, 256, .inl f7))] H := by rw [ef7]; exact hP9
        have hD : va_D A [(h_mm, .inr (8, (mo107 v_mm (.ref h_bto) (.int x_mm_trailed)))), (h_bto, .inl (cy_bto, 256, .inl f7))] := by rw [ef7]; exact hD9
        have hS := hS9
        clear hP9 hD9 hS9
        have hf7 : Rg (-1) 7999 f7 := by rw [ef7]; exact rg_upd hf2 (by decide)
        clear ef7
        obtain ⟨z8, ez8⟩ : ∃ y : Int32, y = x1 + 1 := ⟨_, rfl⟩
        have tz8 : (z8).toInt = (x1).toInt + 1 := by rw [ez8]; exact i_add rfl (by decide) (by omega)
        refine lv_iinc (v := z8) (lv' := [(1, .int z8), (0, .ref h_mm)]) hx hb dX11_clearsBindings_16 hl (k := 1) rfl (by rw [ez8]; rfl) (by decide) rfl (fun ls hl => ?_)
        refine lv_goto (tgt := 2) hx hb dX11_clearsBindings_19 (by decide) ?_
        exact ih4 (z8) (f7) _ _ _ (by omega) hf7 (by omega) hP hD hS (lv_sub hl [1, 0] rfl)
  have cst0 : (0 : Int32).toInt = 0 := by decide
  exact lp3 _ (0) (f_bto) _ _ _ (by decide) hf_bto (Nat.le_refl _) hP hD hS (lv_sub hl [1, 0] rfl)

set_option maxHeartbeats 8000000 in
set_option maxRecDepth 100000 in
theorem c_X11_takesBack (l : Launch) (dC : Nat → ClassId) (dI : Nat → Nat → Nat) (sz : Nat) (h_mm : Nat) (h_bto : Nat) (h_tra : Nat) (v_mm : Nat → Value) (x_mm_trailed : Int32) (cy_bto : ClassId) (f_bto : Nat → Int32) (cy_tra : ClassId) (f_tra : Nat → Int32) (p1 : Int32) (hx_mm_trailed : 0 ≤ (x_mm_trailed).toInt ∧ (x_mm_trailed).toInt ≤ 256) (hf_bto : Rg (-1) 7999 f_bto) (hf_tra : Rg 0 255 f_tra) (q0 : 0 ≤ (p1).toInt) : Met l yX11_takesBack (Ws yX11_takesBack cX11_takesBack 2 none) (({ frames := 0, cells := 0, slots := 0, locals := 0 } : Room)) (PRE (dC, dI) cls [(cy_bto, .int), (cy_tra, .int)] [(h_mm, .inr (8, (mo108 v_mm (.ref h_bto) (.ref h_tra) (.int x_mm_trailed)))), (h_bto, .inl (cy_bto, 256, .inl f_bto)), (h_tra, .inl (cy_tra, 256, .inl f_tra))] sz [.ref h_mm, .int p1]) (va_Qv (fun (u : (Int32) × (Nat → Int32)) => (0 ≤ (u.1).toInt ∧ (u.1).toInt ≤ 256) ∧ (Rg (-1) 7999 u.2)) (fun (u : (Int32) × (Nat → Int32)) (t : State) => va_P (dC, dI) cls [(h_mm, .inr (8, (mo108 v_mm (.ref h_bto) (.ref h_tra) (.int u.1)))), (h_bto, .inl (cy_bto, 256, .inl u.2)), (h_tra, .inl (cy_tra, 256, .inl f_tra))] t.heap ∧ va_D (va_A [(h_mm, .inr (8, (mo108 v_mm (.ref h_bto) (.ref h_tra) (.int x_mm_trailed)))), (h_bto, .inl (cy_bto, 256, .inl f_bto)), (h_tra, .inl (cy_tra, 256, .inl f_tra))] sz) [(h_mm, .inr (8, (mo108 v_mm (.ref h_bto) (.ref h_tra) (.int u.1)))), (h_bto, .inl (cy_bto, 256, .inl u.2)), (h_tra, .inl (cy_tra, 256, .inl f_tra))]) (va_A [(h_mm, .inr (8, (mo108 v_mm (.ref h_bto) (.ref h_tra) (.int x_mm_trailed)))), (h_bto, .inl (cy_bto, 256, .inl f_bto)), (h_tra, .inl (cy_tra, 256, .inl f_tra))] sz)) 0 0 (va_A [(h_mm, .inr (8, (mo108 v_mm (.ref h_bto) (.ref h_tra) (.int x_mm_trailed)))), (h_bto, .inl (cy_bto, 256, .inl f_bto)), (h_tra, .inl (cy_tra, 256, .inl f_tra))] sz) := by
  refine Met.ofW (cc := cX11_takesBack) (maxL := 2) (ret := none) (by decide) rfl ?_
  intro p e s m args below meth c s₁ B hml hv
  obtain ⟨rfl, hsz, hP, hK, hD0, hN⟩ := hv
  have hx := B.exec
  have hb := B.bytes
  have hr := B.returns
  have hts := atoms_spec (ws := Ws yX11_takesBack cX11_takesBack 2 none) B.pre
  have hT : ∀ w ∈ WALL, w ∈ Ws yX11_takesBack cX11_takesBack 2 none := fun w h => List.mem_cons_of_mem _ h
  have hw := fun w (h : w ∈ WALL) => hts w (hT w h)
  have hown : s.vm.findClass RX11 = some m.cls := findClass_of_methodNamed B.named
  have hlocks := B.notSynchronized
  subst hsz
  have hD := hD0.self (sz := s.heap.size)
  generalize hAe : va_A [(h_mm, .inr (8, (mo108 v_mm (.ref h_bto) (.ref h_tra) (.int x_mm_trailed)))), (h_bto, .inl (cy_bto, 256, .inl f_bto)), (h_tra, .inl (cy_tra, 256, .inl f_tra))] s.heap.size = A at hD ⊢
  have hA : ∀ q : Nat, s.heap.size ≤ q → A q := fun q h => by rw [← hAe]; exact Or.inr h
  have hS : va_S A s.heap s.heap [] := va_S.rf
  have hl := lv_entry ([.ref h_mm, .int p1]) (n := 2) (Nat.le_of_ble_eq_true rfl)
  rw [lg_entry_eq]
  generalize (lg_sl ([.ref h_mm, .int p1]) ++ List.replicate (2 - (lg_sl ([.ref h_mm, .int p1])).length) Slot.unset).toArray = ls at hl ⊢
  have hl : lv_has ls 2 [(0, .ref h_mm), (1, .int p1)] := hl
  have lp3 : ∀ (n : Nat) (x1 : Int32) (f2 : Nat → Int32) (H : Heap) (locs : List Loc) (ls : Array Slot), (0 ≤ (x1).toInt ∧ (x1).toInt ≤ 256) → (Rg (-1) 7999 f2) → ((x1).toInt).toNat + 1 ≤ n → va_P (dC, dI) cls [(h_mm, .inr (8, (mo108 v_mm (.ref h_bto) (.ref h_tra) (.int x1)))), (h_bto, .inl (cy_bto, 256, .inl f2)), (h_tra, .inl (cy_tra, 256, .inl f_tra))] H → va_D A [(h_mm, .inr (8, (mo108 v_mm (.ref h_bto) (.ref h_tra) (.int x1)))), (h_bto, .inl (cy_bto, 256, .inl f2)), (h_tra, .inl (cy_tra, 256, .inl f_tra))] → va_S A s.heap H locs → lv_has ls 2 [(0, .ref h_mm), (1, .int p1)] → W p l e ({ frames := 0, cells := 0, slots := 0, locals := 0 } : Room) s m ([.ref h_mm, .int p1] : List Value).toArray below meth c H locs 0 0 (MQ below (va_Qv (fun (u : (Int32) × (Nat → Int32)) => (0 ≤ (u.1).toInt ∧ (u.1).toInt ≤ 256) ∧ (Rg (-1) 7999 u.2)) (fun (u : (Int32) × (Nat → Int32)) (t : State) => va_P (dC, dI) cls [(h_mm, .inr (8, (mo108 v_mm (.ref h_bto) (.ref h_tra) (.int u.1)))), (h_bto, .inl (cy_bto, 256, .inl u.2)), (h_tra, .inl (cy_tra, 256, .inl f_tra))] t.heap ∧ va_D A [(h_mm, .inr (8, (mo108 v_mm (.ref h_bto) (.ref h_tra) (.int u.1)))), (h_bto, .inl (cy_bto, 256, .inl u.2)), (h_tra, .inl (cy_tra, 256, .inl f_tra))]) A) ([.ref h_mm, .int p1] : List Value).toArray s 0 0 A) (F0 m 0 ls []) := by
    clear hP hD hS hl
    intro n
    induction n with
    | zero => intro x1 f2 H locs ls klp3_0 hf2 hm hP hD hS hl; exact False.elim (by omega)
    | succ n ih => 
      intro x1 f2 H locs ls klp3_0 hf2 hm hP hD hS hl
      have ih4 := ih
      clear ih
      refine lv_aload_n hx hb dX11_takesBack_0 rfl (lv_at hl 0 rfl) ?_
      refine va_get (D := (dC, dI)) (ci := 8) (v := .int x1) (C := RX11) (T := TX11) (N := 71) hx hb hw iwX11 hown hK hP 0 rfl rfl 30 (by decide) (hw _ w_f_X11_261) (fun _ h9 => h9) rfl dX11_takesBack_1 ?_
      refine lv_iload_n hx hb dX11_takesBack_4 rfl (lv_at hl 1 rfl) ?_
      refine lv_icmp_le (tgt := 36) hx hb dX11_takesBack_5 (by decide) (fun c5 => ?_) (fun c5 => ?_)
      · have kc5 := (cv_le (rfl : (x1).toInt = (x1).toInt) (rfl : (p1).toInt = (p1).toInt)).mp c5
        refine W.widen (k := 0) (n := 0) (Nat.le_of_ble_eq_true rfl) (Nat.le_of_ble_eq_true rfl) ?_
        have w6 : 0 ≤ ((x1)).toInt ∧ ((x1)).toInt ≤ 256 := by first | exact klp3_0 | omega
        exact W.vret hx hb hr (fun t ht hW => ⟨⟨(x1, f2), rfl, ⟨w6, hf2⟩, by rw [ht]; exact hP, hD⟩, hS.F ht⟩) hS.2.2 dX11_takesBack_36
      · have kc5 := (not_congr (cv_le (rfl : (x1).toInt = (x1).toInt) (rfl : (p1).toInt = (p1).toInt))).mp c5
        refine lv_aload_n hx hb dX11_takesBack_8 rfl (lv_at hl 0 rfl) ?_
        refine lv_aload_n hx hb dX11_takesBack_9 rfl (lv_at hl 0 rfl) ?_
        refine va_get (D := (dC, dI)) (ci := 8) (v := .int x1) (C := RX11) (T := TX11) (N := 71) hx hb hw iwX11 hown hK hP 0 rfl rfl 30 (by decide) (hw _ w_f_X11_261) (fun _ h9 => h9) rfl dX11_takesBack_10 ?_
        refine lv_iconst (v := 1) hx hb dX11_takesBack_13 (by decide) ?_
        refine lv_isub hx hb dX11_takesBack_14 ?_
        refine lv_topi (fun z7 ez7 => ?_)
        have tz7 : (z7).toInt = (x1).toInt - 1 := by rw [ez7]; exact i_sub rfl (by decide) (by omega)
        refine va_put (D := (dC, dI)) (ci := 8) (v := .int z7) (ty := tyX11 30) (C := RX11) (T := TX11) (N := 71) hx hb hw iwX11 tyX11 tyX11_ok nmX11 hown hK hP hD hS 0 rfl rfl 30 (by decide) (hw _ w_f_X11_261) (fun _ h9 => h9) rfl (tyX11_ok 30 (by decide)) rfl rfl (Nat.le_of_ble_eq_true rfl) dX11_takesBack_15 (fun H locs hP9 hD9 hS9 => ?_)
        clear hP hD hS
        have hP : va_P (dC, dI) cls [(h_mm, .inr (8, (mo108 v_mm (.ref h_bto) (.ref h_tra) (.int z7)))), (h_bto, .inl (cy_bto, 256, .inl f2)), (h_tra, .inl (cy_tra, 256, .inl f_tra))] H := hP9
        have hD : va_D A [(h_mm, .inr (8, (mo108 v_mm (.ref h_bto) (.ref h_tra) (.int z7)))), (h_bto, .inl (cy_bto, 256, .inl f2)), (h_tra, .inl (cy_tra, 256, .inl f_tra))] := hD9
        have hS := hS9
        clear hP9 hD9 hS9
        refine lv_aload_n hx hb dX11_takesBack_18 rfl (lv_at hl 0 rfl) ?_
        refine va_get (D := (dC, dI)) (ci := 8) (v := .ref h_bto) (C := RX11) (T := TX11) (N := 71) hx hb hw iwX11 hown hK hP 0 rfl rfl 27 (by decide) (hw _ w_f_X11_195) (fun _ h9 => h9) rfl dX11_takesBack_19 ?_
        refine lv_aload_n hx hb dX11_takesBack_22 rfl (lv_at hl 0 rfl) ?_
        refine va_get (D := (dC, dI)) (ci := 8) (v := .ref h_tra) (C := RX11) (T := TX11) (N := 71) hx hb hw iwX11 hown hK hP 0 rfl rfl 29 (by decide) (hw _ w_f_X11_201) (fun _ h9 => h9) rfl dX11_takesBack_23 ?_
        refine lv_aload_n hx hb dX11_takesBack_26 rfl (lv_at hl 0 rfl) ?_
        refine va_get (D := (dC, dI)) (ci := 8) (v := .int z7) (C := RX11) (T := TX11) (N := 71) hx hb hw iwX11 hown hK hP 0 rfl rfl 30 (by decide) (hw _ w_f_X11_261) (fun _ h9 => h9) rfl dX11_takesBack_27 ?_
        refine va_iald hx hb hK hP 2 1 rfl rfl (i := z7) (vp_in_iff.mpr (by omega)) dX11_takesBack_30 ?_
        refine lv_topi (fun z8 ez8 => ?_)
        have rz8 : 0 ≤ (z8).toInt ∧ (z8).toInt ≤ 255 := by rw [ez8]; exact hf_tra _
        refine lv_iconst (v := (-1)) hx hb dX11_takesBack_31 (by decide) ?_
        refine va_iast hx hb hK hP hD hS 1 0 rfl rfl (i := z8) (x := (-1)) (vp_in_iff.mpr (by omega)) dX11_takesBack_32 (fun H locs hP9 hD9 hS9 => ?_)
        obtain ⟨f9, ef9⟩ : ∃ g : Nat → Int32, g = upd f2 (Int32.toNatClampNeg z8) (-1) := ⟨_, rfl⟩
        clear hP hD hS
        have hP : va_P (dC, dI) cls [(h_mm, .inr (8, (mo108 v_mm (.ref h_bto) (.ref h_tra) (.int z7)))), (h_bto, .inl (cy_bto, 256, .inl f9)), (h_tra, .inl (cy_tra, 256, .inl f_tra))] H := by rw [ef9]; exact hP9
        have hD : va_D A [(h_mm, .inr (8, (mo108 v_mm (.ref h_bto) (.ref h_tra) (.int z7)))), (h_bto, .inl (cy_bto, 256, .inl f9)), (h_tra, .inl (cy_tra, 256, .inl f_tra))] := by rw [ef9]; exact hD9
        have hS := hS9
        clear hP9 hD9 hS9
        have hf9 : Rg (-1) 7999 f9 := by rw [ef9]; exact rg_upd hf2 (by decide)
        clear ef9
        refine lv_goto (tgt := 0) hx hb dX11_takesBack_33 (by decide) ?_
        exact ih4 (z7) (f9) _ _ _ (by omega) hf9 (by omega) hP hD hS (lv_sub hl [0, 1] rfl)
  exact lp3 _ (x_mm_trailed) (f_bto) _ _ _ (by first | exact hx_mm_trailed | omega) hf_bto (Nat.le_refl _) hP hD hS (lv_sub hl [0, 1] rfl)

set_option maxHeartbeats 8000000 in
set_option maxRecDepth 100000 in
theorem c_X11_literals (l : Launch) (dC : Nat → ClassId) (dI : Nat → Nat → Nat) (sz : Nat) (h_mm : Nat) (h_mny : Nat) (v_mm : Nat → Value) (x_mm_clauses : Int32) (cy_mny : ClassId) (f_mny : Nat → Int32) (hx_mm_clauses : 0 ≤ (x_mm_clauses).toInt ∧ (x_mm_clauses).toInt ≤ 16) (hf_mny : Rg 0 6 f_mny) : Met l yX11_literals (Ws yX11_literals cX11_literals 3 (some .int)) (({ frames := 0, cells := 0, slots := 0, locals := 0 } : Room)) (PRE (dC, dI) cls [(cy_mny, .int)] [(h_mm, .inr (8, (mo101 v_mm (.int x_mm_clauses) (.ref h_mny)))), (h_mny, .inl (cy_mny, 32, .inl f_mny))] sz [.ref h_mm]) (va_Qi (fun (r : Int32) (_ : Unit) => True) (fun (_ : Unit) (t : State) => va_P (dC, dI) cls [(h_mm, .inr (8, (mo101 v_mm (.int x_mm_clauses) (.ref h_mny)))), (h_mny, .inl (cy_mny, 32, .inl f_mny))] t.heap ∧ va_D (va_A [(h_mm, .inr (8, (mo101 v_mm (.int x_mm_clauses) (.ref h_mny)))), (h_mny, .inl (cy_mny, 32, .inl f_mny))] sz) [(h_mm, .inr (8, (mo101 v_mm (.int x_mm_clauses) (.ref h_mny)))), (h_mny, .inl (cy_mny, 32, .inl f_mny))]) (va_A [(h_mm, .inr (8, (mo101 v_mm (.int x_mm_clauses) (.ref h_mny)))), (h_mny, .inl (cy_mny, 32, .inl f_mny))] sz)) 0 0 (va_A [(h_mm, .inr (8, (mo101 v_mm (.int x_mm_clauses) (.ref h_mny)))), (h_mny, .inl (cy_mny, 32, .inl f_mny))] sz) := by
  refine Met.ofW (cc := cX11_literals) (maxL := 3) (ret := (some .int)) (by decide) rfl ?_
  intro p e s m args below meth c s₁ B hml hv
  obtain ⟨rfl, hsz, hP, hK, hD0, hN⟩ := hv
  have hx := B.exec
  have hb := B.bytes
  have hr := B.returns
  have hts := atoms_spec (ws := Ws yX11_literals cX11_literals 3 (some .int)) B.pre
  have hT : ∀ w ∈ WALL, w ∈ Ws yX11_literals cX11_literals 3 (some .int) := fun w h => List.mem_cons_of_mem _ h
  have hw := fun w (h : w ∈ WALL) => hts w (hT w h)
  have hown : s.vm.findClass RX11 = some m.cls := findClass_of_methodNamed B.named
  have hlocks := B.notSynchronized
  subst hsz
  have hD := hD0.self (sz := s.heap.size)
  generalize hAe : va_A [(h_mm, .inr (8, (mo101 v_mm (.int x_mm_clauses) (.ref h_mny)))), (h_mny, .inl (cy_mny, 32, .inl f_mny))] s.heap.size = A at hD ⊢
  have hA : ∀ q : Nat, s.heap.size ≤ q → A q := fun q h => by rw [← hAe]; exact Or.inr h
  have hS : va_S A s.heap s.heap [] := va_S.rf
  have hl := lv_entry ([.ref h_mm]) (n := 3) (Nat.le_of_ble_eq_true rfl)
  rw [lg_entry_eq]
  generalize (lg_sl ([.ref h_mm]) ++ List.replicate (3 - (lg_sl ([.ref h_mm])).length) Slot.unset).toArray = ls at hl ⊢
  have hl : lv_has ls 3 [(0, .ref h_mm)] := hl
  refine lv_iconst (v := 0) hx hb dX11_literals_0 (by decide) ?_
  refine lv_istore_n (lv' := [(1, .int 0), (0, .ref h_mm)]) hx hb dX11_literals_1 rfl hl (by decide) rfl (fun ls hl => ?_)
  refine lv_iconst (v := 0) hx hb dX11_literals_2 (by decide) ?_
  refine lv_istore_n (lv' := [(2, .int 0), (1, .int 0), (0, .ref h_mm)]) hx hb dX11_literals_3 rfl hl (by decide) rfl (fun ls hl => ?_)
  have lp3 : ∀ (n : Nat) (x1 : Int32) (x2 : Int32) (H : Heap) (locs : List Loc) (ls : Array Slot), (0 ≤ (x2).toInt ∧ (x2).toInt ≤ 16) → (16 - (x2).toInt).toNat + 1 ≤ n → va_P (dC, dI) cls [(h_mm, .inr (8, (mo101 v_mm (.int x_mm_clauses) (.ref h_mny)))), (h_mny, .inl (cy_mny, 32, .inl f_mny))] H → va_D A [(h_mm, .inr (8, (mo101 v_mm (.int x_mm_clauses) (.ref h_mny)))), (h_mny, .inl (cy_mny, 32, .inl f_mny))] → va_S A s.heap H locs → lv_has ls 3 [(0, .ref h_mm), (1, .int x1), (2, .int x2)] → W p l e ({ frames := 0, cells := 0, slots := 0, locals := 0 } : Room) s m ([.ref h_mm] : List Value).toArray below meth c H locs 0 0 (MQ below (va_Qi (fun (r : Int32) (_ : Unit) => True) (fun (_ : Unit) (t : State) => va_P (dC, dI) cls [(h_mm, .inr (8, (mo101 v_mm (.int x_mm_clauses) (.ref h_mny)))), (h_mny, .inl (cy_mny, 32, .inl f_mny))] t.heap ∧ va_D A [(h_mm, .inr (8, (mo101 v_mm (.int x_mm_clauses) (.ref h_mny)))), (h_mny, .inl (cy_mny, 32, .inl f_mny))]) A) ([.ref h_mm] : List Value).toArray s 0 0 A) (F0 m 4 ls []) := by
    clear hP hD hS hl
    intro n
    induction n with
    | zero => intro x1 x2 H locs ls klp3_0 hm hP hD hS hl; exact False.elim (by omega)
    | succ n ih => 
      intro x1 x2 H locs ls klp3_0 hm hP hD hS hl
      have ih4 := ih
      clear ih
      refine lv_iload_n hx hb dX11_literals_4 rfl (lv_at hl 2 rfl) ?_
      refine lv_aload_n hx hb dX11_literals_5 rfl (lv_at hl 0 rfl) ?_
      refine va_get (D := (dC, dI)) (ci := 8) (v := .int x_mm_clauses) (C := RX11) (T := TX11) (N := 71) hx hb hw iwX11 hown hK hP 0 rfl rfl 7 (by decide) (hw _ w_f_X11_164) (fun _ h9 => h9) rfl dX11_literals_6 ?_
      refine lv_icmp_ge (tgt := 27) hx hb dX11_literals_9 (by decide) (fun c5 => ?_) (fun c5 => ?_)
      · have kc5 := (cv_le (rfl : (x_mm_clauses).toInt = (x_mm_clauses).toInt) (rfl : (x2).toInt = (x2).toInt)).mp c5
        refine lv_iload_n hx hb dX11_literals_27 rfl (lv_at hl 1 rfl) ?_
        refine W.widen (k := 0) (n := 0) (Nat.le_of_ble_eq_true rfl) (Nat.le_of_ble_eq_true rfl) ?_
        exact W.iret (v := x1) hx hb hr (fun t ht hW => ⟨⟨x1, (), rfl, trivial, by rw [ht]; exact hP, hD⟩, hS.F ht⟩) hS.2.2 dX11_literals_28
      · have kc5 := (not_congr (cv_le (rfl : (x_mm_clauses).toInt = (x_mm_clauses).toInt) (rfl : (x2).toInt = (x2).toInt))).mp c5
        refine lv_iload_n hx hb dX11_literals_12 rfl (lv_at hl 1 rfl) ?_
        refine lv_aload_n hx hb dX11_literals_13 rfl (lv_at hl 0 rfl) ?_
        refine va_get (D := (dC, dI)) (ci := 8) (v := .ref h_mny) (C := RX11) (T := TX11) (N := 71) hx hb hw iwX11 hown hK hP 0 rfl rfl 8 (by decide) (hw _ w_f_X11_142) (fun _ h9 => h9) rfl dX11_literals_14 ?_
        refine lv_iload_n hx hb dX11_literals_17 rfl (lv_at hl 2 rfl) ?_
        refine va_iald hx hb hK hP 1 0 rfl rfl (i := x2) (vp_in_iff.mpr (by omega)) dX11_literals_18 ?_
        refine lv_topi (fun z6 ez6 => ?_)
        have rz6 : 0 ≤ (z6).toInt ∧ (z6).toInt ≤ 6 := by rw [ez6]; exact hf_mny _
        refine lv_iadd hx hb dX11_literals_19 ?_
        refine lv_topi (fun z7 ez7 => ?_)
        refine lv_istore_n (lv' := [(1, .int z7), (0, .ref h_mm), (2, .int x2)]) hx hb dX11_literals_20 rfl hl (by decide) rfl (fun ls hl => ?_)
        obtain ⟨z8, ez8⟩ : ∃ y : Int32, y = x2 + 1 := ⟨_, rfl⟩
        have tz8 : (z8).toInt = (x2).toInt + 1 := by rw [ez8]; exact i_add rfl (by decide) (by omega)
        refine lv_iinc (v := z8) (lv' := [(2, .int z8), (1, .int z7), (0, .ref h_mm)]) hx hb dX11_literals_21 hl (k := 2) rfl (by rw [ez8]; rfl) (by decide) rfl (fun ls hl => ?_)
        refine lv_goto (tgt := 4) hx hb dX11_literals_24 (by decide) ?_
        exact ih4 (z7) (z8) _ _ _ (by omega) (by omega) hP hD hS (lv_sub hl [2, 1, 0] rfl)
  have cst0 : (0 : Int32).toInt = 0 := by decide
  exact lp3 _ (0) (0) _ _ _ (by decide) (Nat.le_refl _) hP hD hS (lv_sub hl [2, 1, 0] rfl)

set_option maxHeartbeats 8000000 in
set_option maxRecDepth 100000 in
theorem c_X11_answerOf (l : Launch) (dC : Nat → ClassId) (dI : Nat → Nat → Nat) (sz : Nat) (h_mm : Nat) (h_ans : Nat) (v_mm : Nat → Value) (x_mm_answers : Int32) (cy_ans : ClassId) (f_ans : Nat → Int32) (p1 : Int32) (p2 : Int32) (p3 : Int32) (hx_mm_answers : 0 ≤ (x_mm_answers).toInt ∧ (x_mm_answers).toInt ≤ 8) : Met l yX11_answerOf (Ws yX11_answerOf cX11_answerOf 5 (some .int)) (({ frames := 0, cells := 0, slots := 0, locals := 0 } : Room)) (PRE (dC, dI) cls [(cy_ans, .int)] [(h_mm, .inr (8, (mo109 v_mm (.ref h_ans) (.int x_mm_answers)))), (h_ans, .inl (cy_ans, 36, .inl f_ans))] sz [.ref h_mm, .int p1, .int p2, .int p3]) (va_Qi (fun (r : Int32) (_ : Unit) => (-1 ≤ r.toInt ∧ r.toInt ≤ 7) ∧ ((r).toInt < (x_mm_answers).toInt)) (fun (_ : Unit) (t : State) => va_P (dC, dI) cls [(h_mm, .inr (8, (mo109 v_mm (.ref h_ans) (.int x_mm_answers)))), (h_ans, .inl (cy_ans, 36, .inl f_ans))] t.heap ∧ va_D (va_A [(h_mm, .inr (8, (mo109 v_mm (.ref h_ans) (.int x_mm_answers)))), (h_ans, .inl (cy_ans, 36, .inl f_ans))] sz) [(h_mm, .inr (8, (mo109 v_mm (.ref h_ans) (.int x_mm_answers)))), (h_ans, .inl (cy_ans, 36, .inl f_ans))]) (va_A [(h_mm, .inr (8, (mo109 v_mm (.ref h_ans) (.int x_mm_answers)))), (h_ans, .inl (cy_ans, 36, .inl f_ans))] sz)) 0 0 (va_A [(h_mm, .inr (8, (mo109 v_mm (.ref h_ans) (.int x_mm_answers)))), (h_ans, .inl (cy_ans, 36, .inl f_ans))] sz) := by
  refine Met.ofW (cc := cX11_answerOf) (maxL := 5) (ret := (some .int)) (by decide) rfl ?_
  intro p e s m args below meth c s₁ B hml hv
  obtain ⟨rfl, hsz, hP, hK, hD0, hN⟩ := hv
  have hx := B.exec
  have hb := B.bytes
  have hr := B.returns
  have hts := atoms_spec (ws := Ws yX11_answerOf cX11_answerOf 5 (some .int)) B.pre
  have hT : ∀ w ∈ WALL, w ∈ Ws yX11_answerOf cX11_answerOf 5 (some .int) := fun w h => List.mem_cons_of_mem _ h
  have hw := fun w (h : w ∈ WALL) => hts w (hT w h)
  have hown : s.vm.findClass RX11 = some m.cls := findClass_of_methodNamed B.named
  have hlocks := B.notSynchronized
  subst hsz
  have hD := hD0.self (sz := s.heap.size)
  generalize hAe : va_A [(h_mm, .inr (8, (mo109 v_mm (.ref h_ans) (.int x_mm_answers)))), (h_ans, .inl (cy_ans, 36, .inl f_ans))] s.heap.size = A at hD ⊢
  have hA : ∀ q : Nat, s.heap.size ≤ q → A q := fun q h => by rw [← hAe]; exact Or.inr h
  have hS : va_S A s.heap s.heap [] := va_S.rf
  have hl := lv_entry ([.ref h_mm, .int p1, .int p2, .int p3]) (n := 5) (Nat.le_of_ble_eq_true rfl)
  rw [lg_entry_eq]
  generalize (lg_sl ([.ref h_mm, .int p1, .int p2, .int p3]) ++ List.replicate (5 - (lg_sl ([.ref h_mm, .int p1, .int p2, .int p3])).length) Slot.unset).toArray = ls at hl ⊢
  have hl : lv_has ls 5 [(0, .ref h_mm), (1, .int p1), (2, .int p2), (3, .int p3)] := hl
  refine lv_iconst (v := 0) hx hb dX11_answerOf_0 (by decide) ?_
  refine lv_istore (lv' := [(4, .int 0), (0, .ref h_mm), (1, .int p1), (2, .int p2), (3, .int p3)]) hx hb dX11_answerOf_1 hl (by decide) rfl (fun ls hl => ?_)
  have lp2 : ∀ (n : Nat) (x1 : Int32) (H : Heap) (locs : List Loc) (ls : Array Slot), (0 ≤ (x1).toInt ∧ (x1).toInt ≤ 8) → (8 - (x1).toInt).toNat + 1 ≤ n → va_P (dC, dI) cls [(h_mm, .inr (8, (mo109 v_mm (.ref h_ans) (.int x_mm_answers)))), (h_ans, .inl (cy_ans, 36, .inl f_ans))] H → va_D A [(h_mm, .inr (8, (mo109 v_mm (.ref h_ans) (.int x_mm_answers)))), (h_ans, .inl (cy_ans, 36, .inl f_ans))] → va_S A s.heap H locs → lv_has ls 5 [(0, .ref h_mm), (1, .int p1), (2, .int p2), (3, .int p3), (4, .int x1)] → W p l e ({ frames := 0, cells := 0, slots := 0, locals := 0 } : Room) s m ([.ref h_mm, .int p1, .int p2, .int p3] : List Value).toArray below meth c H locs 0 0 (MQ below (va_Qi (fun (r : Int32) (_ : Unit) => (-1 ≤ r.toInt ∧ r.toInt ≤ 7) ∧ ((r).toInt < (x_mm_answers).toInt)) (fun (_ : Unit) (t : State) => va_P (dC, dI) cls [(h_mm, .inr (8, (mo109 v_mm (.ref h_ans) (.int x_mm_answers)))), (h_ans, .inl (cy_ans, 36, .inl f_ans))] t.heap ∧ va_D A [(h_mm, .inr (8, (mo109 v_mm (.ref h_ans) (.int x_mm_answers)))), (h_ans, .inl (cy_ans, 36, .inl f_ans))]) A) ([.ref h_mm, .int p1, .int p2, .int p3] : List Value).toArray s 0 0 A) (F0 m 3 ls []) := by
    clear hP hD hS hl
    intro n
    induction n with
    | zero => intro x1 H locs ls klp2_0 hm hP hD hS hl; exact False.elim (by omega)
    | succ n ih => 
      intro x1 H locs ls klp2_0 hm hP hD hS hl
      have ih3 := ih
      clear ih
      refine lv_iload hx hb dX11_answerOf_3 (lv_at hl 4 rfl) ?_
      refine lv_aload_n hx hb dX11_answerOf_5 rfl (lv_at hl 0 rfl) ?_
      refine va_get (D := (dC, dI)) (ci := 8) (v := .int x_mm_answers) (C := RX11) (T := TX11) (N := 71) hx hb hw iwX11 hown hK hP 0 rfl rfl 60 (by decide) (hw _ w_f_X11_413) (fun _ h9 => h9) rfl dX11_answerOf_6 ?_
      refine lv_icmp_ge (tgt := 64) hx hb dX11_answerOf_9 (by decide) (fun c4 => ?_) (fun c4 => ?_)
      · have kc4 := (cv_le (rfl : (x_mm_answers).toInt = (x_mm_answers).toInt) (rfl : (x1).toInt = (x1).toInt)).mp c4
        refine lv_iconst (v := (-1)) hx hb dX11_answerOf_64 (by decide) ?_
        refine W.widen (k := 0) (n := 0) (Nat.le_of_ble_eq_true rfl) (Nat.le_of_ble_eq_true rfl) ?_
        have cstm1 : ((-1) : Int32).toInt = -1 := by decide
        have w5 : -1 ≤ ((-1) : Int32).toInt ∧ ((-1) : Int32).toInt ≤ 7 := by omega
        have w6 : (((-1) : Int32)).toInt < (x_mm_answers).toInt := by omega
        exact W.iret (v := (-1)) hx hb hr (fun t ht hW => ⟨⟨(-1), (), rfl, ⟨w5, w6⟩, by rw [ht]; exact hP, hD⟩, hS.F ht⟩) hS.2.2 dX11_answerOf_65
      · have kc4 := (not_congr (cv_le (rfl : (x_mm_answers).toInt = (x_mm_answers).toInt) (rfl : (x1).toInt = (x1).toInt))).mp c4
        refine lv_aload_n hx hb dX11_answerOf_12 rfl (lv_at hl 0 rfl) ?_
        refine va_get (D := (dC, dI)) (ci := 8) (v := .ref h_ans) (C := RX11) (T := TX11) (N := 71) hx hb hw iwX11 hown hK hP 0 rfl rfl 59 (by decide) (hw _ w_f_X11_240) (fun _ h9 => h9) rfl dX11_answerOf_13 ?_
        refine lv_iconst (v := 4) hx hb dX11_answerOf_16 (by decide) ?_
        refine lv_iload hx hb dX11_answerOf_17 (lv_at hl 4 rfl) ?_
        refine lv_imul hx hb dX11_answerOf_19 ?_
        refine lv_topi (fun z7 ez7 => ?_)
        have tz7 : (z7).toInt = 4 * (x1).toInt := by rw [ez7]; exact i_mul (by decide) rfl (by omega)
        refine va_iald hx hb hK hP 1 0 rfl rfl (i := z7) (vp_in_iff.mpr (by omega)) dX11_answerOf_20 ?_
        refine lv_topi (fun z8 ez8 => ?_)
        refine lv_iload_n hx hb dX11_answerOf_21 rfl (lv_at hl 1 rfl) ?_
        refine lv_icmp_ne (tgt := 58) hx hb dX11_answerOf_22 (by decide) (fun c9 => ?_) (fun c9 => ?_)
        · have kc9 := (not_congr (cv_eq (rfl : (z8).toInt = (z8).toInt) (rfl : (p1).toInt = (p1).toInt))).mp c9
          obtain ⟨z10, ez10⟩ : ∃ y : Int32, y = x1 + 1 := ⟨_, rfl⟩
          have tz10 : (z10).toInt = (x1).toInt + 1 := by rw [ez10]; exact i_add rfl (by decide) (by omega)
          refine lv_iinc (v := z10) (lv' := [(4, .int z10), (0, .ref h_mm), (1, .int p1), (2, .int p2), (3, .int p3)]) hx hb dX11_answerOf_58 hl (k := 4) rfl (by rw [ez10]; rfl) (by decide) rfl (fun ls hl => ?_)
          refine lv_goto (tgt := 3) hx hb dX11_answerOf_61 (by decide) ?_
          exact ih3 (z10) _ _ _ (by omega) (by omega) hP hD hS (lv_sub hl [1, 2, 3, 4, 0] rfl)
        · have kc9 := (cv_eq (rfl : (z8).toInt = (z8).toInt) (rfl : (p1).toInt = (p1).toInt)).mp c9
          refine lv_aload_n hx hb dX11_answerOf_25 rfl (lv_at hl 0 rfl) ?_
          refine va_get (D := (dC, dI)) (ci := 8) (v := .ref h_ans) (C := RX11) (T := TX11) (N := 71) hx hb hw iwX11 hown hK hP 0 rfl rfl 59 (by decide) (hw _ w_f_X11_240) (fun _ h9 => h9) rfl dX11_answerOf_26 ?_
          refine lv_iconst (v := 4) hx hb dX11_answerOf_29 (by decide) ?_
          refine lv_iload hx hb dX11_answerOf_30 (lv_at hl 4 rfl) ?_
          refine lv_imul hx hb dX11_answerOf_32 ?_
          refine lv_topi (fun z11 ez11 => ?_)
          have qz11 : (z11).toInt = (z7).toInt := by rw [ez11, ez7]
          have tz11 : (z11).toInt = 4 * (x1).toInt := by rw [ez11]; exact i_mul (by decide) rfl (by omega)
          refine lv_iconst (v := 1) hx hb dX11_answerOf_33 (by decide) ?_
          refine lv_iadd hx hb dX11_answerOf_34 ?_
          refine lv_topi (fun z12 ez12 => ?_)
          have tz12 : (z12).toInt = (z11).toInt + 1 := by rw [ez12]; exact i_add rfl (by decide) (by omega)
          refine va_iald hx hb hK hP 1 0 rfl rfl (i := z12) (vp_in_iff.mpr (by omega)) dX11_answerOf_35 ?_
          refine lv_topi (fun z13 ez13 => ?_)
          refine lv_iload_n hx hb dX11_answerOf_36 rfl (lv_at hl 2 rfl) ?_
          refine lv_icmp_ne (tgt := 58) hx hb dX11_answerOf_37 (by decide) (fun c14 => ?_) (fun c14 => ?_)
          · have kc14 := (not_congr (cv_eq (rfl : (z13).toInt = (z13).toInt) (rfl : (p2).toInt = (p2).toInt))).mp c14
            obtain ⟨z15, ez15⟩ : ∃ y : Int32, y = x1 + 1 := ⟨_, rfl⟩
            have tz15 : (z15).toInt = (x1).toInt + 1 := by rw [ez15]; exact i_add rfl (by decide) (by omega)
            refine lv_iinc (v := z15) (lv' := [(4, .int z15), (0, .ref h_mm), (1, .int p1), (2, .int p2), (3, .int p3)]) hx hb dX11_answerOf_58 hl (k := 4) rfl (by rw [ez15]; rfl) (by decide) rfl (fun ls hl => ?_)
            refine lv_goto (tgt := 3) hx hb dX11_answerOf_61 (by decide) ?_
            exact ih3 (z15) _ _ _ (by omega) (by omega) hP hD hS (lv_sub hl [1, 2, 3, 4, 0] rfl)
          · have kc14 := (cv_eq (rfl : (z13).toInt = (z13).toInt) (rfl : (p2).toInt = (p2).toInt)).mp c14
            refine lv_aload_n hx hb dX11_answerOf_40 rfl (lv_at hl 0 rfl) ?_
            refine va_get (D := (dC, dI)) (ci := 8) (v := .ref h_ans) (C := RX11) (T := TX11) (N := 71) hx hb hw iwX11 hown hK hP 0 rfl rfl 59 (by decide) (hw _ w_f_X11_240) (fun _ h9 => h9) rfl dX11_answerOf_41 ?_
            refine lv_iconst (v := 4) hx hb dX11_answerOf_44 (by decide) ?_
            refine lv_iload hx hb dX11_answerOf_45 (lv_at hl 4 rfl) ?_
            refine lv_imul hx hb dX11_answerOf_47 ?_
            refine lv_topi (fun z16 ez16 => ?_)
            have qz16 : (z16).toInt = (z7).toInt := by rw [ez16, ez7]
            have tz16 : (z16).toInt = 4 * (x1).toInt := by rw [ez16]; exact i_mul (by decide) rfl (by omega)
            refine lv_iconst (v := 2) hx hb dX11_answerOf_48 (by decide) ?_
            refine lv_iadd hx hb dX11_answerOf_49 ?_
            refine lv_topi (fun z17 ez17 => ?_)
            have tz17 : (z17).toInt = (z16).toInt + 2 := by rw [ez17]; exact i_add rfl (by decide) (by omega)
            refine va_iald hx hb hK hP 1 0 rfl rfl (i := z17) (vp_in_iff.mpr (by omega)) dX11_answerOf_50 ?_
            refine lv_topi (fun z18 ez18 => ?_)
            refine lv_iload_n hx hb dX11_answerOf_51 rfl (lv_at hl 3 rfl) ?_
            refine lv_icmp_ne (tgt := 58) hx hb dX11_answerOf_52 (by decide) (fun c19 => ?_) (fun c19 => ?_)
            · have kc19 := (not_congr (cv_eq (rfl : (z18).toInt = (z18).toInt) (rfl : (p3).toInt = (p3).toInt))).mp c19
              obtain ⟨z20, ez20⟩ : ∃ y : Int32, y = x1 + 1 := ⟨_, rfl⟩
              have tz20 : (z20).toInt = (x1).toInt + 1 := by rw [ez20]; exact i_add rfl (by decide) (by omega)
              refine lv_iinc (v := z20) (lv' := [(4, .int z20), (0, .ref h_mm), (1, .int p1), (2, .int p2), (3, .int p3)]) hx hb dX11_answerOf_58 hl (k := 4) rfl (by rw [ez20]; rfl) (by decide) rfl (fun ls hl => ?_)
              refine lv_goto (tgt := 3) hx hb dX11_answerOf_61 (by decide) ?_
              exact ih3 (z20) _ _ _ (by omega) (by omega) hP hD hS (lv_sub hl [1, 2, 3, 4, 0] rfl)
            · have kc19 := (cv_eq (rfl : (z18).toInt = (z18).toInt) (rfl : (p3).toInt = (p3).toInt)).mp c19
              refine lv_iload hx hb dX11_answerOf_55 (lv_at hl 4 rfl) ?_
              refine W.widen (k := 0) (n := 0) (Nat.le_of_ble_eq_true rfl) (Nat.le_of_ble_eq_true rfl) ?_
              have w21 : -1 ≤ (x1 : Int32).toInt ∧ (x1 : Int32).toInt ≤ 7 := by omega
              have w22 : ((x1 : Int32)).toInt < (x_mm_answers).toInt := by omega
              exact W.iret (v := x1) hx hb hr (fun t ht hW => ⟨⟨x1, (), rfl, ⟨w21, w22⟩, by rw [ht]; exact hP, hD⟩, hS.F ht⟩) hS.2.2 dX11_answerOf_57
  have cst0 : (0 : Int32).toInt = 0 := by decide
  exact lp2 _ (0) _ _ _ (by decide) (Nat.le_refl _) hP hD hS (lv_sub hl [1, 2, 3, 4, 0] rfl)

set_option maxHeartbeats 8000000 in
set_option maxRecDepth 100000 in
theorem c_X11_leaves (l : Launch) (dC : Nat → ClassId) (dI : Nat → Nat → Nat) (sz : Nat) (h_mm : Nat) (h_ans : Nat) (v_mm : Nat → Value) (x_mm_answers : Int32) (cy_ans : ClassId) (f_ans : Nat → Int32) (p1 : Int32) (hx_mm_answers : 0 ≤ (x_mm_answers).toInt ∧ (x_mm_answers).toInt ≤ 8) (q0 : 0 ≤ (p1).toInt ∧ (p1).toInt ≤ 7) (q1 : (p1).toInt < (x_mm_answers).toInt) : Met l yX11_leaves (Ws yX11_leaves cX11_leaves 3 none) (({ frames := 0, cells := 0, slots := 0, locals := 0 } : Room)) (PRE (dC, dI) cls [(cy_ans, .int)] [(h_mm, .inr (8, (mo109 v_mm (.ref h_ans) (.int x_mm_answers)))), (h_ans, .inl (cy_ans, 36, .inl f_ans))] sz [.ref h_mm, .int p1]) (va_Qv (fun (u : (Int32) × (Nat → Int32)) => (0 ≤ (u.1).toInt ∧ (u.1).toInt ≤ 8) ∧ ((u.1).toInt = (x_mm_answers).toInt - 1)) (fun (u : (Int32) × (Nat → Int32)) (t : State) => va_P (dC, dI) cls [(h_mm, .inr (8, (mo109 v_mm (.ref h_ans) (.int u.1)))), (h_ans, .inl (cy_ans, 36, .inl u.2))] t.heap ∧ va_D (va_A [(h_mm, .inr (8, (mo109 v_mm (.ref h_ans) (.int x_mm_answers)))), (h_ans, .inl (cy_ans, 36, .inl f_ans))] sz) [(h_mm, .inr (8, (mo109 v_mm (.ref h_ans) (.int u.1)))), (h_ans, .inl (cy_ans, 36, .inl u.2))]) (va_A [(h_mm, .inr (8, (mo109 v_mm (.ref h_ans) (.int x_mm_answers)))), (h_ans, .inl (cy_ans, 36, .inl f_ans))] sz)) 0 0 (va_A [(h_mm, .inr (8, (mo109 v_mm (.ref h_ans) (.int x_mm_answers)))), (h_ans, .inl (cy_ans, 36, .inl f_ans))] sz) := by
  refine Met.ofW (cc := cX11_leaves) (maxL := 3) (ret := none) (by decide) rfl ?_
  intro p e s m args below meth c s₁ B hml hv
  obtain ⟨rfl, hsz, hP, hK, hD0, hN⟩ := hv
  have hx := B.exec
  have hb := B.bytes
  have hr := B.returns
  have hts := atoms_spec (ws := Ws yX11_leaves cX11_leaves 3 none) B.pre
  have hT : ∀ w ∈ WALL, w ∈ Ws yX11_leaves cX11_leaves 3 none := fun w h => List.mem_cons_of_mem _ h
  have hw := fun w (h : w ∈ WALL) => hts w (hT w h)
  have hown : s.vm.findClass RX11 = some m.cls := findClass_of_methodNamed B.named
  have hlocks := B.notSynchronized
  subst hsz
  have hD := hD0.self (sz := s.heap.size)
  generalize hAe : va_A [(h_mm, .inr (8, (mo109 v_mm (.ref h_ans) (.int x_mm_answers)))), (h_ans, .inl (cy_ans, 36, .inl f_ans))] s.heap.size = A at hD ⊢
  have hA : ∀ q : Nat, s.heap.size ≤ q → A q := fun q h => by rw [← hAe]; exact Or.inr h
  have hS : va_S A s.heap s.heap [] := va_S.rf
  have hl := lv_entry ([.ref h_mm, .int p1]) (n := 3) (Nat.le_of_ble_eq_true rfl)
  rw [lg_entry_eq]
  generalize (lg_sl ([.ref h_mm, .int p1]) ++ List.replicate (3 - (lg_sl ([.ref h_mm, .int p1])).length) Slot.unset).toArray = ls at hl ⊢
  have hl : lv_has ls 3 [(0, .ref h_mm), (1, .int p1)] := hl
  refine lv_iconst (v := 4) hx hb dX11_leaves_0 (by decide) ?_
  refine lv_iload_n hx hb dX11_leaves_1 rfl (lv_at hl 1 rfl) ?_
  refine lv_imul hx hb dX11_leaves_2 ?_
  refine lv_topi (fun z1 ez1 => ?_)
  have tz1 : (z1).toInt = 4 * (p1).toInt := by rw [ez1]; exact i_mul (by decide) rfl (by omega)
  refine lv_istore_n (lv' := [(2, .int z1), (0, .ref h_mm), (1, .int p1)]) hx hb dX11_leaves_3 rfl hl (by decide) rfl (fun ls hl => ?_)
  have lp4 : ∀ (n : Nat) (x2 : Int32) (f3 : Nat → Int32) (H : Heap) (locs : List Loc) (ls : Array Slot), (0 ≤ (x2).toInt ∧ (x2).toInt ≤ 32) → (32 - (x2).toInt).toNat + 1 ≤ n → va_P (dC, dI) cls [(h_mm, .inr (8, (mo109 v_mm (.ref h_ans) (.int x_mm_answers)))), (h_ans, .inl (cy_ans, 36, .inl f3))] H → va_D A [(h_mm, .inr (8, (mo109 v_mm (.ref h_ans) (.int x_mm_answers)))), (h_ans, .inl (cy_ans, 36, .inl f3))] → va_S A s.heap H locs → lv_has ls 3 [(0, .ref h_mm), (1, .int p1), (2, .int x2)] → W p l e ({ frames := 0, cells := 0, slots := 0, locals := 0 } : Room) s m ([.ref h_mm, .int p1] : List Value).toArray below meth c H locs 0 0 (MQ below (va_Qv (fun (u : (Int32) × (Nat → Int32)) => (0 ≤ (u.1).toInt ∧ (u.1).toInt ≤ 8) ∧ ((u.1).toInt = (x_mm_answers).toInt - 1)) (fun (u : (Int32) × (Nat → Int32)) (t : State) => va_P (dC, dI) cls [(h_mm, .inr (8, (mo109 v_mm (.ref h_ans) (.int u.1)))), (h_ans, .inl (cy_ans, 36, .inl u.2))] t.heap ∧ va_D A [(h_mm, .inr (8, (mo109 v_mm (.ref h_ans) (.int u.1)))), (h_ans, .inl (cy_ans, 36, .inl u.2))]) A) ([.ref h_mm, .int p1] : List Value).toArray s 0 0 A) (F0 m 4 ls []) := by
    clear hP hD hS hl
    intro n
    induction n with
    | zero => intro x2 f3 H locs ls klp4_0 hm hP hD hS hl; exact False.elim (by omega)
    | succ n ih => 
      intro x2 f3 H locs ls klp4_0 hm hP hD hS hl
      have ih5 := ih
      clear ih
      refine lv_iload_n hx hb dX11_leaves_4 rfl (lv_at hl 2 rfl) ?_
      refine lv_iconst (v := 4) hx hb dX11_leaves_5 (by decide) ?_
      refine lv_iadd hx hb dX11_leaves_6 ?_
      refine lv_topi (fun z6 ez6 => ?_)
      have tz6 : (z6).toInt = (x2).toInt + 4 := by rw [ez6]; exact i_add rfl (by decide) (by omega)
      refine lv_iconst (v := 4) hx hb dX11_leaves_7 (by decide) ?_
      refine lv_aload_n hx hb dX11_leaves_8 rfl (lv_at hl 0 rfl) ?_
      refine va_get (D := (dC, dI)) (ci := 8) (v := .int x_mm_answers) (C := RX11) (T := TX11) (N := 71) hx hb hw iwX11 hown hK hP 0 rfl rfl 60 (by decide) (hw _ w_f_X11_413) (fun _ h9 => h9) rfl dX11_leaves_9 ?_
      refine lv_imul hx hb dX11_leaves_12 ?_
      refine lv_topi (fun z7 ez7 => ?_)
      have tz7 : (z7).toInt = 4 * (x_mm_answers).toInt := by rw [ez7]; exact i_mul (by decide) rfl (by omega)
      refine lv_icmp_ge (tgt := 36) hx hb dX11_leaves_13 (by decide) (fun c8 => ?_) (fun c8 => ?_)
      · have kc8 := (cv_le (rfl : (z7).toInt = (z7).toInt) (rfl : (z6).toInt = (z6).toInt)).mp c8
        refine lv_aload_n hx hb dX11_leaves_36 rfl (lv_at hl 0 rfl) ?_
        refine lv_aload_n hx hb dX11_leaves_37 rfl (lv_at hl 0 rfl) ?_
        refine va_get (D := (dC, dI)) (ci := 8) (v := .int x_mm_answers) (C := RX11) (T := TX11) (N := 71) hx hb hw iwX11 hown hK hP 0 rfl rfl 60 (by decide) (hw _ w_f_X11_413) (fun _ h9 => h9) rfl dX11_leaves_38 ?_
        refine lv_iconst (v := 1) hx hb dX11_leaves_41 (by decide) ?_
        refine lv_isub hx hb dX11_leaves_42 ?_
        refine lv_topi (fun z9 ez9 => ?_)
        have tz9 : (z9).toInt = (x_mm_answers).toInt - 1 := by rw [ez9]; exact i_sub rfl (by decide) (by omega)
        refine va_put (D := (dC, dI)) (ci := 8) (v := .int z9) (ty := tyX11 60) (C := RX11) (T := TX11) (N := 71) hx hb hw iwX11 tyX11 tyX11_ok nmX11 hown hK hP hD hS 0 rfl rfl 60 (by decide) (hw _ w_f_X11_413) (fun _ h9 => h9) rfl (tyX11_ok 60 (by decide)) rfl rfl (Nat.le_of_ble_eq_true rfl) dX11_leaves_43 (fun H locs hP9 hD9 hS9 => ?_)
        clear hP hD hS
        have hP : va_P (dC, dI) cls [(h_mm, .inr (8, (mo109 v_mm (.ref h_ans) (.int z9)))), (h_ans, .inl (cy_ans, 36, .inl f3))] H := hP9
        have hD : va_D A [(h_mm, .inr (8, (mo109 v_mm (.ref h_ans) (.int z9)))), (h_ans, .inl (cy_ans, 36, .inl f3))] := hD9
        have hS := hS9
        clear hP9 hD9 hS9
        refine W.widen (k := 0) (n := 0) (Nat.le_of_ble_eq_true rfl) (Nat.le_of_ble_eq_true rfl) ?_
        have w10 : 0 ≤ ((z9)).toInt ∧ ((z9)).toInt ≤ 8 := by omega
        have w11 : ((z9)).toInt = (x_mm_answers).toInt - 1 := by omega
        exact W.vret hx hb hr (fun t ht hW => ⟨⟨(z9, f3), rfl, ⟨w10, w11⟩, by rw [ht]; exact hP, hD⟩, hS.F ht⟩) hS.2.2 dX11_leaves_46
      · have kc8 := (not_congr (cv_le (rfl : (z7).toInt = (z7).toInt) (rfl : (z6).toInt = (z6).toInt))).mp c8
        refine lv_aload_n hx hb dX11_leaves_16 rfl (lv_at hl 0 rfl) ?_
        refine va_get (D := (dC, dI)) (ci := 8) (v := .ref h_ans) (C := RX11) (T := TX11) (N := 71) hx hb hw iwX11 hown hK hP 0 rfl rfl 59 (by decide) (hw _ w_f_X11_240) (fun _ h9 => h9) rfl dX11_leaves_17 ?_
        refine lv_iload_n hx hb dX11_leaves_20 rfl (lv_at hl 2 rfl) ?_
        refine lv_aload_n hx hb dX11_leaves_21 rfl (lv_at hl 0 rfl) ?_
        refine va_get (D := (dC, dI)) (ci := 8) (v := .ref h_ans) (C := RX11) (T := TX11) (N := 71) hx hb hw iwX11 hown hK hP 0 rfl rfl 59 (by decide) (hw _ w_f_X11_240) (fun _ h9 => h9) rfl dX11_leaves_22 ?_
        refine lv_iload_n hx hb dX11_leaves_25 rfl (lv_at hl 2 rfl) ?_
        refine lv_iconst (v := 4) hx hb dX11_leaves_26 (by decide) ?_
        refine lv_iadd hx hb dX11_leaves_27 ?_
        refine lv_topi (fun z12 ez12 => ?_)
        have qz12 : (z12).toInt = (z6).toInt := by rw [ez12, ez6]
        have tz12 : (z12).toInt = (x2).toInt + 4 := by rw [ez12]; exact i_add rfl (by decide) (by omega)
        refine va_iald hx hb hK hP 1 0 rfl rfl (i := z12) (vp_in_iff.mpr (by omega)) dX11_leaves_28 ?_
        refine lv_topi (fun z13 ez13 => ?_)
        refine va_iast hx hb hK hP hD hS 1 0 rfl rfl (i := x2) (x := z13) (vp_in_iff.mpr (by omega)) dX11_leaves_29 (fun H locs hP9 hD9 hS9 => ?_)
        obtain ⟨f14, ef14⟩ : ∃ g : Nat → Int32, g = upd f3 (Int32.toNatClampNeg x2) z13 := ⟨_, rfl⟩
        clear hP hD hS
        have hP : va_P (dC, dI) cls [(h_mm, .inr (8, (mo109 v_mm (.ref h_ans) (.int x_mm_answers)))), (h_ans, .inl (cy_ans, 36, .inl f14))] H := by rw [ef14]; exact hP9
        have hD : va_D A [(h_mm, .inr (8, (mo109 v_mm (.ref h_ans) (.int x_mm_answers)))), (h_ans, .inl (cy_ans, 36, .inl f14))] := by rw [ef14]; exact hD9
        have hS := hS9
        clear hP9 hD9 hS9
        clear ef14
        obtain ⟨z15, ez15⟩ : ∃ y : Int32, y = x2 + 1 := ⟨_, rfl⟩
        have tz15 : (z15).toInt = (x2).toInt + 1 := by rw [ez15]; exact i_add rfl (by decide) (by omega)
        refine lv_iinc (v := z15) (lv' := [(2, .int z15), (0, .ref h_mm), (1, .int p1)]) hx hb dX11_leaves_30 hl (k := 2) rfl (by rw [ez15]; rfl) (by decide) rfl (fun ls hl => ?_)
        refine lv_goto (tgt := 4) hx hb dX11_leaves_33 (by decide) ?_
        exact ih5 (z15) (f14) _ _ _ (by omega) (by omega) hP hD hS (lv_sub hl [1, 2, 0] rfl)
  exact lp4 _ (z1) (f_ans) _ _ _ (by omega) (Nat.le_refl _) hP hD hS (lv_sub hl [1, 2, 0] rfl)

set_option maxHeartbeats 8000000 in
set_option maxRecDepth 100000 in
theorem c_X11_canAsk (l : Launch) (dC : Nat → ClassId) (dI : Nat → Nat → Nat) (sz : Nat) (h_mm : Nat) (v_mm : Nat → Value) (p1 : Int32) (p2 : Int32)  : Met l yX11_canAsk (Ws yX11_canAsk cX11_canAsk 3 (some .boolean)) (({ frames := 1, cells := 0, slots := 0, locals := 26 } : Room)) (PRE (dC, dI) cls [] [(h_mm, .inr (8, (mo87 v_mm)))] sz [.ref h_mm, .int p1, .int p2]) (va_Qi (fun (r : Int32) (_ : Unit) => ((r = 1 ∧ (0 ≤ (p1).toInt) ∧ ((p1).toInt ≤ 20) ∧ (0 ≤ (p2).toInt) ∧ ((p2).toInt ≤ 7)) ∨ (r = 0))) (fun (_ : Unit) (t : State) => va_P (dC, dI) cls [(h_mm, .inr (8, (mo87 v_mm)))] t.heap ∧ va_D (va_A [(h_mm, .inr (8, (mo87 v_mm)))] sz) [(h_mm, .inr (8, (mo87 v_mm)))]) (va_A [(h_mm, .inr (8, (mo87 v_mm)))] sz)) 0 0 (va_A [(h_mm, .inr (8, (mo87 v_mm)))] sz) := by
  refine Met.ofW (cc := cX11_canAsk) (maxL := 3) (ret := (some .boolean)) (by decide) rfl ?_
  intro p e s m args below meth c s₁ B hml hv
  obtain ⟨rfl, hsz, hP, hK, hD0, hN⟩ := hv
  have hx := B.exec
  have hb := B.bytes
  have hr := B.returns
  have hts := atoms_spec (ws := Ws yX11_canAsk cX11_canAsk 3 (some .boolean)) B.pre
  have hT : ∀ w ∈ WALL, w ∈ Ws yX11_canAsk cX11_canAsk 3 (some .boolean) := fun w h => List.mem_cons_of_mem _ h
  have hw := fun w (h : w ∈ WALL) => hts w (hT w h)
  have hown : s.vm.findClass RX11 = some m.cls := findClass_of_methodNamed B.named
  have hlocks := B.notSynchronized
  subst hsz
  have hD := hD0.self (sz := s.heap.size)
  generalize hAe : va_A [(h_mm, .inr (8, (mo87 v_mm)))] s.heap.size = A at hD ⊢
  have hA : ∀ q : Nat, s.heap.size ≤ q → A q := fun q h => by rw [← hAe]; exact Or.inr h
  have hS : va_S A s.heap s.heap [] := va_S.rf
  have hl := lv_entry ([.ref h_mm, .int p1, .int p2]) (n := 3) (Nat.le_of_ble_eq_true rfl)
  rw [lg_entry_eq]
  generalize (lg_sl ([.ref h_mm, .int p1, .int p2]) ++ List.replicate (3 - (lg_sl ([.ref h_mm, .int p1, .int p2])).length) Slot.unset).toArray = ls at hl ⊢
  have hl : lv_has ls 3 [(0, .ref h_mm), (1, .int p1), (2, .int p2)] := hl
  refine lv_aload_n hx hb dX11_canAsk_0 rfl (lv_at hl 0 rfl) ?_
  refine lv_iload_n hx hb dX11_canAsk_1 rfl (lv_at hl 1 rfl) ?_
  refine lv_i2l hx hb dX11_canAsk_2 rfl ?_
  refine lv_topl (fun z1 ez1 => ?_)
  have tz1 : (z1).toInt = (p1).toInt := by rw [ez1]; exact Int32.toInt_toInt64 _
  have bz1 := i_bd p1
  refine lv_lconst (v := 0) hx hb dX11_canAsk_3 (by decide) ?_
  refine lv_ldc2 (v := 20) hx hb hown (hw _ w_cl_X11_416) dX11_canAsk_4 ?_
  have : (0 : Int64).toInt = 0 := by decide
  have : (20 : Int64).toInt = 20 := by decide
  have hPc := hP.sub (ws' := []) [] rfl
  have hDc := hD.sub (ws' := []) [] (by decide) rfl
  have hKc := hK.sub (tys' := []) [] rfl
  have hFc := va_free (wc := []) hD hS hA [] rfl
  refine va_calli (va_runV (As := [.long z1, .long 0, .long 20]) (rest := []) ⟨hx, hb, hml, hown, hts⟩ (c_X11_isIn l dC dI s.heap.size h_mm z1 0 20) (cwV 3 hts (gv hT w_m_X11_49 w_instanceMethod_X11_isIn ws_sel_X11_isIn w_ini_X11 w_code_X11_isIn) rfl rfl rfl (by decide +kernel) ⟨(Nat.le_of_ble_eq_true rfl), (Nat.le_of_ble_eq_true rfl)⟩) ⟨pre_blind, va_recv hK hP (ci := 8) (q0 := 0) rfl rfl, pre_of hPc hKc hDc hN⟩ rfl rfl hl.1 rfl (lv_room (Nat.le_of_ble_eq_true rfl)) dX11_canAsk_7 ⟨(Nat.le_of_ble_eq_true rfl), (Nat.le_of_ble_eq_true rfl)⟩) hS (fun q _ h => hFc q h) hFc (fun r2 u t H locs ht hvm hq hB hz1 hk1 hS9 => ?_)
  obtain ⟨hP1, hD1⟩ := hB
  rw [ht] at hP1
  obtain ⟨hP9, hD9⟩ := va_join (wr := [(h_mm, .inr (8, (mo87 v_mm)))]) (w1 := []) hP hD [] [0] rfl rfl (by decide) (by decide) hk1 hFc hP1 hD1
  clear hP hD hS hPc hDc hKc hFc hP1 hD1 hk1 hz1 ht hvm
  have hP : va_P (dC, dI) cls [(h_mm, .inr (8, (mo87 v_mm)))] H := hP9
  have hD : va_D A [(h_mm, .inr (8, (mo87 v_mm)))] := hD9
  have hS := hS9
  clear hP9 hD9 hS9
  rcases hq with ⟨rfl, hq⟩ | ⟨rfl, hq⟩
  · replace hq : (((0 : Int64)).toInt ≤ ((z1)).toInt) ∧ (((z1)).toInt ≤ ((20 : Int64)).toInt) := hq
    refine lv_if_eq (tgt := 30) hx hb dX11_canAsk_10 (by decide) (fun c9 => absurd c9 (by decide)) (fun _ => ?_)
    refine lv_aload_n hx hb dX11_canAsk_13 rfl (lv_at hl 0 rfl) ?_
    refine lv_iload_n hx hb dX11_canAsk_14 rfl (lv_at hl 2 rfl) ?_
    refine lv_i2l hx hb dX11_canAsk_15 rfl ?_
    refine lv_topl (fun z3 ez3 => ?_)
    have tz3 : (z3).toInt = (p2).toInt := by rw [ez3]; exact Int32.toInt_toInt64 _
    have bz3 := i_bd p2
    refine lv_lconst (v := 0) hx hb dX11_canAsk_16 (by decide) ?_
    refine lv_ldc2 (v := 7) hx hb hown (hw _ w_cl_X11_418) dX11_canAsk_17 ?_
    have : (0 : Int64).toInt = 0 := by decide
    have : (7 : Int64).toInt = 7 := by decide
    have hPc := hP.sub (ws' := []) [] rfl
    have hDc := hD.sub (ws' := []) [] (by decide) rfl
    have hKc := hK.sub (tys' := []) [] rfl
    have hFc := va_free (wc := []) hD hS hA [] rfl
    refine va_calli (va_runV (As := [.long z3, .long 0, .long 7]) (rest := []) ⟨hx, hb, hml, hown, hts⟩ (c_X11_isIn l dC dI H.size h_mm z3 0 7) (cwV 3 hts (gv hT w_m_X11_49 w_instanceMethod_X11_isIn ws_sel_X11_isIn w_ini_X11 w_code_X11_isIn) rfl rfl rfl (by decide +kernel) ⟨(Nat.le_of_ble_eq_true rfl), (Nat.le_of_ble_eq_true rfl)⟩) ⟨pre_blind, va_recv hK hP (ci := 8) (q0 := 0) rfl rfl, pre_of hPc hKc hDc hN⟩ rfl rfl hl.1 rfl (lv_room (Nat.le_of_ble_eq_true rfl)) dX11_canAsk_20 ⟨(Nat.le_of_ble_eq_true rfl), (Nat.le_of_ble_eq_true rfl)⟩) hS (fun q _ h => hFc q h) hFc (fun r4 u t H locs ht hvm hq hB hz1 hk1 hS9 => ?_)
    obtain ⟨hP1, hD1⟩ := hB
    rw [ht] at hP1
    obtain ⟨hP9, hD9⟩ := va_join (wr := [(h_mm, .inr (8, (mo87 v_mm)))]) (w1 := []) hP hD [] [0] rfl rfl (by decide) (by decide) hk1 hFc hP1 hD1
    clear hP hD hS hPc hDc hKc hFc hP1 hD1 hk1 hz1 ht hvm
    have hP : va_P (dC, dI) cls [(h_mm, .inr (8, (mo87 v_mm)))] H := hP9
    have hD : va_D A [(h_mm, .inr (8, (mo87 v_mm)))] := hD9
    have hS := hS9
    clear hP9 hD9 hS9
    rcases hq with ⟨rfl, hq⟩ | ⟨rfl, hq⟩
    · replace hq : (((0 : Int64)).toInt ≤ ((z3)).toInt) ∧ (((z3)).toInt ≤ ((7 : Int64)).toInt) := hq
      refine lv_if_eq (tgt := 30) hx hb dX11_canAsk_23 (by decide) (fun c9 => absurd c9 (by decide)) (fun _ => ?_)
      refine lv_iconst (v := 1) hx hb dX11_canAsk_26 (by decide) ?_
      refine lv_goto (tgt := 31) hx hb dX11_canAsk_27 (by decide) ?_
      refine W.widen (k := 0) (n := 0) (Nat.le_of_ble_eq_true rfl) (Nat.le_of_ble_eq_true rfl) ?_
      have cst1 : (1 : Int32).toInt = 1 := by decide
      have : 0 ≤ (p1).toInt := by omega
      have : (p1).toInt ≤ 20 := by omega
      have : 0 ≤ (p2).toInt := by omega
      have : (p2).toInt ≤ 7 := by omega
      exact W.zret (v := 1) (ty := .boolean) hx hb hr (by decide) (fun t ht hW => ⟨⟨1, (), rfl, (Or.inl (⟨rfl, by assumption, by assumption, by assumption, by assumption⟩)), by rw [ht]; exact hP, hD⟩, hS.F ht⟩) hS.2.2 dX11_canAsk_31
    · replace hq : (((z3)).toInt < ((0 : Int64)).toInt ∨ ((7 : Int64)).toInt < ((z3)).toInt) := hq
      refine lv_if_eq (tgt := 30) hx hb dX11_canAsk_23 (by decide) (fun _ => ?_) (fun c9 => absurd c9 (by decide))
      refine lv_iconst (v := 0) hx hb dX11_canAsk_30 (by decide) ?_
      refine W.widen (k := 0) (n := 0) (Nat.le_of_ble_eq_true rfl) (Nat.le_of_ble_eq_true rfl) ?_
      have cst0 : (0 : Int32).toInt = 0 := by decide
      exact W.zret (v := 0) (ty := .boolean) hx hb hr (by decide) (fun t ht hW => ⟨⟨0, (), rfl, (Or.inr (rfl)), by rw [ht]; exact hP, hD⟩, hS.F ht⟩) hS.2.2 dX11_canAsk_31
  · replace hq : (((z1)).toInt < ((0 : Int64)).toInt ∨ ((20 : Int64)).toInt < ((z1)).toInt) := hq
    refine lv_if_eq (tgt := 30) hx hb dX11_canAsk_10 (by decide) (fun _ => ?_) (fun c9 => absurd c9 (by decide))
    refine lv_iconst (v := 0) hx hb dX11_canAsk_30 (by decide) ?_
    refine W.widen (k := 0) (n := 0) (Nat.le_of_ble_eq_true rfl) (Nat.le_of_ble_eq_true rfl) ?_
    have cst0 : (0 : Int32).toInt = 0 := by decide
    exact W.zret (v := 0) (ty := .boolean) hx hb hr (by decide) (fun t ht hW => ⟨⟨0, (), rfl, (Or.inr (rfl)), by rw [ht]; exact hP, hD⟩, hS.F ht⟩) hS.2.2 dX11_canAsk_31

set_option maxHeartbeats 8000000 in
set_option maxRecDepth 100000 in
theorem c_X11_begins (l : Launch) (dC : Nat → ClassId) (dI : Nat → Nat → Nat) (sz : Nat) (h_mm : Nat) (v_mm : Nat → Value) (x_mm_isOver : Int32) (x_mm_tries : Int32) (x_mm_mostPath : Int32) (x_mm_cuts : Int32) (x_mm_extended : Int32) (x_mm_isProof : Int32) (hx_mm_isOver : 0 ≤ (x_mm_isOver).toInt ∧ (x_mm_isOver).toInt ≤ 1) (hx_mm_tries : 0 ≤ (x_mm_tries).toInt ∧ (x_mm_tries).toInt ≤ 1000) (hx_mm_isProof : 0 ≤ (x_mm_isProof).toInt ∧ (x_mm_isProof).toInt ≤ 1) : Met l yX11_begins (Ws yX11_begins cX11_begins 1 none) (({ frames := 0, cells := 0, slots := 0, locals := 0 } : Room)) (PRE (dC, dI) cls [] [(h_mm, .inr (8, (mo110 v_mm (.int x_mm_isOver) (.int x_mm_tries) (.int x_mm_mostPath) (.int x_mm_cuts) (.int x_mm_extended) (.int x_mm_isProof))))] sz [.ref h_mm]) (va_Qv (fun (u : (Int32) × (Int32) × (Int32) × (Int32) × (Int32) × (Int32)) => (0 ≤ (u.1).toInt ∧ (u.1).toInt ≤ 1) ∧ (0 ≤ (u.2.1).toInt ∧ (u.2.1).toInt ≤ 1000) ∧ (0 ≤ (u.2.2.2.2.2).toInt ∧ (u.2.2.2.2.2).toInt ≤ 1)) (fun (u : (Int32) × (Int32) × (Int32) × (Int32) × (Int32) × (Int32)) (t : State) => va_P (dC, dI) cls [(h_mm, .inr (8, (mo110 v_mm (.int u.1) (.int u.2.1) (.int u.2.2.1) (.int u.2.2.2.1) (.int u.2.2.2.2.1) (.int u.2.2.2.2.2))))] t.heap ∧ va_D (va_A [(h_mm, .inr (8, (mo110 v_mm (.int x_mm_isOver) (.int x_mm_tries) (.int x_mm_mostPath) (.int x_mm_cuts) (.int x_mm_extended) (.int x_mm_isProof))))] sz) [(h_mm, .inr (8, (mo110 v_mm (.int u.1) (.int u.2.1) (.int u.2.2.1) (.int u.2.2.2.1) (.int u.2.2.2.2.1) (.int u.2.2.2.2.2))))]) (va_A [(h_mm, .inr (8, (mo110 v_mm (.int x_mm_isOver) (.int x_mm_tries) (.int x_mm_mostPath) (.int x_mm_cuts) (.int x_mm_extended) (.int x_mm_isProof))))] sz)) 0 0 (va_A [(h_mm, .inr (8, (mo110 v_mm (.int x_mm_isOver) (.int x_mm_tries) (.int x_mm_mostPath) (.int x_mm_cuts) (.int x_mm_extended) (.int x_mm_isProof))))] sz) := by
  refine Met.ofW (cc := cX11_begins) (maxL := 1) (ret := none) (by decide) rfl ?_
  intro p e s m args below meth c s₁ B hml hv
  obtain ⟨rfl, hsz, hP, hK, hD0, hN⟩ := hv
  have hx := B.exec
  have hb := B.bytes
  have hr := B.returns
  have hts := atoms_spec (ws := Ws yX11_begins cX11_begins 1 none) B.pre
  have hT : ∀ w ∈ WALL, w ∈ Ws yX11_begins cX11_begins 1 none := fun w h => List.mem_cons_of_mem _ h
  have hw := fun w (h : w ∈ WALL) => hts w (hT w h)
  have hown : s.vm.findClass RX11 = some m.cls := findClass_of_methodNamed B.named
  have hlocks := B.notSynchronized
  subst hsz
  have hD := hD0.self (sz := s.heap.size)
  generalize hAe : va_A [(h_mm, .inr (8, (mo110 v_mm (.int x_mm_isOver) (.int x_mm_tries) (.int x_mm_mostPath) (.int x_mm_cuts) (.int x_mm_extended) (.int x_mm_isProof))))] s.heap.size = A at hD ⊢
  have hA : ∀ q : Nat, s.heap.size ≤ q → A q := fun q h => by rw [← hAe]; exact Or.inr h
  have hS : va_S A s.heap s.heap [] := va_S.rf
  have hl := lv_entry ([.ref h_mm]) (n := 1) (Nat.le_of_ble_eq_true rfl)
  rw [lg_entry_eq]
  generalize (lg_sl ([.ref h_mm]) ++ List.replicate (1 - (lg_sl ([.ref h_mm])).length) Slot.unset).toArray = ls at hl ⊢
  have hl : lv_has ls 1 [(0, .ref h_mm)] := hl
  refine lv_aload_n hx hb dX11_begins_0 rfl (lv_at hl 0 rfl) ?_
  refine lv_iconst (v := 0) hx hb dX11_begins_1 (by decide) ?_
  refine va_put (D := (dC, dI)) (ci := 8) (v := .int 0) (ty := tyX11 50) (C := RX11) (T := TX11) (N := 71) hx hb hw iwX11 tyX11 tyX11_ok nmX11 hown hK hP hD hS 0 rfl rfl 50 (by decide) (hw _ w_f_X11_373) (fun _ h9 => h9) rfl (tyX11_ok 50 (by decide)) rfl rfl (Nat.le_of_ble_eq_true rfl) dX11_begins_2 (fun H locs hP9 hD9 hS9 => ?_)
  clear hP hD hS
  have hP : va_P (dC, dI) cls [(h_mm, .inr (8, (mo110 v_mm (.int 0) (.int x_mm_tries) (.int x_mm_mostPath) (.int x_mm_cuts) (.int x_mm_extended) (.int x_mm_isProof))))] H := hP9
  have hD : va_D A [(h_mm, .inr (8, (mo110 v_mm (.int 0) (.int x_mm_tries) (.int x_mm_mostPath) (.int x_mm_cuts) (.int x_mm_extended) (.int x_mm_isProof))))] := hD9
  have hS := hS9
  clear hP9 hD9 hS9
  refine lv_aload_n hx hb dX11_begins_5 rfl (lv_at hl 0 rfl) ?_
  refine lv_iconst (v := 0) hx hb dX11_begins_6 (by decide) ?_
  refine va_put (D := (dC, dI)) (ci := 8) (v := .int 0) (ty := tyX11 51) (C := RX11) (T := TX11) (N := 71) hx hb hw iwX11 tyX11 tyX11_ok nmX11 hown hK hP hD hS 0 rfl rfl 51 (by decide) (hw _ w_f_X11_389) (fun _ h9 => h9) rfl (tyX11_ok 51 (by decide)) rfl rfl (Nat.le_of_ble_eq_true rfl) dX11_begins_7 (fun H locs hP9 hD9 hS9 => ?_)
  clear hP hD hS
  have hP : va_P (dC, dI) cls [(h_mm, .inr (8, (mo110 v_mm (.int 0) (.int 0) (.int x_mm_mostPath) (.int x_mm_cuts) (.int x_mm_extended) (.int x_mm_isProof))))] H := hP9
  have hD : va_D A [(h_mm, .inr (8, (mo110 v_mm (.int 0) (.int 0) (.int x_mm_mostPath) (.int x_mm_cuts) (.int x_mm_extended) (.int x_mm_isProof))))] := hD9
  have hS := hS9
  clear hP9 hD9 hS9
  refine lv_aload_n hx hb dX11_begins_10 rfl (lv_at hl 0 rfl) ?_
  refine lv_iconst (v := 0) hx hb dX11_begins_11 (by decide) ?_
  refine va_put (D := (dC, dI)) (ci := 8) (v := .int 0) (ty := tyX11 52) (C := RX11) (T := TX11) (N := 71) hx hb hw iwX11 tyX11 tyX11_ok nmX11 hown hK hP hD hS 0 rfl rfl 52 (by decide) (hw _ w_f_X11_345) (fun _ h9 => h9) rfl (tyX11_ok 52 (by decide)) rfl rfl (Nat.le_of_ble_eq_true rfl) dX11_begins_12 (fun H locs hP9 hD9 hS9 => ?_)
  clear hP hD hS
  have hP : va_P (dC, dI) cls [(h_mm, .inr (8, (mo110 v_mm (.int 0) (.int 0) (.int 0) (.int x_mm_cuts) (.int x_mm_extended) (.int x_mm_isProof))))] H := hP9
  have hD : va_D A [(h_mm, .inr (8, (mo110 v_mm (.int 0) (.int 0) (.int 0) (.int x_mm_cuts) (.int x_mm_extended) (.int x_mm_isProof))))] := hD9
  have hS := hS9
  clear hP9 hD9 hS9
  refine lv_aload_n hx hb dX11_begins_15 rfl (lv_at hl 0 rfl) ?_
  refine lv_iconst (v := 0) hx hb dX11_begins_16 (by decide) ?_
  refine va_put (D := (dC, dI)) (ci := 8) (v := .int 0) (ty := tyX11 53) (C := RX11) (T := TX11) (N := 71) hx hb hw iwX11 tyX11 tyX11_ok nmX11 hown hK hP hD hS 0 rfl rfl 53 (by decide) (hw _ w_f_X11_357) (fun _ h9 => h9) rfl (tyX11_ok 53 (by decide)) rfl rfl (Nat.le_of_ble_eq_true rfl) dX11_begins_17 (fun H locs hP9 hD9 hS9 => ?_)
  clear hP hD hS
  have hP : va_P (dC, dI) cls [(h_mm, .inr (8, (mo110 v_mm (.int 0) (.int 0) (.int 0) (.int 0) (.int x_mm_extended) (.int x_mm_isProof))))] H := hP9
  have hD : va_D A [(h_mm, .inr (8, (mo110 v_mm (.int 0) (.int 0) (.int 0) (.int 0) (.int x_mm_extended) (.int x_mm_isProof))))] := hD9
  have hS := hS9
  clear hP9 hD9 hS9
  refine lv_aload_n hx hb dX11_begins_20 rfl (lv_at hl 0 rfl) ?_
  refine lv_iconst (v := 0) hx hb dX11_begins_21 (by decide) ?_
  refine va_put (D := (dC, dI)) (ci := 8) (v := .int 0) (ty := tyX11 54) (C := RX11) (T := TX11) (N := 71) hx hb hw iwX11 tyX11 tyX11_ok nmX11 hown hK hP hD hS 0 rfl rfl 54 (by decide) (hw _ w_f_X11_407) (fun _ h9 => h9) rfl (tyX11_ok 54 (by decide)) rfl rfl (Nat.le_of_ble_eq_true rfl) dX11_begins_22 (fun H locs hP9 hD9 hS9 => ?_)
  clear hP hD hS
  have hP : va_P (dC, dI) cls [(h_mm, .inr (8, (mo110 v_mm (.int 0) (.int 0) (.int 0) (.int 0) (.int 0) (.int x_mm_isProof))))] H := hP9
  have hD : va_D A [(h_mm, .inr (8, (mo110 v_mm (.int 0) (.int 0) (.int 0) (.int 0) (.int 0) (.int x_mm_isProof))))] := hD9
  have hS := hS9
  clear hP9 hD9 hS9
  refine lv_aload_n hx hb dX11_begins_25 rfl (lv_at hl 0 rfl) ?_
  refine lv_iconst (v := 0) hx hb dX11_begins_26 (by decide) ?_
  refine va_put (D := (dC, dI)) (ci := 8) (v := .int 0) (ty := tyX11 58) (C := RX11) (T := TX11) (N := 71) hx hb hw iwX11 tyX11 tyX11_ok nmX11 hown hK hP hD hS 0 rfl rfl 58 (by decide) (hw _ w_f_X11_410) (fun _ h9 => h9) rfl (tyX11_ok 58 (by decide)) rfl rfl (Nat.le_of_ble_eq_true rfl) dX11_begins_27 (fun H locs hP9 hD9 hS9 => ?_)
  clear hP hD hS
  have hP : va_P (dC, dI) cls [(h_mm, .inr (8, (mo110 v_mm (.int 0) (.int 0) (.int 0) (.int 0) (.int 0) (.int 0))))] H := hP9
  have hD : va_D A [(h_mm, .inr (8, (mo110 v_mm (.int 0) (.int 0) (.int 0) (.int 0) (.int 0) (.int 0))))] := hD9
  have hS := hS9
  clear hP9 hD9 hS9
  refine W.widen (k := 0) (n := 0) (Nat.le_of_ble_eq_true rfl) (Nat.le_of_ble_eq_true rfl) ?_
  have cst0 : (0 : Int32).toInt = 0 := by decide
  have w1 : 0 ≤ ((0 : Int32)).toInt ∧ ((0 : Int32)).toInt ≤ 1 := by omega
  have w2 : 0 ≤ ((0 : Int32)).toInt ∧ ((0 : Int32)).toInt ≤ 1000 := by omega
  have w3 : 0 ≤ ((0 : Int32)).toInt ∧ ((0 : Int32)).toInt ≤ 1 := by omega
  exact W.vret hx hb hr (fun t ht hW => ⟨⟨(0, 0, 0, 0, 0, 0), rfl, ⟨w1, w2, w3⟩, by rw [ht]; exact hP, hD⟩, hS.F ht⟩) hS.2.2 dX11_begins_30

set_option maxHeartbeats 8000000 in
set_option maxRecDepth 100000 in
theorem c_X11_tried (l : Launch) (dC : Nat → ClassId) (dI : Nat → Nat → Nat) (sz : Nat) (h_mm : Nat) (v_mm : Nat → Value) (x_mm_tries : Int32) (x_mm_mostPath : Int32) (x_mm_cuts : Int32) (x_mm_extended : Int32) (p1 : Int32) (hx_mm_tries : 0 ≤ (x_mm_tries).toInt ∧ (x_mm_tries).toInt ≤ 1000) : Met l yX11_tried (Ws yX11_tried cX11_tried 2 (some .int)) (({ frames := 0, cells := 0, slots := 0, locals := 0 } : Room)) (PRE (dC, dI) cls [] [(h_mm, .inr (8, (mo111 v_mm (.int x_mm_tries) (.int x_mm_mostPath) (.int x_mm_cuts) (.int x_mm_extended))))] sz [.ref h_mm, .int p1]) (va_Qi (fun (r : Int32) (u : (Int32)) => True) (fun (u : (Int32)) (t : State) => va_P (dC, dI) cls [(h_mm, .inr (8, (mo112 v_mm (.int u) (.int x_mm_tries) (.int x_mm_mostPath) (.int x_mm_cuts) (.int x_mm_extended))))] t.heap ∧ va_D (va_A [(h_mm, .inr (8, (mo111 v_mm (.int x_mm_tries) (.int x_mm_mostPath) (.int x_mm_cuts) (.int x_mm_extended))))] sz) [(h_mm, .inr (8, (mo112 v_mm (.int u) (.int x_mm_tries) (.int x_mm_mostPath) (.int x_mm_cuts) (.int x_mm_extended))))]) (va_A [(h_mm, .inr (8, (mo111 v_mm (.int x_mm_tries) (.int x_mm_mostPath) (.int x_mm_cuts) (.int x_mm_extended))))] sz)) 0 0 (va_A [(h_mm, .inr (8, (mo111 v_mm (.int x_mm_tries) (.int x_mm_mostPath) (.int x_mm_cuts) (.int x_mm_extended))))] sz) := by
  refine Met.ofW (cc := cX11_tried) (maxL := 2) (ret := (some .int)) (by decide) rfl ?_
  intro p e s m args below meth c s₁ B hml hv
  obtain ⟨rfl, hsz, hP, hK, hD0, hN⟩ := hv
  have hx := B.exec
  have hb := B.bytes
  have hr := B.returns
  have hts := atoms_spec (ws := Ws yX11_tried cX11_tried 2 (some .int)) B.pre
  have hT : ∀ w ∈ WALL, w ∈ Ws yX11_tried cX11_tried 2 (some .int) := fun w h => List.mem_cons_of_mem _ h
  have hw := fun w (h : w ∈ WALL) => hts w (hT w h)
  have hown : s.vm.findClass RX11 = some m.cls := findClass_of_methodNamed B.named
  have hlocks := B.notSynchronized
  subst hsz
  have hD := hD0.self (sz := s.heap.size)
  generalize hAe : va_A [(h_mm, .inr (8, (mo111 v_mm (.int x_mm_tries) (.int x_mm_mostPath) (.int x_mm_cuts) (.int x_mm_extended))))] s.heap.size = A at hD ⊢
  have hA : ∀ q : Nat, s.heap.size ≤ q → A q := fun q h => by rw [← hAe]; exact Or.inr h
  have hS : va_S A s.heap s.heap [] := va_S.rf
  have hl := lv_entry ([.ref h_mm, .int p1]) (n := 2) (Nat.le_of_ble_eq_true rfl)
  rw [lg_entry_eq]
  generalize (lg_sl ([.ref h_mm, .int p1]) ++ List.replicate (2 - (lg_sl ([.ref h_mm, .int p1])).length) Slot.unset).toArray = ls at hl ⊢
  have hl : lv_has ls 2 [(0, .ref h_mm), (1, .int p1)] := hl
  refine lv_aload_n hx hb dX11_tried_0 rfl (lv_at hl 0 rfl) ?_
  refine lv_iconst (v := 0) hx hb dX11_tried_1 (by decide) ?_
  refine va_put (D := (dC, dI)) (ci := 8) (v := .int 0) (ty := tyX11 0) (C := RX11) (T := TX11) (N := 71) hx hb hw iwX11 tyX11 tyX11_ok nmX11 hown hK hP hD hS 0 rfl rfl 0 (by decide) (hw _ w_f_X11_1) (fun _ h9 => h9) rfl (tyX11_ok 0 (by decide)) rfl rfl (Nat.le_of_ble_eq_true rfl) dX11_tried_2 (fun H locs hP9 hD9 hS9 => ?_)
  clear hP hD hS
  have hP : va_P (dC, dI) cls [(h_mm, .inr (8, (mo112 v_mm (.int 0) (.int x_mm_tries) (.int x_mm_mostPath) (.int x_mm_cuts) (.int x_mm_extended))))] H := hP9
  have hD : va_D A [(h_mm, .inr (8, (mo112 v_mm (.int 0) (.int x_mm_tries) (.int x_mm_mostPath) (.int x_mm_cuts) (.int x_mm_extended))))] := hD9
  have hS := hS9
  clear hP9 hD9 hS9
  refine lv_iload_n hx hb dX11_tried_5 rfl (lv_at hl 1 rfl) ?_
  have s1 : (p1).toInt < 0 ∨ 2 < (p1).toInt ∨ (p1).toInt = 0 ∨ (p1).toInt = 1 ∨ (p1).toInt = 2 := by omega
  rcases s1 with s1 | s1 | s1 | s1 | s1
  · refine lv_tableOut (tgt := 47) hx hb dX11_tried_6 (Or.inl s1) (by decide) ?_
    refine lv_iload_n hx hb dX11_tried_47 rfl (lv_at hl 1 rfl) ?_
    refine lv_iconst (v := 3) hx hb dX11_tried_48 (by decide) ?_
    refine lv_icmp_ne (tgt := 59) hx hb dX11_tried_49 (by decide) (fun _ => ?_) (fun c2 => False.elim (by have kc2 := (cv_eq (rfl : (p1).toInt = (p1).toInt) (by decide : (3 : Int32).toInt = 3)).mp c2; omega))
    refine lv_iconst (v := (-1)) hx hb dX11_tried_59 (by decide) ?_
    refine W.widen (k := 0) (n := 0) (Nat.le_of_ble_eq_true rfl) (Nat.le_of_ble_eq_true rfl) ?_
    have cstm1 : ((-1) : Int32).toInt = -1 := by decide
    have cst0 : (0 : Int32).toInt = 0 := by decide
    exact W.iret (v := (-1)) hx hb hr (fun t ht hW => ⟨⟨(-1), 0, rfl, trivial, by rw [ht]; exact hP, hD⟩, hS.F ht⟩) hS.2.2 dX11_tried_60
  · refine lv_tableOut (tgt := 47) hx hb dX11_tried_6 (Or.inr s1) (by decide) ?_
    refine lv_iload_n hx hb dX11_tried_47 rfl (lv_at hl 1 rfl) ?_
    refine lv_iconst (v := 3) hx hb dX11_tried_48 (by decide) ?_
    refine lv_icmp_ne (tgt := 59) hx hb dX11_tried_49 (by decide) (fun c3 => ?_) (fun c3 => ?_)
    · have kc3 := (not_congr (cv_eq (rfl : (p1).toInt = (p1).toInt) (by decide : (3 : Int32).toInt = 3))).mp c3
      refine lv_iconst (v := (-1)) hx hb dX11_tried_59 (by decide) ?_
      refine W.widen (k := 0) (n := 0) (Nat.le_of_ble_eq_true rfl) (Nat.le_of_ble_eq_true rfl) ?_
      have cstm1 : ((-1) : Int32).toInt = -1 := by decide
      have cst0 : (0 : Int32).toInt = 0 := by decide
      exact W.iret (v := (-1)) hx hb hr (fun t ht hW => ⟨⟨(-1), 0, rfl, trivial, by rw [ht]; exact hP, hD⟩, hS.F ht⟩) hS.2.2 dX11_tried_60
    · have kc3 := (cv_eq (rfl : (p1).toInt = (p1).toInt) (by decide : (3 : Int32).toInt = 3)).mp c3
      refine lv_aload_n hx hb dX11_tried_52 rfl (lv_at hl 0 rfl) ?_
      refine va_get (D := (dC, dI)) (ci := 8) (v := .int x_mm_extended) (C := RX11) (T := TX11) (N := 71) hx hb hw iwX11 hown hK hP 0 rfl rfl 54 (by decide) (hw _ w_f_X11_407) (fun _ h9 => h9) rfl dX11_tried_53 ?_
      refine lv_goto (tgt := 60) hx hb dX11_tried_56 (by decide) ?_
      refine W.widen (k := 0) (n := 0) (Nat.le_of_ble_eq_true rfl) (Nat.le_of_ble_eq_true rfl) ?_
      have cst0 : (0 : Int32).toInt = 0 := by decide
      exact W.iret (v := x_mm_extended) hx hb hr (fun t ht hW => ⟨⟨x_mm_extended, 0, rfl, trivial, by rw [ht]; exact hP, hD⟩, hS.F ht⟩) hS.2.2 dX11_tried_60
  · refine lv_tableIn (off := 26) (tgt := 32) hx hb dX11_tried_6 (by omega) (by omega) (by rw [s1]; rfl) (by decide) ?_
    refine lv_aload_n hx hb dX11_tried_32 rfl (lv_at hl 0 rfl) ?_
    refine va_get (D := (dC, dI)) (ci := 8) (v := .int x_mm_tries) (C := RX11) (T := TX11) (N := 71) hx hb hw iwX11 hown hK hP 0 rfl rfl 51 (by decide) (hw _ w_f_X11_389) (fun _ h9 => h9) rfl dX11_tried_33 ?_
    refine W.widen (k := 0) (n := 0) (Nat.le_of_ble_eq_true rfl) (Nat.le_of_ble_eq_true rfl) ?_
    have cst0 : (0 : Int32).toInt = 0 := by decide
    exact W.iret (v := x_mm_tries) hx hb hr (fun t ht hW => ⟨⟨x_mm_tries, 0, rfl, trivial, by rw [ht]; exact hP, hD⟩, hS.F ht⟩) hS.2.2 dX11_tried_36
  · refine lv_tableIn (off := 31) (tgt := 37) hx hb dX11_tried_6 (by omega) (by omega) (by rw [s1]; rfl) (by decide) ?_
    refine lv_aload_n hx hb dX11_tried_37 rfl (lv_at hl 0 rfl) ?_
    refine va_get (D := (dC, dI)) (ci := 8) (v := .int x_mm_mostPath) (C := RX11) (T := TX11) (N := 71) hx hb hw iwX11 hown hK hP 0 rfl rfl 52 (by decide) (hw _ w_f_X11_345) (fun _ h9 => h9) rfl dX11_tried_38 ?_
    refine W.widen (k := 0) (n := 0) (Nat.le_of_ble_eq_true rfl) (Nat.le_of_ble_eq_true rfl) ?_
    have cst0 : (0 : Int32).toInt = 0 := by decide
    exact W.iret (v := x_mm_mostPath) hx hb hr (fun t ht hW => ⟨⟨x_mm_mostPath, 0, rfl, trivial, by rw [ht]; exact hP, hD⟩, hS.F ht⟩) hS.2.2 dX11_tried_41
  · refine lv_tableIn (off := 36) (tgt := 42) hx hb dX11_tried_6 (by omega) (by omega) (by rw [s1]; rfl) (by decide) ?_
    refine lv_aload_n hx hb dX11_tried_42 rfl (lv_at hl 0 rfl) ?_
    refine va_get (D := (dC, dI)) (ci := 8) (v := .int x_mm_cuts) (C := RX11) (T := TX11) (N := 71) hx hb hw iwX11 hown hK hP 0 rfl rfl 53 (by decide) (hw _ w_f_X11_357) (fun _ h9 => h9) rfl dX11_tried_43 ?_
    refine W.widen (k := 0) (n := 0) (Nat.le_of_ble_eq_true rfl) (Nat.le_of_ble_eq_true rfl) ?_
    have cst0 : (0 : Int32).toInt = 0 := by decide
    exact W.iret (v := x_mm_cuts) hx hb hr (fun t ht hW => ⟨⟨x_mm_cuts, 0, rfl, trivial, by rw [ht]; exact hP, hD⟩, hS.F ht⟩) hS.2.2 dX11_tried_46

set_option maxHeartbeats 8000000 in
set_option maxRecDepth 100000 in
theorem c_X11_step_ (l : Launch) (dC : Nat → ClassId) (dI : Nat → Nat → Nat) (sz : Nat) (h_mm : Nat) (h_sts : Nat) (v_mm : Nat → Value) (x_mm_stepMany : Int32) (x_mm_isProof : Int32) (cy_sts : ClassId) (f_sts : Nat → Int32) (p1 : Int32) (p2 : Int32) (hx_mm_stepMany : 0 ≤ (x_mm_stepMany).toInt ∧ (x_mm_stepMany).toInt ≤ 999) (hx_mm_isProof : 0 ≤ (x_mm_isProof).toInt ∧ (x_mm_isProof).toInt ≤ 1) : Met l yX11_step_ (Ws yX11_step_ cX11_step_ 3 (some .int)) (({ frames := 1, cells := 0, slots := 0, locals := 26 } : Room)) (PRE (dC, dI) cls [(cy_sts, .int)] [(h_mm, .inr (8, (mo113 v_mm (.ref h_sts) (.int x_mm_stepMany) (.int x_mm_isProof)))), (h_sts, .inl (cy_sts, 6000, .inl f_sts))] sz [.ref h_mm, .int p1, .int p2]) (va_Qi (fun (r : Int32) (u : (Int32)) => True) (fun (u : (Int32)) (t : State) => va_P (dC, dI) cls [(h_mm, .inr (8, (mo114 v_mm (.int u) (.ref h_sts) (.int x_mm_stepMany) (.int x_mm_isProof)))), (h_sts, .inl (cy_sts, 6000, .inl f_sts))] t.heap ∧ va_D (va_A [(h_mm, .inr (8, (mo113 v_mm (.ref h_sts) (.int x_mm_stepMany) (.int x_mm_isProof)))), (h_sts, .inl (cy_sts, 6000, .inl f_sts))] sz) [(h_mm, .inr (8, (mo114 v_mm (.int u) (.ref h_sts) (.int x_mm_stepMany) (.int x_mm_isProof)))), (h_sts, .inl (cy_sts, 6000, .inl f_sts))]) (va_A [(h_mm, .inr (8, (mo113 v_mm (.ref h_sts) (.int x_mm_stepMany) (.int x_mm_isProof)))), (h_sts, .inl (cy_sts, 6000, .inl f_sts))] sz)) 0 0 (va_A [(h_mm, .inr (8, (mo113 v_mm (.ref h_sts) (.int x_mm_stepMany) (.int x_mm_isProof)))), (h_sts, .inl (cy_sts, 6000, .inl f_sts))] sz) := by
  refine Met.ofW (cc := cX11_step_) (maxL := 3) (ret := (some .int)) (by decide) rfl ?_
  intro p e s m args below meth c s₁ B hml hv
  obtain ⟨rfl, hsz, hP, hK, hD0, hN⟩ := hv
  have hx := B.exec
  have hb := B.bytes
  have hr := B.returns
  have hts := atoms_spec (ws := Ws yX11_step_ cX11_step_ 3 (some .int)) B.pre
  have hT : ∀ w ∈ WALL, w ∈ Ws yX11_step_ cX11_step_ 3 (some .int) := fun w h => List.mem_cons_of_mem _ h
  have hw := fun w (h : w ∈ WALL) => hts w (hT w h)
  have hown : s.vm.findClass RX11 = some m.cls := findClass_of_methodNamed B.named
  have hlocks := B.notSynchronized
  subst hsz
  have hD := hD0.self (sz := s.heap.size)
  generalize hAe : va_A [(h_mm, .inr (8, (mo113 v_mm (.ref h_sts) (.int x_mm_stepMany) (.int x_mm_isProof)))), (h_sts, .inl (cy_sts, 6000, .inl f_sts))] s.heap.size = A at hD ⊢
  have hA : ∀ q : Nat, s.heap.size ≤ q → A q := fun q h => by rw [← hAe]; exact Or.inr h
  have hS : va_S A s.heap s.heap [] := va_S.rf
  have hl := lv_entry ([.ref h_mm, .int p1, .int p2]) (n := 3) (Nat.le_of_ble_eq_true rfl)
  rw [lg_entry_eq]
  generalize (lg_sl ([.ref h_mm, .int p1, .int p2]) ++ List.replicate (3 - (lg_sl ([.ref h_mm, .int p1, .int p2])).length) Slot.unset).toArray = ls at hl ⊢
  have hl : lv_has ls 3 [(0, .ref h_mm), (1, .int p1), (2, .int p2)] := hl
  refine lv_aload_n hx hb dX11_step__0 rfl (lv_at hl 0 rfl) ?_
  refine lv_iconst (v := 0) hx hb dX11_step__1 (by decide) ?_
  refine va_put (D := (dC, dI)) (ci := 8) (v := .int 0) (ty := tyX11 0) (C := RX11) (T := TX11) (N := 71) hx hb hw iwX11 tyX11 tyX11_ok nmX11 hown hK hP hD hS 0 rfl rfl 0 (by decide) (hw _ w_f_X11_1) (fun _ h9 => h9) rfl (tyX11_ok 0 (by decide)) rfl rfl (Nat.le_of_ble_eq_true rfl) dX11_step__2 (fun H locs hP9 hD9 hS9 => ?_)
  clear hP hD hS
  have hP : va_P (dC, dI) cls [(h_mm, .inr (8, (mo114 v_mm (.int 0) (.ref h_sts) (.int x_mm_stepMany) (.int x_mm_isProof)))), (h_sts, .inl (cy_sts, 6000, .inl f_sts))] H := hP9
  have hD : va_D A [(h_mm, .inr (8, (mo114 v_mm (.int 0) (.ref h_sts) (.int x_mm_stepMany) (.int x_mm_isProof)))), (h_sts, .inl (cy_sts, 6000, .inl f_sts))] := hD9
  have hS := hS9
  clear hP9 hD9 hS9
  refine lv_aload_n hx hb dX11_step__5 rfl (lv_at hl 0 rfl) ?_
  refine va_get (D := (dC, dI)) (ci := 8) (v := .int x_mm_isProof) (C := RX11) (T := TX11) (N := 71) hx hb hw iwX11 hown hK hP 0 rfl rfl 58 (by decide) (hw _ w_f_X11_410) (fun _ h9 => h9) rfl dX11_step__6 ?_
  refine lv_if_ne (tgt := 14) hx hb dX11_step__9 (by decide) (fun c1 => ?_) (fun c1 => ?_)
  · have kc1 := (not_congr (cv_eq (rfl : (x_mm_isProof).toInt = (x_mm_isProof).toInt) (by decide : (0 : Int32).toInt = 0))).mp c1
    refine lv_iload_n hx hb dX11_step__14 rfl (lv_at hl 1 rfl) ?_
    refine lv_iconst (v := (-1)) hx hb dX11_step__15 (by decide) ?_
    refine lv_icmp_ne (tgt := 24) hx hb dX11_step__16 (by decide) (fun c2 => ?_) (fun c2 => ?_)
    · have kc2 := (not_congr (cv_eq (rfl : (p1).toInt = (p1).toInt) (by decide : ((-1) : Int32).toInt = -1))).mp c2
      refine lv_aload_n hx hb dX11_step__24 rfl (lv_at hl 0 rfl) ?_
      refine lv_iload_n hx hb dX11_step__25 rfl (lv_at hl 1 rfl) ?_
      refine lv_i2l hx hb dX11_step__26 rfl ?_
      refine lv_topl (fun z3 ez3 => ?_)
      have tz3 : (z3).toInt = (p1).toInt := by rw [ez3]; exact Int32.toInt_toInt64 _
      have bz3 := i_bd p1
      refine lv_lconst (v := 0) hx hb dX11_step__27 (by decide) ?_
      refine lv_aload_n hx hb dX11_step__28 rfl (lv_at hl 0 rfl) ?_
      refine va_get (D := (dC, dI)) (ci := 8) (v := .int x_mm_stepMany) (C := RX11) (T := TX11) (N := 71) hx hb hw iwX11 hown hK hP 0 rfl rfl 56 (by decide) (hw _ w_f_X11_338) (fun _ h9 => h9) rfl dX11_step__29 ?_
      refine lv_i2l hx hb dX11_step__32 rfl ?_
      refine lv_topl (fun z4 ez4 => ?_)
      have tz4 : (z4).toInt = (x_mm_stepMany).toInt := by rw [ez4]; exact Int32.toInt_toInt64 _
      have bz4 := i_bd x_mm_stepMany
      refine lv_lconst (v := 1) hx hb dX11_step__33 (by decide) ?_
      refine lv_lsub hx hb dX11_step__34 ?_
      refine lv_topl (fun z5 ez5 => ?_)
      have tz5 : (z5).toInt = (z4).toInt - 1 := by rw [ez5]; exact l_sub rfl (by decide) (by omega)
      have : (0 : Int64).toInt = 0 := by decide
      have hPc := hP.sub (ws' := []) [] rfl
      have hDc := hD.sub (ws' := []) [] (by decide) rfl
      have hKc := hK.sub (tys' := []) [] rfl
      have hFc := va_free (wc := []) hD hS hA [] rfl
      refine va_calli (va_runV (As := [.long z3, .long 0, .long z5]) (rest := []) ⟨hx, hb, hml, hown, hts⟩ (c_X11_isIn l dC dI H.size h_mm z3 0 z5) (cwV 3 hts (gv hT w_m_X11_49 w_instanceMethod_X11_isIn ws_sel_X11_isIn w_ini_X11 w_code_X11_isIn) rfl rfl rfl (by decide +kernel) ⟨(Nat.le_of_ble_eq_true rfl), (Nat.le_of_ble_eq_true rfl)⟩) ⟨pre_blind, va_recv hK hP (ci := 8) (q0 := 0) rfl rfl, pre_of hPc hKc hDc hN⟩ rfl rfl hl.1 rfl (lv_room (Nat.le_of_ble_eq_true rfl)) dX11_step__35 ⟨(Nat.le_of_ble_eq_true rfl), (Nat.le_of_ble_eq_true rfl)⟩) hS (fun q _ h => hFc q h) hFc (fun r6 u t H locs ht hvm hq hB hz1 hk1 hS9 => ?_)
      obtain ⟨hP1, hD1⟩ := hB
      rw [ht] at hP1
      obtain ⟨hP9, hD9⟩ := va_join (wr := [(h_mm, .inr (8, (mo114 v_mm (.int 0) (.ref h_sts) (.int x_mm_stepMany) (.int x_mm_isProof)))), (h_sts, .inl (cy_sts, 6000, .inl f_sts))]) (w1 := []) hP hD [] [0, 1] rfl rfl (by decide) (by decide) hk1 hFc hP1 hD1
      clear hP hD hS hPc hDc hKc hFc hP1 hD1 hk1 hz1 ht hvm
      have hP : va_P (dC, dI) cls [(h_mm, .inr (8, (mo114 v_mm (.int 0) (.ref h_sts) (.int x_mm_stepMany) (.int x_mm_isProof)))), (h_sts, .inl (cy_sts, 6000, .inl f_sts))] H := hP9
      have hD : va_D A [(h_mm, .inr (8, (mo114 v_mm (.int 0) (.ref h_sts) (.int x_mm_stepMany) (.int x_mm_isProof)))), (h_sts, .inl (cy_sts, 6000, .inl f_sts))] := hD9
      have hS := hS9
      clear hP9 hD9 hS9
      rcases hq with ⟨rfl, hq⟩ | ⟨rfl, hq⟩
      · replace hq : (((0 : Int64)).toInt ≤ ((z3)).toInt) ∧ (((z3)).toInt ≤ ((z5)).toInt) := hq
        refine lv_if_eq (tgt := 68) hx hb dX11_step__38 (by decide) (fun c9 => absurd c9 (by decide)) (fun _ => ?_)
        refine lv_aload_n hx hb dX11_step__41 rfl (lv_at hl 0 rfl) ?_
        refine lv_iload_n hx hb dX11_step__42 rfl (lv_at hl 2 rfl) ?_
        refine lv_i2l hx hb dX11_step__43 rfl ?_
        refine lv_topl (fun z7 ez7 => ?_)
        have tz7 : (z7).toInt = (p2).toInt := by rw [ez7]; exact Int32.toInt_toInt64 _
        have bz7 := i_bd p2
        refine lv_lconst (v := 0) hx hb dX11_step__44 (by decide) ?_
        refine lv_ldc2 (v := 5) hx hb hown (hw _ w_cl_X11_438) dX11_step__45 ?_
        have : (0 : Int64).toInt = 0 := by decide
        have : (5 : Int64).toInt = 5 := by decide
        have hPc := hP.sub (ws' := []) [] rfl
        have hDc := hD.sub (ws' := []) [] (by decide) rfl
        have hKc := hK.sub (tys' := []) [] rfl
        have hFc := va_free (wc := []) hD hS hA [] rfl
        refine va_calli (va_runV (As := [.long z7, .long 0, .long 5]) (rest := []) ⟨hx, hb, hml, hown, hts⟩ (c_X11_isIn l dC dI H.size h_mm z7 0 5) (cwV 3 hts (gv hT w_m_X11_49 w_instanceMethod_X11_isIn ws_sel_X11_isIn w_ini_X11 w_code_X11_isIn) rfl rfl rfl (by decide +kernel) ⟨(Nat.le_of_ble_eq_true rfl), (Nat.le_of_ble_eq_true rfl)⟩) ⟨pre_blind, va_recv hK hP (ci := 8) (q0 := 0) rfl rfl, pre_of hPc hKc hDc hN⟩ rfl rfl hl.1 rfl (lv_room (Nat.le_of_ble_eq_true rfl)) dX11_step__48 ⟨(Nat.le_of_ble_eq_true rfl), (Nat.le_of_ble_eq_true rfl)⟩) hS (fun q _ h => hFc q h) hFc (fun r8 u t H locs ht hvm hq hB hz1 hk1 hS9 => ?_)
        obtain ⟨hP1, hD1⟩ := hB
        rw [ht] at hP1
        obtain ⟨hP9, hD9⟩ := va_join (wr := [(h_mm, .inr (8, (mo114 v_mm (.int 0) (.ref h_sts) (.int x_mm_stepMany) (.int x_mm_isProof)))), (h_sts, .inl (cy_sts, 6000, .inl f_sts))]) (w1 := []) hP hD [] [0, 1] rfl rfl (by decide) (by decide) hk1 hFc hP1 hD1
        clear hP hD hS hPc hDc hKc hFc hP1 hD1 hk1 hz1 ht hvm
        have hP : va_P (dC, dI) cls [(h_mm, .inr (8, (mo114 v_mm (.int 0) (.ref h_sts) (.int x_mm_stepMany) (.int x_mm_isProof)))), (h_sts, .inl (cy_sts, 6000, .inl f_sts))] H := hP9
        have hD : va_D A [(h_mm, .inr (8, (mo114 v_mm (.int 0) (.ref h_sts) (.int x_mm_stepMany) (.int x_mm_isProof)))), (h_sts, .inl (cy_sts, 6000, .inl f_sts))] := hD9
        have hS := hS9
        clear hP9 hD9 hS9
        rcases hq with ⟨rfl, hq⟩ | ⟨rfl, hq⟩
        · replace hq : (((0 : Int64)).toInt ≤ ((z7)).toInt) ∧ (((z7)).toInt ≤ ((5 : Int64)).toInt) := hq
          refine lv_if_eq (tgt := 68) hx hb dX11_step__51 (by decide) (fun c9 => absurd c9 (by decide)) (fun _ => ?_)
          refine lv_aload_n hx hb dX11_step__54 rfl (lv_at hl 0 rfl) ?_
          refine va_get (D := (dC, dI)) (ci := 8) (v := .ref h_sts) (C := RX11) (T := TX11) (N := 71) hx hb hw iwX11 hown hK hP 0 rfl rfl 55 (by decide) (hw _ w_f_X11_237) (fun _ h9 => h9) rfl dX11_step__55 ?_
          refine lv_bipush (v := 6) hx hb dX11_step__58 (by decide) ?_
          refine lv_iload_n hx hb dX11_step__60 rfl (lv_at hl 1 rfl) ?_
          refine lv_imul hx hb dX11_step__61 ?_
          refine lv_topi (fun z9 ez9 => ?_)
          have tz9 : (z9).toInt = 6 * (p1).toInt := by rw [ez9]; exact i_mul (by decide) rfl (by omega)
          refine lv_iload_n hx hb dX11_step__62 rfl (lv_at hl 2 rfl) ?_
          refine lv_iadd hx hb dX11_step__63 ?_
          refine lv_topi (fun z10 ez10 => ?_)
          have tz10 : (z10).toInt = (z9).toInt + (p2).toInt := by rw [ez10]; exact i_add rfl rfl (by omega)
          refine va_iald hx hb hK hP 1 0 rfl rfl (i := z10) (vp_in_iff.mpr (by omega)) dX11_step__64 ?_
          refine lv_topi (fun z11 ez11 => ?_)
          refine lv_goto (tgt := 69) hx hb dX11_step__65 (by decide) ?_
          refine W.widen (k := 0) (n := 0) (Nat.le_of_ble_eq_true rfl) (Nat.le_of_ble_eq_true rfl) ?_
          have cst0 : (0 : Int32).toInt = 0 := by decide
          exact W.iret (v := z11) hx hb hr (fun t ht hW => ⟨⟨z11, 0, rfl, trivial, by rw [ht]; exact hP, hD⟩, hS.F ht⟩) hS.2.2 dX11_step__69
        · replace hq : (((z7)).toInt < ((0 : Int64)).toInt ∨ ((5 : Int64)).toInt < ((z7)).toInt) := hq
          refine lv_if_eq (tgt := 68) hx hb dX11_step__51 (by decide) (fun _ => ?_) (fun c9 => absurd c9 (by decide))
          refine lv_iconst (v := (-1)) hx hb dX11_step__68 (by decide) ?_
          refine W.widen (k := 0) (n := 0) (Nat.le_of_ble_eq_true rfl) (Nat.le_of_ble_eq_true rfl) ?_
          have cstm1 : ((-1) : Int32).toInt = -1 := by decide
          have cst0 : (0 : Int32).toInt = 0 := by decide
          exact W.iret (v := (-1)) hx hb hr (fun t ht hW => ⟨⟨(-1), 0, rfl, trivial, by rw [ht]; exact hP, hD⟩, hS.F ht⟩) hS.2.2 dX11_step__69
      · replace hq : (((z3)).toInt < ((0 : Int64)).toInt ∨ ((z5)).toInt < ((z3)).toInt) := hq
        refine lv_if_eq (tgt := 68) hx hb dX11_step__38 (by decide) (fun _ => ?_) (fun c9 => absurd c9 (by decide))
        refine lv_iconst (v := (-1)) hx hb dX11_step__68 (by decide) ?_
        refine W.widen (k := 0) (n := 0) (Nat.le_of_ble_eq_true rfl) (Nat.le_of_ble_eq_true rfl) ?_
        have cstm1 : ((-1) : Int32).toInt = -1 := by decide
        have cst0 : (0 : Int32).toInt = 0 := by decide
        exact W.iret (v := (-1)) hx hb hr (fun t ht hW => ⟨⟨(-1), 0, rfl, trivial, by rw [ht]; exact hP, hD⟩, hS.F ht⟩) hS.2.2 dX11_step__69
    · have kc2 := (cv_eq (rfl : (p1).toInt = (p1).toInt) (by decide : ((-1) : Int32).toInt = -1)).mp c2
      refine lv_aload_n hx hb dX11_step__19 rfl (lv_at hl 0 rfl) ?_
      refine va_get (D := (dC, dI)) (ci := 8) (v := .int x_mm_stepMany) (C := RX11) (T := TX11) (N := 71) hx hb hw iwX11 hown hK hP 0 rfl rfl 56 (by decide) (hw _ w_f_X11_338) (fun _ h9 => h9) rfl dX11_step__20 ?_
      refine W.widen (k := 0) (n := 0) (Nat.le_of_ble_eq_true rfl) (Nat.le_of_ble_eq_true rfl) ?_
      have cst0 : (0 : Int32).toInt = 0 := by decide
      exact W.iret (v := x_mm_stepMany) hx hb hr (fun t ht hW => ⟨⟨x_mm_stepMany, 0, rfl, trivial, by rw [ht]; exact hP, hD⟩, hS.F ht⟩) hS.2.2 dX11_step__23
  · have kc1 := (cv_eq (rfl : (x_mm_isProof).toInt = (x_mm_isProof).toInt) (by decide : (0 : Int32).toInt = 0)).mp c1
    refine lv_iconst (v := (-1)) hx hb dX11_step__12 (by decide) ?_
    refine W.widen (k := 0) (n := 0) (Nat.le_of_ble_eq_true rfl) (Nat.le_of_ble_eq_true rfl) ?_
    have cstm1 : ((-1) : Int32).toInt = -1 := by decide
    have cst0 : (0 : Int32).toInt = 0 := by decide
    exact W.iret (v := (-1)) hx hb hr (fun t ht hW => ⟨⟨(-1), 0, rfl, trivial, by rw [ht]; exact hP, hD⟩, hS.F ht⟩) hS.2.2 dX11_step__13

set_option maxHeartbeats 8000000 in
set_option maxRecDepth 100000 in
theorem c_X11_isInstance (l : Launch) (dC : Nat → ClassId) (dI : Nat → Nat → Nat) (sz : Nat) (h_mm : Nat) (v_mm : Nat → Value) (x_mm_instances : Int32) (x_mm_isProof : Int32) (p1 : Int32) (hx_mm_instances : 0 ≤ (x_mm_instances).toInt ∧ (x_mm_instances).toInt ≤ 30) (hx_mm_isProof : 0 ≤ (x_mm_isProof).toInt ∧ (x_mm_isProof).toInt ≤ 1) : Met l yX11_isInstance (Ws yX11_isInstance cX11_isInstance 2 (some .boolean)) (({ frames := 1, cells := 0, slots := 0, locals := 26 } : Room)) (PRE (dC, dI) cls [] [(h_mm, .inr (8, (mo115 v_mm (.int x_mm_instances) (.int x_mm_isProof))))] sz [.ref h_mm, .int p1]) (va_Qi (fun (r : Int32) (_ : Unit) => ((r = 1 ∧ (0 ≤ (p1).toInt) ∧ ((p1).toInt < (x_mm_instances).toInt) ∧ ((x_mm_isProof).toInt = 1)) ∨ (r = 0))) (fun (_ : Unit) (t : State) => va_P (dC, dI) cls [(h_mm, .inr (8, (mo115 v_mm (.int x_mm_instances) (.int x_mm_isProof))))] t.heap ∧ va_D (va_A [(h_mm, .inr (8, (mo115 v_mm (.int x_mm_instances) (.int x_mm_isProof))))] sz) [(h_mm, .inr (8, (mo115 v_mm (.int x_mm_instances) (.int x_mm_isProof))))]) (va_A [(h_mm, .inr (8, (mo115 v_mm (.int x_mm_instances) (.int x_mm_isProof))))] sz)) 0 0 (va_A [(h_mm, .inr (8, (mo115 v_mm (.int x_mm_instances) (.int x_mm_isProof))))] sz) := by
  refine Met.ofW (cc := cX11_isInstance) (maxL := 2) (ret := (some .boolean)) (by decide) rfl ?_
  intro p e s m args below meth c s₁ B hml hv
  obtain ⟨rfl, hsz, hP, hK, hD0, hN⟩ := hv
  have hx := B.exec
  have hb := B.bytes
  have hr := B.returns
  have hts := atoms_spec (ws := Ws yX11_isInstance cX11_isInstance 2 (some .boolean)) B.pre
  have hT : ∀ w ∈ WALL, w ∈ Ws yX11_isInstance cX11_isInstance 2 (some .boolean) := fun w h => List.mem_cons_of_mem _ h
  have hw := fun w (h : w ∈ WALL) => hts w (hT w h)
  have hown : s.vm.findClass RX11 = some m.cls := findClass_of_methodNamed B.named
  have hlocks := B.notSynchronized
  subst hsz
  have hD := hD0.self (sz := s.heap.size)
  generalize hAe : va_A [(h_mm, .inr (8, (mo115 v_mm (.int x_mm_instances) (.int x_mm_isProof))))] s.heap.size = A at hD ⊢
  have hA : ∀ q : Nat, s.heap.size ≤ q → A q := fun q h => by rw [← hAe]; exact Or.inr h
  have hS : va_S A s.heap s.heap [] := va_S.rf
  have hl := lv_entry ([.ref h_mm, .int p1]) (n := 2) (Nat.le_of_ble_eq_true rfl)
  rw [lg_entry_eq]
  generalize (lg_sl ([.ref h_mm, .int p1]) ++ List.replicate (2 - (lg_sl ([.ref h_mm, .int p1])).length) Slot.unset).toArray = ls at hl ⊢
  have hl : lv_has ls 2 [(0, .ref h_mm), (1, .int p1)] := hl
  refine lv_aload_n hx hb dX11_isInstance_0 rfl (lv_at hl 0 rfl) ?_
  refine va_get (D := (dC, dI)) (ci := 8) (v := .int x_mm_isProof) (C := RX11) (T := TX11) (N := 71) hx hb hw iwX11 hown hK hP 0 rfl rfl 58 (by decide) (hw _ w_f_X11_410) (fun _ h9 => h9) rfl dX11_isInstance_1 ?_
  refine lv_if_eq (tgt := 28) hx hb dX11_isInstance_4 (by decide) (fun c1 => ?_) (fun c1 => ?_)
  · have kc1 := (cv_eq (rfl : (x_mm_isProof).toInt = (x_mm_isProof).toInt) (by decide : (0 : Int32).toInt = 0)).mp c1
    refine lv_iconst (v := 0) hx hb dX11_isInstance_28 (by decide) ?_
    refine W.widen (k := 0) (n := 0) (Nat.le_of_ble_eq_true rfl) (Nat.le_of_ble_eq_true rfl) ?_
    have cst0 : (0 : Int32).toInt = 0 := by decide
    exact W.zret (v := 0) (ty := .boolean) hx hb hr (by decide) (fun t ht hW => ⟨⟨0, (), rfl, (Or.inr (rfl)), by rw [ht]; exact hP, hD⟩, hS.F ht⟩) hS.2.2 dX11_isInstance_29
  · have kc1 := (not_congr (cv_eq (rfl : (x_mm_isProof).toInt = (x_mm_isProof).toInt) (by decide : (0 : Int32).toInt = 0))).mp c1
    refine lv_aload_n hx hb dX11_isInstance_7 rfl (lv_at hl 0 rfl) ?_
    refine lv_iload_n hx hb dX11_isInstance_8 rfl (lv_at hl 1 rfl) ?_
    refine lv_i2l hx hb dX11_isInstance_9 rfl ?_
    refine lv_topl (fun z3 ez3 => ?_)
    have tz3 : (z3).toInt = (p1).toInt := by rw [ez3]; exact Int32.toInt_toInt64 _
    have bz3 := i_bd p1
    refine lv_lconst (v := 0) hx hb dX11_isInstance_10 (by decide) ?_
    refine lv_aload_n hx hb dX11_isInstance_11 rfl (lv_at hl 0 rfl) ?_
    refine va_get (D := (dC, dI)) (ci := 8) (v := .int x_mm_instances) (C := RX11) (T := TX11) (N := 71) hx hb hw iwX11 hown hK hP 0 rfl rfl 36 (by decide) (hw _ w_f_X11_397) (fun _ h9 => h9) rfl dX11_isInstance_12 ?_
    refine lv_i2l hx hb dX11_isInstance_15 rfl ?_
    refine lv_topl (fun z4 ez4 => ?_)
    have tz4 : (z4).toInt = (x_mm_instances).toInt := by rw [ez4]; exact Int32.toInt_toInt64 _
    have bz4 := i_bd x_mm_instances
    refine lv_lconst (v := 1) hx hb dX11_isInstance_16 (by decide) ?_
    refine lv_lsub hx hb dX11_isInstance_17 ?_
    refine lv_topl (fun z5 ez5 => ?_)
    have tz5 : (z5).toInt = (z4).toInt - 1 := by rw [ez5]; exact l_sub rfl (by decide) (by omega)
    have : (0 : Int64).toInt = 0 := by decide
    have hPc := hP.sub (ws' := []) [] rfl
    have hDc := hD.sub (ws' := []) [] (by decide) rfl
    have hKc := hK.sub (tys' := []) [] rfl
    have hFc := va_free (wc := []) hD hS hA [] rfl
    refine va_calli (va_runV (As := [.long z3, .long 0, .long z5]) (rest := []) ⟨hx, hb, hml, hown, hts⟩ (c_X11_isIn l dC dI s.heap.size h_mm z3 0 z5) (cwV 3 hts (gv hT w_m_X11_49 w_instanceMethod_X11_isIn ws_sel_X11_isIn w_ini_X11 w_code_X11_isIn) rfl rfl rfl (by decide +kernel) ⟨(Nat.le_of_ble_eq_true rfl), (Nat.le_of_ble_eq_true rfl)⟩) ⟨pre_blind, va_recv hK hP (ci := 8) (q0 := 0) rfl rfl, pre_of hPc hKc hDc hN⟩ rfl rfl hl.1 rfl (lv_room (Nat.le_of_ble_eq_true rfl)) dX11_isInstance_18 ⟨(Nat.le_of_ble_eq_true rfl), (Nat.le_of_ble_eq_true rfl)⟩) hS (fun q _ h => hFc q h) hFc (fun r6 u t H locs ht hvm hq hB hz1 hk1 hS9 => ?_)
    obtain ⟨hP1, hD1⟩ := hB
    rw [ht] at hP1
    obtain ⟨hP9, hD9⟩ := va_join (wr := [(h_mm, .inr (8, (mo115 v_mm (.int x_mm_instances) (.int x_mm_isProof))))]) (w1 := []) hP hD [] [0] rfl rfl (by decide) (by decide) hk1 hFc hP1 hD1
    clear hP hD hS hPc hDc hKc hFc hP1 hD1 hk1 hz1 ht hvm
    have hP : va_P (dC, dI) cls [(h_mm, .inr (8, (mo115 v_mm (.int x_mm_instances) (.int x_mm_isProof))))] H := hP9
    have hD : va_D A [(h_mm, .inr (8, (mo115 v_mm (.int x_mm_instances) (.int x_mm_isProof))))] := hD9
    have hS := hS9
    clear hP9 hD9 hS9
    rcases hq with ⟨rfl, hq⟩ | ⟨rfl, hq⟩
    · replace hq : (((0 : Int64)).toInt ≤ ((z3)).toInt) ∧ (((z3)).toInt ≤ ((z5)).toInt) := hq
      refine lv_if_eq (tgt := 28) hx hb dX11_isInstance_21 (by decide) (fun c9 => absurd c9 (by decide)) (fun _ => ?_)
      refine lv_iconst (v := 1) hx hb dX11_isInstance_24 (by decide) ?_
      refine lv_goto (tgt := 29) hx hb dX11_isInstance_25 (by decide) ?_
      refine W.widen (k := 0) (n := 0) (Nat.le_of_ble_eq_true rfl) (Nat.le_of_ble_eq_true rfl) ?_
      have cst1 : (1 : Int32).toInt = 1 := by decide
      have : 0 ≤ (p1).toInt := by omega
      have : (p1).toInt < (x_mm_instances).toInt := by omega
      have : (x_mm_isProof).toInt = 1 := by omega
      exact W.zret (v := 1) (ty := .boolean) hx hb hr (by decide) (fun t ht hW => ⟨⟨1, (), rfl, (Or.inl (⟨rfl, by assumption, by assumption, by assumption⟩)), by rw [ht]; exact hP, hD⟩, hS.F ht⟩) hS.2.2 dX11_isInstance_29
    · replace hq : (((z3)).toInt < ((0 : Int64)).toInt ∨ ((z5)).toInt < ((z3)).toInt) := hq
      refine lv_if_eq (tgt := 28) hx hb dX11_isInstance_21 (by decide) (fun _ => ?_) (fun c9 => absurd c9 (by decide))
      refine lv_iconst (v := 0) hx hb dX11_isInstance_28 (by decide) ?_
      refine W.widen (k := 0) (n := 0) (Nat.le_of_ble_eq_true rfl) (Nat.le_of_ble_eq_true rfl) ?_
      have cst0 : (0 : Int32).toInt = 0 := by decide
      exact W.zret (v := 0) (ty := .boolean) hx hb hr (by decide) (fun t ht hW => ⟨⟨0, (), rfl, (Or.inr (rfl)), by rw [ht]; exact hP, hD⟩, hS.F ht⟩) hS.2.2 dX11_isInstance_29

set_option maxHeartbeats 8000000 in
set_option maxRecDepth 100000 in
theorem c_X11_instance (l : Launch) (dC : Nat → ClassId) (dI : Nat → Nat → Nat) (sz : Nat) (h_mm : Nat) (h_cof : Nat) (v_mm : Nat → Value) (x_mm_instances : Int32) (x_mm_isProof : Int32) (cy_cof : ClassId) (f_cof : Nat → Int32) (p1 : Int32) (hx_mm_instances : 0 ≤ (x_mm_instances).toInt ∧ (x_mm_instances).toInt ≤ 30) (hx_mm_isProof : 0 ≤ (x_mm_isProof).toInt ∧ (x_mm_isProof).toInt ≤ 1) (hf_cof : Rg 0 15 f_cof) : Met l yX11_instance (Ws yX11_instance cX11_instance 2 (some .int)) (({ frames := 2, cells := 0, slots := 0, locals := 47 } : Room)) (PRE (dC, dI) cls [(cy_cof, .int)] [(h_mm, .inr (8, (mo116 v_mm (.int x_mm_instances) (.ref h_cof) (.int x_mm_isProof)))), (h_cof, .inl (cy_cof, 31, .inl f_cof))] sz [.ref h_mm, .int p1]) (va_Qi (fun (r : Int32) (u : (Int32)) => True) (fun (u : (Int32)) (t : State) => va_P (dC, dI) cls [(h_mm, .inr (8, (mo117 v_mm (.int u) (.int x_mm_instances) (.ref h_cof) (.int x_mm_isProof)))), (h_cof, .inl (cy_cof, 31, .inl f_cof))] t.heap ∧ va_D (va_A [(h_mm, .inr (8, (mo116 v_mm (.int x_mm_instances) (.ref h_cof) (.int x_mm_isProof)))), (h_cof, .inl (cy_cof, 31, .inl f_cof))] sz) [(h_mm, .inr (8, (mo117 v_mm (.int u) (.int x_mm_instances) (.ref h_cof) (.int x_mm_isProof)))), (h_cof, .inl (cy_cof, 31, .inl f_cof))]) (va_A [(h_mm, .inr (8, (mo116 v_mm (.int x_mm_instances) (.ref h_cof) (.int x_mm_isProof)))), (h_cof, .inl (cy_cof, 31, .inl f_cof))] sz)) 0 0 (va_A [(h_mm, .inr (8, (mo116 v_mm (.int x_mm_instances) (.ref h_cof) (.int x_mm_isProof)))), (h_cof, .inl (cy_cof, 31, .inl f_cof))] sz) := by
  refine Met.ofW (cc := cX11_instance) (maxL := 2) (ret := (some .int)) (by decide) rfl ?_
  intro p e s m args below meth c s₁ B hml hv
  obtain ⟨rfl, hsz, hP, hK, hD0, hN⟩ := hv
  have hx := B.exec
  have hb := B.bytes
  have hr := B.returns
  have hts := atoms_spec (ws := Ws yX11_instance cX11_instance 2 (some .int)) B.pre
  have hT : ∀ w ∈ WALL, w ∈ Ws yX11_instance cX11_instance 2 (some .int) := fun w h => List.mem_cons_of_mem _ h
  have hw := fun w (h : w ∈ WALL) => hts w (hT w h)
  have hown : s.vm.findClass RX11 = some m.cls := findClass_of_methodNamed B.named
  have hlocks := B.notSynchronized
  subst hsz
  have hD := hD0.self (sz := s.heap.size)
  generalize hAe : va_A [(h_mm, .inr (8, (mo116 v_mm (.int x_mm_instances) (.ref h_cof) (.int x_mm_isProof)))), (h_cof, .inl (cy_cof, 31, .inl f_cof))] s.heap.size = A at hD ⊢
  have hA : ∀ q : Nat, s.heap.size ≤ q → A q := fun q h => by rw [← hAe]; exact Or.inr h
  have hS : va_S A s.heap s.heap [] := va_S.rf
  have hl := lv_entry ([.ref h_mm, .int p1]) (n := 2) (Nat.le_of_ble_eq_true rfl)
  rw [lg_entry_eq]
  generalize (lg_sl ([.ref h_mm, .int p1]) ++ List.replicate (2 - (lg_sl ([.ref h_mm, .int p1])).length) Slot.unset).toArray = ls at hl ⊢
  have hl : lv_has ls 2 [(0, .ref h_mm), (1, .int p1)] := hl
  refine lv_aload_n hx hb dX11_instance_0 rfl (lv_at hl 0 rfl) ?_
  refine lv_iconst (v := 0) hx hb dX11_instance_1 (by decide) ?_
  refine va_put (D := (dC, dI)) (ci := 8) (v := .int 0) (ty := tyX11 0) (C := RX11) (T := TX11) (N := 71) hx hb hw iwX11 tyX11 tyX11_ok nmX11 hown hK hP hD hS 0 rfl rfl 0 (by decide) (hw _ w_f_X11_1) (fun _ h9 => h9) rfl (tyX11_ok 0 (by decide)) rfl rfl (Nat.le_of_ble_eq_true rfl) dX11_instance_2 (fun H locs hP9 hD9 hS9 => ?_)
  clear hP hD hS
  have hP : va_P (dC, dI) cls [(h_mm, .inr (8, (mo117 v_mm (.int 0) (.int x_mm_instances) (.ref h_cof) (.int x_mm_isProof)))), (h_cof, .inl (cy_cof, 31, .inl f_cof))] H := hP9
  have hD : va_D A [(h_mm, .inr (8, (mo117 v_mm (.int 0) (.int x_mm_instances) (.ref h_cof) (.int x_mm_isProof)))), (h_cof, .inl (cy_cof, 31, .inl f_cof))] := hD9
  have hS := hS9
  clear hP9 hD9 hS9
  refine lv_aload_n hx hb dX11_instance_5 rfl (lv_at hl 0 rfl) ?_
  refine va_get (D := (dC, dI)) (ci := 8) (v := .int x_mm_isProof) (C := RX11) (T := TX11) (N := 71) hx hb hw iwX11 hown hK hP 0 rfl rfl 58 (by decide) (hw _ w_f_X11_410) (fun _ h9 => h9) rfl dX11_instance_6 ?_
  refine lv_if_eq (tgt := 22) hx hb dX11_instance_9 (by decide) (fun c1 => ?_) (fun c1 => ?_)
  · have kc1 := (cv_eq (rfl : (x_mm_isProof).toInt = (x_mm_isProof).toInt) (by decide : (0 : Int32).toInt = 0)).mp c1
    refine lv_aload_n hx hb dX11_instance_22 rfl (lv_at hl 0 rfl) ?_
    refine lv_iload_n hx hb dX11_instance_23 rfl (lv_at hl 1 rfl) ?_
    obtain ⟨vq2, evq2⟩ := mq117_115 v_mm (.int 0) (.ref h_cof)
    replace hP : va_P (dC, dI) cls [(h_mm, .inr (8, (mo115 vq2 (.int x_mm_instances) (.int x_mm_isProof)))), (h_cof, .inl (cy_cof, 31, .inl f_cof))] H := by rw [evq2]; exact hP
    replace hD : va_D A [(h_mm, .inr (8, (mo115 vq2 (.int x_mm_instances) (.int x_mm_isProof)))), (h_cof, .inl (cy_cof, 31, .inl f_cof))] := by rw [evq2]; exact hD
    have hPc := hP.sub (ws' := [(h_mm, .inr (8, (mo115 vq2 (.int x_mm_instances) (.int x_mm_isProof))))]) [0] rfl
    have hDc := hD.sub (ws' := [(h_mm, .inr (8, (mo115 vq2 (.int x_mm_instances) (.int x_mm_isProof))))]) [0] (by decide) rfl
    have hKc := hK.sub (tys' := []) [] rfl
    have hFc := va_free (wc := [(h_mm, .inr (8, (mo115 vq2 (.int x_mm_instances) (.int x_mm_isProof))))]) hD hS hA [0] rfl
    refine va_calli (va_runV (As := [.int p1]) (rest := []) ⟨hx, hb, hml, hown, hts⟩ (c_X11_isInstance l dC dI H.size h_mm vq2 x_mm_instances x_mm_isProof p1 (by first | exact hx_mm_instances | omega) (by first | exact hx_mm_isProof | omega)) (cwV 1 hts (gv hT w_m_X11_440 w_instanceMethod_X11_isInstance ws_sel_X11_isInstance w_ini_X11 w_code_X11_isInstance) rfl rfl rfl (by decide +kernel) ⟨(Nat.le_of_ble_eq_true rfl), (Nat.le_of_ble_eq_true rfl)⟩) ⟨pre_blind, va_recv hK hP (ci := 8) (q0 := 0) rfl rfl, pre_of hPc hKc hDc hN⟩ rfl rfl hl.1 rfl (lv_room (Nat.le_of_ble_eq_true rfl)) dX11_instance_24 ⟨(Nat.le_of_ble_eq_true rfl), (Nat.le_of_ble_eq_true rfl)⟩) hS (fun q _ h => hFc q h) hFc (fun r3 u t H locs ht hvm hq hB hz1 hk1 hS9 => ?_)
    obtain ⟨hP1, hD1⟩ := hB
    rw [ht] at hP1
    obtain ⟨hP9, hD9⟩ := va_join (wr := [(h_cof, .inl (cy_cof, 31, .inl f_cof))]) (w1 := [(h_mm, .inr (8, (mo115 vq2 (.int x_mm_instances) (.int x_mm_isProof))))]) hP hD [0] [1] rfl rfl (by decide) (by decide) hk1 hFc hP1 hD1
    clear hP hD hS hPc hDc hKc hFc hP1 hD1 hk1 hz1 ht hvm
    have hP : va_P (dC, dI) cls [(h_cof, .inl (cy_cof, 31, .inl f_cof)), (h_mm, .inr (8, (mo115 vq2 (.int x_mm_instances) (.int x_mm_isProof))))] H := hP9
    have hD : va_D A [(h_cof, .inl (cy_cof, 31, .inl f_cof)), (h_mm, .inr (8, (mo115 vq2 (.int x_mm_instances) (.int x_mm_isProof))))] := hD9
    have hS := hS9
    clear hP9 hD9 hS9
    rw [evq2] at hP hD
    replace hP : va_P (dC, dI) cls [(h_cof, .inl (cy_cof, 31, .inl f_cof)), (h_mm, .inr (8, (mo117 v_mm (.int 0) (.int x_mm_instances) (.ref h_cof) (.int x_mm_isProof))))] H := hP
    replace hD : va_D A [(h_cof, .inl (cy_cof, 31, .inl f_cof)), (h_mm, .inr (8, (mo117 v_mm (.int 0) (.int x_mm_instances) (.ref h_cof) (.int x_mm_isProof))))] := hD
    clear evq2 
    rcases hq with ⟨rfl, hq⟩ | rfl
    · replace hq : (0 ≤ ((p1)).toInt) ∧ (((p1)).toInt < ((x_mm_instances)).toInt) ∧ (((x_mm_isProof)).toInt = 1) := hq
      refine lv_if_eq (tgt := 39) hx hb dX11_instance_27 (by decide) (fun c9 => absurd c9 (by decide)) (fun _ => ?_)
      refine lv_aload_n hx hb dX11_instance_30 rfl (lv_at hl 0 rfl) ?_
      refine va_get (D := (dC, dI)) (ci := 8) (v := .ref h_cof) (C := RX11) (T := TX11) (N := 71) hx hb hw iwX11 hown hK hP 1 rfl rfl 37 (by decide) (hw _ w_f_X11_204) (fun _ h9 => h9) rfl dX11_instance_31 ?_
      refine lv_iload_n hx hb dX11_instance_34 rfl (lv_at hl 1 rfl) ?_
      refine va_iald hx hb hK hP 0 0 rfl rfl (i := p1) (vp_in_iff.mpr (by omega)) dX11_instance_35 ?_
      refine lv_topi (fun z4 ez4 => ?_)
      have rz4 : 0 ≤ (z4).toInt ∧ (z4).toInt ≤ 15 := by rw [ez4]; exact hf_cof _
      refine lv_goto (tgt := 40) hx hb dX11_instance_36 (by decide) ?_
      replace hP : va_P (dC, dI) cls [(h_mm, .inr (8, (mo117 v_mm (.int 0) (.int x_mm_instances) (.ref h_cof) (.int x_mm_isProof)))), (h_cof, .inl (cy_cof, 31, .inl f_cof))] H := hP.sub [1, 0] rfl
      replace hD : va_D A [(h_mm, .inr (8, (mo117 v_mm (.int 0) (.int x_mm_instances) (.ref h_cof) (.int x_mm_isProof)))), (h_cof, .inl (cy_cof, 31, .inl f_cof))] := hD.sub [1, 0] (by decide) rfl
      refine W.widen (k := 0) (n := 0) (Nat.le_of_ble_eq_true rfl) (Nat.le_of_ble_eq_true rfl) ?_
      have cst0 : (0 : Int32).toInt = 0 := by decide
      exact W.iret (v := z4) hx hb hr (fun t ht hW => ⟨⟨z4, 0, rfl, trivial, by rw [ht]; exact hP, hD⟩, hS.F ht⟩) hS.2.2 dX11_instance_40
    · have hq : True := trivial
      refine lv_if_eq (tgt := 39) hx hb dX11_instance_27 (by decide) (fun _ => ?_) (fun c9 => absurd c9 (by decide))
      refine lv_iconst (v := (-1)) hx hb dX11_instance_39 (by decide) ?_
      replace hP : va_P (dC, dI) cls [(h_mm, .inr (8, (mo117 v_mm (.int 0) (.int x_mm_instances) (.ref h_cof) (.int x_mm_isProof)))), (h_cof, .inl (cy_cof, 31, .inl f_cof))] H := hP.sub [1, 0] rfl
      replace hD : va_D A [(h_mm, .inr (8, (mo117 v_mm (.int 0) (.int x_mm_instances) (.ref h_cof) (.int x_mm_isProof)))), (h_cof, .inl (cy_cof, 31, .inl f_cof))] := hD.sub [1, 0] (by decide) rfl
      refine W.widen (k := 0) (n := 0) (Nat.le_of_ble_eq_true rfl) (Nat.le_of_ble_eq_true rfl) ?_
      have cstm1 : ((-1) : Int32).toInt = -1 := by decide
      have cst0 : (0 : Int32).toInt = 0 := by decide
      exact W.iret (v := (-1)) hx hb hr (fun t ht hW => ⟨⟨(-1), 0, rfl, trivial, by rw [ht]; exact hP, hD⟩, hS.F ht⟩) hS.2.2 dX11_instance_40
  · have kc1 := (not_congr (cv_eq (rfl : (x_mm_isProof).toInt = (x_mm_isProof).toInt) (by decide : (0 : Int32).toInt = 0))).mp c1
    refine lv_iload_n hx hb dX11_instance_12 rfl (lv_at hl 1 rfl) ?_
    refine lv_iconst (v := (-1)) hx hb dX11_instance_13 (by decide) ?_
    refine lv_icmp_ne (tgt := 22) hx hb dX11_instance_14 (by decide) (fun c5 => ?_) (fun c5 => ?_)
    · have kc5 := (not_congr (cv_eq (rfl : (p1).toInt = (p1).toInt) (by decide : ((-1) : Int32).toInt = -1))).mp c5
      refine lv_aload_n hx hb dX11_instance_22 rfl (lv_at hl 0 rfl) ?_
      refine lv_iload_n hx hb dX11_instance_23 rfl (lv_at hl 1 rfl) ?_
      obtain ⟨vq6, evq6⟩ := mq117_115 v_mm (.int 0) (.ref h_cof)
      replace hP : va_P (dC, dI) cls [(h_mm, .inr (8, (mo115 vq6 (.int x_mm_instances) (.int x_mm_isProof)))), (h_cof, .inl (cy_cof, 31, .inl f_cof))] H := by rw [evq6]; exact hP
      replace hD : va_D A [(h_mm, .inr (8, (mo115 vq6 (.int x_mm_instances) (.int x_mm_isProof)))), (h_cof, .inl (cy_cof, 31, .inl f_cof))] := by rw [evq6]; exact hD
      have hPc := hP.sub (ws' := [(h_mm, .inr (8, (mo115 vq6 (.int x_mm_instances) (.int x_mm_isProof))))]) [0] rfl
      have hDc := hD.sub (ws' := [(h_mm, .inr (8, (mo115 vq6 (.int x_mm_instances) (.int x_mm_isProof))))]) [0] (by decide) rfl
      have hKc := hK.sub (tys' := []) [] rfl
      have hFc := va_free (wc := [(h_mm, .inr (8, (mo115 vq6 (.int x_mm_instances) (.int x_mm_isProof))))]) hD hS hA [0] rfl
      refine va_calli (va_runV (As := [.int p1]) (rest := []) ⟨hx, hb, hml, hown, hts⟩ (c_X11_isInstance l dC dI H.size h_mm vq6 x_mm_instances x_mm_isProof p1 (by first | exact hx_mm_instances | omega) (by first | exact hx_mm_isProof | omega)) (cwV 1 hts (gv hT w_m_X11_440 w_instanceMethod_X11_isInstance ws_sel_X11_isInstance w_ini_X11 w_code_X11_isInstance) rfl rfl rfl (by decide +kernel) ⟨(Nat.le_of_ble_eq_true rfl), (Nat.le_of_ble_eq_true rfl)⟩) ⟨pre_blind, va_recv hK hP (ci := 8) (q0 := 0) rfl rfl, pre_of hPc hKc hDc hN⟩ rfl rfl hl.1 rfl (lv_room (Nat.le_of_ble_eq_true rfl)) dX11_instance_24 ⟨(Nat.le_of_ble_eq_true rfl), (Nat.le_of_ble_eq_true rfl)⟩) hS (fun q _ h => hFc q h) hFc (fun r7 u t H locs ht hvm hq hB hz1 hk1 hS9 => ?_)
      obtain ⟨hP1, hD1⟩ := hB
      rw [ht] at hP1
      obtain ⟨hP9, hD9⟩ := va_join (wr := [(h_cof, .inl (cy_cof, 31, .inl f_cof))]) (w1 := [(h_mm, .inr (8, (mo115 vq6 (.int x_mm_instances) (.int x_mm_isProof))))]) hP hD [0] [1] rfl rfl (by decide) (by decide) hk1 hFc hP1 hD1
      clear hP hD hS hPc hDc hKc hFc hP1 hD1 hk1 hz1 ht hvm
      have hP : va_P (dC, dI) cls [(h_cof, .inl (cy_cof, 31, .inl f_cof)), (h_mm, .inr (8, (mo115 vq6 (.int x_mm_instances) (.int x_mm_isProof))))] H := hP9
      have hD : va_D A [(h_cof, .inl (cy_cof, 31, .inl f_cof)), (h_mm, .inr (8, (mo115 vq6 (.int x_mm_instances) (.int x_mm_isProof))))] := hD9
      have hS := hS9
      clear hP9 hD9 hS9
      rw [evq6] at hP hD
      replace hP : va_P (dC, dI) cls [(h_cof, .inl (cy_cof, 31, .inl f_cof)), (h_mm, .inr (8, (mo117 v_mm (.int 0) (.int x_mm_instances) (.ref h_cof) (.int x_mm_isProof))))] H := hP
      replace hD : va_D A [(h_cof, .inl (cy_cof, 31, .inl f_cof)), (h_mm, .inr (8, (mo117 v_mm (.int 0) (.int x_mm_instances) (.ref h_cof) (.int x_mm_isProof))))] := hD
      clear evq6 
      rcases hq with ⟨rfl, hq⟩ | rfl
      · replace hq : (0 ≤ ((p1)).toInt) ∧ (((p1)).toInt < ((x_mm_instances)).toInt) ∧ (((x_mm_isProof)).toInt = 1) := hq
        refine lv_if_eq (tgt := 39) hx hb dX11_instance_27 (by decide) (fun c9 => absurd c9 (by decide)) (fun _ => ?_)
        refine lv_aload_n hx hb dX11_instance_30 rfl (lv_at hl 0 rfl) ?_
        refine va_get (D := (dC, dI)) (ci := 8) (v := .ref h_cof) (C := RX11) (T := TX11) (N := 71) hx hb hw iwX11 hown hK hP 1 rfl rfl 37 (by decide) (hw _ w_f_X11_204) (fun _ h9 => h9) rfl dX11_instance_31 ?_
        refine lv_iload_n hx hb dX11_instance_34 rfl (lv_at hl 1 rfl) ?_
        refine va_iald hx hb hK hP 0 0 rfl rfl (i := p1) (vp_in_iff.mpr (by omega)) dX11_instance_35 ?_
        refine lv_topi (fun z8 ez8 => ?_)
        have rz8 : 0 ≤ (z8).toInt ∧ (z8).toInt ≤ 15 := by rw [ez8]; exact hf_cof _
        refine lv_goto (tgt := 40) hx hb dX11_instance_36 (by decide) ?_
        replace hP : va_P (dC, dI) cls [(h_mm, .inr (8, (mo117 v_mm (.int 0) (.int x_mm_instances) (.ref h_cof) (.int x_mm_isProof)))), (h_cof, .inl (cy_cof, 31, .inl f_cof))] H := hP.sub [1, 0] rfl
        replace hD : va_D A [(h_mm, .inr (8, (mo117 v_mm (.int 0) (.int x_mm_instances) (.ref h_cof) (.int x_mm_isProof)))), (h_cof, .inl (cy_cof, 31, .inl f_cof))] := hD.sub [1, 0] (by decide) rfl
        refine W.widen (k := 0) (n := 0) (Nat.le_of_ble_eq_true rfl) (Nat.le_of_ble_eq_true rfl) ?_
        have cst0 : (0 : Int32).toInt = 0 := by decide
        exact W.iret (v := z8) hx hb hr (fun t ht hW => ⟨⟨z8, 0, rfl, trivial, by rw [ht]; exact hP, hD⟩, hS.F ht⟩) hS.2.2 dX11_instance_40
      · have hq : True := trivial
        refine lv_if_eq (tgt := 39) hx hb dX11_instance_27 (by decide) (fun _ => ?_) (fun c9 => absurd c9 (by decide))
        refine lv_iconst (v := (-1)) hx hb dX11_instance_39 (by decide) ?_
        replace hP : va_P (dC, dI) cls [(h_mm, .inr (8, (mo117 v_mm (.int 0) (.int x_mm_instances) (.ref h_cof) (.int x_mm_isProof)))), (h_cof, .inl (cy_cof, 31, .inl f_cof))] H := hP.sub [1, 0] rfl
        replace hD : va_D A [(h_mm, .inr (8, (mo117 v_mm (.int 0) (.int x_mm_instances) (.ref h_cof) (.int x_mm_isProof)))), (h_cof, .inl (cy_cof, 31, .inl f_cof))] := hD.sub [1, 0] (by decide) rfl
        refine W.widen (k := 0) (n := 0) (Nat.le_of_ble_eq_true rfl) (Nat.le_of_ble_eq_true rfl) ?_
        have cstm1 : ((-1) : Int32).toInt = -1 := by decide
        have cst0 : (0 : Int32).toInt = 0 := by decide
        exact W.iret (v := (-1)) hx hb hr (fun t ht hW => ⟨⟨(-1), 0, rfl, trivial, by rw [ht]; exact hP, hD⟩, hS.F ht⟩) hS.2.2 dX11_instance_40
    · have kc5 := (cv_eq (rfl : (p1).toInt = (p1).toInt) (by decide : ((-1) : Int32).toInt = -1)).mp c5
      refine lv_aload_n hx hb dX11_instance_17 rfl (lv_at hl 0 rfl) ?_
      refine va_get (D := (dC, dI)) (ci := 8) (v := .int x_mm_instances) (C := RX11) (T := TX11) (N := 71) hx hb hw iwX11 hown hK hP 0 rfl rfl 36 (by decide) (hw _ w_f_X11_397) (fun _ h9 => h9) rfl dX11_instance_18 ?_
      refine W.widen (k := 0) (n := 0) (Nat.le_of_ble_eq_true rfl) (Nat.le_of_ble_eq_true rfl) ?_
      have cst0 : (0 : Int32).toInt = 0 := by decide
      exact W.iret (v := x_mm_instances) hx hb hr (fun t ht hW => ⟨⟨x_mm_instances, 0, rfl, trivial, by rw [ht]; exact hP, hD⟩, hS.F ht⟩) hS.2.2 dX11_instance_21

set_option maxHeartbeats 8000000 in
set_option maxRecDepth 100000 in
theorem c_X11_says (l : Launch) (dC : Nat → ClassId) (dI : Nat → Nat → Nat) (sz : Nat) (h_mm : Nat) (h_wri : Nat) (v_mm : Nat → Value) (x_mm_writes : Int32) (x_mm_room : Int32) (cy_wri : ClassId) (f_wri : Nat → Int32) (p1 : Int32) (hx_mm_writes : 0 ≤ (x_mm_writes).toInt ∧ (x_mm_writes).toInt ≤ 1000) (hx_mm_room : 0 ≤ (x_mm_room).toInt ∧ (x_mm_room).toInt ≤ 998) : Met l yX11_says (Ws yX11_says cX11_says 2 none) (({ frames := 0, cells := 0, slots := 0, locals := 0 } : Room)) (PRE (dC, dI) cls [(cy_wri, .int)] [(h_mm, .inr (8, (mo118 v_mm (.ref h_wri) (.int x_mm_writes) (.int x_mm_room)))), (h_wri, .inl (cy_wri, 1000, .inl f_wri))] sz [.ref h_mm, .int p1]) (va_Qv (fun (u : (Int32) × (Nat → Int32)) => (0 ≤ (u.1).toInt ∧ (u.1).toInt ≤ 1000) ∧ ((x_mm_writes).toInt ≤ (u.1).toInt)) (fun (u : (Int32) × (Nat → Int32)) (t : State) => va_P (dC, dI) cls [(h_mm, .inr (8, (mo118 v_mm (.ref h_wri) (.int u.1) (.int x_mm_room)))), (h_wri, .inl (cy_wri, 1000, .inl u.2))] t.heap ∧ va_D (va_A [(h_mm, .inr (8, (mo118 v_mm (.ref h_wri) (.int x_mm_writes) (.int x_mm_room)))), (h_wri, .inl (cy_wri, 1000, .inl f_wri))] sz) [(h_mm, .inr (8, (mo118 v_mm (.ref h_wri) (.int u.1) (.int x_mm_room)))), (h_wri, .inl (cy_wri, 1000, .inl u.2))]) (va_A [(h_mm, .inr (8, (mo118 v_mm (.ref h_wri) (.int x_mm_writes) (.int x_mm_room)))), (h_wri, .inl (cy_wri, 1000, .inl f_wri))] sz)) 0 0 (va_A [(h_mm, .inr (8, (mo118 v_mm (.ref h_wri) (.int x_mm_writes) (.int x_mm_room)))), (h_wri, .inl (cy_wri, 1000, .inl f_wri))] sz) := by
  refine Met.ofW (cc := cX11_says) (maxL := 2) (ret := none) (by decide) rfl ?_
  intro p e s m args below meth c s₁ B hml hv
  obtain ⟨rfl, hsz, hP, hK, hD0, hN⟩ := hv
  have hx := B.exec
  have hb := B.bytes
  have hr := B.returns
  have hts := atoms_spec (ws := Ws yX11_says cX11_says 2 none) B.pre
  have hT : ∀ w ∈ WALL, w ∈ Ws yX11_says cX11_says 2 none := fun w h => List.mem_cons_of_mem _ h
  have hw := fun w (h : w ∈ WALL) => hts w (hT w h)
  have hown : s.vm.findClass RX11 = some m.cls := findClass_of_methodNamed B.named
  have hlocks := B.notSynchronized
  subst hsz
  have hD := hD0.self (sz := s.heap.size)
  generalize hAe : va_A [(h_mm, .inr (8, (mo118 v_mm (.ref h_wri) (.int x_mm_writes) (.int x_mm_room)))), (h_wri, .inl (cy_wri, 1000, .inl f_wri))] s.heap.size = A at hD ⊢
  have hA : ∀ q : Nat, s.heap.size ≤ q → A q := fun q h => by rw [← hAe]; exact Or.inr h
  have hS : va_S A s.heap s.heap [] := va_S.rf
  have hl := lv_entry ([.ref h_mm, .int p1]) (n := 2) (Nat.le_of_ble_eq_true rfl)
  rw [lg_entry_eq]
  generalize (lg_sl ([.ref h_mm, .int p1]) ++ List.replicate (2 - (lg_sl ([.ref h_mm, .int p1])).length) Slot.unset).toArray = ls at hl ⊢
  have hl : lv_has ls 2 [(0, .ref h_mm), (1, .int p1)] := hl
  refine lv_aload_n hx hb dX11_says_0 rfl (lv_at hl 0 rfl) ?_
  refine va_get (D := (dC, dI)) (ci := 8) (v := .int x_mm_writes) (C := RX11) (T := TX11) (N := 71) hx hb hw iwX11 hown hK hP 0 rfl rfl 65 (by decide) (hw _ w_f_X11_443) (fun _ h9 => h9) rfl dX11_says_1 ?_
  refine lv_aload_n hx hb dX11_says_4 rfl (lv_at hl 0 rfl) ?_
  refine va_get (D := (dC, dI)) (ci := 8) (v := .int x_mm_room) (C := RX11) (T := TX11) (N := 71) hx hb hw iwX11 hown hK hP 0 rfl rfl 66 (by decide) (hw _ w_f_X11_446) (fun _ h9 => h9) rfl dX11_says_5 ?_
  refine lv_icmp_gt (tgt := 31) hx hb dX11_says_8 (by decide) (fun c1 => ?_) (fun c1 => ?_)
  · have kc1 := (cv_lt (rfl : (x_mm_room).toInt = (x_mm_room).toInt) (rfl : (x_mm_writes).toInt = (x_mm_writes).toInt)).mp c1
    refine W.widen (k := 0) (n := 0) (Nat.le_of_ble_eq_true rfl) (Nat.le_of_ble_eq_true rfl) ?_
    have w2 : 0 ≤ ((x_mm_writes)).toInt ∧ ((x_mm_writes)).toInt ≤ 1000 := by first | exact hx_mm_writes | omega
    have w3 : (x_mm_writes).toInt ≤ ((x_mm_writes)).toInt := by omega
    exact W.vret hx hb hr (fun t ht hW => ⟨⟨(x_mm_writes, f_wri), rfl, ⟨w2, w3⟩, by rw [ht]; exact hP, hD⟩, hS.F ht⟩) hS.2.2 dX11_says_31
  · have kc1 := (not_congr (cv_lt (rfl : (x_mm_room).toInt = (x_mm_room).toInt) (rfl : (x_mm_writes).toInt = (x_mm_writes).toInt))).mp c1
    refine lv_aload_n hx hb dX11_says_11 rfl (lv_at hl 0 rfl) ?_
    refine va_get (D := (dC, dI)) (ci := 8) (v := .ref h_wri) (C := RX11) (T := TX11) (N := 71) hx hb hw iwX11 hown hK hP 0 rfl rfl 64 (by decide) (hw _ w_f_X11_246) (fun _ h9 => h9) rfl dX11_says_12 ?_
    refine lv_aload_n hx hb dX11_says_15 rfl (lv_at hl 0 rfl) ?_
    refine va_get (D := (dC, dI)) (ci := 8) (v := .int x_mm_writes) (C := RX11) (T := TX11) (N := 71) hx hb hw iwX11 hown hK hP 0 rfl rfl 65 (by decide) (hw _ w_f_X11_443) (fun _ h9 => h9) rfl dX11_says_16 ?_
    refine lv_iload_n hx hb dX11_says_19 rfl (lv_at hl 1 rfl) ?_
    refine va_iast hx hb hK hP hD hS 1 0 rfl rfl (i := x_mm_writes) (x := p1) (vp_in_iff.mpr (by omega)) dX11_says_20 (fun H locs hP9 hD9 hS9 => ?_)
    obtain ⟨f4, ef4⟩ : ∃ g : Nat → Int32, g = upd f_wri (Int32.toNatClampNeg x_mm_writes) p1 := ⟨_, rfl⟩
    clear hP hD hS
    have hP : va_P (dC, dI) cls [(h_mm, .inr (8, (mo118 v_mm (.ref h_wri) (.int x_mm_writes) (.int x_mm_room)))), (h_wri, .inl (cy_wri, 1000, .inl f4))] H := by rw [ef4]; exact hP9
    have hD : va_D A [(h_mm, .inr (8, (mo118 v_mm (.ref h_wri) (.int x_mm_writes) (.int x_mm_room)))), (h_wri, .inl (cy_wri, 1000, .inl f4))] := by rw [ef4]; exact hD9
    have hS := hS9
    clear hP9 hD9 hS9
    clear ef4
    refine lv_aload_n hx hb dX11_says_21 rfl (lv_at hl 0 rfl) ?_
    refine lv_aload_n hx hb dX11_says_22 rfl (lv_at hl 0 rfl) ?_
    refine va_get (D := (dC, dI)) (ci := 8) (v := .int x_mm_writes) (C := RX11) (T := TX11) (N := 71) hx hb hw iwX11 hown hK hP 0 rfl rfl 65 (by decide) (hw _ w_f_X11_443) (fun _ h9 => h9) rfl dX11_says_23 ?_
    refine lv_iconst (v := 1) hx hb dX11_says_26 (by decide) ?_
    refine lv_iadd hx hb dX11_says_27 ?_
    refine lv_topi (fun z5 ez5 => ?_)
    have tz5 : (z5).toInt = (x_mm_writes).toInt + 1 := by rw [ez5]; exact i_add rfl (by decide) (by omega)
    refine va_put (D := (dC, dI)) (ci := 8) (v := .int z5) (ty := tyX11 65) (C := RX11) (T := TX11) (N := 71) hx hb hw iwX11 tyX11 tyX11_ok nmX11 hown hK hP hD hS 0 rfl rfl 65 (by decide) (hw _ w_f_X11_443) (fun _ h9 => h9) rfl (tyX11_ok 65 (by decide)) rfl rfl (Nat.le_of_ble_eq_true rfl) dX11_says_28 (fun H locs hP9 hD9 hS9 => ?_)
    clear hP hD hS
    have hP : va_P (dC, dI) cls [(h_mm, .inr (8, (mo118 v_mm (.ref h_wri) (.int z5) (.int x_mm_room)))), (h_wri, .inl (cy_wri, 1000, .inl f4))] H := hP9
    have hD : va_D A [(h_mm, .inr (8, (mo118 v_mm (.ref h_wri) (.int z5) (.int x_mm_room)))), (h_wri, .inl (cy_wri, 1000, .inl f4))] := hD9
    have hS := hS9
    clear hP9 hD9 hS9
    refine W.widen (k := 0) (n := 0) (Nat.le_of_ble_eq_true rfl) (Nat.le_of_ble_eq_true rfl) ?_
    have w6 : 0 ≤ ((z5)).toInt ∧ ((z5)).toInt ≤ 1000 := by omega
    have w7 : (x_mm_writes).toInt ≤ ((z5)).toInt := by omega
    exact W.vret hx hb hr (fun t ht hW => ⟨⟨(z5, f4), rfl, ⟨w6, w7⟩, by rw [ht]; exact hP, hD⟩, hS.F ht⟩) hS.2.2 dX11_says_31

set_option maxHeartbeats 8000000 in
set_option maxRecDepth 100000 in
theorem c_X11_out (l : Launch) (dC : Nat → ClassId) (dI : Nat → Nat → Nat) (sz : Nat) (h_mm : Nat) (h_out : Nat) (v_mm : Nat → Value) (x_mm_outs : Int32) (cy_out : ClassId) (f_out : Nat → Int32) (p1 : Int32) (hx_mm_outs : 0 ≤ (x_mm_outs).toInt ∧ (x_mm_outs).toInt ≤ 1000) : Met l yX11_out (Ws yX11_out cX11_out 2 (some .int)) (({ frames := 1, cells := 0, slots := 0, locals := 26 } : Room)) (PRE (dC, dI) cls [(cy_out, .int)] [(h_mm, .inr (8, (mo119 v_mm (.ref h_out) (.int x_mm_outs)))), (h_out, .inl (cy_out, 1000, .inl f_out))] sz [.ref h_mm, .int p1]) (va_Qi (fun (r : Int32) (u : (Int32)) => True) (fun (u : (Int32)) (t : State) => va_P (dC, dI) cls [(h_mm, .inr (8, (mo120 v_mm (.int u) (.ref h_out) (.int x_mm_outs)))), (h_out, .inl (cy_out, 1000, .inl f_out))] t.heap ∧ va_D (va_A [(h_mm, .inr (8, (mo119 v_mm (.ref h_out) (.int x_mm_outs)))), (h_out, .inl (cy_out, 1000, .inl f_out))] sz) [(h_mm, .inr (8, (mo120 v_mm (.int u) (.ref h_out) (.int x_mm_outs)))), (h_out, .inl (cy_out, 1000, .inl f_out))]) (va_A [(h_mm, .inr (8, (mo119 v_mm (.ref h_out) (.int x_mm_outs)))), (h_out, .inl (cy_out, 1000, .inl f_out))] sz)) 0 0 (va_A [(h_mm, .inr (8, (mo119 v_mm (.ref h_out) (.int x_mm_outs)))), (h_out, .inl (cy_out, 1000, .inl f_out))] sz) := by
  refine Met.ofW (cc := cX11_out) (maxL := 2) (ret := (some .int)) (by decide) rfl ?_
  intro p e s m args below meth c s₁ B hml hv
  obtain ⟨rfl, hsz, hP, hK, hD0, hN⟩ := hv
  have hx := B.exec
  have hb := B.bytes
  have hr := B.returns
  have hts := atoms_spec (ws := Ws yX11_out cX11_out 2 (some .int)) B.pre
  have hT : ∀ w ∈ WALL, w ∈ Ws yX11_out cX11_out 2 (some .int) := fun w h => List.mem_cons_of_mem _ h
  have hw := fun w (h : w ∈ WALL) => hts w (hT w h)
  have hown : s.vm.findClass RX11 = some m.cls := findClass_of_methodNamed B.named
  have hlocks := B.notSynchronized
  subst hsz
  have hD := hD0.self (sz := s.heap.size)
  generalize hAe : va_A [(h_mm, .inr (8, (mo119 v_mm (.ref h_out) (.int x_mm_outs)))), (h_out, .inl (cy_out, 1000, .inl f_out))] s.heap.size = A at hD ⊢
  have hA : ∀ q : Nat, s.heap.size ≤ q → A q := fun q h => by rw [← hAe]; exact Or.inr h
  have hS : va_S A s.heap s.heap [] := va_S.rf
  have hl := lv_entry ([.ref h_mm, .int p1]) (n := 2) (Nat.le_of_ble_eq_true rfl)
  rw [lg_entry_eq]
  generalize (lg_sl ([.ref h_mm, .int p1]) ++ List.replicate (2 - (lg_sl ([.ref h_mm, .int p1])).length) Slot.unset).toArray = ls at hl ⊢
  have hl : lv_has ls 2 [(0, .ref h_mm), (1, .int p1)] := hl
  refine lv_aload_n hx hb dX11_out_0 rfl (lv_at hl 0 rfl) ?_
  refine lv_iconst (v := 0) hx hb dX11_out_1 (by decide) ?_
  refine va_put (D := (dC, dI)) (ci := 8) (v := .int 0) (ty := tyX11 0) (C := RX11) (T := TX11) (N := 71) hx hb hw iwX11 tyX11 tyX11_ok nmX11 hown hK hP hD hS 0 rfl rfl 0 (by decide) (hw _ w_f_X11_1) (fun _ h9 => h9) rfl (tyX11_ok 0 (by decide)) rfl rfl (Nat.le_of_ble_eq_true rfl) dX11_out_2 (fun H locs hP9 hD9 hS9 => ?_)
  clear hP hD hS
  have hP : va_P (dC, dI) cls [(h_mm, .inr (8, (mo120 v_mm (.int 0) (.ref h_out) (.int x_mm_outs)))), (h_out, .inl (cy_out, 1000, .inl f_out))] H := hP9
  have hD : va_D A [(h_mm, .inr (8, (mo120 v_mm (.int 0) (.ref h_out) (.int x_mm_outs)))), (h_out, .inl (cy_out, 1000, .inl f_out))] := hD9
  have hS := hS9
  clear hP9 hD9 hS9
  refine lv_aload_n hx hb dX11_out_5 rfl (lv_at hl 0 rfl) ?_
  refine lv_iload_n hx hb dX11_out_6 rfl (lv_at hl 1 rfl) ?_
  refine lv_i2l hx hb dX11_out_7 rfl ?_
  refine lv_topl (fun z1 ez1 => ?_)
  have tz1 : (z1).toInt = (p1).toInt := by rw [ez1]; exact Int32.toInt_toInt64 _
  have bz1 := i_bd p1
  refine lv_lconst (v := 0) hx hb dX11_out_8 (by decide) ?_
  refine lv_aload_n hx hb dX11_out_9 rfl (lv_at hl 0 rfl) ?_
  refine va_get (D := (dC, dI)) (ci := 8) (v := .int x_mm_outs) (C := RX11) (T := TX11) (N := 71) hx hb hw iwX11 hown hK hP 0 rfl rfl 63 (by decide) (hw _ w_f_X11_462) (fun _ h9 => h9) rfl dX11_out_10 ?_
  refine lv_i2l hx hb dX11_out_13 rfl ?_
  refine lv_topl (fun z2 ez2 => ?_)
  have tz2 : (z2).toInt = (x_mm_outs).toInt := by rw [ez2]; exact Int32.toInt_toInt64 _
  have bz2 := i_bd x_mm_outs
  refine lv_lconst (v := 1) hx hb dX11_out_14 (by decide) ?_
  refine lv_lsub hx hb dX11_out_15 ?_
  refine lv_topl (fun z3 ez3 => ?_)
  have tz3 : (z3).toInt = (z2).toInt - 1 := by rw [ez3]; exact l_sub rfl (by decide) (by omega)
  have : (0 : Int64).toInt = 0 := by decide
  have hPc := hP.sub (ws' := []) [] rfl
  have hDc := hD.sub (ws' := []) [] (by decide) rfl
  have hKc := hK.sub (tys' := []) [] rfl
  have hFc := va_free (wc := []) hD hS hA [] rfl
  refine va_calli (va_runV (As := [.long z1, .long 0, .long z3]) (rest := []) ⟨hx, hb, hml, hown, hts⟩ (c_X11_isIn l dC dI H.size h_mm z1 0 z3) (cwV 3 hts (gv hT w_m_X11_49 w_instanceMethod_X11_isIn ws_sel_X11_isIn w_ini_X11 w_code_X11_isIn) rfl rfl rfl (by decide +kernel) ⟨(Nat.le_of_ble_eq_true rfl), (Nat.le_of_ble_eq_true rfl)⟩) ⟨pre_blind, va_recv hK hP (ci := 8) (q0 := 0) rfl rfl, pre_of hPc hKc hDc hN⟩ rfl rfl hl.1 rfl (lv_room (Nat.le_of_ble_eq_true rfl)) dX11_out_16 ⟨(Nat.le_of_ble_eq_true rfl), (Nat.le_of_ble_eq_true rfl)⟩) hS (fun q _ h => hFc q h) hFc (fun r4 u t H locs ht hvm hq hB hz1 hk1 hS9 => ?_)
  obtain ⟨hP1, hD1⟩ := hB
  rw [ht] at hP1
  obtain ⟨hP9, hD9⟩ := va_join (wr := [(h_mm, .inr (8, (mo120 v_mm (.int 0) (.ref h_out) (.int x_mm_outs)))), (h_out, .inl (cy_out, 1000, .inl f_out))]) (w1 := []) hP hD [] [0, 1] rfl rfl (by decide) (by decide) hk1 hFc hP1 hD1
  clear hP hD hS hPc hDc hKc hFc hP1 hD1 hk1 hz1 ht hvm
  have hP : va_P (dC, dI) cls [(h_mm, .inr (8, (mo120 v_mm (.int 0) (.ref h_out) (.int x_mm_outs)))), (h_out, .inl (cy_out, 1000, .inl f_out))] H := hP9
  have hD : va_D A [(h_mm, .inr (8, (mo120 v_mm (.int 0) (.ref h_out) (.int x_mm_outs)))), (h_out, .inl (cy_out, 1000, .inl f_out))] := hD9
  have hS := hS9
  clear hP9 hD9 hS9
  rcases hq with ⟨rfl, hq⟩ | ⟨rfl, hq⟩
  · replace hq : (((0 : Int64)).toInt ≤ ((z1)).toInt) ∧ (((z1)).toInt ≤ ((z3)).toInt) := hq
    refine lv_if_eq (tgt := 31) hx hb dX11_out_19 (by decide) (fun c9 => absurd c9 (by decide)) (fun _ => ?_)
    refine lv_aload_n hx hb dX11_out_22 rfl (lv_at hl 0 rfl) ?_
    refine va_get (D := (dC, dI)) (ci := 8) (v := .ref h_out) (C := RX11) (T := TX11) (N := 71) hx hb hw iwX11 hown hK hP 0 rfl rfl 62 (by decide) (hw _ w_f_X11_243) (fun _ h9 => h9) rfl dX11_out_23 ?_
    refine lv_iload_n hx hb dX11_out_26 rfl (lv_at hl 1 rfl) ?_
    refine va_iald hx hb hK hP 1 0 rfl rfl (i := p1) (vp_in_iff.mpr (by omega)) dX11_out_27 ?_
    refine lv_topi (fun z5 ez5 => ?_)
    refine lv_goto (tgt := 32) hx hb dX11_out_28 (by decide) ?_
    refine W.widen (k := 0) (n := 0) (Nat.le_of_ble_eq_true rfl) (Nat.le_of_ble_eq_true rfl) ?_
    have cst0 : (0 : Int32).toInt = 0 := by decide
    exact W.iret (v := z5) hx hb hr (fun t ht hW => ⟨⟨z5, 0, rfl, trivial, by rw [ht]; exact hP, hD⟩, hS.F ht⟩) hS.2.2 dX11_out_32
  · replace hq : (((z1)).toInt < ((0 : Int64)).toInt ∨ ((z3)).toInt < ((z1)).toInt) := hq
    refine lv_if_eq (tgt := 31) hx hb dX11_out_19 (by decide) (fun _ => ?_) (fun c9 => absurd c9 (by decide))
    refine lv_iconst (v := (-1)) hx hb dX11_out_31 (by decide) ?_
    refine W.widen (k := 0) (n := 0) (Nat.le_of_ble_eq_true rfl) (Nat.le_of_ble_eq_true rfl) ?_
    have cstm1 : ((-1) : Int32).toInt = -1 := by decide
    have cst0 : (0 : Int32).toInt = 0 := by decide
    exact W.iret (v := (-1)) hx hb hr (fun t ht hW => ⟨⟨(-1), 0, rfl, trivial, by rw [ht]; exact hP, hD⟩, hS.F ht⟩) hS.2.2 dX11_out_32

set_option maxHeartbeats 8000000 in
set_option maxRecDepth 100000 in
theorem c_X11_answer (l : Launch) (dC : Nat → ClassId) (dI : Nat → Nat → Nat) (sz : Nat) (h_mm : Nat) (h_ans : Nat) (v_mm : Nat → Value) (x_mm_answers : Int32) (cy_ans : ClassId) (f_ans : Nat → Int32) (p1 : Int32) (p2 : Int32) (hx_mm_answers : 0 ≤ (x_mm_answers).toInt ∧ (x_mm_answers).toInt ≤ 8) : Met l yX11_answer (Ws yX11_answer cX11_answer 3 (some .int)) (({ frames := 1, cells := 0, slots := 0, locals := 26 } : Room)) (PRE (dC, dI) cls [(cy_ans, .int)] [(h_mm, .inr (8, (mo109 v_mm (.ref h_ans) (.int x_mm_answers)))), (h_ans, .inl (cy_ans, 36, .inl f_ans))] sz [.ref h_mm, .int p1, .int p2]) (va_Qi (fun (r : Int32) (u : (Int32)) => True) (fun (u : (Int32)) (t : State) => va_P (dC, dI) cls [(h_mm, .inr (8, (mo121 v_mm (.int u) (.ref h_ans) (.int x_mm_answers)))), (h_ans, .inl (cy_ans, 36, .inl f_ans))] t.heap ∧ va_D (va_A [(h_mm, .inr (8, (mo109 v_mm (.ref h_ans) (.int x_mm_answers)))), (h_ans, .inl (cy_ans, 36, .inl f_ans))] sz) [(h_mm, .inr (8, (mo121 v_mm (.int u) (.ref h_ans) (.int x_mm_answers)))), (h_ans, .inl (cy_ans, 36, .inl f_ans))]) (va_A [(h_mm, .inr (8, (mo109 v_mm (.ref h_ans) (.int x_mm_answers)))), (h_ans, .inl (cy_ans, 36, .inl f_ans))] sz)) 0 0 (va_A [(h_mm, .inr (8, (mo109 v_mm (.ref h_ans) (.int x_mm_answers)))), (h_ans, .inl (cy_ans, 36, .inl f_ans))] sz) := by
  refine Met.ofW (cc := cX11_answer) (maxL := 3) (ret := (some .int)) (by decide) rfl ?_
  intro p e s m args below meth c s₁ B hml hv
  obtain ⟨rfl, hsz, hP, hK, hD0, hN⟩ := hv
  have hx := B.exec
  have hb := B.bytes
  have hr := B.returns
  have hts := atoms_spec (ws := Ws yX11_answer cX11_answer 3 (some .int)) B.pre
  have hT : ∀ w ∈ WALL, w ∈ Ws yX11_answer cX11_answer 3 (some .int) := fun w h => List.mem_cons_of_mem _ h
  have hw := fun w (h : w ∈ WALL) => hts w (hT w h)
  have hown : s.vm.findClass RX11 = some m.cls := findClass_of_methodNamed B.named
  have hlocks := B.notSynchronized
  subst hsz
  have hD := hD0.self (sz := s.heap.size)
  generalize hAe : va_A [(h_mm, .inr (8, (mo109 v_mm (.ref h_ans) (.int x_mm_answers)))), (h_ans, .inl (cy_ans, 36, .inl f_ans))] s.heap.size = A at hD ⊢
  have hA : ∀ q : Nat, s.heap.size ≤ q → A q := fun q h => by rw [← hAe]; exact Or.inr h
  have hS : va_S A s.heap s.heap [] := va_S.rf
  have hl := lv_entry ([.ref h_mm, .int p1, .int p2]) (n := 3) (Nat.le_of_ble_eq_true rfl)
  rw [lg_entry_eq]
  generalize (lg_sl ([.ref h_mm, .int p1, .int p2]) ++ List.replicate (3 - (lg_sl ([.ref h_mm, .int p1, .int p2])).length) Slot.unset).toArray = ls at hl ⊢
  have hl : lv_has ls 3 [(0, .ref h_mm), (1, .int p1), (2, .int p2)] := hl
  refine lv_aload_n hx hb dX11_answer_0 rfl (lv_at hl 0 rfl) ?_
  refine lv_iconst (v := 0) hx hb dX11_answer_1 (by decide) ?_
  refine va_put (D := (dC, dI)) (ci := 8) (v := .int 0) (ty := tyX11 0) (C := RX11) (T := TX11) (N := 71) hx hb hw iwX11 tyX11 tyX11_ok nmX11 hown hK hP hD hS 0 rfl rfl 0 (by decide) (hw _ w_f_X11_1) (fun _ h9 => h9) rfl (tyX11_ok 0 (by decide)) rfl rfl (Nat.le_of_ble_eq_true rfl) dX11_answer_2 (fun H locs hP9 hD9 hS9 => ?_)
  clear hP hD hS
  have hP : va_P (dC, dI) cls [(h_mm, .inr (8, (mo121 v_mm (.int 0) (.ref h_ans) (.int x_mm_answers)))), (h_ans, .inl (cy_ans, 36, .inl f_ans))] H := hP9
  have hD : va_D A [(h_mm, .inr (8, (mo121 v_mm (.int 0) (.ref h_ans) (.int x_mm_answers)))), (h_ans, .inl (cy_ans, 36, .inl f_ans))] := hD9
  have hS := hS9
  clear hP9 hD9 hS9
  refine lv_iload_n hx hb dX11_answer_5 rfl (lv_at hl 1 rfl) ?_
  refine lv_iconst (v := (-1)) hx hb dX11_answer_6 (by decide) ?_
  refine lv_icmp_ne (tgt := 15) hx hb dX11_answer_7 (by decide) (fun c1 => ?_) (fun c1 => ?_)
  · have kc1 := (not_congr (cv_eq (rfl : (p1).toInt = (p1).toInt) (by decide : ((-1) : Int32).toInt = -1))).mp c1
    refine lv_aload_n hx hb dX11_answer_15 rfl (lv_at hl 0 rfl) ?_
    refine lv_iload_n hx hb dX11_answer_16 rfl (lv_at hl 1 rfl) ?_
    refine lv_i2l hx hb dX11_answer_17 rfl ?_
    refine lv_topl (fun z2 ez2 => ?_)
    have tz2 : (z2).toInt = (p1).toInt := by rw [ez2]; exact Int32.toInt_toInt64 _
    have bz2 := i_bd p1
    refine lv_lconst (v := 0) hx hb dX11_answer_18 (by decide) ?_
    refine lv_aload_n hx hb dX11_answer_19 rfl (lv_at hl 0 rfl) ?_
    refine va_get (D := (dC, dI)) (ci := 8) (v := .int x_mm_answers) (C := RX11) (T := TX11) (N := 71) hx hb hw iwX11 hown hK hP 0 rfl rfl 60 (by decide) (hw _ w_f_X11_413) (fun _ h9 => h9) rfl dX11_answer_20 ?_
    refine lv_i2l hx hb dX11_answer_23 rfl ?_
    refine lv_topl (fun z3 ez3 => ?_)
    have tz3 : (z3).toInt = (x_mm_answers).toInt := by rw [ez3]; exact Int32.toInt_toInt64 _
    have bz3 := i_bd x_mm_answers
    refine lv_lconst (v := 1) hx hb dX11_answer_24 (by decide) ?_
    refine lv_lsub hx hb dX11_answer_25 ?_
    refine lv_topl (fun z4 ez4 => ?_)
    have tz4 : (z4).toInt = (z3).toInt - 1 := by rw [ez4]; exact l_sub rfl (by decide) (by omega)
    have : (0 : Int64).toInt = 0 := by decide
    have hPc := hP.sub (ws' := []) [] rfl
    have hDc := hD.sub (ws' := []) [] (by decide) rfl
    have hKc := hK.sub (tys' := []) [] rfl
    have hFc := va_free (wc := []) hD hS hA [] rfl
    refine va_calli (va_runV (As := [.long z2, .long 0, .long z4]) (rest := []) ⟨hx, hb, hml, hown, hts⟩ (c_X11_isIn l dC dI H.size h_mm z2 0 z4) (cwV 3 hts (gv hT w_m_X11_49 w_instanceMethod_X11_isIn ws_sel_X11_isIn w_ini_X11 w_code_X11_isIn) rfl rfl rfl (by decide +kernel) ⟨(Nat.le_of_ble_eq_true rfl), (Nat.le_of_ble_eq_true rfl)⟩) ⟨pre_blind, va_recv hK hP (ci := 8) (q0 := 0) rfl rfl, pre_of hPc hKc hDc hN⟩ rfl rfl hl.1 rfl (lv_room (Nat.le_of_ble_eq_true rfl)) dX11_answer_26 ⟨(Nat.le_of_ble_eq_true rfl), (Nat.le_of_ble_eq_true rfl)⟩) hS (fun q _ h => hFc q h) hFc (fun r5 u t H locs ht hvm hq hB hz1 hk1 hS9 => ?_)
    obtain ⟨hP1, hD1⟩ := hB
    rw [ht] at hP1
    obtain ⟨hP9, hD9⟩ := va_join (wr := [(h_mm, .inr (8, (mo121 v_mm (.int 0) (.ref h_ans) (.int x_mm_answers)))), (h_ans, .inl (cy_ans, 36, .inl f_ans))]) (w1 := []) hP hD [] [0, 1] rfl rfl (by decide) (by decide) hk1 hFc hP1 hD1
    clear hP hD hS hPc hDc hKc hFc hP1 hD1 hk1 hz1 ht hvm
    have hP : va_P (dC, dI) cls [(h_mm, .inr (8, (mo121 v_mm (.int 0) (.ref h_ans) (.int x_mm_answers)))), (h_ans, .inl (cy_ans, 36, .inl f_ans))] H := hP9
    have hD : va_D A [(h_mm, .inr (8, (mo121 v_mm (.int 0) (.ref h_ans) (.int x_mm_answers)))), (h_ans, .inl (cy_ans, 36, .inl f_ans))] := hD9
    have hS := hS9
    clear hP9 hD9 hS9
    rcases hq with ⟨rfl, hq⟩ | ⟨rfl, hq⟩
    · replace hq : (((0 : Int64)).toInt ≤ ((z2)).toInt) ∧ (((z2)).toInt ≤ ((z4)).toInt) := hq
      refine lv_if_eq (tgt := 58) hx hb dX11_answer_29 (by decide) (fun c9 => absurd c9 (by decide)) (fun _ => ?_)
      refine lv_aload_n hx hb dX11_answer_32 rfl (lv_at hl 0 rfl) ?_
      refine lv_iload_n hx hb dX11_answer_33 rfl (lv_at hl 2 rfl) ?_
      refine lv_i2l hx hb dX11_answer_34 rfl ?_
      refine lv_topl (fun z6 ez6 => ?_)
      have tz6 : (z6).toInt = (p2).toInt := by rw [ez6]; exact Int32.toInt_toInt64 _
      have bz6 := i_bd p2
      refine lv_lconst (v := 0) hx hb dX11_answer_35 (by decide) ?_
      refine lv_ldc2 (v := 3) hx hb hown (hw _ w_cl_X11_487) dX11_answer_36 ?_
      have : (0 : Int64).toInt = 0 := by decide
      have : (3 : Int64).toInt = 3 := by decide
      have hPc := hP.sub (ws' := []) [] rfl
      have hDc := hD.sub (ws' := []) [] (by decide) rfl
      have hKc := hK.sub (tys' := []) [] rfl
      have hFc := va_free (wc := []) hD hS hA [] rfl
      refine va_calli (va_runV (As := [.long z6, .long 0, .long 3]) (rest := []) ⟨hx, hb, hml, hown, hts⟩ (c_X11_isIn l dC dI H.size h_mm z6 0 3) (cwV 3 hts (gv hT w_m_X11_49 w_instanceMethod_X11_isIn ws_sel_X11_isIn w_ini_X11 w_code_X11_isIn) rfl rfl rfl (by decide +kernel) ⟨(Nat.le_of_ble_eq_true rfl), (Nat.le_of_ble_eq_true rfl)⟩) ⟨pre_blind, va_recv hK hP (ci := 8) (q0 := 0) rfl rfl, pre_of hPc hKc hDc hN⟩ rfl rfl hl.1 rfl (lv_room (Nat.le_of_ble_eq_true rfl)) dX11_answer_39 ⟨(Nat.le_of_ble_eq_true rfl), (Nat.le_of_ble_eq_true rfl)⟩) hS (fun q _ h => hFc q h) hFc (fun r7 u t H locs ht hvm hq hB hz1 hk1 hS9 => ?_)
      obtain ⟨hP1, hD1⟩ := hB
      rw [ht] at hP1
      obtain ⟨hP9, hD9⟩ := va_join (wr := [(h_mm, .inr (8, (mo121 v_mm (.int 0) (.ref h_ans) (.int x_mm_answers)))), (h_ans, .inl (cy_ans, 36, .inl f_ans))]) (w1 := []) hP hD [] [0, 1] rfl rfl (by decide) (by decide) hk1 hFc hP1 hD1
      clear hP hD hS hPc hDc hKc hFc hP1 hD1 hk1 hz1 ht hvm
      have hP : va_P (dC, dI) cls [(h_mm, .inr (8, (mo121 v_mm (.int 0) (.ref h_ans) (.int x_mm_answers)))), (h_ans, .inl (cy_ans, 36, .inl f_ans))] H := hP9
      have hD : va_D A [(h_mm, .inr (8, (mo121 v_mm (.int 0) (.ref h_ans) (.int x_mm_answers)))), (h_ans, .inl (cy_ans, 36, .inl f_ans))] := hD9
      have hS := hS9
      clear hP9 hD9 hS9
      rcases hq with ⟨rfl, hq⟩ | ⟨rfl, hq⟩
      · replace hq : (((0 : Int64)).toInt ≤ ((z6)).toInt) ∧ (((z6)).toInt ≤ ((3 : Int64)).toInt) := hq
        refine lv_if_eq (tgt := 58) hx hb dX11_answer_42 (by decide) (fun c9 => absurd c9 (by decide)) (fun _ => ?_)
        refine lv_aload_n hx hb dX11_answer_45 rfl (lv_at hl 0 rfl) ?_
        refine va_get (D := (dC, dI)) (ci := 8) (v := .ref h_ans) (C := RX11) (T := TX11) (N := 71) hx hb hw iwX11 hown hK hP 0 rfl rfl 59 (by decide) (hw _ w_f_X11_240) (fun _ h9 => h9) rfl dX11_answer_46 ?_
        refine lv_iconst (v := 4) hx hb dX11_answer_49 (by decide) ?_
        refine lv_iload_n hx hb dX11_answer_50 rfl (lv_at hl 1 rfl) ?_
        refine lv_imul hx hb dX11_answer_51 ?_
        refine lv_topi (fun z8 ez8 => ?_)
        have tz8 : (z8).toInt = 4 * (p1).toInt := by rw [ez8]; exact i_mul (by decide) rfl (by omega)
        refine lv_iload_n hx hb dX11_answer_52 rfl (lv_at hl 2 rfl) ?_
        refine lv_iadd hx hb dX11_answer_53 ?_
        refine lv_topi (fun z9 ez9 => ?_)
        have tz9 : (z9).toInt = (z8).toInt + (p2).toInt := by rw [ez9]; exact i_add rfl rfl (by omega)
        refine va_iald hx hb hK hP 1 0 rfl rfl (i := z9) (vp_in_iff.mpr (by omega)) dX11_answer_54 ?_
        refine lv_topi (fun z10 ez10 => ?_)
        refine lv_goto (tgt := 59) hx hb dX11_answer_55 (by decide) ?_
        refine W.widen (k := 0) (n := 0) (Nat.le_of_ble_eq_true rfl) (Nat.le_of_ble_eq_true rfl) ?_
        have cst0 : (0 : Int32).toInt = 0 := by decide
        exact W.iret (v := z10) hx hb hr (fun t ht hW => ⟨⟨z10, 0, rfl, trivial, by rw [ht]; exact hP, hD⟩, hS.F ht⟩) hS.2.2 dX11_answer_59
      · replace hq : (((z6)).toInt < ((0 : Int64)).toInt ∨ ((3 : Int64)).toInt < ((z6)).toInt) := hq
        refine lv_if_eq (tgt := 58) hx hb dX11_answer_42 (by decide) (fun _ => ?_) (fun c9 => absurd c9 (by decide))
        refine lv_iconst (v := (-1)) hx hb dX11_answer_58 (by decide) ?_
        refine W.widen (k := 0) (n := 0) (Nat.le_of_ble_eq_true rfl) (Nat.le_of_ble_eq_true rfl) ?_
        have cstm1 : ((-1) : Int32).toInt = -1 := by decide
        have cst0 : (0 : Int32).toInt = 0 := by decide
        exact W.iret (v := (-1)) hx hb hr (fun t ht hW => ⟨⟨(-1), 0, rfl, trivial, by rw [ht]; exact hP, hD⟩, hS.F ht⟩) hS.2.2 dX11_answer_59
    · replace hq : (((z2)).toInt < ((0 : Int64)).toInt ∨ ((z4)).toInt < ((z2)).toInt) := hq
      refine lv_if_eq (tgt := 58) hx hb dX11_answer_29 (by decide) (fun _ => ?_) (fun c9 => absurd c9 (by decide))
      refine lv_iconst (v := (-1)) hx hb dX11_answer_58 (by decide) ?_
      refine W.widen (k := 0) (n := 0) (Nat.le_of_ble_eq_true rfl) (Nat.le_of_ble_eq_true rfl) ?_
      have cstm1 : ((-1) : Int32).toInt = -1 := by decide
      have cst0 : (0 : Int32).toInt = 0 := by decide
      exact W.iret (v := (-1)) hx hb hr (fun t ht hW => ⟨⟨(-1), 0, rfl, trivial, by rw [ht]; exact hP, hD⟩, hS.F ht⟩) hS.2.2 dX11_answer_59
  · have kc1 := (cv_eq (rfl : (p1).toInt = (p1).toInt) (by decide : ((-1) : Int32).toInt = -1)).mp c1
    refine lv_aload_n hx hb dX11_answer_10 rfl (lv_at hl 0 rfl) ?_
    refine va_get (D := (dC, dI)) (ci := 8) (v := .int x_mm_answers) (C := RX11) (T := TX11) (N := 71) hx hb hw iwX11 hown hK hP 0 rfl rfl 60 (by decide) (hw _ w_f_X11_413) (fun _ h9 => h9) rfl dX11_answer_11 ?_
    refine W.widen (k := 0) (n := 0) (Nat.le_of_ble_eq_true rfl) (Nat.le_of_ble_eq_true rfl) ?_
    have cst0 : (0 : Int32).toInt = 0 := by decide
    exact W.iret (v := x_mm_answers) hx hb hr (fun t ht hW => ⟨⟨x_mm_answers, 0, rfl, trivial, by rw [ht]; exact hP, hD⟩, hS.F ht⟩) hS.2.2 dX11_answer_14

set_option maxHeartbeats 8000000 in
set_option maxRecDepth 100000 in
theorem c_X11_stepsOf (l : Launch) (dC : Nat → ClassId) (dI : Nat → Nat → Nat) (sz : Nat) (h_mm : Nat) (h_sts : Nat) (v_mm : Nat → Value) (x_mm_stepMany : Int32) (x_mm_isProof : Int32) (cy_sts : ClassId) (f_sts : Nat → Int32) (p1 : Int32) (hx_mm_stepMany : 0 ≤ (x_mm_stepMany).toInt ∧ (x_mm_stepMany).toInt ≤ 999) (hx_mm_isProof : 0 ≤ (x_mm_isProof).toInt ∧ (x_mm_isProof).toInt ≤ 1) : Met l yX11_stepsOf (Ws yX11_stepsOf cX11_stepsOf 4 (some .int)) (({ frames := 0, cells := 0, slots := 0, locals := 0 } : Room)) (PRE (dC, dI) cls [(cy_sts, .int)] [(h_mm, .inr (8, (mo113 v_mm (.ref h_sts) (.int x_mm_stepMany) (.int x_mm_isProof)))), (h_sts, .inl (cy_sts, 6000, .inl f_sts))] sz [.ref h_mm, .int p1]) (va_Qi (fun (r : Int32) (_ : Unit) => True) (fun (_ : Unit) (t : State) => va_P (dC, dI) cls [(h_mm, .inr (8, (mo113 v_mm (.ref h_sts) (.int x_mm_stepMany) (.int x_mm_isProof)))), (h_sts, .inl (cy_sts, 6000, .inl f_sts))] t.heap ∧ va_D (va_A [(h_mm, .inr (8, (mo113 v_mm (.ref h_sts) (.int x_mm_stepMany) (.int x_mm_isProof)))), (h_sts, .inl (cy_sts, 6000, .inl f_sts))] sz) [(h_mm, .inr (8, (mo113 v_mm (.ref h_sts) (.int x_mm_stepMany) (.int x_mm_isProof)))), (h_sts, .inl (cy_sts, 6000, .inl f_sts))]) (va_A [(h_mm, .inr (8, (mo113 v_mm (.ref h_sts) (.int x_mm_stepMany) (.int x_mm_isProof)))), (h_sts, .inl (cy_sts, 6000, .inl f_sts))] sz)) 0 0 (va_A [(h_mm, .inr (8, (mo113 v_mm (.ref h_sts) (.int x_mm_stepMany) (.int x_mm_isProof)))), (h_sts, .inl (cy_sts, 6000, .inl f_sts))] sz) := by
  refine Met.ofW (cc := cX11_stepsOf) (maxL := 4) (ret := (some .int)) (by decide) rfl ?_
  intro p e s m args below meth c s₁ B hml hv
  obtain ⟨rfl, hsz, hP, hK, hD0, hN⟩ := hv
  have hx := B.exec
  have hb := B.bytes
  have hr := B.returns
  have hts := atoms_spec (ws := Ws yX11_stepsOf cX11_stepsOf 4 (some .int)) B.pre
  have hT : ∀ w ∈ WALL, w ∈ Ws yX11_stepsOf cX11_stepsOf 4 (some .int) := fun w h => List.mem_cons_of_mem _ h
  have hw := fun w (h : w ∈ WALL) => hts w (hT w h)
  have hown : s.vm.findClass RX11 = some m.cls := findClass_of_methodNamed B.named
  have hlocks := B.notSynchronized
  subst hsz
  have hD := hD0.self (sz := s.heap.size)
  generalize hAe : va_A [(h_mm, .inr (8, (mo113 v_mm (.ref h_sts) (.int x_mm_stepMany) (.int x_mm_isProof)))), (h_sts, .inl (cy_sts, 6000, .inl f_sts))] s.heap.size = A at hD ⊢
  have hA : ∀ q : Nat, s.heap.size ≤ q → A q := fun q h => by rw [← hAe]; exact Or.inr h
  have hS : va_S A s.heap s.heap [] := va_S.rf
  have hl := lv_entry ([.ref h_mm, .int p1]) (n := 4) (Nat.le_of_ble_eq_true rfl)
  rw [lg_entry_eq]
  generalize (lg_sl ([.ref h_mm, .int p1]) ++ List.replicate (4 - (lg_sl ([.ref h_mm, .int p1])).length) Slot.unset).toArray = ls at hl ⊢
  have hl : lv_has ls 4 [(0, .ref h_mm), (1, .int p1)] := hl
  refine lv_iconst (v := 0) hx hb dX11_stepsOf_0 (by decide) ?_
  refine lv_istore_n (lv' := [(2, .int 0), (0, .ref h_mm), (1, .int p1)]) hx hb dX11_stepsOf_1 rfl hl (by decide) rfl (fun ls hl => ?_)
  refine lv_iconst (v := 0) hx hb dX11_stepsOf_2 (by decide) ?_
  refine lv_istore_n (lv' := [(3, .int 0), (2, .int 0), (0, .ref h_mm), (1, .int p1)]) hx hb dX11_stepsOf_3 rfl hl (by decide) rfl (fun ls hl => ?_)
  have lp3 : ∀ (n : Nat) (x1 : Int32) (x2 : Int32) (H : Heap) (locs : List Loc) (ls : Array Slot), (0 ≤ (x2).toInt ∧ (x2).toInt ≤ 999) → (1000 - (x2).toInt).toNat + 1 ≤ n → va_P (dC, dI) cls [(h_mm, .inr (8, (mo113 v_mm (.ref h_sts) (.int x_mm_stepMany) (.int x_mm_isProof)))), (h_sts, .inl (cy_sts, 6000, .inl f_sts))] H → va_D A [(h_mm, .inr (8, (mo113 v_mm (.ref h_sts) (.int x_mm_stepMany) (.int x_mm_isProof)))), (h_sts, .inl (cy_sts, 6000, .inl f_sts))] → va_S A s.heap H locs → lv_has ls 4 [(0, .ref h_mm), (1, .int p1), (2, .int x1), (3, .int x2)] → W p l e ({ frames := 0, cells := 0, slots := 0, locals := 0 } : Room) s m ([.ref h_mm, .int p1] : List Value).toArray below meth c H locs 0 0 (MQ below (va_Qi (fun (r : Int32) (_ : Unit) => True) (fun (_ : Unit) (t : State) => va_P (dC, dI) cls [(h_mm, .inr (8, (mo113 v_mm (.ref h_sts) (.int x_mm_stepMany) (.int x_mm_isProof)))), (h_sts, .inl (cy_sts, 6000, .inl f_sts))] t.heap ∧ va_D A [(h_mm, .inr (8, (mo113 v_mm (.ref h_sts) (.int x_mm_stepMany) (.int x_mm_isProof)))), (h_sts, .inl (cy_sts, 6000, .inl f_sts))]) A) ([.ref h_mm, .int p1] : List Value).toArray s 0 0 A) (F0 m 4 ls []) := by
    clear hP hD hS hl
    intro n
    induction n with
    | zero => intro x1 x2 H locs ls klp3_0 hm hP hD hS hl; exact False.elim (by omega)
    | succ n ih => 
      intro x1 x2 H locs ls klp3_0 hm hP hD hS hl
      have ih4 := ih
      clear ih
      refine lv_iload_n hx hb dX11_stepsOf_4 rfl (lv_at hl 3 rfl) ?_
      refine lv_aload_n hx hb dX11_stepsOf_5 rfl (lv_at hl 0 rfl) ?_
      refine va_get (D := (dC, dI)) (ci := 8) (v := .int x_mm_stepMany) (C := RX11) (T := TX11) (N := 71) hx hb hw iwX11 hown hK hP 0 rfl rfl 56 (by decide) (hw _ w_f_X11_338) (fun _ h9 => h9) rfl dX11_stepsOf_6 ?_
      refine lv_icmp_ge (tgt := 42) hx hb dX11_stepsOf_9 (by decide) (fun c5 => ?_) (fun c5 => ?_)
      · have kc5 := (cv_le (rfl : (x_mm_stepMany).toInt = (x_mm_stepMany).toInt) (rfl : (x2).toInt = (x2).toInt)).mp c5
        refine lv_iload_n hx hb dX11_stepsOf_42 rfl (lv_at hl 2 rfl) ?_
        refine W.widen (k := 0) (n := 0) (Nat.le_of_ble_eq_true rfl) (Nat.le_of_ble_eq_true rfl) ?_
        exact W.iret (v := x1) hx hb hr (fun t ht hW => ⟨⟨x1, (), rfl, trivial, by rw [ht]; exact hP, hD⟩, hS.F ht⟩) hS.2.2 dX11_stepsOf_43
      · have kc5 := (not_congr (cv_le (rfl : (x_mm_stepMany).toInt = (x_mm_stepMany).toInt) (rfl : (x2).toInt = (x2).toInt))).mp c5
        refine lv_aload_n hx hb dX11_stepsOf_12 rfl (lv_at hl 0 rfl) ?_
        refine va_get (D := (dC, dI)) (ci := 8) (v := .int x_mm_isProof) (C := RX11) (T := TX11) (N := 71) hx hb hw iwX11 hown hK hP 0 rfl rfl 58 (by decide) (hw _ w_f_X11_410) (fun _ h9 => h9) rfl dX11_stepsOf_13 ?_
        refine lv_if_eq (tgt := 42) hx hb dX11_stepsOf_16 (by decide) (fun c6 => ?_) (fun c6 => ?_)
        · have kc6 := (cv_eq (rfl : (x_mm_isProof).toInt = (x_mm_isProof).toInt) (by decide : (0 : Int32).toInt = 0)).mp c6
          refine lv_iload_n hx hb dX11_stepsOf_42 rfl (lv_at hl 2 rfl) ?_
          refine W.widen (k := 0) (n := 0) (Nat.le_of_ble_eq_true rfl) (Nat.le_of_ble_eq_true rfl) ?_
          exact W.iret (v := x1) hx hb hr (fun t ht hW => ⟨⟨x1, (), rfl, trivial, by rw [ht]; exact hP, hD⟩, hS.F ht⟩) hS.2.2 dX11_stepsOf_43
        · have kc6 := (not_congr (cv_eq (rfl : (x_mm_isProof).toInt = (x_mm_isProof).toInt) (by decide : (0 : Int32).toInt = 0))).mp c6
          refine lv_aload_n hx hb dX11_stepsOf_19 rfl (lv_at hl 0 rfl) ?_
          refine va_get (D := (dC, dI)) (ci := 8) (v := .ref h_sts) (C := RX11) (T := TX11) (N := 71) hx hb hw iwX11 hown hK hP 0 rfl rfl 55 (by decide) (hw _ w_f_X11_237) (fun _ h9 => h9) rfl dX11_stepsOf_20 ?_
          refine lv_bipush (v := 6) hx hb dX11_stepsOf_23 (by decide) ?_
          refine lv_iload_n hx hb dX11_stepsOf_25 rfl (lv_at hl 3 rfl) ?_
          refine lv_imul hx hb dX11_stepsOf_26 ?_
          refine lv_topi (fun z7 ez7 => ?_)
          have tz7 : (z7).toInt = 6 * (x2).toInt := by rw [ez7]; exact i_mul (by decide) rfl (by omega)
          refine va_iald hx hb hK hP 1 0 rfl rfl (i := z7) (vp_in_iff.mpr (by omega)) dX11_stepsOf_27 ?_
          refine lv_topi (fun z8 ez8 => ?_)
          refine lv_iload_n hx hb dX11_stepsOf_28 rfl (lv_at hl 1 rfl) ?_
          refine lv_icmp_ne (tgt := 36) hx hb dX11_stepsOf_29 (by decide) (fun c9 => ?_) (fun c9 => ?_)
          · have kc9 := (not_congr (cv_eq (rfl : (z8).toInt = (z8).toInt) (rfl : (p1).toInt = (p1).toInt))).mp c9
            obtain ⟨z10, ez10⟩ : ∃ y : Int32, y = x2 + 1 := ⟨_, rfl⟩
            have tz10 : (z10).toInt = (x2).toInt + 1 := by rw [ez10]; exact i_add rfl (by decide) (by omega)
            refine lv_iinc (v := z10) (lv' := [(3, .int z10), (0, .ref h_mm), (1, .int p1), (2, .int x1)]) hx hb dX11_stepsOf_36 hl (k := 3) rfl (by rw [ez10]; rfl) (by decide) rfl (fun ls hl => ?_)
            refine lv_goto (tgt := 4) hx hb dX11_stepsOf_39 (by decide) ?_
            exact ih4 (x1) (z10) _ _ _ (by omega) (by omega) hP hD hS (lv_sub hl [1, 2, 3, 0] rfl)
          · have kc9 := (cv_eq (rfl : (z8).toInt = (z8).toInt) (rfl : (p1).toInt = (p1).toInt)).mp c9
            refine lv_iload_n hx hb dX11_stepsOf_32 rfl (lv_at hl 2 rfl) ?_
            refine lv_iconst (v := 1) hx hb dX11_stepsOf_33 (by decide) ?_
            refine lv_iadd hx hb dX11_stepsOf_34 ?_
            refine lv_topi (fun z11 ez11 => ?_)
            refine lv_istore_n (lv' := [(2, .int z11), (0, .ref h_mm), (1, .int p1), (3, .int x2)]) hx hb dX11_stepsOf_35 rfl hl (by decide) rfl (fun ls hl => ?_)
            obtain ⟨z12, ez12⟩ : ∃ y : Int32, y = x2 + 1 := ⟨_, rfl⟩
            have tz12 : (z12).toInt = (x2).toInt + 1 := by rw [ez12]; exact i_add rfl (by decide) (by omega)
            refine lv_iinc (v := z12) (lv' := [(3, .int z12), (2, .int z11), (0, .ref h_mm), (1, .int p1)]) hx hb dX11_stepsOf_36 hl (k := 3) rfl (by rw [ez12]; rfl) (by decide) rfl (fun ls hl => ?_)
            refine lv_goto (tgt := 4) hx hb dX11_stepsOf_39 (by decide) ?_
            exact ih4 (z11) (z12) _ _ _ (by omega) (by omega) hP hD hS (lv_sub hl [2, 3, 1, 0] rfl)
  have cst0 : (0 : Int32).toInt = 0 := by decide
  exact lp3 _ (0) (0) _ _ _ (by decide) (Nat.le_refl _) hP hD hS (lv_sub hl [2, 3, 1, 0] rfl)

set_option maxHeartbeats 8000000 in
set_option maxRecDepth 100000 in
theorem c_X11_closesWay (l : Launch) (dC : Nat → ClassId) (dI : Nat → Nat → Nat) (sz : Nat) (h_mm : Nat) (h_acl : Nat) (h_way : Nat) (v_mm : Nat → Value) (cy_acl : ClassId) (f_acl : Nat → Int32) (cy_way : ClassId) (f_way : Nat → Int32) (p1 : Int32) (p2 : Int32) (p3 : Int32) (hf_way : Rg 0 5 f_way) (q0 : 0 ≤ (p1).toInt ∧ (p1).toInt ≤ 29) (q1 : 0 ≤ (p2).toInt ∧ (p2).toInt ≤ 5) : Met l yX11_closesWay (Ws yX11_closesWay cX11_closesWay 5 (some .boolean)) (({ frames := 0, cells := 0, slots := 0, locals := 0 } : Room)) (PRE (dC, dI) cls [(cy_acl, .boolean), (cy_way, .int)] [(h_mm, .inr (8, (mo122 v_mm (.ref h_acl) (.ref h_way)))), (h_acl, .inl (cy_acl, 32400, .inl f_acl)), (h_way, .inl (cy_way, 30, .inl f_way))] sz [.ref h_mm, .int p1, .int p2, .int p3]) (va_Qi (fun (r : Int32) (_ : Unit) => (0 ≤ r.toInt ∧ r.toInt ≤ 1)) (fun (_ : Unit) (t : State) => va_P (dC, dI) cls [(h_mm, .inr (8, (mo122 v_mm (.ref h_acl) (.ref h_way)))), (h_acl, .inl (cy_acl, 32400, .inl f_acl)), (h_way, .inl (cy_way, 30, .inl f_way))] t.heap ∧ va_D (va_A [(h_mm, .inr (8, (mo122 v_mm (.ref h_acl) (.ref h_way)))), (h_acl, .inl (cy_acl, 32400, .inl f_acl)), (h_way, .inl (cy_way, 30, .inl f_way))] sz) [(h_mm, .inr (8, (mo122 v_mm (.ref h_acl) (.ref h_way)))), (h_acl, .inl (cy_acl, 32400, .inl f_acl)), (h_way, .inl (cy_way, 30, .inl f_way))]) (va_A [(h_mm, .inr (8, (mo122 v_mm (.ref h_acl) (.ref h_way)))), (h_acl, .inl (cy_acl, 32400, .inl f_acl)), (h_way, .inl (cy_way, 30, .inl f_way))] sz)) 0 0 (va_A [(h_mm, .inr (8, (mo122 v_mm (.ref h_acl) (.ref h_way)))), (h_acl, .inl (cy_acl, 32400, .inl f_acl)), (h_way, .inl (cy_way, 30, .inl f_way))] sz) := by
  refine Met.ofW (cc := cX11_closesWay) (maxL := 5) (ret := (some .boolean)) (by decide) rfl ?_
  intro p e s m args below meth c s₁ B hml hv
  obtain ⟨rfl, hsz, hP, hK, hD0, hN⟩ := hv
  have hx := B.exec
  have hb := B.bytes
  have hr := B.returns
  have hts := atoms_spec (ws := Ws yX11_closesWay cX11_closesWay 5 (some .boolean)) B.pre
  have hT : ∀ w ∈ WALL, w ∈ Ws yX11_closesWay cX11_closesWay 5 (some .boolean) := fun w h => List.mem_cons_of_mem _ h
  have hw := fun w (h : w ∈ WALL) => hts w (hT w h)
  have hown : s.vm.findClass RX11 = some m.cls := findClass_of_methodNamed B.named
  have hlocks := B.notSynchronized
  subst hsz
  have hD := hD0.self (sz := s.heap.size)
  generalize hAe : va_A [(h_mm, .inr (8, (mo122 v_mm (.ref h_acl) (.ref h_way)))), (h_acl, .inl (cy_acl, 32400, .inl f_acl)), (h_way, .inl (cy_way, 30, .inl f_way))] s.heap.size = A at hD ⊢
  have hA : ∀ q : Nat, s.heap.size ≤ q → A q := fun q h => by rw [← hAe]; exact Or.inr h
  have hS : va_S A s.heap s.heap [] := va_S.rf
  have hl := lv_entry ([.ref h_mm, .int p1, .int p2, .int p3]) (n := 5) (Nat.le_of_ble_eq_true rfl)
  rw [lg_entry_eq]
  generalize (lg_sl ([.ref h_mm, .int p1, .int p2, .int p3]) ++ List.replicate (5 - (lg_sl ([.ref h_mm, .int p1, .int p2, .int p3])).length) Slot.unset).toArray = ls at hl ⊢
  have hl : lv_has ls 5 [(0, .ref h_mm), (1, .int p1), (2, .int p2), (3, .int p3)] := hl
  refine lv_iconst (v := 0) hx hb dX11_closesWay_0 (by decide) ?_
  refine lv_istore (lv' := [(4, .int 0), (0, .ref h_mm), (1, .int p1), (2, .int p2), (3, .int p3)]) hx hb dX11_closesWay_1 hl (by decide) rfl (fun ls hl => ?_)
  have lp2 : ∀ (n : Nat) (x1 : Int32) (H : Heap) (locs : List Loc) (ls : Array Slot), (0 ≤ (x1).toInt ∧ (x1).toInt ≤ 29) → ((x1).toInt ≤ (p1).toInt) → (30 - (x1).toInt).toNat + 1 ≤ n → va_P (dC, dI) cls [(h_mm, .inr (8, (mo122 v_mm (.ref h_acl) (.ref h_way)))), (h_acl, .inl (cy_acl, 32400, .inl f_acl)), (h_way, .inl (cy_way, 30, .inl f_way))] H → va_D A [(h_mm, .inr (8, (mo122 v_mm (.ref h_acl) (.ref h_way)))), (h_acl, .inl (cy_acl, 32400, .inl f_acl)), (h_way, .inl (cy_way, 30, .inl f_way))] → va_S A s.heap H locs → lv_has ls 5 [(0, .ref h_mm), (1, .int p1), (2, .int p2), (3, .int p3), (4, .int x1)] → W p l e ({ frames := 0, cells := 0, slots := 0, locals := 0 } : Room) s m ([.ref h_mm, .int p1, .int p2, .int p3] : List Value).toArray below meth c H locs 0 0 (MQ below (va_Qi (fun (r : Int32) (_ : Unit) => (0 ≤ r.toInt ∧ r.toInt ≤ 1)) (fun (_ : Unit) (t : State) => va_P (dC, dI) cls [(h_mm, .inr (8, (mo122 v_mm (.ref h_acl) (.ref h_way)))), (h_acl, .inl (cy_acl, 32400, .inl f_acl)), (h_way, .inl (cy_way, 30, .inl f_way))] t.heap ∧ va_D A [(h_mm, .inr (8, (mo122 v_mm (.ref h_acl) (.ref h_way)))), (h_acl, .inl (cy_acl, 32400, .inl f_acl)), (h_way, .inl (cy_way, 30, .inl f_way))]) A) ([.ref h_mm, .int p1, .int p2, .int p3] : List Value).toArray s 0 0 A) (F0 m 3 ls []) := by
    clear hP hD hS hl
    intro n
    induction n with
    | zero => intro x1 H locs ls klp2_0 klp2_1 hm hP hD hS hl; exact False.elim (by omega)
    | succ n ih => 
      intro x1 H locs ls klp2_0 klp2_1 hm hP hD hS hl
      have ih3 := ih
      clear ih
      refine lv_iload hx hb dX11_closesWay_3 (lv_at hl 4 rfl) ?_
      refine lv_iload_n hx hb dX11_closesWay_5 rfl (lv_at hl 1 rfl) ?_
      refine lv_icmp_ge (tgt := 55) hx hb dX11_closesWay_6 (by decide) (fun c4 => ?_) (fun c4 => ?_)
      · have kc4 := (cv_le (rfl : (p1).toInt = (p1).toInt) (rfl : (x1).toInt = (x1).toInt)).mp c4
        refine lv_iconst (v := 0) hx hb dX11_closesWay_55 (by decide) ?_
        refine W.widen (k := 0) (n := 0) (Nat.le_of_ble_eq_true rfl) (Nat.le_of_ble_eq_true rfl) ?_
        have cst0 : (0 : Int32).toInt = 0 := by decide
        have w5 : 0 ≤ (0 : Int32).toInt ∧ (0 : Int32).toInt ≤ 1 := by omega
        exact W.zret (v := 0) (ty := .boolean) hx hb hr (by decide) (fun t ht hW => ⟨⟨0, (), rfl, w5, by rw [ht]; exact hP, hD⟩, hS.F ht⟩) hS.2.2 dX11_closesWay_56
      · have kc4 := (not_congr (cv_le (rfl : (p1).toInt = (p1).toInt) (rfl : (x1).toInt = (x1).toInt))).mp c4
        refine lv_iload hx hb dX11_closesWay_9 (lv_at hl 4 rfl) ?_
        refine lv_iload_n hx hb dX11_closesWay_11 rfl (lv_at hl 3 rfl) ?_
        refine lv_icmp_eq (tgt := 49) hx hb dX11_closesWay_12 (by decide) (fun c6 => ?_) (fun c6 => ?_)
        · have kc6 := (cv_eq (rfl : (x1).toInt = (x1).toInt) (rfl : (p3).toInt = (p3).toInt)).mp c6
          obtain ⟨z7, ez7⟩ : ∃ y : Int32, y = x1 + 1 := ⟨_, rfl⟩
          have tz7 : (z7).toInt = (x1).toInt + 1 := by rw [ez7]; exact i_add rfl (by decide) (by omega)
          refine lv_iinc (v := z7) (lv' := [(4, .int z7), (0, .ref h_mm), (1, .int p1), (2, .int p2), (3, .int p3)]) hx hb dX11_closesWay_49 hl (k := 4) rfl (by rw [ez7]; rfl) (by decide) rfl (fun ls hl => ?_)
          refine lv_goto (tgt := 3) hx hb dX11_closesWay_52 (by decide) ?_
          exact ih3 (z7) _ _ _ (by omega) (by omega) (by omega) hP hD hS (lv_sub hl [1, 2, 3, 4, 0] rfl)
        · have kc6 := (not_congr (cv_eq (rfl : (x1).toInt = (x1).toInt) (rfl : (p3).toInt = (p3).toInt))).mp c6
          refine lv_aload_n hx hb dX11_closesWay_15 rfl (lv_at hl 0 rfl) ?_
          refine va_get (D := (dC, dI)) (ci := 8) (v := .ref h_acl) (C := RX11) (T := TX11) (N := 71) hx hb hw iwX11 hown hK hP 0 rfl rfl 68 (by decide) (hw _ w_f_X11_252) (fun _ h9 => h9) rfl dX11_closesWay_16 ?_
          refine lv_sipush (v := 180) hx hb dX11_closesWay_19 (by decide) ?_
          refine lv_bipush (v := 6) hx hb dX11_closesWay_22 (by decide) ?_
          refine lv_iload_n hx hb dX11_closesWay_24 rfl (lv_at hl 1 rfl) ?_
          refine lv_imul hx hb dX11_closesWay_25 ?_
          refine lv_topi (fun z8 ez8 => ?_)
          have tz8 : (z8).toInt = 6 * (p1).toInt := by rw [ez8]; exact i_mul (by decide) rfl (by omega)
          refine lv_iload_n hx hb dX11_closesWay_26 rfl (lv_at hl 2 rfl) ?_
          refine lv_iadd hx hb dX11_closesWay_27 ?_
          refine lv_topi (fun z9 ez9 => ?_)
          have tz9 : (z9).toInt = (z8).toInt + (p2).toInt := by rw [ez9]; exact i_add rfl rfl (by omega)
          refine lv_imul hx hb dX11_closesWay_28 ?_
          refine lv_topi (fun z10 ez10 => ?_)
          have tz10 : (z10).toInt = 180 * (z9).toInt := by rw [ez10]; exact i_mul (by decide) rfl (by omega)
          refine lv_bipush (v := 6) hx hb dX11_closesWay_29 (by decide) ?_
          refine lv_iload hx hb dX11_closesWay_31 (lv_at hl 4 rfl) ?_
          refine lv_imul hx hb dX11_closesWay_33 ?_
          refine lv_topi (fun z11 ez11 => ?_)
          have tz11 : (z11).toInt = 6 * (x1).toInt := by rw [ez11]; exact i_mul (by decide) rfl (by omega)
          refine lv_iadd hx hb dX11_closesWay_34 ?_
          refine lv_topi (fun z12 ez12 => ?_)
          have tz12 : (z12).toInt = (z10).toInt + (z11).toInt := by rw [ez12]; exact i_add rfl rfl (by omega)
          refine lv_aload_n hx hb dX11_closesWay_35 rfl (lv_at hl 0 rfl) ?_
          refine va_get (D := (dC, dI)) (ci := 8) (v := .ref h_way) (C := RX11) (T := TX11) (N := 71) hx hb hw iwX11 hown hK hP 0 rfl rfl 69 (by decide) (hw _ w_f_X11_255) (fun _ h9 => h9) rfl dX11_closesWay_36 ?_
          refine lv_iload hx hb dX11_closesWay_39 (lv_at hl 4 rfl) ?_
          refine va_iald hx hb hK hP 2 1 rfl rfl (i := x1) (vp_in_iff.mpr (by omega)) dX11_closesWay_41 ?_
          refine lv_topi (fun z13 ez13 => ?_)
          have rz13 : 0 ≤ (z13).toInt ∧ (z13).toInt ≤ 5 := by rw [ez13]; exact hf_way _
          refine lv_iadd hx hb dX11_closesWay_42 ?_
          refine lv_topi (fun z14 ez14 => ?_)
          have tz14 : (z14).toInt = (z12).toInt + (z13).toInt := by rw [ez14]; exact i_add rfl rfl (by omega)
          refine va_zald hx hb hK hP 1 0 rfl rfl (i := z14) (vp_in_iff.mpr (by omega)) dX11_closesWay_43 ?_
          refine lv_topi (fun z15 ez15 => ?_)
          refine lv_if_eq (tgt := 49) hx hb dX11_closesWay_44 (by decide) (fun c16 => ?_) (fun c16 => ?_)
          · have kc16 := (cv_eq (rfl : (z15).toInt = (z15).toInt) (by decide : (0 : Int32).toInt = 0)).mp c16
            obtain ⟨z17, ez17⟩ : ∃ y : Int32, y = x1 + 1 := ⟨_, rfl⟩
            have tz17 : (z17).toInt = (x1).toInt + 1 := by rw [ez17]; exact i_add rfl (by decide) (by omega)
            refine lv_iinc (v := z17) (lv' := [(4, .int z17), (0, .ref h_mm), (1, .int p1), (2, .int p2), (3, .int p3)]) hx hb dX11_closesWay_49 hl (k := 4) rfl (by rw [ez17]; rfl) (by decide) rfl (fun ls hl => ?_)
            refine lv_goto (tgt := 3) hx hb dX11_closesWay_52 (by decide) ?_
            exact ih3 (z17) _ _ _ (by omega) (by omega) (by omega) hP hD hS (lv_sub hl [1, 2, 3, 4, 0] rfl)
          · have kc16 := (not_congr (cv_eq (rfl : (z15).toInt = (z15).toInt) (by decide : (0 : Int32).toInt = 0))).mp c16
            refine lv_iconst (v := 1) hx hb dX11_closesWay_47 (by decide) ?_
            refine W.widen (k := 0) (n := 0) (Nat.le_of_ble_eq_true rfl) (Nat.le_of_ble_eq_true rfl) ?_
            have cst1 : (1 : Int32).toInt = 1 := by decide
            have w18 : 0 ≤ (1 : Int32).toInt ∧ (1 : Int32).toInt ≤ 1 := by omega
            exact W.zret (v := 1) (ty := .boolean) hx hb hr (by decide) (fun t ht hW => ⟨⟨1, (), rfl, w18, by rw [ht]; exact hP, hD⟩, hS.F ht⟩) hS.2.2 dX11_closesWay_48
  have cst0 : (0 : Int32).toInt = 0 := by decide
  exact lp2 _ (0) _ _ _ (by decide) (by omega) (Nat.le_refl _) hP hD hS (lv_sub hl [1, 2, 3, 4, 0] rfl)

set_option maxHeartbeats 8000000 in
set_option maxRecDepth 100000 in
theorem c_X11_tries (l : Launch) (dC : Nat → ClassId) (dI : Nat → Nat → Nat) (sz : Nat) (h_mm : Nat) (v_mm : Nat → Value) (x_mm_isOver : Int32) (x_mm_tries : Int32) (hx_mm_isOver : 0 ≤ (x_mm_isOver).toInt ∧ (x_mm_isOver).toInt ≤ 1) (hx_mm_tries : 0 ≤ (x_mm_tries).toInt ∧ (x_mm_tries).toInt ≤ 1000) : Met l yX11_tries (Ws yX11_tries cX11_tries 1 (some .boolean)) (({ frames := 0, cells := 0, slots := 0, locals := 0 } : Room)) (PRE (dC, dI) cls [] [(h_mm, .inr (8, (mo123 v_mm (.int x_mm_isOver) (.int x_mm_tries))))] sz [.ref h_mm]) (va_Qi (fun (r : Int32) (u : (Int32) × (Int32)) => (0 ≤ (u.1).toInt ∧ (u.1).toInt ≤ 1) ∧ (0 ≤ (u.2).toInt ∧ (u.2).toInt ≤ 1000) ∧ (0 ≤ r.toInt ∧ r.toInt ≤ 1)) (fun (u : (Int32) × (Int32)) (t : State) => va_P (dC, dI) cls [(h_mm, .inr (8, (mo123 v_mm (.int u.1) (.int u.2))))] t.heap ∧ va_D (va_A [(h_mm, .inr (8, (mo123 v_mm (.int x_mm_isOver) (.int x_mm_tries))))] sz) [(h_mm, .inr (8, (mo123 v_mm (.int u.1) (.int u.2))))]) (va_A [(h_mm, .inr (8, (mo123 v_mm (.int x_mm_isOver) (.int x_mm_tries))))] sz)) 0 0 (va_A [(h_mm, .inr (8, (mo123 v_mm (.int x_mm_isOver) (.int x_mm_tries))))] sz) := by
  refine Met.ofW (cc := cX11_tries) (maxL := 1) (ret := (some .boolean)) (by decide) rfl ?_
  intro p e s m args below meth c s₁ B hml hv
  obtain ⟨rfl, hsz, hP, hK, hD0, hN⟩ := hv
  have hx := B.exec
  have hb := B.bytes
  have hr := B.returns
  have hts := atoms_spec (ws := Ws yX11_tries cX11_tries 1 (some .boolean)) B.pre
  have hT : ∀ w ∈ WALL, w ∈ Ws yX11_tries cX11_tries 1 (some .boolean) := fun w h => List.mem_cons_of_mem _ h
  have hw := fun w (h : w ∈ WALL) => hts w (hT w h)
  have hown : s.vm.findClass RX11 = some m.cls := findClass_of_methodNamed B.named
  have hlocks := B.notSynchronized
  subst hsz
  have hD := hD0.self (sz := s.heap.size)
  generalize hAe : va_A [(h_mm, .inr (8, (mo123 v_mm (.int x_mm_isOver) (.int x_mm_tries))))] s.heap.size = A at hD ⊢
  have hA : ∀ q : Nat, s.heap.size ≤ q → A q := fun q h => by rw [← hAe]; exact Or.inr h
  have hS : va_S A s.heap s.heap [] := va_S.rf
  have hl := lv_entry ([.ref h_mm]) (n := 1) (Nat.le_of_ble_eq_true rfl)
  rw [lg_entry_eq]
  generalize (lg_sl ([.ref h_mm]) ++ List.replicate (1 - (lg_sl ([.ref h_mm])).length) Slot.unset).toArray = ls at hl ⊢
  have hl : lv_has ls 1 [(0, .ref h_mm)] := hl
  refine lv_aload_n hx hb dX11_tries_0 rfl (lv_at hl 0 rfl) ?_
  refine va_get (D := (dC, dI)) (ci := 8) (v := .int x_mm_tries) (C := RX11) (T := TX11) (N := 71) hx hb hw iwX11 hown hK hP 0 rfl rfl 51 (by decide) (hw _ w_f_X11_389) (fun _ h9 => h9) rfl dX11_tries_1 ?_
  refine lv_sipush (v := 1000) hx hb dX11_tries_4 (by decide) ?_
  refine lv_icmp_ne (tgt := 17) hx hb dX11_tries_7 (by decide) (fun c1 => ?_) (fun c1 => ?_)
  · have kc1 := (not_congr (cv_eq (rfl : (x_mm_tries).toInt = (x_mm_tries).toInt) (by decide : (1000 : Int32).toInt = 1000))).mp c1
    refine lv_aload_n hx hb dX11_tries_17 rfl (lv_at hl 0 rfl) ?_
    refine lv_aload_n hx hb dX11_tries_18 rfl (lv_at hl 0 rfl) ?_
    refine va_get (D := (dC, dI)) (ci := 8) (v := .int x_mm_tries) (C := RX11) (T := TX11) (N := 71) hx hb hw iwX11 hown hK hP 0 rfl rfl 51 (by decide) (hw _ w_f_X11_389) (fun _ h9 => h9) rfl dX11_tries_19 ?_
    refine lv_iconst (v := 1) hx hb dX11_tries_22 (by decide) ?_
    refine lv_iadd hx hb dX11_tries_23 ?_
    refine lv_topi (fun z2 ez2 => ?_)
    have tz2 : (z2).toInt = (x_mm_tries).toInt + 1 := by rw [ez2]; exact i_add rfl (by decide) (by omega)
    refine va_put (D := (dC, dI)) (ci := 8) (v := .int z2) (ty := tyX11 51) (C := RX11) (T := TX11) (N := 71) hx hb hw iwX11 tyX11 tyX11_ok nmX11 hown hK hP hD hS 0 rfl rfl 51 (by decide) (hw _ w_f_X11_389) (fun _ h9 => h9) rfl (tyX11_ok 51 (by decide)) rfl rfl (Nat.le_of_ble_eq_true rfl) dX11_tries_24 (fun H locs hP9 hD9 hS9 => ?_)
    clear hP hD hS
    have hP : va_P (dC, dI) cls [(h_mm, .inr (8, (mo123 v_mm (.int x_mm_isOver) (.int z2))))] H := hP9
    have hD : va_D A [(h_mm, .inr (8, (mo123 v_mm (.int x_mm_isOver) (.int z2))))] := hD9
    have hS := hS9
    clear hP9 hD9 hS9
    refine lv_iconst (v := 1) hx hb dX11_tries_27 (by decide) ?_
    refine W.widen (k := 0) (n := 0) (Nat.le_of_ble_eq_true rfl) (Nat.le_of_ble_eq_true rfl) ?_
    have cst1 : (1 : Int32).toInt = 1 := by decide
    have w3 : 0 ≤ ((x_mm_isOver)).toInt ∧ ((x_mm_isOver)).toInt ≤ 1 := by first | exact hx_mm_isOver | omega
    have w4 : 0 ≤ ((z2)).toInt ∧ ((z2)).toInt ≤ 1000 := by omega
    have w5 : 0 ≤ (1 : Int32).toInt ∧ (1 : Int32).toInt ≤ 1 := by omega
    exact W.zret (v := 1) (ty := .boolean) hx hb hr (by decide) (fun t ht hW => ⟨⟨1, (x_mm_isOver, z2), rfl, ⟨w3, w4, w5⟩, by rw [ht]; exact hP, hD⟩, hS.F ht⟩) hS.2.2 dX11_tries_28
  · have kc1 := (cv_eq (rfl : (x_mm_tries).toInt = (x_mm_tries).toInt) (by decide : (1000 : Int32).toInt = 1000)).mp c1
    refine lv_aload_n hx hb dX11_tries_10 rfl (lv_at hl 0 rfl) ?_
    refine lv_iconst (v := 1) hx hb dX11_tries_11 (by decide) ?_
    refine va_put (D := (dC, dI)) (ci := 8) (v := .int 1) (ty := tyX11 50) (C := RX11) (T := TX11) (N := 71) hx hb hw iwX11 tyX11 tyX11_ok nmX11 hown hK hP hD hS 0 rfl rfl 50 (by decide) (hw _ w_f_X11_373) (fun _ h9 => h9) rfl (tyX11_ok 50 (by decide)) rfl rfl (Nat.le_of_ble_eq_true rfl) dX11_tries_12 (fun H locs hP9 hD9 hS9 => ?_)
    clear hP hD hS
    have hP : va_P (dC, dI) cls [(h_mm, .inr (8, (mo123 v_mm (.int 1) (.int x_mm_tries))))] H := hP9
    have hD : va_D A [(h_mm, .inr (8, (mo123 v_mm (.int 1) (.int x_mm_tries))))] := hD9
    have hS := hS9
    clear hP9 hD9 hS9
    refine lv_iconst (v := 0) hx hb dX11_tries_15 (by decide) ?_
    refine W.widen (k := 0) (n := 0) (Nat.le_of_ble_eq_true rfl) (Nat.le_of_ble_eq_true rfl) ?_
    have cst0 : (0 : Int32).toInt = 0 := by decide
    have cst1 : (1 : Int32).toInt = 1 := by decide
    have w6 : 0 ≤ ((1 : Int32)).toInt ∧ ((1 : Int32)).toInt ≤ 1 := by omega
    have w7 : 0 ≤ ((x_mm_tries)).toInt ∧ ((x_mm_tries)).toInt ≤ 1000 := by first | exact hx_mm_tries | omega
    have w8 : 0 ≤ (0 : Int32).toInt ∧ (0 : Int32).toInt ≤ 1 := by omega
    exact W.zret (v := 0) (ty := .boolean) hx hb hr (by decide) (fun t ht hW => ⟨⟨0, (1, x_mm_tries), rfl, ⟨w6, w7, w8⟩, by rw [ht]; exact hP, hD⟩, hS.F ht⟩) hS.2.2 dX11_tries_16

