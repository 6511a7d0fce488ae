theorem w_cl_X11_45 : Cond.constantLong "OppositePairsModel" 45 (97 : Int64) ∈ WALL := wall_t (tb_5 15 (by decide +kernel)) rfl
theorem w_cl_X11_47 : Cond.constantLong "OppositePairsModel" 47 (122 : Int64) ∈ WALL := wall_t (tb_5 16 (by decide +kernel)) rfl
theorem w_cl_X11_57 : Cond.constantLong "OppositePairsModel" 57 (65 : Int64) ∈ WALL := wall_t (tb_5 21 (by decide +kernel)) rfl
theorem w_cl_X11_59 : Cond.constantLong "OppositePairsModel" 59 (90 : Int64) ∈ WALL := wall_t (tb_5 22 (by decide +kernel)) rfl
theorem w_cl_X11_93 : Cond.constantLong "OppositePairsModel" 93 (27 : Int64) ∈ WALL := wall_t (tb_5 23 (by decide +kernel)) rfl
theorem w_code_X11_isIn : Cond.code yX11_isIn prog_13_method_2_code 7 (some .boolean) ∈ WALL := wall_t (tb_5 20 (by decide +kernel)) rfl
theorem w_code_X11_isLetter : Cond.code yX11_isLetter prog_13_method_11_code 2 (some .boolean) ∈ WALL := wall_t (tb_5 10 (by decide +kernel)) rfl
theorem w_code_X11_isSign : Cond.code yX11_isSign prog_13_method_14_code 2 (some .boolean) ∈ WALL := wall_t (tb_5 35 (by decide +kernel)) rfl
theorem w_code_X11_isSmall : Cond.code yX11_isSmall prog_13_method_10_code 2 (some .boolean) ∈ WALL := wall_t (tb_5 14 (by decide +kernel)) rfl
theorem w_code_X11_see : Cond.code yX11_see prog_13_method_9_code 2 (some .int) ∈ WALL := wall_t (tb_5 6 (by decide +kernel)) rfl
theorem w_code_X11_step : Cond.code yX11_step prog_13_method_13_code 3 none ∈ WALL := wall_t (tb_5 2 (by decide +kernel)) rfl
theorem w_f_X11_11 : Cond.fieldLink "OppositePairsModel" 11 "OppositePairsModel" "nodeB" "[I" ∈ WALL := wall_t (tb_5 143 (by decide +kernel)) rfl
theorem w_f_X11_14 : Cond.fieldLink "OppositePairsModel" 14 "OppositePairsModel" "nodeC" "[I" ∈ WALL := wall_t (tb_5 144 (by decide +kernel)) rfl
theorem w_f_X11_17 : Cond.fieldLink "OppositePairsModel" 17 "OppositePairsModel" "nodeVariable" "[I" ∈ WALL := wall_t (tb_5 140 (by decide +kernel)) rfl
theorem w_f_X11_38 : Cond.fieldLink "OppositePairsModel" 38 "OppositePairsModel" "taped" "I" ∈ WALL := wall_t (tb_5 153 (by decide +kernel)) rfl
theorem w_f_X11_41 : Cond.fieldLink "OppositePairsModel" 41 "OppositePairsModel" "tape" "[B" ∈ WALL := wall_t (tb_5 152 (by decide +kernel)) rfl
theorem w_f_X11_61 : Cond.fieldLink "OppositePairsModel" 61 "OppositePairsModel" "isFaulty" "Z" ∈ WALL := wall_t (tb_5 159 (by decide +kernel)) rfl
theorem w_f_X11_65 : Cond.fieldLink "OppositePairsModel" 65 "OppositePairsModel" "fault" "I" ∈ WALL := wall_t (tb_5 160 (by decide +kernel)) rfl
theorem w_f_X11_68 : Cond.fieldLink "OppositePairsModel" 68 "OppositePairsModel" "place" "I" ∈ WALL := wall_t (tb_5 155 (by decide +kernel)) rfl
theorem w_f_X11_7 : Cond.fieldLink "OppositePairsModel" 7 "OppositePairsModel" "nodeA" "[I" ∈ WALL := wall_t (tb_5 142 (by decide +kernel)) rfl
theorem w_f_X11_71 : Cond.fieldLink "OppositePairsModel" 71 "OppositePairsModel" "faultPlace" "I" ∈ WALL := wall_t (tb_5 161 (by decide +kernel)) rfl
theorem w_f_X11_74 : Cond.fieldLink "OppositePairsModel" 74 "OppositePairsModel" "at" "I" ∈ WALL := wall_t (tb_5 154 (by decide +kernel)) rfl
theorem w_f_X11_80 : Cond.fieldLink "OppositePairsModel" 80 "OppositePairsModel" "sign" "I" ∈ WALL := wall_t (tb_5 157 (by decide +kernel)) rfl
theorem w_f_X11_83 : Cond.fieldLink "OppositePairsModel" 83 "OppositePairsModel" "name" "J" ∈ WALL := wall_t (tb_5 158 (by decide +kernel)) rfl
theorem w_f_X11_87 : Cond.fieldLink "OppositePairsModel" 87 "OppositePairsModel" "kind" "I" ∈ WALL := wall_t (tb_5 156 (by decide +kernel)) rfl
theorem w_ini_X11 : Cond.initialized "OppositePairsModel" ∈ WALL := wall_t (tb_1 9 (by decide +kernel)) rfl
theorem w_instanceMethod_X11_isIn : Cond.instanceMethod yX11_isIn ∈ WALL := wall_t (tb_5 19 (by decide +kernel)) rfl
theorem w_instanceMethod_X11_isLetter : Cond.instanceMethod yX11_isLetter ∈ WALL := wall_t (tb_5 9 (by decide +kernel)) rfl
theorem w_instanceMethod_X11_isSign : Cond.instanceMethod yX11_isSign ∈ WALL := wall_t (tb_5 34 (by decide +kernel)) rfl
theorem w_instanceMethod_X11_isSmall : Cond.instanceMethod yX11_isSmall ∈ WALL := wall_t (tb_5 13 (by decide +kernel)) rfl
theorem w_instanceMethod_X11_see : Cond.instanceMethod yX11_see ∈ WALL := wall_t (tb_5 5 (by decide +kernel)) rfl
theorem w_instanceMethod_X11_step : Cond.instanceMethod yX11_step ∈ WALL := wall_t (tb_5 0 (by decide +kernel)) rfl
theorem w_m_X11_49 : Cond.methodLink "OppositePairsModel" 49 yX11_isIn ∈ WALL := wall_t (tb_5 17 (by decide +kernel)) rfl
theorem w_m_X11_53 : Cond.methodLink "OppositePairsModel" 53 yX11_isSmall ∈ WALL := wall_t (tb_5 11 (by decide +kernel)) rfl
theorem w_m_X11_77 : Cond.methodLink "OppositePairsModel" 77 yX11_see ∈ WALL := wall_t (tb_5 3 (by decide +kernel)) rfl
theorem w_m_X11_90 : Cond.methodLink "OppositePairsModel" 90 yX11_isLetter ∈ WALL := wall_t (tb_5 7 (by decide +kernel)) rfl
theorem w_m_X11_95 : Cond.methodLink "OppositePairsModel" 95 yX11_isSign ∈ WALL := wall_t (tb_5 32 (by decide +kernel)) rfl
theorem w_m_X11_98 : Cond.methodLink "OppositePairsModel" 98 yX11_step ∈ WALL := wall_t (tb_4 238 (by decide +kernel)) rfl
theorem ws_sel_X11_isIn : Cond.selects "OppositePairsModel" yX11_isIn yX11_isIn ∈ WALL := wall_s 87 (by decide +kernel) rfl
theorem ws_sel_X11_isLetter : Cond.selects "OppositePairsModel" yX11_isLetter yX11_isLetter ∈ WALL := wall_s 85 (by decide +kernel) rfl
theorem ws_sel_X11_isSign : Cond.selects "OppositePairsModel" yX11_isSign yX11_isSign ∈ WALL := wall_s 90 (by decide +kernel) rfl
theorem ws_sel_X11_isSmall : Cond.selects "OppositePairsModel" yX11_isSmall yX11_isSmall ∈ WALL := wall_s 86 (by decide +kernel) rfl
theorem ws_sel_X11_see : Cond.selects "OppositePairsModel" yX11_see yX11_see ∈ WALL := wall_s 84 (by decide +kernel) rfl
theorem ws_sel_X11_step : Cond.selects "OppositePairsModel" yX11_step yX11_step ∈ WALL := wall_s 83 (by decide +kernel) rfl
theorem dX11_faulty_0 : decode cX11_faulty 0 = .ok (.aload_n 0, 1) := by decide +kernel
theorem dX11_faulty_1 : decode cX11_faulty 1 = .ok (.getfield 61, 3) := by decide +kernel
theorem dX11_faulty_10 : decode cX11_faulty 10 = .ok (.putfield 61, 3) := by decide +kernel
theorem dX11_faulty_13 : decode cX11_faulty 13 = .ok (.aload_n 0, 1) := by decide +kernel
theorem dX11_faulty_14 : decode cX11_faulty 14 = .ok (.iload_n 1, 1) := by decide +kernel
theorem dX11_faulty_15 : decode cX11_faulty 15 = .ok (.putfield 65, 3) := by decide +kernel
theorem dX11_faulty_18 : decode cX11_faulty 18 = .ok (.aload_n 0, 1) := by decide +kernel
theorem dX11_faulty_19 : decode cX11_faulty 19 = .ok (.aload_n 0, 1) := by decide +kernel
theorem dX11_faulty_20 : decode cX11_faulty 20 = .ok (.getfield 68, 3) := by decide +kernel
theorem dX11_faulty_23 : decode cX11_faulty 23 = .ok (.putfield 71, 3) := by decide +kernel
theorem dX11_faulty_26 : decode cX11_faulty 26 = .ok (.return_, 1) := by decide +kernel
theorem dX11_faulty_4 : decode cX11_faulty 4 = .ok (.ifCond .eq 4, 3) := by decide +kernel
theorem dX11_faulty_7 : decode cX11_faulty 7 = .ok (.return_, 1) := by decide +kernel
theorem dX11_faulty_8 : decode cX11_faulty 8 = .ok (.aload_n 0, 1) := by decide +kernel
theorem dX11_faulty_9 : decode cX11_faulty 9 = .ok (.iconst 1, 1) := by decide +kernel
theorem dX11_has_0 : decode cX11_has 0 = .ok (.iload_n 1, 1) := by decide +kernel
theorem dX11_has_1 : decode cX11_has 1 = .ok (.iload_n 2, 1) := by decide +kernel
theorem dX11_has_10 : decode cX11_has 10 = .ok (.goto 4, 3) := by decide +kernel
theorem dX11_has_13 : decode cX11_has 13 = .ok (.iconst 0, 1) := by decide +kernel
theorem dX11_has_14 : decode cX11_has 14 = .ok (.ireturn, 1) := by decide +kernel
theorem dX11_has_2 : decode cX11_has 2 = .ok (.ishr, 1) := by decide +kernel
theorem dX11_has_3 : decode cX11_has 3 = .ok (.iconst 1, 1) := by decide +kernel
theorem dX11_has_4 : decode cX11_has 4 = .ok (.iand, 1) := by decide +kernel
theorem dX11_has_5 : decode cX11_has 5 = .ok (.iconst 1, 1) := by decide +kernel
theorem dX11_has_6 : decode cX11_has 6 = .ok (.if_icmp .ne 7, 3) := by decide +kernel
theorem dX11_has_9 : decode cX11_has 9 = .ok (.iconst 1, 1) := by decide +kernel
theorem dX11_isIn_0 : decode cX11_isIn 0 = .ok (.lload_n 1, 1) := by decide +kernel
theorem dX11_isIn_1 : decode cX11_isIn 1 = .ok (.lload_n 3, 1) := by decide +kernel
theorem dX11_isIn_10 : decode cX11_isIn 10 = .ok (.ifCond .gt 7, 3) := by decide +kernel
theorem dX11_isIn_13 : decode cX11_isIn 13 = .ok (.iconst 1, 1) := by decide +kernel
theorem dX11_isIn_14 : decode cX11_isIn 14 = .ok (.goto 4, 3) := by decide +kernel
theorem dX11_isIn_17 : decode cX11_isIn 17 = .ok (.iconst 0, 1) := by decide +kernel
theorem dX11_isIn_18 : decode cX11_isIn 18 = .ok (.ireturn, 1) := by decide +kernel
theorem dX11_isIn_2 : decode cX11_isIn 2 = .ok (.lcmp, 1) := by decide +kernel
theorem dX11_isIn_3 : decode cX11_isIn 3 = .ok (.ifCond .lt 14, 3) := by decide +kernel
theorem dX11_isIn_6 : decode cX11_isIn 6 = .ok (.lload_n 1, 1) := by decide +kernel
theorem dX11_isIn_7 : decode cX11_isIn 7 = .ok (.lload 5, 2) := by decide +kernel
theorem dX11_isIn_9 : decode cX11_isIn 9 = .ok (.lcmp, 1) := by decide +kernel
theorem dX11_isLetter_0 : decode cX11_isLetter 0 = .ok (.aload_n 0, 1) := by decide +kernel
theorem dX11_isLetter_1 : decode cX11_isLetter 1 = .ok (.iload_n 1, 1) := by decide +kernel
theorem dX11_isLetter_10 : decode cX11_isLetter 10 = .ok (.i2l, 1) := by decide +kernel
theorem dX11_isLetter_11 : decode cX11_isLetter 11 = .ok (.ldc2_w 57, 3) := by decide +kernel
theorem dX11_isLetter_14 : decode cX11_isLetter 14 = .ok (.ldc2_w 59, 3) := by decide +kernel
theorem dX11_isLetter_17 : decode cX11_isLetter 17 = .ok (.invokevirtual 49, 3) := by decide +kernel
theorem dX11_isLetter_2 : decode cX11_isLetter 2 = .ok (.invokevirtual 53, 3) := by decide +kernel
theorem dX11_isLetter_20 : decode cX11_isLetter 20 = .ok (.ifCond .eq 7, 3) := by decide +kernel
theorem dX11_isLetter_23 : decode cX11_isLetter 23 = .ok (.iconst 1, 1) := by decide +kernel
theorem dX11_isLetter_24 : decode cX11_isLetter 24 = .ok (.goto 4, 3) := by decide +kernel
theorem dX11_isLetter_27 : decode cX11_isLetter 27 = .ok (.iconst 0, 1) := by decide +kernel
theorem dX11_isLetter_28 : decode cX11_isLetter 28 = .ok (.ireturn, 1) := by decide +kernel
theorem dX11_isLetter_5 : decode cX11_isLetter 5 = .ok (.ifCond .ne 18, 3) := by decide +kernel
theorem dX11_isLetter_8 : decode cX11_isLetter 8 = .ok (.aload_n 0, 1) := by decide +kernel
theorem dX11_isLetter_9 : decode cX11_isLetter 9 = .ok (.iload_n 1, 1) := by decide +kernel
theorem dX11_isLiteralHere_0 : decode cX11_isLiteralHere 0 = .ok (.aload_n 0, 1) := by decide +kernel
theorem dX11_isLiteralHere_1 : decode cX11_isLiteralHere 1 = .ok (.getfield 61, 3) := by decide +kernel
theorem dX11_isLiteralHere_11 : decode cX11_isLiteralHere 11 = .ok (.iconst 1, 1) := by decide +kernel
theorem dX11_isLiteralHere_12 : decode cX11_isLiteralHere 12 = .ok (.if_icmp .eq 12, 3) := by decide +kernel
theorem dX11_isLiteralHere_15 : decode cX11_isLiteralHere 15 = .ok (.aload_n 0, 1) := by decide +kernel
theorem dX11_isLiteralHere_16 : decode cX11_isLiteralHere 16 = .ok (.bipush 45, 2) := by decide +kernel
theorem dX11_isLiteralHere_18 : decode cX11_isLiteralHere 18 = .ok (.invokevirtual 95, 3) := by decide +kernel
theorem dX11_isLiteralHere_21 : decode cX11_isLiteralHere 21 = .ok (.ifCond .eq 7, 3) := by decide +kernel
theorem dX11_isLiteralHere_24 : decode cX11_isLiteralHere 24 = .ok (.iconst 1, 1) := by decide +kernel
theorem dX11_isLiteralHere_25 : decode cX11_isLiteralHere 25 = .ok (.goto 4, 3) := by decide +kernel
theorem dX11_isLiteralHere_28 : decode cX11_isLiteralHere 28 = .ok (.iconst 0, 1) := by decide +kernel
theorem dX11_isLiteralHere_29 : decode cX11_isLiteralHere 29 = .ok (.ireturn, 1) := by decide +kernel
theorem dX11_isLiteralHere_4 : decode cX11_isLiteralHere 4 = .ok (.ifCond .ne 24, 3) := by decide +kernel
theorem dX11_isLiteralHere_7 : decode cX11_isLiteralHere 7 = .ok (.aload_n 0, 1) := by decide +kernel
theorem dX11_isLiteralHere_8 : decode cX11_isLiteralHere 8 = .ok (.getfield 87, 3) := by decide +kernel
theorem dX11_isSign_0 : decode cX11_isSign 0 = .ok (.aload_n 0, 1) := by decide +kernel
theorem dX11_isSign_1 : decode cX11_isSign 1 = .ok (.getfield 61, 3) := by decide +kernel
theorem dX11_isSign_11 : decode cX11_isSign 11 = .ok (.iconst 3, 1) := by decide +kernel
theorem dX11_isSign_12 : decode cX11_isSign 12 = .ok (.if_icmp .ne 15, 3) := by decide +kernel
theorem dX11_isSign_15 : decode cX11_isSign 15 = .ok (.aload_n 0, 1) := by decide +kernel
theorem dX11_isSign_16 : decode cX11_isSign 16 = .ok (.getfield 80, 3) := by decide +kernel
theorem dX11_isSign_19 : decode cX11_isSign 19 = .ok (.iload_n 1, 1) := by decide +kernel
theorem dX11_isSign_20 : decode cX11_isSign 20 = .ok (.if_icmp .ne 7, 3) := by decide +kernel
theorem dX11_isSign_23 : decode cX11_isSign 23 = .ok (.iconst 1, 1) := by decide +kernel
theorem dX11_isSign_24 : decode cX11_isSign 24 = .ok (.goto 4, 3) := by decide +kernel
theorem dX11_isSign_27 : decode cX11_isSign 27 = .ok (.iconst 0, 1) := by decide +kernel
theorem dX11_isSign_28 : decode cX11_isSign 28 = .ok (.ireturn, 1) := by decide +kernel
theorem dX11_isSign_4 : decode cX11_isSign 4 = .ok (.ifCond .ne 23, 3) := by decide +kernel
theorem dX11_isSign_7 : decode cX11_isSign 7 = .ok (.aload_n 0, 1) := by decide +kernel
theorem dX11_isSign_8 : decode cX11_isSign 8 = .ok (.getfield 87, 3) := by decide +kernel
theorem dX11_isSmall_0 : decode cX11_isSmall 0 = .ok (.aload_n 0, 1) := by decide +kernel
theorem dX11_isSmall_1 : decode cX11_isSmall 1 = .ok (.iload_n 1, 1) := by decide +kernel
theorem dX11_isSmall_12 : decode cX11_isSmall 12 = .ok (.ireturn, 1) := by decide +kernel
theorem dX11_isSmall_2 : decode cX11_isSmall 2 = .ok (.i2l, 1) := by decide +kernel
theorem dX11_isSmall_3 : decode cX11_isSmall 3 = .ok (.ldc2_w 45, 3) := by decide +kernel
theorem dX11_isSmall_6 : decode cX11_isSmall 6 = .ok (.ldc2_w 47, 3) := by decide +kernel
theorem dX11_isSmall_9 : decode cX11_isSmall 9 = .ok (.invokevirtual 49, 3) := by decide +kernel
theorem dX11_isTermHere_0 : decode cX11_isTermHere 0 = .ok (.aload_n 0, 1) := by decide +kernel
theorem dX11_isTermHere_1 : decode cX11_isTermHere 1 = .ok (.getfield 61, 3) := by decide +kernel
theorem dX11_isTermHere_11 : decode cX11_isTermHere 11 = .ok (.iconst 1, 1) := by decide +kernel
theorem dX11_isTermHere_12 : decode cX11_isTermHere 12 = .ok (.if_icmp .eq 11, 3) := by decide +kernel
theorem dX11_isTermHere_15 : decode cX11_isTermHere 15 = .ok (.aload_n 0, 1) := by decide +kernel
theorem dX11_isTermHere_16 : decode cX11_isTermHere 16 = .ok (.getfield 87, 3) := by decide +kernel
theorem dX11_isTermHere_19 : decode cX11_isTermHere 19 = .ok (.iconst 2, 1) := by decide +kernel
theorem dX11_isTermHere_20 : decode cX11_isTermHere 20 = .ok (.if_icmp .ne 7, 3) := by decide +kernel
theorem dX11_isTermHere_23 : decode cX11_isTermHere 23 = .ok (.iconst 1, 1) := by decide +kernel
theorem dX11_isTermHere_24 : decode cX11_isTermHere 24 = .ok (.goto 4, 3) := by decide +kernel
theorem dX11_isTermHere_27 : decode cX11_isTermHere 27 = .ok (.iconst 0, 1) := by decide +kernel
theorem dX11_isTermHere_28 : decode cX11_isTermHere 28 = .ok (.ireturn, 1) := by decide +kernel
theorem dX11_isTermHere_4 : decode cX11_isTermHere 4 = .ok (.ifCond .ne 23, 3) := by decide +kernel
theorem dX11_isTermHere_7 : decode cX11_isTermHere 7 = .ok (.aload_n 0, 1) := by decide +kernel
theorem dX11_isTermHere_8 : decode cX11_isTermHere 8 = .ok (.getfield 87, 3) := by decide +kernel
theorem dX11_litAt_0 : decode cX11_litAt 0 = .ok (.bipush 6, 2) := by decide +kernel
theorem dX11_litAt_2 : decode cX11_litAt 2 = .ok (.iload_n 1, 1) := by decide +kernel
theorem dX11_litAt_3 : decode cX11_litAt 3 = .ok (.imul, 1) := by decide +kernel
theorem dX11_litAt_4 : decode cX11_litAt 4 = .ok (.iload_n 2, 1) := by decide +kernel
theorem dX11_litAt_5 : decode cX11_litAt 5 = .ok (.iadd, 1) := by decide +kernel
theorem dX11_litAt_6 : decode cX11_litAt 6 = .ok (.ireturn, 1) := by decide +kernel
theorem dX11_part_0 : decode cX11_part 0 = .ok (.iload_n 2, 1) := by decide +kernel
theorem dX11_part_1 : decode cX11_part 1 = .ok (.ifCond .ne 12, 3) := by decide +kernel
theorem dX11_part_10 : decode cX11_part 10 = .ok (.goto 23, 3) := by decide +kernel
theorem dX11_part_13 : decode cX11_part 13 = .ok (.iload_n 2, 1) := by decide +kernel
theorem dX11_part_14 : decode cX11_part 14 = .ok (.iconst 1, 1) := by decide +kernel
theorem dX11_part_15 : decode cX11_part 15 = .ok (.if_icmp .ne 12, 3) := by decide +kernel
theorem dX11_part_18 : decode cX11_part 18 = .ok (.aload_n 0, 1) := by decide +kernel
theorem dX11_part_19 : decode cX11_part 19 = .ok (.getfield 11, 3) := by decide +kernel
theorem dX11_part_22 : decode cX11_part 22 = .ok (.iload_n 1, 1) := by decide +kernel
theorem dX11_part_23 : decode cX11_part 23 = .ok (.iaload, 1) := by decide +kernel
theorem dX11_part_24 : decode cX11_part 24 = .ok (.goto 9, 3) := by decide +kernel
theorem dX11_part_27 : decode cX11_part 27 = .ok (.aload_n 0, 1) := by decide +kernel
theorem dX11_part_28 : decode cX11_part 28 = .ok (.getfield 14, 3) := by decide +kernel
theorem dX11_part_31 : decode cX11_part 31 = .ok (.iload_n 1, 1) := by decide +kernel
theorem dX11_part_32 : decode cX11_part 32 = .ok (.iaload, 1) := by decide +kernel
theorem dX11_part_33 : decode cX11_part 33 = .ok (.ireturn, 1) := by decide +kernel
theorem dX11_part_4 : decode cX11_part 4 = .ok (.aload_n 0, 1) := by decide +kernel
theorem dX11_part_5 : decode cX11_part 5 = .ok (.getfield 7, 3) := by decide +kernel
theorem dX11_part_8 : decode cX11_part 8 = .ok (.iload_n 1, 1) := by decide +kernel
theorem dX11_part_9 : decode cX11_part 9 = .ok (.iaload, 1) := by decide +kernel
theorem dX11_partsAt_0 : decode cX11_partsAt 0 = .ok (.aload_n 0, 1) := by decide +kernel
theorem dX11_partsAt_1 : decode cX11_partsAt 1 = .ok (.getfield 17, 3) := by decide +kernel
theorem dX11_partsAt_10 : decode cX11_partsAt 10 = .ok (.aload_n 0, 1) := by decide +kernel
theorem dX11_partsAt_11 : decode cX11_partsAt 11 = .ok (.getfield 7, 3) := by decide +kernel
theorem dX11_partsAt_14 : decode cX11_partsAt 14 = .ok (.iload_n 1, 1) := by decide +kernel
theorem dX11_partsAt_15 : decode cX11_partsAt 15 = .ok (.iaload, 1) := by decide +kernel
theorem dX11_partsAt_16 : decode cX11_partsAt 16 = .ok (.iconst (-1), 1) := by decide +kernel
theorem dX11_partsAt_17 : decode cX11_partsAt 17 = .ok (.if_icmp .ne 7, 3) := by decide +kernel
theorem dX11_partsAt_20 : decode cX11_partsAt 20 = .ok (.iconst 0, 1) := by decide +kernel
theorem dX11_partsAt_21 : decode cX11_partsAt 21 = .ok (.goto 32, 3) := by decide +kernel
theorem dX11_partsAt_24 : decode cX11_partsAt 24 = .ok (.aload_n 0, 1) := by decide +kernel
theorem dX11_partsAt_25 : decode cX11_partsAt 25 = .ok (.getfield 11, 3) := by decide +kernel
theorem dX11_partsAt_28 : decode cX11_partsAt 28 = .ok (.iload_n 1, 1) := by decide +kernel
theorem dX11_partsAt_29 : decode cX11_partsAt 29 = .ok (.iaload, 1) := by decide +kernel
theorem dX11_partsAt_30 : decode cX11_partsAt 30 = .ok (.iconst (-1), 1) := by decide +kernel
theorem dX11_partsAt_31 : decode cX11_partsAt 31 = .ok (.if_icmp .ne 7, 3) := by decide +kernel
theorem dX11_partsAt_34 : decode cX11_partsAt 34 = .ok (.iconst 1, 1) := by decide +kernel
theorem dX11_partsAt_35 : decode cX11_partsAt 35 = .ok (.goto 18, 3) := by decide +kernel
theorem dX11_partsAt_38 : decode cX11_partsAt 38 = .ok (.aload_n 0, 1) := by decide +kernel
theorem dX11_partsAt_39 : decode cX11_partsAt 39 = .ok (.getfield 14, 3) := by decide +kernel
theorem dX11_partsAt_4 : decode cX11_partsAt 4 = .ok (.iload_n 1, 1) := by decide +kernel
theorem dX11_partsAt_42 : decode cX11_partsAt 42 = .ok (.iload_n 1, 1) := by decide +kernel
theorem dX11_partsAt_43 : decode cX11_partsAt 43 = .ok (.iaload, 1) := by decide +kernel
theorem dX11_partsAt_44 : decode cX11_partsAt 44 = .ok (.iconst (-1), 1) := by decide +kernel
theorem dX11_partsAt_45 : decode cX11_partsAt 45 = .ok (.if_icmp .ne 7, 3) := by decide +kernel
theorem dX11_partsAt_48 : decode cX11_partsAt 48 = .ok (.iconst 2, 1) := by decide +kernel
theorem dX11_partsAt_49 : decode cX11_partsAt 49 = .ok (.goto 4, 3) := by decide +kernel
theorem dX11_partsAt_5 : decode cX11_partsAt 5 = .ok (.iaload, 1) := by decide +kernel
theorem dX11_partsAt_52 : decode cX11_partsAt 52 = .ok (.iconst 3, 1) := by decide +kernel
theorem dX11_partsAt_53 : decode cX11_partsAt 53 = .ok (.ireturn, 1) := by decide +kernel
theorem dX11_partsAt_6 : decode cX11_partsAt 6 = .ok (.iconst (-1), 1) := by decide +kernel
theorem dX11_partsAt_7 : decode cX11_partsAt 7 = .ok (.if_icmp .ne 13, 3) := by decide +kernel
theorem dX11_passes_0 : decode cX11_passes 0 = .ok (.aload_n 0, 1) := by decide +kernel
theorem dX11_passes_1 : decode cX11_passes 1 = .ok (.iload_n 1, 1) := by decide +kernel
theorem dX11_passes_10 : decode cX11_passes 10 = .ok (.aload_n 0, 1) := by decide +kernel
theorem dX11_passes_11 : decode cX11_passes 11 = .ok (.invokevirtual 98, 3) := by decide +kernel
theorem dX11_passes_14 : decode cX11_passes 14 = .ok (.iconst 1, 1) := by decide +kernel
theorem dX11_passes_15 : decode cX11_passes 15 = .ok (.ireturn, 1) := by decide +kernel
theorem dX11_passes_2 : decode cX11_passes 2 = .ok (.invokevirtual 95, 3) := by decide +kernel
theorem dX11_passes_5 : decode cX11_passes 5 = .ok (.ifCond .ne 5, 3) := by decide +kernel
theorem dX11_passes_8 : decode cX11_passes 8 = .ok (.iconst 0, 1) := by decide +kernel
theorem dX11_passes_9 : decode cX11_passes 9 = .ok (.ireturn, 1) := by decide +kernel
theorem dX11_see_0 : decode cX11_see 0 = .ok (.iload_n 1, 1) := by decide +kernel
theorem dX11_see_1 : decode cX11_see 1 = .ok (.aload_n 0, 1) := by decide +kernel
theorem dX11_see_12 : decode cX11_see 12 = .ok (.iload_n 1, 1) := by decide +kernel
theorem dX11_see_13 : decode cX11_see 13 = .ok (.baload, 1) := by decide +kernel
theorem dX11_see_14 : decode cX11_see 14 = .ok (.sipush 255, 3) := by decide +kernel
theorem dX11_see_17 : decode cX11_see 17 = .ok (.iand, 1) := by decide +kernel
theorem dX11_see_18 : decode cX11_see 18 = .ok (.goto 4, 3) := by decide +kernel
theorem dX11_see_2 : decode cX11_see 2 = .ok (.getfield 38, 3) := by decide +kernel
theorem dX11_see_21 : decode cX11_see 21 = .ok (.iconst (-1), 1) := by decide +kernel
theorem dX11_see_22 : decode cX11_see 22 = .ok (.ireturn, 1) := by decide +kernel
theorem dX11_see_5 : decode cX11_see 5 = .ok (.if_icmp .ge 16, 3) := by decide +kernel
theorem dX11_see_8 : decode cX11_see 8 = .ok (.aload_n 0, 1) := by decide +kernel
theorem dX11_see_9 : decode cX11_see 9 = .ok (.getfield 41, 3) := by decide +kernel
theorem dX11_step_0 : decode cX11_step 0 = .ok (.aload_n 0, 1) := by decide +kernel
theorem dX11_step_1 : decode cX11_step 1 = .ok (.aload_n 0, 1) := by decide +kernel
theorem dX11_step_10 : decode cX11_step 10 = .ok (.if_icmp .eq 16, 3) := by decide +kernel
theorem dX11_step_100 : decode cX11_step 100 = .ok (.return_, 1) := by decide +kernel
theorem dX11_step_101 : decode cX11_step 101 = .ok (.iconst 1, 1) := by decide +kernel
theorem dX11_step_102 : decode cX11_step 102 = .ok (.istore_n 2, 1) := by decide +kernel
theorem dX11_step_103 : decode cX11_step 103 = .ok (.aload_n 0, 1) := by decide +kernel
theorem dX11_step_104 : decode cX11_step 104 = .ok (.aload_n 0, 1) := by decide +kernel
theorem dX11_step_105 : decode cX11_step 105 = .ok (.aload_n 0, 1) := by decide +kernel
theorem dX11_step_106 : decode cX11_step 106 = .ok (.getfield 74, 3) := by decide +kernel
theorem dX11_step_109 : decode cX11_step 109 = .ok (.invokevirtual 77, 3) := by decide +kernel
theorem dX11_step_112 : decode cX11_step 112 = .ok (.invokevirtual 90, 3) := by decide +kernel
theorem dX11_step_115 : decode cX11_step 115 = .ok (.ifCond .eq 83, 3) := by decide +kernel
theorem dX11_step_118 : decode cX11_step 118 = .ok (.iload_n 2, 1) := by decide +kernel
theorem dX11_step_119 : decode cX11_step 119 = .ok (.ifCond .eq 22, 3) := by decide +kernel
theorem dX11_step_122 : decode cX11_step 122 = .ok (.aload_n 0, 1) := by decide +kernel
theorem dX11_step_123 : decode cX11_step 123 = .ok (.aload_n 0, 1) := by decide +kernel
theorem dX11_step_124 : decode cX11_step 124 = .ok (.aload_n 0, 1) := by decide +kernel
theorem dX11_step_125 : decode cX11_step 125 = .ok (.getfield 74, 3) := by decide +kernel
theorem dX11_step_128 : decode cX11_step 128 = .ok (.invokevirtual 77, 3) := by decide +kernel
theorem dX11_step_13 : decode cX11_step 13 = .ok (.aload_n 0, 1) := by decide +kernel
theorem dX11_step_131 : decode cX11_step 131 = .ok (.invokevirtual 53, 3) := by decide +kernel
theorem dX11_step_134 : decode cX11_step 134 = .ok (.ifCond .eq 7, 3) := by decide +kernel
theorem dX11_step_137 : decode cX11_step 137 = .ok (.iconst 1, 1) := by decide +kernel
theorem dX11_step_138 : decode cX11_step 138 = .ok (.goto 4, 3) := by decide +kernel
theorem dX11_step_14 : decode cX11_step 14 = .ok (.aload_n 0, 1) := by decide +kernel
theorem dX11_step_141 : decode cX11_step 141 = .ok (.iconst 0, 1) := by decide +kernel
theorem dX11_step_142 : decode cX11_step 142 = .ok (.istore_n 2, 1) := by decide +kernel
theorem dX11_step_143 : decode cX11_step 143 = .ok (.aload_n 0, 1) := by decide +kernel
theorem dX11_step_144 : decode cX11_step 144 = .ok (.getfield 74, 3) := by decide +kernel
theorem dX11_step_147 : decode cX11_step 147 = .ok (.aload_n 0, 1) := by decide +kernel
theorem dX11_step_148 : decode cX11_step 148 = .ok (.getfield 68, 3) := by decide +kernel
theorem dX11_step_15 : decode cX11_step 15 = .ok (.getfield 74, 3) := by decide +kernel
theorem dX11_step_151 : decode cX11_step 151 = .ok (.isub, 1) := by decide +kernel
theorem dX11_step_152 : decode cX11_step 152 = .ok (.bipush 8, 2) := by decide +kernel
theorem dX11_step_154 : decode cX11_step 154 = .ok (.if_icmp .ge 31, 3) := by decide +kernel
theorem dX11_step_157 : decode cX11_step 157 = .ok (.aload_n 0, 1) := by decide +kernel
theorem dX11_step_158 : decode cX11_step 158 = .ok (.ldc2_w 93, 3) := by decide +kernel
theorem dX11_step_161 : decode cX11_step 161 = .ok (.aload_n 0, 1) := by decide +kernel
theorem dX11_step_162 : decode cX11_step 162 = .ok (.getfield 83, 3) := by decide +kernel
theorem dX11_step_165 : decode cX11_step 165 = .ok (.lmul, 1) := by decide +kernel
theorem dX11_step_166 : decode cX11_step 166 = .ok (.aload_n 0, 1) := by decide +kernel
theorem dX11_step_167 : decode cX11_step 167 = .ok (.aload_n 0, 1) := by decide +kernel
theorem dX11_step_168 : decode cX11_step 168 = .ok (.getfield 74, 3) := by decide +kernel
theorem dX11_step_171 : decode cX11_step 171 = .ok (.invokevirtual 77, 3) := by decide +kernel
theorem dX11_step_174 : decode cX11_step 174 = .ok (.i2l, 1) := by decide +kernel
theorem dX11_step_175 : decode cX11_step 175 = .ok (.ladd, 1) := by decide +kernel
theorem dX11_step_176 : decode cX11_step 176 = .ok (.ldc2_w 45, 3) := by decide +kernel
theorem dX11_step_179 : decode cX11_step 179 = .ok (.lsub, 1) := by decide +kernel
theorem dX11_step_18 : decode cX11_step 18 = .ok (.invokevirtual 77, 3) := by decide +kernel
theorem dX11_step_180 : decode cX11_step 180 = .ok (.lconst 1, 1) := by decide +kernel
theorem dX11_step_181 : decode cX11_step 181 = .ok (.ladd, 1) := by decide +kernel
theorem dX11_step_182 : decode cX11_step 182 = .ok (.putfield 83, 3) := by decide +kernel
theorem dX11_step_185 : decode cX11_step 185 = .ok (.aload_n 0, 1) := by decide +kernel
theorem dX11_step_186 : decode cX11_step 186 = .ok (.aload_n 0, 1) := by decide +kernel
theorem dX11_step_187 : decode cX11_step 187 = .ok (.getfield 74, 3) := by decide +kernel
theorem dX11_step_190 : decode cX11_step 190 = .ok (.iconst 1, 1) := by decide +kernel
theorem dX11_step_191 : decode cX11_step 191 = .ok (.iadd, 1) := by decide +kernel
theorem dX11_step_192 : decode cX11_step 192 = .ok (.putfield 74, 3) := by decide +kernel
theorem dX11_step_195 : decode cX11_step 195 = .ok (.goto (-92), 3) := by decide +kernel
theorem dX11_step_198 : decode cX11_step 198 = .ok (.aload_n 0, 1) := by decide +kernel
theorem dX11_step_199 : decode cX11_step 199 = .ok (.iload_n 2, 1) := by decide +kernel
theorem dX11_step_2 : decode cX11_step 2 = .ok (.getfield 74, 3) := by decide +kernel
theorem dX11_step_200 : decode cX11_step 200 = .ok (.ifCond .eq 21, 3) := by decide +kernel
theorem dX11_step_203 : decode cX11_step 203 = .ok (.aload_n 0, 1) := by decide +kernel
theorem dX11_step_204 : decode cX11_step 204 = .ok (.getfield 74, 3) := by decide +kernel
theorem dX11_step_207 : decode cX11_step 207 = .ok (.aload_n 0, 1) := by decide +kernel
theorem dX11_step_208 : decode cX11_step 208 = .ok (.getfield 68, 3) := by decide +kernel
theorem dX11_step_21 : decode cX11_step 21 = .ok (.bipush 10, 2) := by decide +kernel
theorem dX11_step_211 : decode cX11_step 211 = .ok (.isub, 1) := by decide +kernel
theorem dX11_step_212 : decode cX11_step 212 = .ok (.bipush 8, 2) := by decide +kernel
theorem dX11_step_214 : decode cX11_step 214 = .ok (.if_icmp .gt 7, 3) := by decide +kernel
theorem dX11_step_217 : decode cX11_step 217 = .ok (.iconst 1, 1) := by decide +kernel
theorem dX11_step_218 : decode cX11_step 218 = .ok (.goto 21, 3) := by decide +kernel
theorem dX11_step_221 : decode cX11_step 221 = .ok (.aload_n 0, 1) := by decide +kernel
theorem dX11_step_222 : decode cX11_step 222 = .ok (.getfield 74, 3) := by decide +kernel
theorem dX11_step_225 : decode cX11_step 225 = .ok (.aload_n 0, 1) := by decide +kernel
theorem dX11_step_226 : decode cX11_step 226 = .ok (.getfield 68, 3) := by decide +kernel
theorem dX11_step_229 : decode cX11_step 229 = .ok (.isub, 1) := by decide +kernel
theorem dX11_step_23 : decode cX11_step 23 = .ok (.if_icmp .ne 16, 3) := by decide +kernel
theorem dX11_step_230 : decode cX11_step 230 = .ok (.iconst 1, 1) := by decide +kernel
theorem dX11_step_231 : decode cX11_step 231 = .ok (.if_icmp .ne 7, 3) := by decide +kernel
theorem dX11_step_234 : decode cX11_step 234 = .ok (.iconst 2, 1) := by decide +kernel
theorem dX11_step_235 : decode cX11_step 235 = .ok (.goto 4, 3) := by decide +kernel
theorem dX11_step_238 : decode cX11_step 238 = .ok (.iconst 4, 1) := by decide +kernel
theorem dX11_step_239 : decode cX11_step 239 = .ok (.putfield 87, 3) := by decide +kernel
theorem dX11_step_242 : decode cX11_step 242 = .ok (.return_, 1) := by decide +kernel
theorem dX11_step_26 : decode cX11_step 26 = .ok (.aload_n 0, 1) := by decide +kernel
theorem dX11_step_27 : decode cX11_step 27 = .ok (.aload_n 0, 1) := by decide +kernel
theorem dX11_step_28 : decode cX11_step 28 = .ok (.getfield 74, 3) := by decide +kernel
theorem dX11_step_31 : decode cX11_step 31 = .ok (.iconst 1, 1) := by decide +kernel
theorem dX11_step_32 : decode cX11_step 32 = .ok (.iadd, 1) := by decide +kernel
theorem dX11_step_33 : decode cX11_step 33 = .ok (.putfield 74, 3) := by decide +kernel
theorem dX11_step_36 : decode cX11_step 36 = .ok (.goto (-36), 3) := by decide +kernel
theorem dX11_step_39 : decode cX11_step 39 = .ok (.aload_n 0, 1) := by decide +kernel
theorem dX11_step_40 : decode cX11_step 40 = .ok (.aload_n 0, 1) := by decide +kernel
theorem dX11_step_41 : decode cX11_step 41 = .ok (.getfield 74, 3) := by decide +kernel
theorem dX11_step_44 : decode cX11_step 44 = .ok (.putfield 68, 3) := by decide +kernel
theorem dX11_step_47 : decode cX11_step 47 = .ok (.aload_n 0, 1) := by decide +kernel
theorem dX11_step_48 : decode cX11_step 48 = .ok (.aload_n 0, 1) := by decide +kernel
theorem dX11_step_49 : decode cX11_step 49 = .ok (.getfield 74, 3) := by decide +kernel
theorem dX11_step_5 : decode cX11_step 5 = .ok (.invokevirtual 77, 3) := by decide +kernel
theorem dX11_step_52 : decode cX11_step 52 = .ok (.invokevirtual 77, 3) := by decide +kernel
theorem dX11_step_55 : decode cX11_step 55 = .ok (.istore_n 1, 1) := by decide +kernel
theorem dX11_step_56 : decode cX11_step 56 = .ok (.aload_n 0, 1) := by decide +kernel
theorem dX11_step_57 : decode cX11_step 57 = .ok (.iload_n 1, 1) := by decide +kernel
theorem dX11_step_58 : decode cX11_step 58 = .ok (.putfield 80, 3) := by decide +kernel
theorem dX11_step_61 : decode cX11_step 61 = .ok (.aload_n 0, 1) := by decide +kernel
theorem dX11_step_62 : decode cX11_step 62 = .ok (.lconst 0, 1) := by decide +kernel
theorem dX11_step_63 : decode cX11_step 63 = .ok (.putfield 83, 3) := by decide +kernel
theorem dX11_step_66 : decode cX11_step 66 = .ok (.iload_n 1, 1) := by decide +kernel
theorem dX11_step_67 : decode cX11_step 67 = .ok (.iconst (-1), 1) := by decide +kernel
theorem dX11_step_68 : decode cX11_step 68 = .ok (.if_icmp .ne 9, 3) := by decide +kernel
theorem dX11_step_71 : decode cX11_step 71 = .ok (.aload_n 0, 1) := by decide +kernel
theorem dX11_step_72 : decode cX11_step 72 = .ok (.iconst 0, 1) := by decide +kernel
theorem dX11_step_73 : decode cX11_step 73 = .ok (.putfield 87, 3) := by decide +kernel
theorem dX11_step_76 : decode cX11_step 76 = .ok (.return_, 1) := by decide +kernel
theorem dX11_step_77 : decode cX11_step 77 = .ok (.aload_n 0, 1) := by decide +kernel
theorem dX11_step_78 : decode cX11_step 78 = .ok (.iload_n 1, 1) := by decide +kernel
theorem dX11_step_79 : decode cX11_step 79 = .ok (.invokevirtual 90, 3) := by decide +kernel
theorem dX11_step_8 : decode cX11_step 8 = .ok (.bipush 32, 2) := by decide +kernel
theorem dX11_step_82 : decode cX11_step 82 = .ok (.ifCond .ne 19, 3) := by decide +kernel
theorem dX11_step_85 : decode cX11_step 85 = .ok (.aload_n 0, 1) := by decide +kernel
theorem dX11_step_86 : decode cX11_step 86 = .ok (.iconst 3, 1) := by decide +kernel
theorem dX11_step_87 : decode cX11_step 87 = .ok (.putfield 87, 3) := by decide +kernel
theorem dX11_step_90 : decode cX11_step 90 = .ok (.aload_n 0, 1) := by decide +kernel
theorem dX11_step_91 : decode cX11_step 91 = .ok (.aload_n 0, 1) := by decide +kernel
theorem dX11_step_92 : decode cX11_step 92 = .ok (.getfield 74, 3) := by decide +kernel
theorem dX11_step_95 : decode cX11_step 95 = .ok (.iconst 1, 1) := by decide +kernel
theorem dX11_step_96 : decode cX11_step 96 = .ok (.iadd, 1) := by decide +kernel
theorem dX11_step_97 : decode cX11_step 97 = .ok (.putfield 74, 3) := by decide +kernel
abbrev mo85 (v : Nat → Value) (a3 a4 a5 : Value) : List Value := ((v 0) :: (v 1) :: (v 2) :: a3 :: a4 :: a5 :: (v 6) :: (v 7) :: (v 8) :: (v 9) :: (v 10) :: (v 11) :: (v 12) :: (v 13) :: (v 14) :: (v 15) :: (v 16) :: (v 17) :: (v 18) :: (v 19) :: (v 20) :: (v 21) :: (v 22) :: (v 23) :: (v 24) :: (v 25) :: (v 26) :: (v 27) :: (v 28) :: (v 29) :: (v 30) :: (v 31) :: (v 32) :: (v 33) :: (v 34) :: (v 35) :: (v 36) :: (v 37) :: (v 38) :: (v 39) :: (v 40) :: (v 41) :: (v 42) :: [(v 43), (v 44), (v 45), (v 46), (v 47), (v 48), (v 49), (v 50), (v 51), (v 52), (v 53), (v 54), (v 55), (v 56), (v 57), (v 58), (v 59), (v 60), (v 61), (v 62), (v 63), (v 64), (v 65), (v 66), (v 67), (v 68), (v 69), (v 70)])
abbrev mo86 (v : Nat → Value) (a1 a3 a4 a5 : Value) : List Value := ((v 0) :: a1 :: (v 2) :: a3 :: a4 :: a5 :: (v 6) :: (v 7) :: (v 8) :: (v 9) :: (v 10) :: (v 11) :: (v 12) :: (v 13) :: (v 14) :: (v 15) :: (v 16) :: (v 17) :: (v 18) :: (v 19) :: (v 20) :: (v 21) :: (v 22) :: (v 23) :: (v 24) :: (v 25) :: (v 26) :: (v 27) :: (v 28) :: (v 29) :: (v 30) :: (v 31) :: (v 32) :: (v 33) :: (v 34) :: (v 35) :: (v 36) :: (v 37) :: (v 38) :: (v 39) :: (v 40) :: (v 41) :: (v 42) :: [(v 43), (v 44), (v 45), (v 46), (v 47), (v 48), (v 49), (v 50), (v 51), (v 52), (v 53), (v 54), (v 55), (v 56), (v 57), (v 58), (v 59), (v 60), (v 61), (v 62), (v 63), (v 64), (v 65), (v 66), (v 67), (v 68), (v 69), (v 70)])
abbrev mo87 (v : Nat → Value) : List Value := ((v 0) :: (v 1) :: (v 2) :: (v 3) :: (v 4) :: (v 5) :: (v 6) :: (v 7) :: (v 8) :: (v 9) :: (v 10) :: (v 11) :: (v 12) :: (v 13) :: (v 14) :: (v 15) :: (v 16) :: (v 17) :: (v 18) :: (v 19) :: (v 20) :: (v 21) :: (v 22) :: (v 23) :: (v 24) :: (v 25) :: (v 26) :: (v 27) :: (v 28) :: (v 29) :: (v 30) :: (v 31) :: (v 32) :: (v 33) :: (v 34) :: (v 35) :: (v 36) :: (v 37) :: (v 38) :: (v 39) :: (v 40) :: (v 41) :: (v 42) :: [(v 43), (v 44), (v 45), (v 46), (v 47), (v 48), (v 49), (v 50), (v 51), (v 52), (v 53), (v 54), (v 55), (v 56), (v 57), (v 58), (v 59), (v 60), (v 61), (v 62), (v 63), (v 64), (v 65), (v 66), (v 67), (v 68), (v 69), (v 70)])
abbrev mo88 (v : Nat → Value) (a13 a14 : Value) : List Value := ((v 0) :: (v 1) :: (v 2) :: (v 3) :: (v 4) :: (v 5) :: (v 6) :: (v 7) :: (v 8) :: (v 9) :: (v 10) :: (v 11) :: (v 12) :: a13 :: a14 :: (v 15) :: (v 16) :: (v 17) :: (v 18) :: (v 19) :: (v 20) :: (v 21) :: (v 22) :: (v 23) :: (v 24) :: (v 25) :: (v 26) :: (v 27) :: (v 28) :: (v 29) :: (v 30) :: (v 31) :: (v 32) :: (v 33) :: (v 34) :: (v 35) :: (v 36) :: (v 37) :: (v 38) :: (v 39) :: (v 40) :: (v 41) :: (v 42) :: [(v 43), (v 44), (v 45), (v 46), (v 47), (v 48), (v 49), (v 50), (v 51), (v 52), (v 53), (v 54), (v 55), (v 56), (v 57), (v 58), (v 59), (v 60), (v 61), (v 62), (v 63), (v 64), (v 65), (v 66), (v 67), (v 68), (v 69), (v 70)])
abbrev mo89 (v : Nat → Value) (a13 a14 a15 a16 a17 a18 a19 : Value) : List Value := ((v 0) :: (v 1) :: (v 2) :: (v 3) :: (v 4) :: (v 5) :: (v 6) :: (v 7) :: (v 8) :: (v 9) :: (v 10) :: (v 11) :: (v 12) :: a13 :: a14 :: a15 :: a16 :: a17 :: a18 :: a19 :: (v 20) :: (v 21) :: (v 22) :: (v 23) :: (v 24) :: (v 25) :: (v 26) :: (v 27) :: (v 28) :: (v 29) :: (v 30) :: (v 31) :: (v 32) :: (v 33) :: (v 34) :: (v 35) :: (v 36) :: (v 37) :: (v 38) :: (v 39) :: (v 40) :: (v 41) :: (v 42) :: [(v 43), (v 44), (v 45), (v 46), (v 47), (v 48), (v 49), (v 50), (v 51), (v 52), (v 53), (v 54), (v 55), (v 56), (v 57), (v 58), (v 59), (v 60), (v 61), (v 62), (v 63), (v 64), (v 65), (v 66), (v 67), (v 68), (v 69), (v 70)])
abbrev mo90 (v : Nat → Value) (a16 a20 a21 a22 : Value) : List Value := ((v 0) :: (v 1) :: (v 2) :: (v 3) :: (v 4) :: (v 5) :: (v 6) :: (v 7) :: (v 8) :: (v 9) :: (v 10) :: (v 11) :: (v 12) :: (v 13) :: (v 14) :: (v 15) :: a16 :: (v 17) :: (v 18) :: (v 19) :: a20 :: a21 :: a22 :: (v 23) :: (v 24) :: (v 25) :: (v 26) :: (v 27) :: (v 28) :: (v 29) :: (v 30) :: (v 31) :: (v 32) :: (v 33) :: (v 34) :: (v 35) :: (v 36) :: (v 37) :: (v 38) :: (v 39) :: (v 40) :: (v 41) :: (v 42) :: [(v 43), (v 44), (v 45), (v 46), (v 47), (v 48), (v 49), (v 50), (v 51), (v 52), (v 53), (v 54), (v 55), (v 56), (v 57), (v 58), (v 59), (v 60), (v 61), (v 62), (v 63), (v 64), (v 65), (v 66), (v 67), (v 68), (v 69), (v 70)])
abbrev mo91 (v : Nat → Value) (a17 a18 a20 : Value) : List Value := ((v 0) :: (v 1) :: (v 2) :: (v 3) :: (v 4) :: (v 5) :: (v 6) :: (v 7) :: (v 8) :: (v 9) :: (v 10) :: (v 11) :: (v 12) :: (v 13) :: (v 14) :: (v 15) :: (v 16) :: a17 :: a18 :: (v 19) :: a20 :: (v 21) :: (v 22) :: (v 23) :: (v 24) :: (v 25) :: (v 26) :: (v 27) :: (v 28) :: (v 29) :: (v 30) :: (v 31) :: (v 32) :: (v 33) :: (v 34) :: (v 35) :: (v 36) :: (v 37) :: (v 38) :: (v 39) :: (v 40) :: (v 41) :: (v 42) :: [(v 43), (v 44), (v 45), (v 46), (v 47), (v 48), (v 49), (v 50), (v 51), (v 52), (v 53), (v 54), (v 55), (v 56), (v 57), (v 58), (v 59), (v 60), (v 61), (v 62), (v 63), (v 64), (v 65), (v 66), (v 67), (v 68), (v 69), (v 70)])
abbrev mo92 (v : Nat → Value) (a13 a14 a15 a16 a17 a18 a19 a20 : Value) : List Value := ((v 0) :: (v 1) :: (v 2) :: (v 3) :: (v 4) :: (v 5) :: (v 6) :: (v 7) :: (v 8) :: (v 9) :: (v 10) :: (v 11) :: (v 12) :: a13 :: a14 :: a15 :: a16 :: a17 :: a18 :: a19 :: a20 :: (v 21) :: (v 22) :: (v 23) :: (v 24) :: (v 25) :: (v 26) :: (v 27) :: (v 28) :: (v 29) :: (v 30) :: (v 31) :: (v 32) :: (v 33) :: (v 34) :: (v 35) :: (v 36) :: (v 37) :: (v 38) :: (v 39) :: (v 40) :: (v 41) :: (v 42) :: [(v 43), (v 44), (v 45), (v 46), (v 47), (v 48), (v 49), (v 50), (v 51), (v 52), (v 53), (v 54), (v 55), (v 56), (v 57), (v 58), (v 59), (v 60), (v 61), (v 62), (v 63), (v 64), (v 65), (v 66), (v 67), (v 68), (v 69), (v 70)])
abbrev mo93 (v : Nat → Value) (a14 a16 a17 a20 : Value) : List Value := ((v 0) :: (v 1) :: (v 2) :: (v 3) :: (v 4) :: (v 5) :: (v 6) :: (v 7) :: (v 8) :: (v 9) :: (v 10) :: (v 11) :: (v 12) :: (v 13) :: a14 :: (v 15) :: a16 :: a17 :: (v 18) :: (v 19) :: a20 :: (v 21) :: (v 22) :: (v 23) :: (v 24) :: (v 25) :: (v 26) :: (v 27) :: (v 28) :: (v 29) :: (v 30) :: (v 31) :: (v 32) :: (v 33) :: (v 34) :: (v 35) :: (v 36) :: (v 37) :: (v 38) :: (v 39) :: (v 40) :: (v 41) :: (v 42) :: [(v 43), (v 44), (v 45), (v 46), (v 47), (v 48), (v 49), (v 50), (v 51), (v 52), (v 53), (v 54), (v 55), (v 56), (v 57), (v 58), (v 59), (v 60), (v 61), (v 62), (v 63), (v 64), (v 65), (v 66), (v 67), (v 68), (v 69), (v 70)])
abbrev mo94 (v : Nat → Value) (a14 a16 a17 a18 a20 : Value) : List Value := ((v 0) :: (v 1) :: (v 2) :: (v 3) :: (v 4) :: (v 5) :: (v 6) :: (v 7) :: (v 8) :: (v 9) :: (v 10) :: (v 11) :: (v 12) :: (v 13) :: a14 :: (v 15) :: a16 :: a17 :: a18 :: (v 19) :: a20 :: (v 21) :: (v 22) :: (v 23) :: (v 24) :: (v 25) :: (v 26) :: (v 27) :: (v 28) :: (v 29) :: (v 30) :: (v 31) :: (v 32) :: (v 33) :: (v 34) :: (v 35) :: (v 36) :: (v 37) :: (v 38) :: (v 39) :: (v 40) :: (v 41) :: (v 42) :: [(v 43), (v 44), (v 45), (v 46), (v 47), (v 48), (v 49), (v 50), (v 51), (v 52), (v 53), (v 54), (v 55), (v 56), (v 57), (v 58), (v 59), (v 60), (v 61), (v 62), (v 63), (v 64), (v 65), (v 66), (v 67), (v 68), (v 69), (v 70)])
set_option maxRecDepth 100000 in
theorem mq89_88 (v : Nat → Value) (b15 b16 b17 b18 b19 : Value) : ∃ w : Nat → Value, ∀ (a13 a14 : Value), mo88 w a13 a14 = (mo89 v a13 a14 b15 b16 b17 b18 b19) := ⟨fun k => List.getD (mo89 v .null .null b15 b16 b17 b18 b19) k .null, fun _ _ => rfl⟩
set_option maxRecDepth 100000 in
theorem mq89_87 (v : Nat → Value) (b13 b14 b15 b16 b17 b18 b19 : Value) : ∃ w : Nat → Value, mo87 w = (mo89 v b13 b14 b15 b16 b17 b18 b19) := ⟨fun k => List.getD (mo89 v b13 b14 b15 b16 b17 b18 b19) k .null, rfl⟩
set_option maxRecDepth 100000 in
theorem mq92_91 (v : Nat → Value) (b13 b14 b15 b16 b19 : Value) : ∃ w : Nat → Value, ∀ (a17 a18 a20 : Value), mo91 w a17 a18 a20 = (mo92 v b13 b14 b15 b16 a17 a18 b19 a20) := ⟨fun k => List.getD (mo92 v b13 b14 b15 b16 .null .null b19 .null) k .null, fun _ _ _ => rfl⟩
set_option maxRecDepth 100000 in
theorem mq92_89 (v : Nat → Value) (b20 : Value) : ∃ w : Nat → Value, ∀ (a13 a14 a15 a16 a17 a18 a19 : Value), mo89 w a13 a14 a15 a16 a17 a18 a19 = (mo92 v a13 a14 a15 a16 a17 a18 a19 b20) := ⟨fun k => List.getD (mo92 v .null .null .null .null .null .null .null b20) k .null, fun _ _ _ _ _ _ _ => rfl⟩
set_option maxRecDepth 100000 in
theorem mq94_91 (v : Nat → Value) (b14 b16 : Value) : ∃ w : Nat → Value, ∀ (a17 a18 a20 : Value), mo91 w a17 a18 a20 = (mo94 v b14 b16 a17 a18 a20) := ⟨fun k => List.getD (mo94 v b14 b16 .null .null .null) k .null, fun _ _ _ => rfl⟩
set_option maxHeartbeats 8000000 in
set_option maxRecDepth 100000 in
theorem c_X11_isIn (l : Launch) (dC : Nat → ClassId) (dI : Nat → Nat → Nat) (sz : Nat) (h0 : Nat) (p1 : Int64) (p2 : Int64) (p3 : Int64)  : Met l yX11_isIn (Ws yX11_isIn cX11_isIn 7 (some .boolean)) (({ frames := 0, cells := 0, slots := 0, locals := 0 } : Room)) (PRE (dC, dI) cls [] [] sz [.ref h0, .long p1, .long p2, .long p3]) (va_Qi (fun (r : Int32) (_ : Unit) => ((r = 1 ∧ ((p2).toInt ≤ (p1).toInt) ∧ ((p1).toInt ≤ (p3).toInt)) ∨ (r = 0 ∧ ((p1).toInt < (p2).toInt ∨ (p3).toInt < (p1).toInt)))) (fun (_ : Unit) (t : State) => va_P (dC, dI) cls [] t.heap ∧ va_D (va_A [] sz) []) (va_A [] sz)) 0 0 (va_A [] sz) := by
  refine Met.ofW (cc := cX11_isIn) (maxL := 7) (ret := (some .boolean)) (by decide) rfl ?_
  intro p e s m args below meth c s₁ B hml hv
  obtain ⟨rfl, hsz, hP, hK, hD0, hN⟩ := hv
  have hx := B.exec
  have hb := B.bytes
  have hr := B.returns
  have hts := atoms_spec (ws := Ws yX11_isIn cX11_isIn 7 (some .boolean)) B.pre
  have hT : ∀ w ∈ WALL, w ∈ Ws yX11_isIn cX11_isIn 7 (some .boolean) := fun w h => List.mem_cons_of_mem _ h
  have hw := fun w (h : w ∈ WALL) => hts w (hT w h)
  have hown : s.vm.findClass RX11 = some m.cls := findClass_of_methodNamed B.named
  have hlocks := B.notSynchronized
  subst hsz
  have hD := hD0.self (sz := s.heap.size)
  generalize hAe : va_A [] s.heap.size = A at hD ⊢
  have hA : ∀ q : Nat, s.heap.size ≤ q → A q := fun q h => by rw [← hAe]; exact Or.inr h
  have hS : va_S A s.heap s.heap [] := va_S.rf
  have hl := lv_entry ([.ref h0, .long p1, .long p2, .long p3]) (n := 7) (Nat.le_of_ble_eq_true rfl)
  rw [lg_entry_eq]
  generalize (lg_sl ([.ref h0, .long p1, .long p2, .long p3]) ++ List.replicate (7 - (lg_sl ([.ref h0, .long p1, .long p2, .long p3])).length) Slot.unset).toArray = ls at hl ⊢
  have hl : lv_has ls 7 [(0, .ref h0), (1, .long p1), (3, .long p2), (5, .long p3)] := hl
  refine lv_lload_n hx hb dX11_isIn_0 rfl (lv_at hl 1 rfl) ?_
  refine lv_lload_n hx hb dX11_isIn_1 rfl (lv_at hl 2 rfl) ?_
  refine W.lcmp hx hb dX11_isIn_2 ?_
  refine lv_topi (fun z1 ez1 => ?_)
  have gz1 := lgc p1 p2
  rw [← ez1] at gz1
  refine lv_if_lt (tgt := 17) hx hb dX11_isIn_3 (by decide) (fun c2 => ?_) (fun c2 => ?_)
  · have kc2 := (cv_lt (rfl : (z1).toInt = (z1).toInt) (by decide : (0 : Int32).toInt = 0)).mp c2
    refine lv_iconst (v := 0) hx hb dX11_isIn_17 (by decide) ?_
    refine W.widen (k := 0) (n := 0) (Nat.le_of_ble_eq_true rfl) (Nat.le_of_ble_eq_true rfl) ?_
    have cst0 : (0 : Int32).toInt = 0 := by decide
    have : (p1).toInt < (p2).toInt ∨ (p3).toInt < (p1).toInt := by omega
    exact W.zret (v := 0) (ty := .boolean) hx hb hr (by decide) (fun t ht hW => ⟨⟨0, (), rfl, (Or.inr (⟨rfl, by assumption⟩)), by rw [ht]; exact hP, hD⟩, hS.F ht⟩) hS.2.2 dX11_isIn_18
  · have kc2 := (not_congr (cv_lt (rfl : (z1).toInt = (z1).toInt) (by decide : (0 : Int32).toInt = 0))).mp c2
    refine lv_lload_n hx hb dX11_isIn_6 rfl (lv_at hl 1 rfl) ?_
    refine lv_lload hx hb dX11_isIn_7 (lv_at hl 3 rfl) ?_
    refine W.lcmp hx hb dX11_isIn_9 ?_
    refine lv_topi (fun z4 ez4 => ?_)
    have gz4 := lgc p1 p3
    rw [← ez4] at gz4
    refine lv_if_gt (tgt := 17) hx hb dX11_isIn_10 (by decide) (fun c5 => ?_) (fun c5 => ?_)
    · have kc5 := (cv_lt (by decide : (0 : Int32).toInt = 0) (rfl : (z4).toInt = (z4).toInt)).mp c5
      refine lv_iconst (v := 0) hx hb dX11_isIn_17 (by decide) ?_
      refine W.widen (k := 0) (n := 0) (Nat.le_of_ble_eq_true rfl) (Nat.le_of_ble_eq_true rfl) ?_
      have cst0 : (0 : Int32).toInt = 0 := by decide
      have : (p1).toInt < (p2).toInt ∨ (p3).toInt < (p1).toInt := by omega
      exact W.zret (v := 0) (ty := .boolean) hx hb hr (by decide) (fun t ht hW => ⟨⟨0, (), rfl, (Or.inr (⟨rfl, by assumption⟩)), by rw [ht]; exact hP, hD⟩, hS.F ht⟩) hS.2.2 dX11_isIn_18
    · have kc5 := (not_congr (cv_lt (by decide : (0 : Int32).toInt = 0) (rfl : (z4).toInt = (z4).toInt))).mp c5
      refine lv_iconst (v := 1) hx hb dX11_isIn_13 (by decide) ?_
      refine lv_goto (tgt := 18) hx hb dX11_isIn_14 (by decide) ?_
      refine W.widen (k := 0) (n := 0) (Nat.le_of_ble_eq_true rfl) (Nat.le_of_ble_eq_true rfl) ?_
      have cst1 : (1 : Int32).toInt = 1 := by decide
      have : (p2).toInt ≤ (p1).toInt := by omega
      have : (p1).toInt ≤ (p3).toInt := by omega
      exact W.zret (v := 1) (ty := .boolean) hx hb hr (by decide) (fun t ht hW => ⟨⟨1, (), rfl, (Or.inl (⟨rfl, by assumption, by assumption⟩)), by rw [ht]; exact hP, hD⟩, hS.F ht⟩) hS.2.2 dX11_isIn_18

set_option maxHeartbeats 8000000 in
set_option maxRecDepth 100000 in
theorem c_X11_has (l : Launch) (dC : Nat → ClassId) (dI : Nat → Nat → Nat) (sz : Nat) (h0 : Nat) (p1 : Int32) (p2 : Int32)  : Met l yX11_has (Ws yX11_has cX11_has 3 (some .boolean)) (({ frames := 0, cells := 0, slots := 0, locals := 0 } : Room)) (PRE (dC, dI) cls [] [] sz [.ref h0, .int p1, .int p2]) (va_Qi (fun (r : Int32) (_ : Unit) => (0 ≤ r.toInt ∧ r.toInt ≤ 1)) (fun (_ : Unit) (t : State) => va_P (dC, dI) cls [] t.heap ∧ va_D (va_A [] sz) []) (va_A [] sz)) 0 0 (va_A [] sz) := by
  refine Met.ofW (cc := cX11_has) (maxL := 3) (ret := (some .boolean)) (by decide) rfl ?_
  intro p e s m args below meth c s₁ B hml hv
  obtain ⟨rfl, hsz, hP, hK, hD0, hN⟩ := hv
  have hx := B.exec
  have hb := B.bytes
  have hr := B.returns
  have hts := atoms_spec (ws := Ws yX11_has cX11_has 3 (some .boolean)) B.pre
  have hT : ∀ w ∈ WALL, w ∈ Ws yX11_has cX11_has 3 (some .boolean) := fun w h => List.mem_cons_of_mem _ h
  have hw := fun w (h : w ∈ WALL) => hts w (hT w h)
  have hown : s.vm.findClass RX11 = some m.cls := findClass_of_methodNamed B.named
  have hlocks := B.notSynchronized
  subst hsz
  have hD := hD0.self (sz := s.heap.size)
  generalize hAe : va_A [] s.heap.size = A at hD ⊢
  have hA : ∀ q : Nat, s.heap.size ≤ q → A q := fun q h => by rw [← hAe]; exact Or.inr h
  have hS : va_S A s.heap s.heap [] := va_S.rf
  have hl := lv_entry ([.ref h0, .int p1, .int p2]) (n := 3) (Nat.le_of_ble_eq_true rfl)
  rw [lg_entry_eq]
  generalize (lg_sl ([.ref h0, .int p1, .int p2]) ++ List.replicate (3 - (lg_sl ([.ref h0, .int p1, .int p2])).length) Slot.unset).toArray = ls at hl ⊢
  have hl : lv_has ls 3 [(0, .ref h0), (1, .int p1), (2, .int p2)] := hl
  refine lv_iload_n hx hb dX11_has_0 rfl (lv_at hl 1 rfl) ?_
  refine lv_iload_n hx hb dX11_has_1 rfl (lv_at hl 2 rfl) ?_
  refine lv_ishr hx hb dX11_has_2 ?_
  refine lv_topi (fun z1 ez1 => ?_)
  refine lv_iconst (v := 1) hx hb dX11_has_3 (by decide) ?_
  refine lv_iand hx hb dX11_has_4 ?_
  refine lv_topi (fun z2 ez2 => ?_)
  have tz2 : 0 ≤ (z2).toInt ∧ (z2).toInt ≤ 1 := by rw [ez2]; exact i_andr 1 (by decide) (by decide) (by decide)
  refine lv_iconst (v := 1) hx hb dX11_has_5 (by decide) ?_
  refine lv_icmp_ne (tgt := 13) hx hb dX11_has_6 (by decide) (fun c3 => ?_) (fun c3 => ?_)
  · have kc3 := (not_congr (cv_eq (rfl : (z2).toInt = (z2).toInt) (by decide : (1 : Int32).toInt = 1))).mp c3
    refine lv_iconst (v := 0) hx hb dX11_has_13 (by decide) ?_
    refine W.widen (k := 0) (n := 0) (Nat.le_of_ble_eq_true rfl) (Nat.le_of_ble_eq_true rfl) ?_
    have cst0 : (0 : Int32).toInt = 0 := by decide
    have w4 : 0 ≤ (0 : Int32).toInt ∧ (0 : Int32).toInt ≤ 1 := by omega
    exact W.zret (v := 0) (ty := .boolean) hx hb hr (by decide) (fun t ht hW => ⟨⟨0, (), rfl, w4, by rw [ht]; exact hP, hD⟩, hS.F ht⟩) hS.2.2 dX11_has_14
  · have kc3 := (cv_eq (rfl : (z2).toInt = (z2).toInt) (by decide : (1 : Int32).toInt = 1)).mp c3
    refine lv_iconst (v := 1) hx hb dX11_has_9 (by decide) ?_
    refine lv_goto (tgt := 14) hx hb dX11_has_10 (by decide) ?_
    refine W.widen (k := 0) (n := 0) (Nat.le_of_ble_eq_true rfl) (Nat.le_of_ble_eq_true rfl) ?_
    have cst1 : (1 : Int32).toInt = 1 := by decide
    have w5 : 0 ≤ (1 : Int32).toInt ∧ (1 : Int32).toInt ≤ 1 := by omega
    exact W.zret (v := 1) (ty := .boolean) hx hb hr (by decide) (fun t ht hW => ⟨⟨1, (), rfl, w5, by rw [ht]; exact hP, hD⟩, hS.F ht⟩) hS.2.2 dX11_has_14

set_option maxHeartbeats 8000000 in
set_option maxRecDepth 100000 in
theorem c_X11_litAt (l : Launch) (dC : Nat → ClassId) (dI : Nat → Nat → Nat) (sz : Nat) (h0 : Nat) (p1 : Int32) (p2 : Int32) (q0 : 0 ≤ (p1).toInt ∧ (p1).toInt ≤ 31) (q1 : 0 ≤ (p2).toInt ∧ (p2).toInt ≤ 5) : Met l yX11_litAt (Ws yX11_litAt cX11_litAt 3 (some .int)) (({ frames := 0, cells := 0, slots := 0, locals := 0 } : Room)) (PRE (dC, dI) cls [] [] sz [.ref h0, .int p1, .int p2]) (va_Qi (fun (r : Int32) (_ : Unit) => (0 ≤ r.toInt ∧ r.toInt ≤ 191) ∧ ((r).toInt = 6 * (p1).toInt + (p2).toInt)) (fun (_ : Unit) (t : State) => va_P (dC, dI) cls [] t.heap ∧ va_D (va_A [] sz) []) (va_A [] sz)) 0 0 (va_A [] sz) := by
  refine Met.ofW (cc := cX11_litAt) (maxL := 3) (ret := (some .int)) (by decide) rfl ?_
  intro p e s m args below meth c s₁ B hml hv
  obtain ⟨rfl, hsz, hP, hK, hD0, hN⟩ := hv
  have hx := B.exec
  have hb := B.bytes
  have hr := B.returns
  have hts := atoms_spec (ws := Ws yX11_litAt cX11_litAt 3 (some .int)) B.pre
  have hT : ∀ w ∈ WALL, w ∈ Ws yX11_litAt cX11_litAt 3 (some .int) := fun w h => List.mem_cons_of_mem _ h
  have hw := fun w (h : w ∈ WALL) => hts w (hT w h)
  have hown : s.vm.findClass RX11 = some m.cls := findClass_of_methodNamed B.named
  have hlocks := B.notSynchronized
  subst hsz
  have hD := hD0.self (sz := s.heap.size)
  generalize hAe : va_A [] s.heap.size = A at hD ⊢
  have hA : ∀ q : Nat, s.heap.size ≤ q → A q := fun q h => by rw [← hAe]; exact Or.inr h
  have hS : va_S A s.heap s.heap [] := va_S.rf
  have hl := lv_entry ([.ref h0, .int p1, .int p2]) (n := 3) (Nat.le_of_ble_eq_true rfl)
  rw [lg_entry_eq]
  generalize (lg_sl ([.ref h0, .int p1, .int p2]) ++ List.replicate (3 - (lg_sl ([.ref h0, .int p1, .int p2])).length) Slot.unset).toArray = ls at hl ⊢
  have hl : lv_has ls 3 [(0, .ref h0), (1, .int p1), (2, .int p2)] := hl
  refine lv_bipush (v := 6) hx hb dX11_litAt_0 (by decide) ?_
  refine lv_iload_n hx hb dX11_litAt_2 rfl (lv_at hl 1 rfl) ?_
  refine lv_imul hx hb dX11_litAt_3 ?_
  refine lv_topi (fun z1 ez1 => ?_)
  have tz1 : (z1).toInt = 6 * (p1).toInt := by rw [ez1]; exact i_mul (by decide) rfl (by omega)
  refine lv_iload_n hx hb dX11_litAt_4 rfl (lv_at hl 2 rfl) ?_
  refine lv_iadd hx hb dX11_litAt_5 ?_
  refine lv_topi (fun z2 ez2 => ?_)
  have tz2 : (z2).toInt = (z1).toInt + (p2).toInt := by rw [ez2]; exact i_add rfl rfl (by omega)
  refine W.widen (k := 0) (n := 0) (Nat.le_of_ble_eq_true rfl) (Nat.le_of_ble_eq_true rfl) ?_
  have w3 : 0 ≤ (z2 : Int32).toInt ∧ (z2 : Int32).toInt ≤ 191 := by omega
  have w4 : ((z2 : Int32)).toInt = 6 * (p1).toInt + (p2).toInt := by omega
  exact W.iret (v := z2) hx hb hr (fun t ht hW => ⟨⟨z2, (), rfl, ⟨w3, w4⟩, by rw [ht]; exact hP, hD⟩, hS.F ht⟩) hS.2.2 dX11_litAt_6

set_option maxHeartbeats 8000000 in
set_option maxRecDepth 100000 in
theorem c_X11_part (l : Launch) (dC : Nat → ClassId) (dI : Nat → Nat → Nat) (sz : Nat) (h_mm : Nat) (h_na : Nat) (h_nb : Nat) (h_nc : Nat) (v_mm : Nat → Value) (cy_na : ClassId) (f_na : Nat → Int32) (cy_nb : ClassId) (f_nb : Nat → Int32) (cy_nc : ClassId) (f_nc : Nat → Int32) (p1 : Int32) (p2 : Int32) (hf_na : Rg (-1) 7999 f_na) (hf_nb : Rg (-1) 7999 f_nb) (hf_nc : Rg (-1) 7999 f_nc) (q0 : 0 ≤ (p1).toInt ∧ (p1).toInt ≤ 7999) : Met l yX11_part (Ws yX11_part cX11_part 3 (some .int)) (({ frames := 0, cells := 0, slots := 0, locals := 0 } : Room)) (PRE (dC, dI) cls [(cy_na, .int), (cy_nb, .int), (cy_nc, .int)] [(h_mm, .inr (8, (mo85 v_mm (.ref h_na) (.ref h_nb) (.ref h_nc)))), (h_na, .inl (cy_na, 8000, .inl f_na)), (h_nb, .inl (cy_nb, 8000, .inl f_nb)), (h_nc, .inl (cy_nc, 8000, .inl f_nc))] sz [.ref h_mm, .int p1, .int p2]) (va_Qi (fun (r : Int32) (_ : Unit) => (-1 ≤ r.toInt ∧ r.toInt ≤ 7999)) (fun (_ : Unit) (t : State) => va_P (dC, dI) cls [(h_mm, .inr (8, (mo85 v_mm (.ref h_na) (.ref h_nb) (.ref h_nc)))), (h_na, .inl (cy_na, 8000, .inl f_na)), (h_nb, .inl (cy_nb, 8000, .inl f_nb)), (h_nc, .inl (cy_nc, 8000, .inl f_nc))] t.heap ∧ va_D (va_A [(h_mm, .inr (8, (mo85 v_mm (.ref h_na) (.ref h_nb) (.ref h_nc)))), (h_na, .inl (cy_na, 8000, .inl f_na)), (h_nb, .inl (cy_nb, 8000, .inl f_nb)), (h_nc, .inl (cy_nc, 8000, .inl f_nc))] sz) [(h_mm, .inr (8, (mo85 v_mm (.ref h_na) (.ref h_nb) (.ref h_nc)))), (h_na, .inl (cy_na, 8000, .inl f_na)), (h_nb, .inl (cy_nb, 8000, .inl f_nb)), (h_nc, .inl (cy_nc, 8000, .inl f_nc))]) (va_A [(h_mm, .inr (8, (mo85 v_mm (.ref h_na) (.ref h_nb) (.ref h_nc)))), (h_na, .inl (cy_na, 8000, .inl f_na)), (h_nb, .inl (cy_nb, 8000, .inl f_nb)), (h_nc, .inl (cy_nc, 8000, .inl f_nc))] sz)) 0 0 (va_A [(h_mm, .inr (8, (mo85 v_mm (.ref h_na) (.ref h_nb) (.ref h_nc)))), (h_na, .inl (cy_na, 8000, .inl f_na)), (h_nb, .inl (cy_nb, 8000, .inl f_nb)), (h_nc, .inl (cy_nc, 8000, .inl f_nc))] sz) := by
  refine Met.ofW (cc := cX11_part) (maxL := 3) (ret := (some .int)) (by decide) rfl ?_
  intro p e s m args below meth c s₁ B hml hv
  obtain ⟨rfl, hsz, hP, hK, hD0, hN⟩ := hv
  have hx := B.exec
  have hb := B.bytes
  have hr := B.returns
  have hts := atoms_spec (ws := Ws yX11_part cX11_part 3 (some .int)) B.pre
  have hT : ∀ w ∈ WALL, w ∈ Ws yX11_part cX11_part 3 (some .int) := fun w h => List.mem_cons_of_mem _ h
  have hw := fun w (h : w ∈ WALL) => hts w (hT w h)
  have hown : s.vm.findClass RX11 = some m.cls := findClass_of_methodNamed B.named
  have hlocks := B.notSynchronized
  subst hsz
  have hD := hD0.self (sz := s.heap.size)
  generalize hAe : va_A [(h_mm, .inr (8, (mo85 v_mm (.ref h_na) (.ref h_nb) (.ref h_nc)))), (h_na, .inl (cy_na, 8000, .inl f_na)), (h_nb, .inl (cy_nb, 8000, .inl f_nb)), (h_nc, .inl (cy_nc, 8000, .inl f_nc))] s.heap.size = A at hD ⊢
  have hA : ∀ q : Nat, s.heap.size ≤ q → A q := fun q h => by rw [← hAe]; exact Or.inr h
  have hS : va_S A s.heap s.heap [] := va_S.rf
  have hl := lv_entry ([.ref h_mm, .int p1, .int p2]) (n := 3) (Nat.le_of_ble_eq_true rfl)
  rw [lg_entry_eq]
  generalize (lg_sl ([.ref h_mm, .int p1, .int p2]) ++ List.replicate (3 - (lg_sl ([.ref h_mm, .int p1, .int p2])).length) Slot.unset).toArray = ls at hl ⊢
  have hl : lv_has ls 3 [(0, .ref h_mm), (1, .int p1), (2, .int p2)] := hl
  refine lv_iload_n hx hb dX11_part_0 rfl (lv_at hl 2 rfl) ?_
  refine lv_if_ne (tgt := 13) hx hb dX11_part_1 (by decide) (fun c1 => ?_) (fun c1 => ?_)
  · have kc1 := (not_congr (cv_eq (rfl : (p2).toInt = (p2).toInt) (by decide : (0 : Int32).toInt = 0))).mp c1
    refine lv_iload_n hx hb dX11_part_13 rfl (lv_at hl 2 rfl) ?_
    refine lv_iconst (v := 1) hx hb dX11_part_14 (by decide) ?_
    refine lv_icmp_ne (tgt := 27) hx hb dX11_part_15 (by decide) (fun c2 => ?_) (fun c2 => ?_)
    · have kc2 := (not_congr (cv_eq (rfl : (p2).toInt = (p2).toInt) (by decide : (1 : Int32).toInt = 1))).mp c2
      refine lv_aload_n hx hb dX11_part_27 rfl (lv_at hl 0 rfl) ?_
      refine va_get (D := (dC, dI)) (ci := 8) (v := .ref h_nc) (C := RX11) (T := TX11) (N := 71) hx hb hw iwX11 hown hK hP 0 rfl rfl 5 (by decide) (hw _ w_f_X11_14) (fun _ h9 => h9) rfl dX11_part_28 ?_
      refine lv_iload_n hx hb dX11_part_31 rfl (lv_at hl 1 rfl) ?_
      refine va_iald hx hb hK hP 3 2 rfl rfl (i := p1) (vp_in_iff.mpr (by omega)) dX11_part_32 ?_
      refine lv_topi (fun z3 ez3 => ?_)
      have rz3 : -1 ≤ (z3).toInt ∧ (z3).toInt ≤ 7999 := by rw [ez3]; exact hf_nc _
      refine W.widen (k := 0) (n := 0) (Nat.le_of_ble_eq_true rfl) (Nat.le_of_ble_eq_true rfl) ?_
      have w4 : -1 ≤ (z3 : Int32).toInt ∧ (z3 : Int32).toInt ≤ 7999 := by omega
      exact W.iret (v := z3) hx hb hr (fun t ht hW => ⟨⟨z3, (), rfl, w4, by rw [ht]; exact hP, hD⟩, hS.F ht⟩) hS.2.2 dX11_part_33
    · have kc2 := (cv_eq (rfl : (p2).toInt = (p2).toInt) (by decide : (1 : Int32).toInt = 1)).mp c2
      refine lv_aload_n hx hb dX11_part_18 rfl (lv_at hl 0 rfl) ?_
      refine va_get (D := (dC, dI)) (ci := 8) (v := .ref h_nb) (C := RX11) (T := TX11) (N := 71) hx hb hw iwX11 hown hK hP 0 rfl rfl 4 (by decide) (hw _ w_f_X11_11) (fun _ h9 => h9) rfl dX11_part_19 ?_
      refine lv_iload_n hx hb dX11_part_22 rfl (lv_at hl 1 rfl) ?_
      refine va_iald hx hb hK hP 2 1 rfl rfl (i := p1) (vp_in_iff.mpr (by omega)) dX11_part_23 ?_
      refine lv_topi (fun z5 ez5 => ?_)
      have rz5 : -1 ≤ (z5).toInt ∧ (z5).toInt ≤ 7999 := by rw [ez5]; exact hf_nb _
      refine lv_goto (tgt := 33) hx hb dX11_part_24 (by decide) ?_
      refine W.widen (k := 0) (n := 0) (Nat.le_of_ble_eq_true rfl) (Nat.le_of_ble_eq_true rfl) ?_
      have w6 : -1 ≤ (z5 : Int32).toInt ∧ (z5 : Int32).toInt ≤ 7999 := by omega
      exact W.iret (v := z5) hx hb hr (fun t ht hW => ⟨⟨z5, (), rfl, w6, by rw [ht]; exact hP, hD⟩, hS.F ht⟩) hS.2.2 dX11_part_33
  · have kc1 := (cv_eq (rfl : (p2).toInt = (p2).toInt) (by decide : (0 : Int32).toInt = 0)).mp c1
    refine lv_aload_n hx hb dX11_part_4 rfl (lv_at hl 0 rfl) ?_
    refine va_get (D := (dC, dI)) (ci := 8) (v := .ref h_na) (C := RX11) (T := TX11) (N := 71) hx hb hw iwX11 hown hK hP 0 rfl rfl 3 (by decide) (hw _ w_f_X11_7) (fun _ h9 => h9) rfl dX11_part_5 ?_
    refine lv_iload_n hx hb dX11_part_8 rfl (lv_at hl 1 rfl) ?_
    refine va_iald hx hb hK hP 1 0 rfl rfl (i := p1) (vp_in_iff.mpr (by omega)) dX11_part_9 ?_
    refine lv_topi (fun z7 ez7 => ?_)
    have rz7 : -1 ≤ (z7).toInt ∧ (z7).toInt ≤ 7999 := by rw [ez7]; exact hf_na _
    refine lv_goto (tgt := 33) hx hb dX11_part_10 (by decide) ?_
    refine W.widen (k := 0) (n := 0) (Nat.le_of_ble_eq_true rfl) (Nat.le_of_ble_eq_true rfl) ?_
    have w8 : -1 ≤ (z7 : Int32).toInt ∧ (z7 : Int32).toInt ≤ 7999 := by omega
    exact W.iret (v := z7) hx hb hr (fun t ht hW => ⟨⟨z7, (), rfl, w8, by rw [ht]; exact hP, hD⟩, hS.F ht⟩) hS.2.2 dX11_part_33

set_option maxHeartbeats 8000000 in
set_option maxRecDepth 100000 in
theorem c_X11_partsAt (l : Launch) (dC : Nat → ClassId) (dI : Nat → Nat → Nat) (sz : Nat) (h_mm : Nat) (h_nv : Nat) (h_na : Nat) (h_nb : Nat) (h_nc : Nat) (v_mm : Nat → Value) (cy_nv : ClassId) (f_nv : Nat → Int32) (cy_na : ClassId) (f_na : Nat → Int32) (cy_nb : ClassId) (f_nb : Nat → Int32) (cy_nc : ClassId) (f_nc : Nat → Int32) (p1 : Int32) (hf_nv : Rg (-1) 7 f_nv) (hf_na : Rg (-1) 7999 f_na) (hf_nb : Rg (-1) 7999 f_nb) (hf_nc : Rg (-1) 7999 f_nc) (q0 : 0 ≤ (p1).toInt ∧ (p1).toInt ≤ 7999) : Met l yX11_partsAt (Ws yX11_partsAt cX11_partsAt 2 (some .int)) (({ frames := 0, cells := 0, slots := 0, locals := 0 } : Room)) (PRE (dC, dI) cls [(cy_nv, .int), (cy_na, .int), (cy_nb, .int), (cy_nc, .int)] [(h_mm, .inr (8, (mo86 v_mm (.ref h_nv) (.ref h_na) (.ref h_nb) (.ref h_nc)))), (h_nv, .inl (cy_nv, 8000, .inl f_nv)), (h_na, .inl (cy_na, 8000, .inl f_na)), (h_nb, .inl (cy_nb, 8000, .inl f_nb)), (h_nc, .inl (cy_nc, 8000, .inl f_nc))] sz [.ref h_mm, .int p1]) (va_Qi (fun (r : Int32) (_ : Unit) => (0 ≤ r.toInt ∧ r.toInt ≤ 3)) (fun (_ : Unit) (t : State) => va_P (dC, dI) cls [(h_mm, .inr (8, (mo86 v_mm (.ref h_nv) (.ref h_na) (.ref h_nb) (.ref h_nc)))), (h_nv, .inl (cy_nv, 8000, .inl f_nv)), (h_na, .inl (cy_na, 8000, .inl f_na)), (h_nb, .inl (cy_nb, 8000, .inl f_nb)), (h_nc, .inl (cy_nc, 8000, .inl f_nc))] t.heap ∧ va_D (va_A [(h_mm, .inr (8, (mo86 v_mm (.ref h_nv) (.ref h_na) (.ref h_nb) (.ref h_nc)))), (h_nv, .inl (cy_nv, 8000, .inl f_nv)), (h_na, .inl (cy_na, 8000, .inl f_na)), (h_nb, .inl (cy_nb, 8000, .inl f_nb)), (h_nc, .inl (cy_nc, 8000, .inl f_nc))] sz) [(h_mm, .inr (8, (mo86 v_mm (.ref h_nv) (.ref h_na) (.ref h_nb) (.ref h_nc)))), (h_nv, .inl (cy_nv, 8000, .inl f_nv)), (h_na, .inl (cy_na, 8000, .inl f_na)), (h_nb, .inl (cy_nb, 8000, .inl f_nb)), (h_nc, .inl (cy_nc, 8000, .inl f_nc))]) (va_A [(h_mm, .inr (8, (mo86 v_mm (.ref h_nv) (.ref h_na) (.ref h_nb) (.ref h_nc)))), (h_nv, .inl (cy_nv, 8000, .inl f_nv)), (h_na, .inl (cy_na, 8000, .inl f_na)), (h_nb, .inl (cy_nb, 8000, .inl f_nb)), (h_nc, .inl (cy_nc, 8000, .inl f_nc))] sz)) 0 0 (va_A [(h_mm, .inr (8, (mo86 v_mm (.ref h_nv) (.ref h_na) (.ref h_nb) (.ref h_nc)))), (h_nv, .inl (cy_nv, 8000, .inl f_nv)), (h_na, .inl (cy_na, 8000, .inl f_na)), (h_nb, .inl (cy_nb, 8000, .inl f_nb)), (h_nc, .inl (cy_nc, 8000, .inl f_nc))] sz) := by
  refine Met.ofW (cc := cX11_partsAt) (maxL := 2) (ret := (some .int)) (by decide) rfl ?_
  intro p e s m args below meth c s₁ B hml hv
  obtain ⟨rfl, hsz, hP, hK, hD0, hN⟩ := hv
  have hx := B.exec
  have hb := B.bytes
  have hr := B.returns
  have hts := atoms_spec (ws := Ws yX11_partsAt cX11_partsAt 2 (some .int)) B.pre
  have hT : ∀ w ∈ WALL, w ∈ Ws yX11_partsAt cX11_partsAt 2 (some .int) := fun w h => List.mem_cons_of_mem _ h
  have hw := fun w (h : w ∈ WALL) => hts w (hT w h)
  have hown : s.vm.findClass RX11 = some m.cls := findClass_of_methodNamed B.named
  have hlocks := B.notSynchronized
  subst hsz
  have hD := hD0.self (sz := s.heap.size)
  generalize hAe : va_A [(h_mm, .inr (8, (mo86 v_mm (.ref h_nv) (.ref h_na) (.ref h_nb) (.ref h_nc)))), (h_nv, .inl (cy_nv, 8000, .inl f_nv)), (h_na, .inl (cy_na, 8000, .inl f_na)), (h_nb, .inl (cy_nb, 8000, .inl f_nb)), (h_nc, .inl (cy_nc, 8000, .inl f_nc))] s.heap.size = A at hD ⊢
  have hA : ∀ q : Nat, s.heap.size ≤ q → A q := fun q h => by rw [← hAe]; exact Or.inr h
  have hS : va_S A s.heap s.heap [] := va_S.rf
  have hl := lv_entry ([.ref h_mm, .int p1]) (n := 2) (Nat.le_of_ble_eq_true rfl)
  rw [lg_entry_eq]
  generalize (lg_sl ([.ref h_mm, .int p1]) ++ List.replicate (2 - (lg_sl ([.ref h_mm, .int p1])).length) Slot.unset).toArray = ls at hl ⊢
  have hl : lv_has ls 2 [(0, .ref h_mm), (1, .int p1)] := hl
  refine lv_aload_n hx hb dX11_partsAt_0 rfl (lv_at hl 0 rfl) ?_
  refine va_get (D := (dC, dI)) (ci := 8) (v := .ref h_nv) (C := RX11) (T := TX11) (N := 71) hx hb hw iwX11 hown hK hP 0 rfl rfl 1 (by decide) (hw _ w_f_X11_17) (fun _ h9 => h9) rfl dX11_partsAt_1 ?_
  refine lv_iload_n hx hb dX11_partsAt_4 rfl (lv_at hl 1 rfl) ?_
  refine va_iald hx hb hK hP 1 0 rfl rfl (i := p1) (vp_in_iff.mpr (by omega)) dX11_partsAt_5 ?_
  refine lv_topi (fun z1 ez1 => ?_)
  have rz1 : -1 ≤ (z1).toInt ∧ (z1).toInt ≤ 7 := by rw [ez1]; exact hf_nv _
  refine lv_iconst (v := (-1)) hx hb dX11_partsAt_6 (by decide) ?_
  refine lv_icmp_ne (tgt := 20) hx hb dX11_partsAt_7 (by decide) (fun c2 => ?_) (fun c2 => ?_)
  · have kc2 := (not_congr (cv_eq (rfl : (z1).toInt = (z1).toInt) (by decide : ((-1) : Int32).toInt = -1))).mp c2
    refine lv_iconst (v := 0) hx hb dX11_partsAt_20 (by decide) ?_
    refine lv_goto (tgt := 53) hx hb dX11_partsAt_21 (by decide) ?_
    refine W.widen (k := 0) (n := 0) (Nat.le_of_ble_eq_true rfl) (Nat.le_of_ble_eq_true rfl) ?_
    have cst0 : (0 : Int32).toInt = 0 := by decide
    have w3 : 0 ≤ (0 : Int32).toInt ∧ (0 : Int32).toInt ≤ 3 := by omega
    exact W.iret (v := 0) hx hb hr (fun t ht hW => ⟨⟨0, (), rfl, w3, by rw [ht]; exact hP, hD⟩, hS.F ht⟩) hS.2.2 dX11_partsAt_53
  · have kc2 := (cv_eq (rfl : (z1).toInt = (z1).toInt) (by decide : ((-1) : Int32).toInt = -1)).mp c2
    refine lv_aload_n hx hb dX11_partsAt_10 rfl (lv_at hl 0 rfl) ?_
    refine va_get (D := (dC, dI)) (ci := 8) (v := .ref h_na) (C := RX11) (T := TX11) (N := 71) hx hb hw iwX11 hown hK hP 0 rfl rfl 3 (by decide) (hw _ w_f_X11_7) (fun _ h9 => h9) rfl dX11_partsAt_11 ?_
    refine lv_iload_n hx hb dX11_partsAt_14 rfl (lv_at hl 1 rfl) ?_
    refine va_iald hx hb hK hP 2 1 rfl rfl (i := p1) (vp_in_iff.mpr (by omega)) dX11_partsAt_15 ?_
    refine lv_topi (fun z4 ez4 => ?_)
    have rz4 : -1 ≤ (z4).toInt ∧ (z4).toInt ≤ 7999 := by rw [ez4]; exact hf_na _
    refine lv_iconst (v := (-1)) hx hb dX11_partsAt_16 (by decide) ?_
    refine lv_icmp_ne (tgt := 24) hx hb dX11_partsAt_17 (by decide) (fun c5 => ?_) (fun c5 => ?_)
    · have kc5 := (not_congr (cv_eq (rfl : (z4).toInt = (z4).toInt) (by decide : ((-1) : Int32).toInt = -1))).mp c5
      refine lv_aload_n hx hb dX11_partsAt_24 rfl (lv_at hl 0 rfl) ?_
      refine va_get (D := (dC, dI)) (ci := 8) (v := .ref h_nb) (C := RX11) (T := TX11) (N := 71) hx hb hw iwX11 hown hK hP 0 rfl rfl 4 (by decide) (hw _ w_f_X11_11) (fun _ h9 => h9) rfl dX11_partsAt_25 ?_
      refine lv_iload_n hx hb dX11_partsAt_28 rfl (lv_at hl 1 rfl) ?_
      refine va_iald hx hb hK hP 3 2 rfl rfl (i := p1) (vp_in_iff.mpr (by omega)) dX11_partsAt_29 ?_
      refine lv_topi (fun z6 ez6 => ?_)
      have rz6 : -1 ≤ (z6).toInt ∧ (z6).toInt ≤ 7999 := by rw [ez6]; exact hf_nb _
      refine lv_iconst (v := (-1)) hx hb dX11_partsAt_30 (by decide) ?_
      refine lv_icmp_ne (tgt := 38) hx hb dX11_partsAt_31 (by decide) (fun c7 => ?_) (fun c7 => ?_)
      · have kc7 := (not_congr (cv_eq (rfl : (z6).toInt = (z6).toInt) (by decide : ((-1) : Int32).toInt = -1))).mp c7
        refine lv_aload_n hx hb dX11_partsAt_38 rfl (lv_at hl 0 rfl) ?_
        refine va_get (D := (dC, dI)) (ci := 8) (v := .ref h_nc) (C := RX11) (T := TX11) (N := 71) hx hb hw iwX11 hown hK hP 0 rfl rfl 5 (by decide) (hw _ w_f_X11_14) (fun _ h9 => h9) rfl dX11_partsAt_39 ?_
        refine lv_iload_n hx hb dX11_partsAt_42 rfl (lv_at hl 1 rfl) ?_
        refine va_iald hx hb hK hP 4 3 rfl rfl (i := p1) (vp_in_iff.mpr (by omega)) dX11_partsAt_43 ?_
        refine lv_topi (fun z8 ez8 => ?_)
        have rz8 : -1 ≤ (z8).toInt ∧ (z8).toInt ≤ 7999 := by rw [ez8]; exact hf_nc _
        refine lv_iconst (v := (-1)) hx hb dX11_partsAt_44 (by decide) ?_
        refine lv_icmp_ne (tgt := 52) hx hb dX11_partsAt_45 (by decide) (fun c9 => ?_) (fun c9 => ?_)
        · have kc9 := (not_congr (cv_eq (rfl : (z8).toInt = (z8).toInt) (by decide : ((-1) : Int32).toInt = -1))).mp c9
          refine lv_iconst (v := 3) hx hb dX11_partsAt_52 (by decide) ?_
          refine W.widen (k := 0) (n := 0) (Nat.le_of_ble_eq_true rfl) (Nat.le_of_ble_eq_true rfl) ?_
          have cst3 : (3 : Int32).toInt = 3 := by decide
          have w10 : 0 ≤ (3 : Int32).toInt ∧ (3 : Int32).toInt ≤ 3 := by omega
          exact W.iret (v := 3) hx hb hr (fun t ht hW => ⟨⟨3, (), rfl, w10, by rw [ht]; exact hP, hD⟩, hS.F ht⟩) hS.2.2 dX11_partsAt_53
        · have kc9 := (cv_eq (rfl : (z8).toInt = (z8).toInt) (by decide : ((-1) : Int32).toInt = -1)).mp c9
          refine lv_iconst (v := 2) hx hb dX11_partsAt_48 (by decide) ?_
          refine lv_goto (tgt := 53) hx hb dX11_partsAt_49 (by decide) ?_
          refine W.widen (k := 0) (n := 0) (Nat.le_of_ble_eq_true rfl) (Nat.le_of_ble_eq_true rfl) ?_
          have cst2 : (2 : Int32).toInt = 2 := by decide
          have w11 : 0 ≤ (2 : Int32).toInt ∧ (2 : Int32).toInt ≤ 3 := by omega
          exact W.iret (v := 2) hx hb hr (fun t ht hW => ⟨⟨2, (), rfl, w11, by rw [ht]; exact hP, hD⟩, hS.F ht⟩) hS.2.2 dX11_partsAt_53
      · have kc7 := (cv_eq (rfl : (z6).toInt = (z6).toInt) (by decide : ((-1) : Int32).toInt = -1)).mp c7
        refine lv_iconst (v := 1) hx hb dX11_partsAt_34 (by decide) ?_
        refine lv_goto (tgt := 53) hx hb dX11_partsAt_35 (by decide) ?_
        refine W.widen (k := 0) (n := 0) (Nat.le_of_ble_eq_true rfl) (Nat.le_of_ble_eq_true rfl) ?_
        have cst1 : (1 : Int32).toInt = 1 := by decide
        have w12 : 0 ≤ (1 : Int32).toInt ∧ (1 : Int32).toInt ≤ 3 := by omega
        exact W.iret (v := 1) hx hb hr (fun t ht hW => ⟨⟨1, (), rfl, w12, by rw [ht]; exact hP, hD⟩, hS.F ht⟩) hS.2.2 dX11_partsAt_53
    · have kc5 := (cv_eq (rfl : (z4).toInt = (z4).toInt) (by decide : ((-1) : Int32).toInt = -1)).mp c5
      refine lv_iconst (v := 0) hx hb dX11_partsAt_20 (by decide) ?_
      refine lv_goto (tgt := 53) hx hb dX11_partsAt_21 (by decide) ?_
      refine W.widen (k := 0) (n := 0) (Nat.le_of_ble_eq_true rfl) (Nat.le_of_ble_eq_true rfl) ?_
      have cst0 : (0 : Int32).toInt = 0 := by decide
      have w13 : 0 ≤ (0 : Int32).toInt ∧ (0 : Int32).toInt ≤ 3 := by omega
      exact W.iret (v := 0) hx hb hr (fun t ht hW => ⟨⟨0, (), rfl, w13, by rw [ht]; exact hP, hD⟩, hS.F ht⟩) hS.2.2 dX11_partsAt_53

set_option maxHeartbeats 8000000 in
set_option maxRecDepth 100000 in
theorem c_X11_isSmall (l : Launch) (dC : Nat → ClassId) (dI : Nat → Nat → Nat) (sz : Nat) (h_mm : Nat) (v_mm : Nat → Value) (p1 : Int32)  : Met l yX11_isSmall (Ws yX11_isSmall cX11_isSmall 2 (some .boolean)) (({ frames := 1, cells := 0, slots := 0, locals := 26 } : Room)) (PRE (dC, dI) cls [] [(h_mm, .inr (8, (mo87 v_mm)))] sz [.ref h_mm, .int p1]) (va_Qi (fun (r : Int32) (_ : Unit) => ((r = 1 ∧ (97 ≤ (p1).toInt) ∧ ((p1).toInt ≤ 122)) ∨ (r = 0 ∧ ((p1).toInt < 97 ∨ 122 < (p1).toInt)))) (fun (_ : Unit) (t : State) => va_P (dC, dI) cls [(h_mm, .inr (8, (mo87 v_mm)))] t.heap ∧ va_D (va_A [(h_mm, .inr (8, (mo87 v_mm)))] sz) [(h_mm, .inr (8, (mo87 v_mm)))]) (va_A [(h_mm, .inr (8, (mo87 v_mm)))] sz)) 0 0 (va_A [(h_mm, .inr (8, (mo87 v_mm)))] sz) := by
  refine Met.ofW (cc := cX11_isSmall) (maxL := 2) (ret := (some .boolean)) (by decide) rfl ?_
  intro p e s m args below meth c s₁ B hml hv
  obtain ⟨rfl, hsz, hP, hK, hD0, hN⟩ := hv
  have hx := B.exec
  have hb := B.bytes
  have hr := B.returns
  have hts := atoms_spec (ws := Ws yX11_isSmall cX11_isSmall 2 (some .boolean)) B.pre
  have hT : ∀ w ∈ WALL, w ∈ Ws yX11_isSmall cX11_isSmall 2 (some .boolean) := fun w h => List.mem_cons_of_mem _ h
  have hw := fun w (h : w ∈ WALL) => hts w (hT w h)
  have hown : s.vm.findClass RX11 = some m.cls := findClass_of_methodNamed B.named
  have hlocks := B.notSynchronized
  subst hsz
  have hD := hD0.self (sz := s.heap.size)
  generalize hAe : va_A [(h_mm, .inr (8, (mo87 v_mm)))] s.heap.size = A at hD ⊢
  have hA : ∀ q : Nat, s.heap.size ≤ q → A q := fun q h => by rw [← hAe]; exact Or.inr h
  have hS : va_S A s.heap s.heap [] := va_S.rf
  have hl := lv_entry ([.ref h_mm, .int p1]) (n := 2) (Nat.le_of_ble_eq_true rfl)
  rw [lg_entry_eq]
  generalize (lg_sl ([.ref h_mm, .int p1]) ++ List.replicate (2 - (lg_sl ([.ref h_mm, .int p1])).length) Slot.unset).toArray = ls at hl ⊢
  have hl : lv_has ls 2 [(0, .ref h_mm), (1, .int p1)] := hl
  refine lv_aload_n hx hb dX11_isSmall_0 rfl (lv_at hl 0 rfl) ?_
  refine lv_iload_n hx hb dX11_isSmall_1 rfl (lv_at hl 1 rfl) ?_
  refine lv_i2l hx hb dX11_isSmall_2 rfl ?_
  refine lv_topl (fun z1 ez1 => ?_)
  have tz1 : (z1).toInt = (p1).toInt := by rw [ez1]; exact Int32.toInt_toInt64 _
  have bz1 := i_bd p1
  refine lv_ldc2 (v := 97) hx hb hown (hw _ w_cl_X11_45) dX11_isSmall_3 ?_
  refine lv_ldc2 (v := 122) hx hb hown (hw _ w_cl_X11_47) dX11_isSmall_6 ?_
  have : (97 : Int64).toInt = 97 := by decide
  have : (122 : Int64).toInt = 122 := by decide
  have hPc := hP.sub (ws' := []) [] rfl
  have hDc := hD.sub (ws' := []) [] (by decide) rfl
  have hKc := hK.sub (tys' := []) [] rfl
  have hFc := va_free (wc := []) hD hS hA [] rfl
  refine va_calli (va_runV (As := [.long z1, .long 97, .long 122]) (rest := []) ⟨hx, hb, hml, hown, hts⟩ (c_X11_isIn l dC dI s.heap.size h_mm z1 97 122) (cwV 3 hts (gv hT w_m_X11_49 w_instanceMethod_X11_isIn ws_sel_X11_isIn w_ini_X11 w_code_X11_isIn) rfl rfl rfl (by decide +kernel) ⟨(Nat.le_of_ble_eq_true rfl), (Nat.le_of_ble_eq_true rfl)⟩) ⟨pre_blind, va_recv hK hP (ci := 8) (q0 := 0) rfl rfl, pre_of hPc hKc hDc hN⟩ rfl rfl hl.1 rfl (lv_room (Nat.le_of_ble_eq_true rfl)) dX11_isSmall_9 ⟨(Nat.le_of_ble_eq_true rfl), (Nat.le_of_ble_eq_true rfl)⟩) hS (fun q _ h => hFc q h) hFc (fun r2 u t H locs ht hvm hq hB hz1 hk1 hS9 => ?_)
  obtain ⟨hP1, hD1⟩ := hB
  rw [ht] at hP1
  obtain ⟨hP9, hD9⟩ := va_join (wr := [(h_mm, .inr (8, (mo87 v_mm)))]) (w1 := []) hP hD [] [0] rfl rfl (by decide) (by decide) hk1 hFc hP1 hD1
  clear hP hD hS hPc hDc hKc hFc hP1 hD1 hk1 hz1 ht hvm
  have hP : va_P (dC, dI) cls [(h_mm, .inr (8, (mo87 v_mm)))] H := hP9
  have hD : va_D A [(h_mm, .inr (8, (mo87 v_mm)))] := hD9
  have hS := hS9
  clear hP9 hD9 hS9
  rcases hq with ⟨rfl, hq⟩ | ⟨rfl, hq⟩
  · replace hq : (((97 : Int64)).toInt ≤ ((z1)).toInt) ∧ (((z1)).toInt ≤ ((122 : Int64)).toInt) := hq
    refine W.widen (k := 0) (n := 0) (Nat.le_of_ble_eq_true rfl) (Nat.le_of_ble_eq_true rfl) ?_
    have cst1 : (1 : Int32).toInt = 1 := by decide
    have : 97 ≤ (p1).toInt := by omega
    have : (p1).toInt ≤ 122 := by omega
    exact W.zret (v := 1) (ty := .boolean) hx hb hr (by decide) (fun t ht hW => ⟨⟨1, (), rfl, (Or.inl (⟨rfl, by assumption, by assumption⟩)), by rw [ht]; exact hP, hD⟩, hS.F ht⟩) hS.2.2 dX11_isSmall_12
  · replace hq : (((z1)).toInt < ((97 : Int64)).toInt ∨ ((122 : Int64)).toInt < ((z1)).toInt) := hq
    refine W.widen (k := 0) (n := 0) (Nat.le_of_ble_eq_true rfl) (Nat.le_of_ble_eq_true rfl) ?_
    have cst0 : (0 : Int32).toInt = 0 := by decide
    have : (p1).toInt < 97 ∨ 122 < (p1).toInt := by omega
    exact W.zret (v := 0) (ty := .boolean) hx hb hr (by decide) (fun t ht hW => ⟨⟨0, (), rfl, (Or.inr (⟨rfl, by assumption⟩)), by rw [ht]; exact hP, hD⟩, hS.F ht⟩) hS.2.2 dX11_isSmall_12

set_option maxHeartbeats 8000000 in
set_option maxRecDepth 100000 in
theorem c_X11_isLetter (l : Launch) (dC : Nat → ClassId) (dI : Nat → Nat → Nat) (sz : Nat) (h_mm : Nat) (v_mm : Nat → Value) (p1 : Int32)  : Met l yX11_isLetter (Ws yX11_isLetter cX11_isLetter 2 (some .boolean)) (({ frames := 2, cells := 0, slots := 0, locals := 47 } : Room)) (PRE (dC, dI) cls [] [(h_mm, .inr (8, (mo87 v_mm)))] sz [.ref h_mm, .int p1]) (va_Qi (fun (r : Int32) (_ : Unit) => ((r = 1 ∧ ((97 ≤ (p1).toInt ∧ (p1).toInt ≤ 122) ∨ (65 ≤ (p1).toInt ∧ (p1).toInt ≤ 90))) ∨ (r = 0 ∧ (((p1).toInt < 97 ∨ 122 < (p1).toInt) ∧ ((p1).toInt < 65 ∨ 90 < (p1).toInt))))) (fun (_ : Unit) (t : State) => va_P (dC, dI) cls [(h_mm, .inr (8, (mo87 v_mm)))] t.heap ∧ va_D (va_A [(h_mm, .inr (8, (mo87 v_mm)))] sz) [(h_mm, .inr (8, (mo87 v_mm)))]) (va_A [(h_mm, .inr (8, (mo87 v_mm)))] sz)) 0 0 (va_A [(h_mm, .inr (8, (mo87 v_mm)))] sz) := by
  refine Met.ofW (cc := cX11_isLetter) (maxL := 2) (ret := (some .boolean)) (by decide) rfl ?_
  intro p e s m args below meth c s₁ B hml hv
  obtain ⟨rfl, hsz, hP, hK, hD0, hN⟩ := hv
  have hx := B.exec
  have hb := B.bytes
  have hr := B.returns
  have hts := atoms_spec (ws := Ws yX11_isLetter cX11_isLetter 2 (some .boolean)) B.pre
  have hT : ∀ w ∈ WALL, w ∈ Ws yX11_isLetter cX11_isLetter 2 (some .boolean) := fun w h => List.mem_cons_of_mem _ h
  have hw := fun w (h : w ∈ WALL) => hts w (hT w h)
  have hown : s.vm.findClass RX11 = some m.cls := findClass_of_methodNamed B.named
  have hlocks := B.notSynchronized
  subst hsz
  have hD := hD0.self (sz := s.heap.size)
  generalize hAe : va_A [(h_mm, .inr (8, (mo87 v_mm)))] s.heap.size = A at hD ⊢
  have hA : ∀ q : Nat, s.heap.size ≤ q → A q := fun q h => by rw [← hAe]; exact Or.inr h
  have hS : va_S A s.heap s.heap [] := va_S.rf
  have hl := lv_entry ([.ref h_mm, .int p1]) (n := 2) (Nat.le_of_ble_eq_true rfl)
  rw [lg_entry_eq]
  generalize (lg_sl ([.ref h_mm, .int p1]) ++ List.replicate (2 - (lg_sl ([.ref h_mm, .int p1])).length) Slot.unset).toArray = ls at hl ⊢
  have hl : lv_has ls 2 [(0, .ref h_mm), (1, .int p1)] := hl
  refine lv_aload_n hx hb dX11_isLetter_0 rfl (lv_at hl 0 rfl) ?_
  refine lv_iload_n hx hb dX11_isLetter_1 rfl (lv_at hl 1 rfl) ?_
  have hPc := hP.sub (ws' := [(h_mm, .inr (8, (mo87 v_mm)))]) [0] rfl
  have hDc := hD.sub (ws' := [(h_mm, .inr (8, (mo87 v_mm)))]) [0] (by decide) rfl
  have hKc := hK.sub (tys' := []) [] rfl
  have hFc := va_free (wc := [(h_mm, .inr (8, (mo87 v_mm)))]) hD hS hA [0] rfl
  refine va_calli (va_runV (As := [.int p1]) (rest := []) ⟨hx, hb, hml, hown, hts⟩ (c_X11_isSmall l dC dI s.heap.size h_mm v_mm p1) (cwV 1 hts (gv hT w_m_X11_53 w_instanceMethod_X11_isSmall ws_sel_X11_isSmall w_ini_X11 w_code_X11_isSmall) rfl rfl rfl (by decide +kernel) ⟨(Nat.le_of_ble_eq_true rfl), (Nat.le_of_ble_eq_true rfl)⟩) ⟨pre_blind, va_recv hK hP (ci := 8) (q0 := 0) rfl rfl, pre_of hPc hKc hDc hN⟩ rfl rfl hl.1 rfl (lv_room (Nat.le_of_ble_eq_true rfl)) dX11_isLetter_2 ⟨(Nat.le_of_ble_eq_true rfl), (Nat.le_of_ble_eq_true rfl)⟩) hS (fun q _ h => hFc q h) hFc (fun r1 u t H locs ht hvm hq hB hz1 hk1 hS9 => ?_)
  obtain ⟨hP1, hD1⟩ := hB
  rw [ht] at hP1
  obtain ⟨hP9, hD9⟩ := va_join (wr := []) (w1 := [(h_mm, .inr (8, (mo87 v_mm)))]) hP hD [0] [] rfl rfl (by decide) (by decide) hk1 hFc hP1 hD1
  clear hP hD hS hPc hDc hKc hFc hP1 hD1 hk1 hz1 ht hvm
  have hP : va_P (dC, dI) cls [(h_mm, .inr (8, (mo87 v_mm)))] H := hP9
  have hD : va_D A [(h_mm, .inr (8, (mo87 v_mm)))] := hD9
  have hS := hS9
  clear hP9 hD9 hS9
  rcases hq with ⟨rfl, hq⟩ | ⟨rfl, hq⟩
  · replace hq : (97 ≤ ((p1)).toInt) ∧ (((p1)).toInt ≤ 122) := hq
    refine lv_if_ne (tgt := 23) hx hb dX11_isLetter_5 (by decide) (fun _ => ?_) (fun c9 => absurd c9 (by decide))
    refine lv_iconst (v := 1) hx hb dX11_isLetter_23 (by decide) ?_
    refine lv_goto (tgt := 28) hx hb dX11_isLetter_24 (by decide) ?_
    refine W.widen (k := 0) (n := 0) (Nat.le_of_ble_eq_true rfl) (Nat.le_of_ble_eq_true rfl) ?_
    have cst1 : (1 : Int32).toInt = 1 := by decide
    have : (97 ≤ (p1).toInt ∧ (p1).toInt ≤ 122) ∨ (65 ≤ (p1).toInt ∧ (p1).toInt ≤ 90) := by omega
    exact W.zret (v := 1) (ty := .boolean) hx hb hr (by decide) (fun t ht hW => ⟨⟨1, (), rfl, (Or.inl (⟨rfl, by assumption⟩)), by rw [ht]; exact hP, hD⟩, hS.F ht⟩) hS.2.2 dX11_isLetter_28
  · replace hq : (((p1)).toInt < 97 ∨ 122 < ((p1)).toInt) := hq
    refine lv_if_ne (tgt := 23) hx hb dX11_isLetter_5 (by decide) (fun c9 => absurd c9 (by decide)) (fun _ => ?_)
    refine lv_aload_n hx hb dX11_isLetter_8 rfl (lv_at hl 0 rfl) ?_
    refine lv_iload_n hx hb dX11_isLetter_9 rfl (lv_at hl 1 rfl) ?_
    refine lv_i2l hx hb dX11_isLetter_10 rfl ?_
    refine lv_topl (fun z3 ez3 => ?_)
    have tz3 : (z3).toInt = (p1).toInt := by rw [ez3]; exact Int32.toInt_toInt64 _
    have bz3 := i_bd p1
    refine lv_ldc2 (v := 65) hx hb hown (hw _ w_cl_X11_57) dX11_isLetter_11 ?_
    refine lv_ldc2 (v := 90) hx hb hown (hw _ w_cl_X11_59) dX11_isLetter_14 ?_
    have : (65 : Int64).toInt = 65 := by decide
    have : (90 : Int64).toInt = 90 := by decide
    have hPc := hP.sub (ws' := []) [] rfl
    have hDc := hD.sub (ws' := []) [] (by decide) rfl
    have hKc := hK.sub (tys' := []) [] rfl
    have hFc := va_free (wc := []) hD hS hA [] rfl
    refine va_calli (va_runV (As := [.long z3, .long 65, .long 90]) (rest := []) ⟨hx, hb, hml, hown, hts⟩ (c_X11_isIn l dC dI H.size h_mm z3 65 90) (cwV 3 hts (gv hT w_m_X11_49 w_instanceMethod_X11_isIn ws_sel_X11_isIn w_ini_X11 w_code_X11_isIn) rfl rfl rfl (by decide +kernel) ⟨(Nat.le_of_ble_eq_true rfl), (Nat.le_of_ble_eq_true rfl)⟩) ⟨pre_blind, va_recv hK hP (ci := 8) (q0 := 0) rfl rfl, pre_of hPc hKc hDc hN⟩ rfl rfl hl.1 rfl (lv_room (Nat.le_of_ble_eq_true rfl)) dX11_isLetter_17 ⟨(Nat.le_of_ble_eq_true rfl), (Nat.le_of_ble_eq_true rfl)⟩) hS (fun q _ h => hFc q h) hFc (fun r4 u t H locs ht hvm hq hB hz1 hk1 hS9 => ?_)
    obtain ⟨hP1, hD1⟩ := hB
    rw [ht] at hP1
    obtain ⟨hP9, hD9⟩ := va_join (wr := [(h_mm, .inr (8, (mo87 v_mm)))]) (w1 := []) hP hD [] [0] rfl rfl (by decide) (by decide) hk1 hFc hP1 hD1
    clear hP hD hS hPc hDc hKc hFc hP1 hD1 hk1 hz1 ht hvm
    have hP : va_P (dC, dI) cls [(h_mm, .inr (8, (mo87 v_mm)))] H := hP9
    have hD : va_D A [(h_mm, .inr (8, (mo87 v_mm)))] := hD9
    have hS := hS9
    clear hP9 hD9 hS9
    rcases hq with ⟨rfl, hq⟩ | ⟨rfl, hq⟩
    · replace hq : (((65 : Int64)).toInt ≤ ((z3)).toInt) ∧ (((z3)).toInt ≤ ((90 : Int64)).toInt) := hq
      refine lv_if_eq (tgt := 27) hx hb dX11_isLetter_20 (by decide) (fun c9 => absurd c9 (by decide)) (fun _ => ?_)
      refine lv_iconst (v := 1) hx hb dX11_isLetter_23 (by decide) ?_
      refine lv_goto (tgt := 28) hx hb dX11_isLetter_24 (by decide) ?_
      refine W.widen (k := 0) (n := 0) (Nat.le_of_ble_eq_true rfl) (Nat.le_of_ble_eq_true rfl) ?_
      have cst1 : (1 : Int32).toInt = 1 := by decide
      have : (97 ≤ (p1).toInt ∧ (p1).toInt ≤ 122) ∨ (65 ≤ (p1).toInt ∧ (p1).toInt ≤ 90) := by omega
      exact W.zret (v := 1) (ty := .boolean) hx hb hr (by decide) (fun t ht hW => ⟨⟨1, (), rfl, (Or.inl (⟨rfl, by assumption⟩)), by rw [ht]; exact hP, hD⟩, hS.F ht⟩) hS.2.2 dX11_isLetter_28
    · replace hq : (((z3)).toInt < ((65 : Int64)).toInt ∨ ((90 : Int64)).toInt < ((z3)).toInt) := hq
      refine lv_if_eq (tgt := 27) hx hb dX11_isLetter_20 (by decide) (fun _ => ?_) (fun c9 => absurd c9 (by decide))
      refine lv_iconst (v := 0) hx hb dX11_isLetter_27 (by decide) ?_
      refine W.widen (k := 0) (n := 0) (Nat.le_of_ble_eq_true rfl) (Nat.le_of_ble_eq_true rfl) ?_
      have cst0 : (0 : Int32).toInt = 0 := by decide
      have : ((p1).toInt < 97 ∨ 122 < (p1).toInt) ∧ ((p1).toInt < 65 ∨ 90 < (p1).toInt) := by omega
      exact W.zret (v := 0) (ty := .boolean) hx hb hr (by decide) (fun t ht hW => ⟨⟨0, (), rfl, (Or.inr (⟨rfl, by assumption⟩)), by rw [ht]; exact hP, hD⟩, hS.F ht⟩) hS.2.2 dX11_isLetter_28

set_option maxHeartbeats 8000000 in
set_option maxRecDepth 100000 in
theorem c_X11_see (l : Launch) (dC : Nat → ClassId) (dI : Nat → Nat → Nat) (sz : Nat) (h_mm : Nat) (h_tap : Nat) (v_mm : Nat → Value) (x_mm_taped : Int32) (cy_tap : ClassId) (f_tap : Nat → Int32) (p1 : Int32) (G : Int → Int) (hx_mm_taped : 0 ≤ (x_mm_taped).toInt ∧ (x_mm_taped).toInt ≤ 600) (q0 : 0 ≤ (p1).toInt ∧ (p1).toInt ≤ 600) (hn_tapq : TAP G (x_mm_taped).toInt f_tap) : Met l yX11_see (Ws yX11_see cX11_see 2 (some .int)) (({ frames := 0, cells := 0, slots := 0, locals := 0 } : Room)) (PRE (dC, dI) cls [(cy_tap, .byte)] [(h_mm, .inr (8, (mo88 v_mm (.ref h_tap) (.int x_mm_taped)))), (h_tap, .inl (cy_tap, 600, .inl f_tap))] sz [.ref h_mm, .int p1]) (va_Qi (fun (r : Int32) (_ : Unit) => (-1 ≤ r.toInt ∧ r.toInt ≤ 255) ∧ ((r).toInt = sG G (x_mm_taped).toInt (p1).toInt) ∧ ((r).toInt = -1 ∨ (p1).toInt < (x_mm_taped).toInt)) (fun (_ : Unit) (t : State) => va_P (dC, dI) cls [(h_mm, .inr (8, (mo88 v_mm (.ref h_tap) (.int x_mm_taped)))), (h_tap, .inl (cy_tap, 600, .inl f_tap))] t.heap ∧ va_D (va_A [(h_mm, .inr (8, (mo88 v_mm (.ref h_tap) (.int x_mm_taped)))), (h_tap, .inl (cy_tap, 600, .inl f_tap))] sz) [(h_mm, .inr (8, (mo88 v_mm (.ref h_tap) (.int x_mm_taped)))), (h_tap, .inl (cy_tap, 600, .inl f_tap))]) (va_A [(h_mm, .inr (8, (mo88 v_mm (.ref h_tap) (.int x_mm_taped)))), (h_tap, .inl (cy_tap, 600, .inl f_tap))] sz)) 0 0 (va_A [(h_mm, .inr (8, (mo88 v_mm (.ref h_tap) (.int x_mm_taped)))), (h_tap, .inl (cy_tap, 600, .inl f_tap))] sz) := by
  refine Met.ofW (cc := cX11_see) (maxL := 2) (ret := (some .int)) (by decide) rfl ?_
  intro p e s m args below meth c s₁ B hml hv
  obtain ⟨rfl, hsz, hP, hK, hD0, hN⟩ := hv
  have hx := B.exec
  have hb := B.bytes
  have hr := B.returns
  have hts := atoms_spec (ws := Ws yX11_see cX11_see 2 (some .int)) B.pre
  have hT : ∀ w ∈ WALL, w ∈ Ws yX11_see cX11_see 2 (some .int) := fun w h => List.mem_cons_of_mem _ h
  have hw := fun w (h : w ∈ WALL) => hts w (hT w h)
  have hown : s.vm.findClass RX11 = some m.cls := findClass_of_methodNamed B.named
  have hlocks := B.notSynchronized
  subst hsz
  have hD := hD0.self (sz := s.heap.size)
  generalize hAe : va_A [(h_mm, .inr (8, (mo88 v_mm (.ref h_tap) (.int x_mm_taped)))), (h_tap, .inl (cy_tap, 600, .inl f_tap))] s.heap.size = A at hD ⊢
  have hA : ∀ q : Nat, s.heap.size ≤ q → A q := fun q h => by rw [← hAe]; exact Or.inr h
  have hS : va_S A s.heap s.heap [] := va_S.rf
  have hl := lv_entry ([.ref h_mm, .int p1]) (n := 2) (Nat.le_of_ble_eq_true rfl)
  rw [lg_entry_eq]
  generalize (lg_sl ([.ref h_mm, .int p1]) ++ List.replicate (2 - (lg_sl ([.ref h_mm, .int p1])).length) Slot.unset).toArray = ls at hl ⊢
  have hl : lv_has ls 2 [(0, .ref h_mm), (1, .int p1)] := hl
  refine lv_iload_n hx hb dX11_see_0 rfl (lv_at hl 1 rfl) ?_
  refine lv_aload_n hx hb dX11_see_1 rfl (lv_at hl 0 rfl) ?_
  refine va_get (D := (dC, dI)) (ci := 8) (v := .int x_mm_taped) (C := RX11) (T := TX11) (N := 71) hx hb hw iwX11 hown hK hP 0 rfl rfl 14 (by decide) (hw _ w_f_X11_38) (fun _ h9 => h9) rfl dX11_see_2 ?_
  refine lv_icmp_ge (tgt := 21) hx hb dX11_see_5 (by decide) (fun c1 => ?_) (fun c1 => ?_)
  · have kc1 := (cv_le (rfl : (x_mm_taped).toInt = (x_mm_taped).toInt) (rfl : (p1).toInt = (p1).toInt)).mp c1
    refine lv_iconst (v := (-1)) hx hb dX11_see_21 (by decide) ?_
    refine W.widen (k := 0) (n := 0) (Nat.le_of_ble_eq_true rfl) (Nat.le_of_ble_eq_true rfl) ?_
    have cstm1 : ((-1) : Int32).toInt = -1 := by decide
    have w2 : -1 ≤ ((-1) : Int32).toInt ∧ ((-1) : Int32).toInt ≤ 255 := by omega
    have w3 : (((-1) : Int32)).toInt = sG G (x_mm_taped).toInt (p1).toInt := by rw [sG_no (by omega)]; decide
    have w4 : (((-1) : Int32)).toInt = -1 ∨ (p1).toInt < (x_mm_taped).toInt := by omega
    exact W.iret (v := (-1)) hx hb hr (fun t ht hW => ⟨⟨(-1), (), rfl, ⟨w2, w3, w4⟩, by rw [ht]; exact hP, hD⟩, hS.F ht⟩) hS.2.2 dX11_see_22
  · have kc1 := (not_congr (cv_le (rfl : (x_mm_taped).toInt = (x_mm_taped).toInt) (rfl : (p1).toInt = (p1).toInt))).mp c1
    refine lv_aload_n hx hb dX11_see_8 rfl (lv_at hl 0 rfl) ?_
    refine va_get (D := (dC, dI)) (ci := 8) (v := .ref h_tap) (C := RX11) (T := TX11) (N := 71) hx hb hw iwX11 hown hK hP 0 rfl rfl 13 (by decide) (hw _ w_f_X11_41) (fun _ h9 => h9) rfl dX11_see_9 ?_
    refine lv_iload_n hx hb dX11_see_12 rfl (lv_at hl 1 rfl) ?_
    refine va_bald hx hb hK hP 1 0 rfl rfl (i := p1) (vp_in_iff.mpr (by omega)) dX11_see_13 ?_
    refine lv_topi (fun z5 ez5 => ?_)
    refine lv_sipush (v := 255) hx hb dX11_see_14 (by decide) ?_
    refine lv_iand hx hb dX11_see_17 ?_
    refine lv_topi (fun z6 ez6 => ?_)
    have tz6 : 0 ≤ (z6).toInt ∧ (z6).toInt ≤ 255 := by rw [ez6]; exact i_andr 8 (by decide) (by decide) (by decide)
    refine lv_goto (tgt := 22) hx hb dX11_see_18 (by decide) ?_
    refine W.widen (k := 0) (n := 0) (Nat.le_of_ble_eq_true rfl) (Nat.le_of_ble_eq_true rfl) ?_
    have w7 : -1 ≤ (z6 : Int32).toInt ∧ (z6 : Int32).toInt ≤ 255 := by omega
    have w8 : ((z6 : Int32)).toInt = sG G (x_mm_taped).toInt (p1).toInt := by rw [sG_yes (by omega), ez6, ez5]; exact hn_tapq.2 _ (by omega) (by omega)
    have w9 : ((z6 : Int32)).toInt = -1 ∨ (p1).toInt < (x_mm_taped).toInt := by omega
    exact W.iret (v := z6) hx hb hr (fun t ht hW => ⟨⟨z6, (), rfl, ⟨w7, w8, w9⟩, by rw [ht]; exact hP, hD⟩, hS.F ht⟩) hS.2.2 dX11_see_22

set_option maxHeartbeats 8000000 in
set_option maxRecDepth 100000 in
theorem c_X11_step (l : Launch) (dC : Nat → ClassId) (dI : Nat → Nat → Nat) (sz : Nat) (h_mm : Nat) (h_tap : Nat) (v_mm : Nat → Value) (x_mm_taped : Int32) (x_mm_at : Int32) (x_mm_place : Int32) (x_mm_kind : Int32) (x_mm_sign : Int32) (x_mm_name : Int64) (cy_tap : ClassId) (f_tap : Nat → Int32) (G : Int → Int) (hx_mm_taped : 0 ≤ (x_mm_taped).toInt ∧ (x_mm_taped).toInt ≤ 600) (hx_mm_at : 0 ≤ (x_mm_at).toInt ∧ (x_mm_at).toInt ≤ 600) (hx_mm_place : 0 ≤ (x_mm_place).toInt ∧ (x_mm_place).toInt ≤ 600) (hx_mm_kind : 0 ≤ (x_mm_kind).toInt ∧ (x_mm_kind).toInt ≤ 4) (q0 : (x_mm_at).toInt ≤ (x_mm_taped).toInt) (hn_tapq : TAP G (x_mm_taped).toInt f_tap) : Met l yX11_step (Ws yX11_step cX11_step 3 none) (({ frames := 3, cells := 0, slots := 0, locals := 68 } : Room)) (PRE (dC, dI) cls [(cy_tap, .byte)] [(h_mm, .inr (8, (mo89 v_mm (.ref h_tap) (.int x_mm_taped) (.int x_mm_at) (.int x_mm_place) (.int x_mm_kind) (.int x_mm_sign) (.long x_mm_name)))), (h_tap, .inl (cy_tap, 600, .inl f_tap))] sz [.ref h_mm]) (va_Qv (fun (u : (Int32) × (Int32) × (Int32) × (Int32) × (Int64)) => (0 ≤ (u.1).toInt ∧ (u.1).toInt ≤ 600) ∧ (0 ≤ (u.2.1).toInt ∧ (u.2.1).toInt ≤ 600) ∧ (0 ≤ (u.2.2.1).toInt ∧ (u.2.2.1).toInt ≤ 4) ∧ ((x_mm_at).toInt ≤ (u.2.1).toInt) ∧ ((u.2.1).toInt ≤ (u.1).toInt) ∧ ((u.2.1).toInt = tkS G (x_mm_taped).toInt (x_mm_at).toInt) ∧ ((u.2.2.1).toInt = kd (tkT G (x_mm_taped).toInt (u.2.1).toInt)) ∧ ((u.2.2.1).toInt = 0 ∨ ((u.1).toInt = tkX G (x_mm_taped).toInt (u.2.1).toInt ∧ (u.2.2.2.1).toInt = G (u.2.1).toInt ∧ (u.2.1).toInt < (x_mm_taped).toInt ∧ (u.2.1).toInt + 1 ≤ (u.1).toInt)) ∧ ((u.1).toInt ≤ (x_mm_taped).toInt) ∧ ((u.2.1).toInt ≤ (x_mm_taped).toInt) ∧ (NMK (u.2.2.1).toInt (u.2.2.2.2).toInt (NMI 27 G (x_mm_taped).toInt (u.2.1).toInt))) (fun (u : (Int32) × (Int32) × (Int32) × (Int32) × (Int64)) (t : State) => va_P (dC, dI) cls [(h_mm, .inr (8, (mo89 v_mm (.ref h_tap) (.int x_mm_taped) (.int u.1) (.int u.2.1) (.int u.2.2.1) (.int u.2.2.2.1) (.long u.2.2.2.2)))), (h_tap, .inl (cy_tap, 600, .inl f_tap))] t.heap ∧ va_D (va_A [(h_mm, .inr (8, (mo89 v_mm (.ref h_tap) (.int x_mm_taped) (.int x_mm_at) (.int x_mm_place) (.int x_mm_kind) (.int x_mm_sign) (.long x_mm_name)))), (h_tap, .inl (cy_tap, 600, .inl f_tap))] sz) [(h_mm, .inr (8, (mo89 v_mm (.ref h_tap) (.int x_mm_taped) (.int u.1) (.int u.2.1) (.int u.2.2.1) (.int u.2.2.2.1) (.long u.2.2.2.2)))), (h_tap, .inl (cy_tap, 600, .inl f_tap))]) (va_A [(h_mm, .inr (8, (mo89 v_mm (.ref h_tap) (.int x_mm_taped) (.int x_mm_at) (.int x_mm_place) (.int x_mm_kind) (.int x_mm_sign) (.long x_mm_name)))), (h_tap, .inl (cy_tap, 600, .inl f_tap))] sz)) 0 0 (va_A [(h_mm, .inr (8, (mo89 v_mm (.ref h_tap) (.int x_mm_taped) (.int x_mm_at) (.int x_mm_place) (.int x_mm_kind) (.int x_mm_sign) (.long x_mm_name)))), (h_tap, .inl (cy_tap, 600, .inl f_tap))] sz) := by
  refine Met.ofW (cc := cX11_step) (maxL := 3) (ret := none) (by decide) rfl ?_
  intro p e s m args below meth c s₁ B hml hv
  obtain ⟨rfl, hsz, hP, hK, hD0, hN⟩ := hv
  have hx := B.exec
  have hb := B.bytes
  have hr := B.returns
  have hts := atoms_spec (ws := Ws yX11_step cX11_step 3 none) B.pre
  have hT : ∀ w ∈ WALL, w ∈ Ws yX11_step cX11_step 3 none := fun w h => List.mem_cons_of_mem _ h
  have hw := fun w (h : w ∈ WALL) => hts w (hT w h)
  have hown : s.vm.findClass RX11 = some m.cls := findClass_of_methodNamed B.named
  have hlocks := B.notSynchronized
  subst hsz
  have hD := hD0.self (sz := s.heap.size)
  generalize hAe : va_A [(h_mm, .inr (8, (mo89 v_mm (.ref h_tap) (.int x_mm_taped) (.int x_mm_at) (.int x_mm_place) (.int x_mm_kind) (.int x_mm_sign) (.long x_mm_name)))), (h_tap, .inl (cy_tap, 600, .inl f_tap))] s.heap.size = A at hD ⊢
  have hA : ∀ q : Nat, s.heap.size ≤ q → A q := fun q h => by rw [← hAe]; exact Or.inr h
  have hS : va_S A s.heap s.heap [] := va_S.rf
  have hl := lv_entry ([.ref h_mm]) (n := 3) (Nat.le_of_ble_eq_true rfl)
  rw [lg_entry_eq]
  generalize (lg_sl ([.ref h_mm]) ++ List.replicate (3 - (lg_sl ([.ref h_mm])).length) Slot.unset).toArray = ls at hl ⊢
  have hl : lv_has ls 3 [(0, .ref h_mm)] := hl
  have lp2 : ∀ (n : Nat) (x1 : Int32) (H : Heap) (locs : List Loc) (ls : Array Slot), (0 ≤ (x1).toInt ∧ (x1).toInt ≤ 600) → ((x_mm_at).toInt ≤ (x1).toInt) → ((x1).toInt ≤ (x_mm_taped).toInt) → (tkS G (x_mm_taped).toInt (x1).toInt = tkS G (x_mm_taped).toInt (x_mm_at).toInt) → (600 - (x1).toInt).toNat + 1 ≤ n → va_P (dC, dI) cls [(h_mm, .inr (8, (mo89 v_mm (.ref h_tap) (.int x_mm_taped) (.int x1) (.int x_mm_place) (.int x_mm_kind) (.int x_mm_sign) (.long x_mm_name)))), (h_tap, .inl (cy_tap, 600, .inl f_tap))] H → va_D A [(h_mm, .inr (8, (mo89 v_mm (.ref h_tap) (.int x_mm_taped) (.int x1) (.int x_mm_place) (.int x_mm_kind) (.int x_mm_sign) (.long x_mm_name)))), (h_tap, .inl (cy_tap, 600, .inl f_tap))] → va_S A s.heap H locs → lv_has ls 3 [(0, .ref h_mm)] → W p l e ({ frames := 3, cells := 0, slots := 0, locals := 68 } : Room) s m ([.ref h_mm] : List Value).toArray below meth c H locs 0 0 (MQ below (va_Qv (fun (u : (Int32) × (Int32) × (Int32) × (Int32) × (Int64)) => (0 ≤ (u.1).toInt ∧ (u.1).toInt ≤ 600) ∧ (0 ≤ (u.2.1).toInt ∧ (u.2.1).toInt ≤ 600) ∧ (0 ≤ (u.2.2.1).toInt ∧ (u.2.2.1).toInt ≤ 4) ∧ ((x_mm_at).toInt ≤ (u.2.1).toInt) ∧ ((u.2.1).toInt ≤ (u.1).toInt) ∧ ((u.2.1).toInt = tkS G (x_mm_taped).toInt (x_mm_at).toInt) ∧ ((u.2.2.1).toInt = kd (tkT G (x_mm_taped).toInt (u.2.1).toInt)) ∧ ((u.2.2.1).toInt = 0 ∨ ((u.1).toInt = tkX G (x_mm_taped).toInt (u.2.1).toInt ∧ (u.2.2.2.1).toInt = G (u.2.1).toInt ∧ (u.2.1).toInt < (x_mm_taped).toInt ∧ (u.2.1).toInt + 1 ≤ (u.1).toInt)) ∧ ((u.1).toInt ≤ (x_mm_taped).toInt) ∧ ((u.2.1).toInt ≤ (x_mm_taped).toInt) ∧ (NMK (u.2.2.1).toInt (u.2.2.2.2).toInt (NMI 27 G (x_mm_taped).toInt (u.2.1).toInt))) (fun (u : (Int32) × (Int32) × (Int32) × (Int32) × (Int64)) (t : State) => va_P (dC, dI) cls [(h_mm, .inr (8, (mo89 v_mm (.ref h_tap) (.int x_mm_taped) (.int u.1) (.int u.2.1) (.int u.2.2.1) (.int u.2.2.2.1) (.long u.2.2.2.2)))), (h_tap, .inl (cy_tap, 600, .inl f_tap))] t.heap ∧ va_D A [(h_mm, .inr (8, (mo89 v_mm (.ref h_tap) (.int x_mm_taped) (.int u.1) (.int u.2.1) (.int u.2.2.1) (.int u.2.2.2.1) (.long u.2.2.2.2)))), (h_tap, .inl (cy_tap, 600, .inl f_tap))]) A) ([.ref h_mm] : List Value).toArray s 0 0 A) (F0 m 0 ls []) := by
    clear hP hD hS hl
    intro n
    induction n with
    | zero => intro x1 H locs ls klp2_0 klp2_1 klp2_2 klp2_3 hm hP hD hS hl; exact False.elim (by omega)
    | succ n ih => 
      intro x1 H locs ls klp2_0 klp2_1 klp2_2 klp2_3 hm hP hD hS hl
      have ih3 := ih
      clear ih
      refine lv_aload_n hx hb dX11_step_0 rfl (lv_at hl 0 rfl) ?_
      refine lv_aload_n hx hb dX11_step_1 rfl (lv_at hl 0 rfl) ?_
      refine va_get (D := (dC, dI)) (ci := 8) (v := .int x1) (C := RX11) (T := TX11) (N := 71) hx hb hw iwX11 hown hK hP 0 rfl rfl 15 (by decide) (hw _ w_f_X11_74) (fun _ h9 => h9) rfl dX11_step_2 ?_
      obtain ⟨vq4, evq4⟩ := mq89_88 v_mm (.int x1) (.int x_mm_place) (.int x_mm_kind) (.int x_mm_sign) (.long x_mm_name)
      replace hP : va_P (dC, dI) cls [(h_mm, .inr (8, (mo88 vq4 (.ref h_tap) (.int x_mm_taped)))), (h_tap, .inl (cy_tap, 600, .inl f_tap))] H := by rw [evq4]; exact hP
      replace hD : va_D A [(h_mm, .inr (8, (mo88 vq4 (.ref h_tap) (.int x_mm_taped)))), (h_tap, .inl (cy_tap, 600, .inl f_tap))] := by rw [evq4]; exact hD
      have hPc := hP.sub (ws' := [(h_mm, .inr (8, (mo88 vq4 (.ref h_tap) (.int x_mm_taped)))), (h_tap, .inl (cy_tap, 600, .inl f_tap))]) [0, 1] rfl
      have hDc := hD.sub (ws' := [(h_mm, .inr (8, (mo88 vq4 (.ref h_tap) (.int x_mm_taped)))), (h_tap, .inl (cy_tap, 600, .inl f_tap))]) [0, 1] (by decide) rfl
      have hKc := hK.sub (tys' := [(cy_tap, .byte)]) [0] rfl
      have hFc := va_free (wc := [(h_mm, .inr (8, (mo88 vq4 (.ref h_tap) (.int x_mm_taped)))), (h_tap, .inl (cy_tap, 600, .inl f_tap))]) hD hS hA [0, 1] rfl
      refine va_calli (va_runV (As := [.int x1]) (rest := []) ⟨hx, hb, hml, hown, hts⟩ (c_X11_see l dC dI H.size h_mm h_tap vq4 x_mm_taped cy_tap f_tap x1 G (by first | exact hx_mm_taped | omega) (by first | exact klp2_0 | omega) hn_tapq) (cwV 1 hts (gv hT w_m_X11_77 w_instanceMethod_X11_see ws_sel_X11_see w_ini_X11 w_code_X11_see) rfl rfl rfl (by decide +kernel) ⟨(Nat.le_of_ble_eq_true rfl), (Nat.le_of_ble_eq_true rfl)⟩) ⟨pre_blind, va_recv hK hP (ci := 8) (q0 := 0) rfl rfl, pre_of hPc hKc hDc hN⟩ rfl rfl hl.1 rfl (lv_room (Nat.le_of_ble_eq_true rfl)) dX11_step_5 ⟨(Nat.le_of_ble_eq_true rfl), (Nat.le_of_ble_eq_true rfl)⟩) hS (fun q _ h => hFc q h) hFc (fun r5 u t H locs ht hvm hq hB hz1 hk1 hS9 => ?_)
      obtain ⟨hP1, hD1⟩ := hB
      rw [ht] at hP1
      obtain ⟨hP9, hD9⟩ := va_join (wr := []) (w1 := [(h_mm, .inr (8, (mo88 vq4 (.ref h_tap) (.int x_mm_taped)))), (h_tap, .inl (cy_tap, 600, .inl f_tap))]) hP hD [0, 1] [] rfl rfl (by decide) (by decide) hk1 hFc hP1 hD1
      clear hP hD hS hPc hDc hKc hFc hP1 hD1 hk1 hz1 ht hvm
      have hP : va_P (dC, dI) cls [(h_mm, .inr (8, (mo88 vq4 (.ref h_tap) (.int x_mm_taped)))), (h_tap, .inl (cy_tap, 600, .inl f_tap))] H := hP9
      have hD : va_D A [(h_mm, .inr (8, (mo88 vq4 (.ref h_tap) (.int x_mm_taped)))), (h_tap, .inl (cy_tap, 600, .inl f_tap))] := hD9
      have hS := hS9
      clear hP9 hD9 hS9
      rw [evq4] at hP hD
      replace hP : va_P (dC, dI) cls [(h_mm, .inr (8, (mo89 v_mm (.ref h_tap) (.int x_mm_taped) (.int x1) (.int x_mm_place) (.int x_mm_kind) (.int x_mm_sign) (.long x_mm_name)))), (h_tap, .inl (cy_tap, 600, .inl f_tap))] H := hP
      replace hD : va_D A [(h_mm, .inr (8, (mo89 v_mm (.ref h_tap) (.int x_mm_taped) (.int x1) (.int x_mm_place) (.int x_mm_kind) (.int x_mm_sign) (.long x_mm_name)))), (h_tap, .inl (cy_tap, 600, .inl f_tap))] := hD
      clear evq4 
      obtain ⟨k6, k7, k8⟩ := hq
      replace k6 : -1 ≤ (r5).toInt ∧ (r5).toInt ≤ 255 := k6
      replace k7 : ((r5)).toInt = sG (G) ((x_mm_taped)).toInt ((x1)).toInt := k7
      replace k8 : ((r5)).toInt = -1 ∨ ((x1)).toInt < ((x_mm_taped)).toInt := k8
      have so6 := sG_or G (x_mm_taped).toInt (x1).toInt
      refine lv_bipush (v := 32) hx hb dX11_step_8 (by decide) ?_
      refine lv_icmp_eq (tgt := 26) hx hb dX11_step_10 (by decide) (fun c9 => ?_) (fun c9 => ?_)
      · have kc9 := (cv_eq (rfl : (r5).toInt = (r5).toInt) (by decide : (32 : Int32).toInt = 32)).mp c9
        refine lv_aload_n hx hb dX11_step_26 rfl (lv_at hl 0 rfl) ?_
        refine lv_aload_n hx hb dX11_step_27 rfl (lv_at hl 0 rfl) ?_
        refine va_get (D := (dC, dI)) (ci := 8) (v := .int x1) (C := RX11) (T := TX11) (N := 71) hx hb hw iwX11 hown hK hP 0 rfl rfl 15 (by decide) (hw _ w_f_X11_74) (fun _ h9 => h9) rfl dX11_step_28 ?_
        refine lv_iconst (v := 1) hx hb dX11_step_31 (by decide) ?_
        refine lv_iadd hx hb dX11_step_32 ?_
        refine lv_topi (fun z10 ez10 => ?_)
        have tz10 : (z10).toInt = (x1).toInt + 1 := by rw [ez10]; exact i_add rfl (by decide) (by omega)
        refine va_put (D := (dC, dI)) (ci := 8) (v := .int z10) (ty := tyX11 15) (C := RX11) (T := TX11) (N := 71) hx hb hw iwX11 tyX11 tyX11_ok nmX11 hown hK hP hD hS 0 rfl rfl 15 (by decide) (hw _ w_f_X11_74) (fun _ h9 => h9) rfl (tyX11_ok 15 (by decide)) rfl rfl (Nat.le_of_ble_eq_true rfl) dX11_step_33 (fun H locs hP9 hD9 hS9 => ?_)
        clear hP hD hS
        have hP : va_P (dC, dI) cls [(h_mm, .inr (8, (mo89 v_mm (.ref h_tap) (.int x_mm_taped) (.int z10) (.int x_mm_place) (.int x_mm_kind) (.int x_mm_sign) (.long x_mm_name)))), (h_tap, .inl (cy_tap, 600, .inl f_tap))] H := hP9
        have hD : va_D A [(h_mm, .inr (8, (mo89 v_mm (.ref h_tap) (.int x_mm_taped) (.int z10) (.int x_mm_place) (.int x_mm_kind) (.int x_mm_sign) (.long x_mm_name)))), (h_tap, .inl (cy_tap, 600, .inl f_tap))] := hD9
        have hS := hS9
        clear hP9 hD9 hS9
        have sk11 : tkS G (x_mm_taped).toInt (z10).toInt = tkS G (x_mm_taped).toInt (x_mm_at).toInt := by rw [tz10]; exact (tkS_on (a := (x1).toInt) (by omega) (by omega) (by omega) (by omega)).trans klp2_3
        refine lv_goto (tgt := 0) hx hb dX11_step_36 (by decide) ?_
        exact ih3 (z10) _ _ _ (by omega) (by omega) (by omega) sk11 (by omega) hP hD hS (lv_sub hl [0] rfl)
      · have kc9 := (not_congr (cv_eq (rfl : (r5).toInt = (r5).toInt) (by decide : (32 : Int32).toInt = 32))).mp c9
        refine lv_aload_n hx hb dX11_step_13 rfl (lv_at hl 0 rfl) ?_
        refine lv_aload_n hx hb dX11_step_14 rfl (lv_at hl 0 rfl) ?_
        refine va_get (D := (dC, dI)) (ci := 8) (v := .int x1) (C := RX11) (T := TX11) (N := 71) hx hb hw iwX11 hown hK hP 0 rfl rfl 15 (by decide) (hw _ w_f_X11_74) (fun _ h9 => h9) rfl dX11_step_15 ?_
        obtain ⟨vq12, evq12⟩ := mq89_88 v_mm (.int x1) (.int x_mm_place) (.int x_mm_kind) (.int x_mm_sign) (.long x_mm_name)
        replace hP : va_P (dC, dI) cls [(h_mm, .inr (8, (mo88 vq12 (.ref h_tap) (.int x_mm_taped)))), (h_tap, .inl (cy_tap, 600, .inl f_tap))] H := by rw [evq12]; exact hP
        replace hD : va_D A [(h_mm, .inr (8, (mo88 vq12 (.ref h_tap) (.int x_mm_taped)))), (h_tap, .inl (cy_tap, 600, .inl f_tap))] := by rw [evq12]; exact hD
        have hPc := hP.sub (ws' := [(h_mm, .inr (8, (mo88 vq12 (.ref h_tap) (.int x_mm_taped)))), (h_tap, .inl (cy_tap, 600, .inl f_tap))]) [0, 1] rfl
        have hDc := hD.sub (ws' := [(h_mm, .inr (8, (mo88 vq12 (.ref h_tap) (.int x_mm_taped)))), (h_tap, .inl (cy_tap, 600, .inl f_tap))]) [0, 1] (by decide) rfl
        have hKc := hK.sub (tys' := [(cy_tap, .byte)]) [0] rfl
        have hFc := va_free (wc := [(h_mm, .inr (8, (mo88 vq12 (.ref h_tap) (.int x_mm_taped)))), (h_tap, .inl (cy_tap, 600, .inl f_tap))]) hD hS hA [0, 1] rfl
        refine va_calli (va_runV (As := [.int x1]) (rest := []) ⟨hx, hb, hml, hown, hts⟩ (c_X11_see l dC dI H.size h_mm h_tap vq12 x_mm_taped cy_tap f_tap x1 G (by first | exact hx_mm_taped | omega) (by first | exact klp2_0 | omega) hn_tapq) (cwV 1 hts (gv hT w_m_X11_77 w_instanceMethod_X11_see ws_sel_X11_see w_ini_X11 w_code_X11_see) rfl rfl rfl (by decide +kernel) ⟨(Nat.le_of_ble_eq_true rfl), (Nat.le_of_ble_eq_true rfl)⟩) ⟨pre_blind, va_recv hK hP (ci := 8) (q0 := 0) rfl rfl, pre_of hPc hKc hDc hN⟩ rfl rfl hl.1 rfl (lv_room (Nat.le_of_ble_eq_true rfl)) dX11_step_18 ⟨(Nat.le_of_ble_eq_true rfl), (Nat.le_of_ble_eq_true rfl)⟩) hS (fun q _ h => hFc q h) hFc (fun r13 u t H locs ht hvm hq hB hz1 hk1 hS9 => ?_)
        obtain ⟨hP1, hD1⟩ := hB
        rw [ht] at hP1
        obtain ⟨hP9, hD9⟩ := va_join (wr := []) (w1 := [(h_mm, .inr (8, (mo88 vq12 (.ref h_tap) (.int x_mm_taped)))), (h_tap, .inl (cy_tap, 600, .inl f_tap))]) hP hD [0, 1] [] rfl rfl (by decide) (by decide) hk1 hFc hP1 hD1
        clear hP hD hS hPc hDc hKc hFc hP1 hD1 hk1 hz1 ht hvm
        have hP : va_P (dC, dI) cls [(h_mm, .inr (8, (mo88 vq12 (.ref h_tap) (.int x_mm_taped)))), (h_tap, .inl (cy_tap, 600, .inl f_tap))] H := hP9
        have hD : va_D A [(h_mm, .inr (8, (mo88 vq12 (.ref h_tap) (.int x_mm_taped)))), (h_tap, .inl (cy_tap, 600, .inl f_tap))] := hD9
        have hS := hS9
        clear hP9 hD9 hS9
        rw [evq12] at hP hD
        replace hP : va_P (dC, dI) cls [(h_mm, .inr (8, (mo89 v_mm (.ref h_tap) (.int x_mm_taped) (.int x1) (.int x_mm_place) (.int x_mm_kind) (.int x_mm_sign) (.long x_mm_name)))), (h_tap, .inl (cy_tap, 600, .inl f_tap))] H := hP
        replace hD : va_D A [(h_mm, .inr (8, (mo89 v_mm (.ref h_tap) (.int x_mm_taped) (.int x1) (.int x_mm_place) (.int x_mm_kind) (.int x_mm_sign) (.long x_mm_name)))), (h_tap, .inl (cy_tap, 600, .inl f_tap))] := hD
        clear evq12 
        obtain ⟨k14, k15, k16⟩ := hq
        replace k14 : -1 ≤ (r13).toInt ∧ (r13).toInt ≤ 255 := k14
        replace k15 : ((r13)).toInt = sG (G) ((x_mm_taped)).toInt ((x1)).toInt := k15
        replace k16 : ((r13)).toInt = -1 ∨ ((x1)).toInt < ((x_mm_taped)).toInt := k16
        have so20 := sG_or G (x_mm_taped).toInt (x1).toInt
        refine lv_bipush (v := 10) hx hb dX11_step_21 (by decide) ?_
        refine lv_icmp_ne (tgt := 39) hx hb dX11_step_23 (by decide) (fun c17 => ?_) (fun c17 => ?_)
        · have kc17 := (not_congr (cv_eq (rfl : (r13).toInt = (r13).toInt) (by decide : (10 : Int32).toInt = 10))).mp c17
          have ex9 : (x1).toInt = tkS G (x_mm_taped).toInt (x_mm_at).toInt := (tkS_off (a := (x1).toInt) (fun q9 => by omega)).symm.trans klp2_3
          refine lv_aload_n hx hb dX11_step_39 rfl (lv_at hl 0 rfl) ?_
          refine lv_aload_n hx hb dX11_step_40 rfl (lv_at hl 0 rfl) ?_
          refine va_get (D := (dC, dI)) (ci := 8) (v := .int x1) (C := RX11) (T := TX11) (N := 71) hx hb hw iwX11 hown hK hP 0 rfl rfl 15 (by decide) (hw _ w_f_X11_74) (fun _ h9 => h9) rfl dX11_step_41 ?_
          refine va_put (D := (dC, dI)) (ci := 8) (v := .int x1) (ty := tyX11 16) (C := RX11) (T := TX11) (N := 71) hx hb hw iwX11 tyX11 tyX11_ok nmX11 hown hK hP hD hS 0 rfl rfl 16 (by decide) (hw _ w_f_X11_68) (fun _ h9 => h9) rfl (tyX11_ok 16 (by decide)) rfl rfl (Nat.le_of_ble_eq_true rfl) dX11_step_44 (fun H locs hP9 hD9 hS9 => ?_)
          clear hP hD hS
          have hP : va_P (dC, dI) cls [(h_mm, .inr (8, (mo89 v_mm (.ref h_tap) (.int x_mm_taped) (.int x1) (.int x1) (.int x_mm_kind) (.int x_mm_sign) (.long x_mm_name)))), (h_tap, .inl (cy_tap, 600, .inl f_tap))] H := hP9
          have hD : va_D A [(h_mm, .inr (8, (mo89 v_mm (.ref h_tap) (.int x_mm_taped) (.int x1) (.int x1) (.int x_mm_kind) (.int x_mm_sign) (.long x_mm_name)))), (h_tap, .inl (cy_tap, 600, .inl f_tap))] := hD9
          have hS := hS9
          clear hP9 hD9 hS9
          refine lv_aload_n hx hb dX11_step_47 rfl (lv_at hl 0 rfl) ?_
          refine lv_aload_n hx hb dX11_step_48 rfl (lv_at hl 0 rfl) ?_
          refine va_get (D := (dC, dI)) (ci := 8) (v := .int x1) (C := RX11) (T := TX11) (N := 71) hx hb hw iwX11 hown hK hP 0 rfl rfl 15 (by decide) (hw _ w_f_X11_74) (fun _ h9 => h9) rfl dX11_step_49 ?_
          obtain ⟨vq18, evq18⟩ := mq89_88 v_mm (.int x1) (.int x1) (.int x_mm_kind) (.int x_mm_sign) (.long x_mm_name)
          replace hP : va_P (dC, dI) cls [(h_mm, .inr (8, (mo88 vq18 (.ref h_tap) (.int x_mm_taped)))), (h_tap, .inl (cy_tap, 600, .inl f_tap))] H := by rw [evq18]; exact hP
          replace hD : va_D A [(h_mm, .inr (8, (mo88 vq18 (.ref h_tap) (.int x_mm_taped)))), (h_tap, .inl (cy_tap, 600, .inl f_tap))] := by rw [evq18]; exact hD
          have hPc := hP.sub (ws' := [(h_mm, .inr (8, (mo88 vq18 (.ref h_tap) (.int x_mm_taped)))), (h_tap, .inl (cy_tap, 600, .inl f_tap))]) [0, 1] rfl
          have hDc := hD.sub (ws' := [(h_mm, .inr (8, (mo88 vq18 (.ref h_tap) (.int x_mm_taped)))), (h_tap, .inl (cy_tap, 600, .inl f_tap))]) [0, 1] (by decide) rfl
          have hKc := hK.sub (tys' := [(cy_tap, .byte)]) [0] rfl
          have hFc := va_free (wc := [(h_mm, .inr (8, (mo88 vq18 (.ref h_tap) (.int x_mm_taped)))), (h_tap, .inl (cy_tap, 600, .inl f_tap))]) hD hS hA [0, 1] rfl
          refine va_calli (va_runV (As := [.int x1]) (rest := []) ⟨hx, hb, hml, hown, hts⟩ (c_X11_see l dC dI H.size h_mm h_tap vq18 x_mm_taped cy_tap f_tap x1 G (by first | exact hx_mm_taped | omega) (by first | exact klp2_0 | omega) hn_tapq) (cwV 1 hts (gv hT w_m_X11_77 w_instanceMethod_X11_see ws_sel_X11_see w_ini_X11 w_code_X11_see) rfl rfl rfl (by decide +kernel) ⟨(Nat.le_of_ble_eq_true rfl), (Nat.le_of_ble_eq_true rfl)⟩) ⟨pre_blind, va_recv hK hP (ci := 8) (q0 := 0) rfl rfl, pre_of hPc hKc hDc hN⟩ rfl rfl hl.1 rfl (lv_room (Nat.le_of_ble_eq_true rfl)) dX11_step_52 ⟨(Nat.le_of_ble_eq_true rfl), (Nat.le_of_ble_eq_true rfl)⟩) hS (fun q _ h => hFc q h) hFc (fun r19 u t H locs ht hvm hq hB hz1 hk1 hS9 => ?_)
          obtain ⟨hP1, hD1⟩ := hB
          rw [ht] at hP1
          obtain ⟨hP9, hD9⟩ := va_join (wr := []) (w1 := [(h_mm, .inr (8, (mo88 vq18 (.ref h_tap) (.int x_mm_taped)))), (h_tap, .inl (cy_tap, 600, .inl f_tap))]) hP hD [0, 1] [] rfl rfl (by decide) (by decide) hk1 hFc hP1 hD1
          clear hP hD hS hPc hDc hKc hFc hP1 hD1 hk1 hz1 ht hvm
          have hP : va_P (dC, dI) cls [(h_mm, .inr (8, (mo88 vq18 (.ref h_tap) (.int x_mm_taped)))), (h_tap, .inl (cy_tap, 600, .inl f_tap))] H := hP9
          have hD : va_D A [(h_mm, .inr (8, (mo88 vq18 (.ref h_tap) (.int x_mm_taped)))), (h_tap, .inl (cy_tap, 600, .inl f_tap))] := hD9
          have hS := hS9
          clear hP9 hD9 hS9
          rw [evq18] at hP hD
          replace hP : va_P (dC, dI) cls [(h_mm, .inr (8, (mo89 v_mm (.ref h_tap) (.int x_mm_taped) (.int x1) (.int x1) (.int x_mm_kind) (.int x_mm_sign) (.long x_mm_name)))), (h_tap, .inl (cy_tap, 600, .inl f_tap))] H := hP
          replace hD : va_D A [(h_mm, .inr (8, (mo89 v_mm (.ref h_tap) (.int x_mm_taped) (.int x1) (.int x1) (.int x_mm_kind) (.int x_mm_sign) (.long x_mm_name)))), (h_tap, .inl (cy_tap, 600, .inl f_tap))] := hD
          clear evq18 
          obtain ⟨k20, k21, k22⟩ := hq
          replace k20 : -1 ≤ (r19).toInt ∧ (r19).toInt ≤ 255 := k20
          replace k21 : ((r19)).toInt = sG (G) ((x_mm_taped)).toInt ((x1)).toInt := k21
          replace k22 : ((r19)).toInt = -1 ∨ ((x1)).toInt < ((x_mm_taped)).toInt := k22
          have so30 := sG_or G (x_mm_taped).toInt (x1).toInt
          refine lv_istore_n (lv' := [(1, .int r19), (0, .ref h_mm)]) hx hb dX11_step_55 rfl hl (by decide) rfl (fun ls hl => ?_)
          refine lv_aload_n hx hb dX11_step_56 rfl (lv_at hl 1 rfl) ?_
          refine lv_iload_n hx hb dX11_step_57 rfl (lv_at hl 0 rfl) ?_
          refine va_put (D := (dC, dI)) (ci := 8) (v := .int r19) (ty := tyX11 18) (C := RX11) (T := TX11) (N := 71) hx hb hw iwX11 tyX11 tyX11_ok nmX11 hown hK hP hD hS 0 rfl rfl 18 (by decide) (hw _ w_f_X11_80) (fun _ h9 => h9) rfl (tyX11_ok 18 (by decide)) rfl rfl (Nat.le_of_ble_eq_true rfl) dX11_step_58 (fun H locs hP9 hD9 hS9 => ?_)
          clear hP hD hS
          have hP : va_P (dC, dI) cls [(h_mm, .inr (8, (mo89 v_mm (.ref h_tap) (.int x_mm_taped) (.int x1) (.int x1) (.int x_mm_kind) (.int r19) (.long x_mm_name)))), (h_tap, .inl (cy_tap, 600, .inl f_tap))] H := hP9
          have hD : va_D A [(h_mm, .inr (8, (mo89 v_mm (.ref h_tap) (.int x_mm_taped) (.int x1) (.int x1) (.int x_mm_kind) (.int r19) (.long x_mm_name)))), (h_tap, .inl (cy_tap, 600, .inl f_tap))] := hD9
          have hS := hS9
          clear hP9 hD9 hS9
          refine lv_aload_n hx hb dX11_step_61 rfl (lv_at hl 1 rfl) ?_
          refine lv_lconst (v := 0) hx hb dX11_step_62 (by decide) ?_
          refine va_put (D := (dC, dI)) (ci := 8) (v := .long 0) (ty := tyX11 19) (C := RX11) (T := TX11) (N := 71) hx hb hw iwX11 tyX11 tyX11_ok nmX11 hown hK hP hD hS 0 rfl rfl 19 (by decide) (hw _ w_f_X11_83) (fun _ h9 => h9) rfl (tyX11_ok 19 (by decide)) rfl rfl (Nat.le_of_ble_eq_true rfl) dX11_step_63 (fun H locs hP9 hD9 hS9 => ?_)
          clear hP hD hS
          have hP : va_P (dC, dI) cls [(h_mm, .inr (8, (mo89 v_mm (.ref h_tap) (.int x_mm_taped) (.int x1) (.int x1) (.int x_mm_kind) (.int r19) (.long 0)))), (h_tap, .inl (cy_tap, 600, .inl f_tap))] H := hP9
          have hD : va_D A [(h_mm, .inr (8, (mo89 v_mm (.ref h_tap) (.int x_mm_taped) (.int x1) (.int x1) (.int x_mm_kind) (.int r19) (.long 0)))), (h_tap, .inl (cy_tap, 600, .inl f_tap))] := hD9
          have hS := hS9
          clear hP9 hD9 hS9
          refine lv_iload_n hx hb dX11_step_66 rfl (lv_at hl 0 rfl) ?_
          refine lv_iconst (v := (-1)) hx hb dX11_step_67 (by decide) ?_
          refine lv_icmp_ne (tgt := 77) hx hb dX11_step_68 (by decide) (fun c23 => ?_) (fun c23 => ?_)
          · have kc23 := (not_congr (cv_eq (rfl : (r19).toInt = (r19).toInt) (by decide : ((-1) : Int32).toInt = -1))).mp c23
            refine lv_aload_n hx hb dX11_step_77 rfl (lv_at hl 1 rfl) ?_
            refine lv_iload_n hx hb dX11_step_78 rfl (lv_at hl 0 rfl) ?_
            obtain ⟨vq24, evq24⟩ := mq89_87 v_mm (.ref h_tap) (.int x_mm_taped) (.int x1) (.int x1) (.int x_mm_kind) (.int r19) (.long 0)
            replace hP : va_P (dC, dI) cls [(h_mm, .inr (8, (mo87 vq24))), (h_tap, .inl (cy_tap, 600, .inl f_tap))] H := by rw [evq24]; exact hP
            replace hD : va_D A [(h_mm, .inr (8, (mo87 vq24))), (h_tap, .inl (cy_tap, 600, .inl f_tap))] := by rw [evq24]; exact hD
            have hPc := hP.sub (ws' := [(h_mm, .inr (8, (mo87 vq24)))]) [0] rfl
            have hDc := hD.sub (ws' := [(h_mm, .inr (8, (mo87 vq24)))]) [0] (by decide) rfl
            have hKc := hK.sub (tys' := []) [] rfl
            have hFc := va_free (wc := [(h_mm, .inr (8, (mo87 vq24)))]) hD hS hA [0] rfl
            refine va_calli (va_runV (As := [.int r19]) (rest := []) ⟨hx, hb, hml, hown, hts⟩ (c_X11_isLetter l dC dI H.size h_mm vq24 r19) (cwV 1 hts (gv hT w_m_X11_90 w_instanceMethod_X11_isLetter ws_sel_X11_isLetter w_ini_X11 w_code_X11_isLetter) rfl rfl rfl (by decide +kernel) ⟨(Nat.le_of_ble_eq_true rfl), (Nat.le_of_ble_eq_true rfl)⟩) ⟨pre_blind, va_recv hK hP (ci := 8) (q0 := 0) rfl rfl, pre_of hPc hKc hDc hN⟩ rfl rfl hl.1 rfl (lv_room (Nat.le_of_ble_eq_true rfl)) dX11_step_79 ⟨(Nat.le_of_ble_eq_true rfl), (Nat.le_of_ble_eq_true rfl)⟩) hS (fun q _ h => hFc q h) hFc (fun r25 u t H locs ht hvm hq hB hz1 hk1 hS9 => ?_)
            obtain ⟨hP1, hD1⟩ := hB
            rw [ht] at hP1
            obtain ⟨hP9, hD9⟩ := va_join (wr := [(h_tap, .inl (cy_tap, 600, .inl f_tap))]) (w1 := [(h_mm, .inr (8, (mo87 vq24)))]) hP hD [0] [1] rfl rfl (by decide) (by decide) hk1 hFc hP1 hD1
            clear hP hD hS hPc hDc hKc hFc hP1 hD1 hk1 hz1 ht hvm
            have hP : va_P (dC, dI) cls [(h_tap, .inl (cy_tap, 600, .inl f_tap)), (h_mm, .inr (8, (mo87 vq24)))] H := hP9
            have hD : va_D A [(h_tap, .inl (cy_tap, 600, .inl f_tap)), (h_mm, .inr (8, (mo87 vq24)))] := hD9
            have hS := hS9
            clear hP9 hD9 hS9
            rw [evq24] at hP hD
            replace hP : va_P (dC, dI) cls [(h_tap, .inl (cy_tap, 600, .inl f_tap)), (h_mm, .inr (8, (mo89 v_mm (.ref h_tap) (.int x_mm_taped) (.int x1) (.int x1) (.int x_mm_kind) (.int r19) (.long 0))))] H := hP
            replace hD : va_D A [(h_tap, .inl (cy_tap, 600, .inl f_tap)), (h_mm, .inr (8, (mo89 v_mm (.ref h_tap) (.int x_mm_taped) (.int x1) (.int x1) (.int x_mm_kind) (.int r19) (.long 0))))] := hD
            clear evq24 
            rcases hq with ⟨rfl, hq⟩ | ⟨rfl, hq⟩
            · replace hq : ((97 ≤ ((r19)).toInt ∧ ((r19)).toInt ≤ 122) ∨ (65 ≤ ((r19)).toInt ∧ ((r19)).toInt ≤ 90)) := hq
              refine lv_if_ne (tgt := 101) hx hb dX11_step_82 (by decide) (fun _ => ?_) (fun c9 => absurd c9 (by decide))
              refine lv_iconst (v := 1) hx hb dX11_step_101 (by decide) ?_
              refine lv_istore_n (lv' := [(2, .int 1), (1, .int r19), (0, .ref h_mm)]) hx hb dX11_step_102 rfl hl (by decide) rfl (fun ls hl => ?_)
              have lp29 : ∀ (n : Nat) (x26 : Int32) (x27 : Int32) (x28 : Int64) (H : Heap) (locs : List Loc) (ls : Array Slot), (0 ≤ (x26).toInt ∧ (x26).toInt ≤ 1) → (0 ≤ (x27).toInt ∧ (x27).toInt ≤ 600) → ((x1).toInt ≤ (x27).toInt) → ((x27).toInt ≤ (x_mm_taped).toInt) → ((x1).toInt < (x_mm_taped).toInt) → (tkE G (x_mm_taped).toInt (x27).toInt = tkE G (x_mm_taped).toInt (x1).toInt) → (((x26).toInt = 1 ∧ tkG G (x_mm_taped).toInt (x1).toInt = tkG G (x_mm_taped).toInt (x27).toInt) ∨ ((x26).toInt = 0 ∧ tkG G (x_mm_taped).toInt (x27).toInt + 1 ≤ tkG G (x_mm_taped).toInt (x1).toInt)) → (tkG G (x_mm_taped).toInt (x1).toInt ≤ (x27).toInt - (x1).toInt + tkG G (x_mm_taped).toInt (x27).toInt) → (((97 ≤ G (x1).toInt ∧ G (x1).toInt ≤ 122) ∨ (65 ≤ G (x1).toInt ∧ G (x1).toInt ≤ 90))) → (NMW G (x1).toInt (x27).toInt (x26).toInt (x28).toInt) → (600 - (x27).toInt).toNat + 1 ≤ n → va_P (dC, dI) cls [(h_tap, .inl (cy_tap, 600, .inl f_tap)), (h_mm, .inr (8, (mo89 v_mm (.ref h_tap) (.int x_mm_taped) (.int x27) (.int x1) (.int x_mm_kind) (.int r19) (.long x28))))] H → va_D A [(h_tap, .inl (cy_tap, 600, .inl f_tap)), (h_mm, .inr (8, (mo89 v_mm (.ref h_tap) (.int x_mm_taped) (.int x27) (.int x1) (.int x_mm_kind) (.int r19) (.long x28))))] → va_S A s.heap H locs → lv_has ls 3 [(0, .ref h_mm), (1, .int r19), (2, .int x26)] → W p l e ({ frames := 3, cells := 0, slots := 0, locals := 68 } : Room) s m ([.ref h_mm] : List Value).toArray below meth c H locs 0 0 (MQ below (va_Qv (fun (u : (Int32) × (Int32) × (Int32) × (Int32) × (Int64)) => (0 ≤ (u.1).toInt ∧ (u.1).toInt ≤ 600) ∧ (0 ≤ (u.2.1).toInt ∧ (u.2.1).toInt ≤ 600) ∧ (0 ≤ (u.2.2.1).toInt ∧ (u.2.2.1).toInt ≤ 4) ∧ ((x_mm_at).toInt ≤ (u.2.1).toInt) ∧ ((u.2.1).toInt ≤ (u.1).toInt) ∧ ((u.2.1).toInt = tkS G (x_mm_taped).toInt (x_mm_at).toInt) ∧ ((u.2.2.1).toInt = kd (tkT G (x_mm_taped).toInt (u.2.1).toInt)) ∧ ((u.2.2.1).toInt = 0 ∨ ((u.1).toInt = tkX G (x_mm_taped).toInt (u.2.1).toInt ∧ (u.2.2.2.1).toInt = G (u.2.1).toInt ∧ (u.2.1).toInt < (x_mm_taped).toInt ∧ (u.2.1).toInt + 1 ≤ (u.1).toInt)) ∧ ((u.1).toInt ≤ (x_mm_taped).toInt) ∧ ((u.2.1).toInt ≤ (x_mm_taped).toInt) ∧ (NMK (u.2.2.1).toInt (u.2.2.2.2).toInt (NMI 27 G (x_mm_taped).toInt (u.2.1).toInt))) (fun (u : (Int32) × (Int32) × (Int32) × (Int32) × (Int64)) (t : State) => va_P (dC, dI) cls [(h_mm, .inr (8, (mo89 v_mm (.ref h_tap) (.int x_mm_taped) (.int u.1) (.int u.2.1) (.int u.2.2.1) (.int u.2.2.2.1) (.long u.2.2.2.2)))), (h_tap, .inl (cy_tap, 600, .inl f_tap))] t.heap ∧ va_D A [(h_mm, .inr (8, (mo89 v_mm (.ref h_tap) (.int x_mm_taped) (.int u.1) (.int u.2.1) (.int u.2.2.1) (.int u.2.2.2.1) (.long u.2.2.2.2)))), (h_tap, .inl (cy_tap, 600, .inl f_tap))]) A) ([.ref h_mm] : List Value).toArray s 0 0 A) (F0 m 103 ls []) := by
                clear hP hD hS hl
                intro n
                induction n with
                | zero => intro x26 x27 x28 H locs ls klp29_0 klp29_1 klp29_2 klp29_3 klp29_4 klp29_5 klp29_6 klp29_7 klp29_8 klp29_9 hm hP hD hS hl; exact False.elim (by omega)
                | succ n ih => 
                  intro x26 x27 x28 H locs ls klp29_0 klp29_1 klp29_2 klp29_3 klp29_4 klp29_5 klp29_6 klp29_7 klp29_8 klp29_9 hm hP hD hS hl
                  have ih30 := ih
                  clear ih
                  refine lv_aload_n hx hb dX11_step_103 rfl (lv_at hl 0 rfl) ?_
                  refine lv_aload_n hx hb dX11_step_104 rfl (lv_at hl 0 rfl) ?_
                  refine lv_aload_n hx hb dX11_step_105 rfl (lv_at hl 0 rfl) ?_
                  refine va_get (D := (dC, dI)) (ci := 8) (v := .int x27) (C := RX11) (T := TX11) (N := 71) hx hb hw iwX11 hown hK hP 1 rfl rfl 15 (by decide) (hw _ w_f_X11_74) (fun _ h9 => h9) rfl dX11_step_106 ?_
                  obtain ⟨vq31, evq31⟩ := mq89_88 v_mm (.int x27) (.int x1) (.int x_mm_kind) (.int r19) (.long x28)
                  replace hP : va_P (dC, dI) cls [(h_tap, .inl (cy_tap, 600, .inl f_tap)), (h_mm, .inr (8, (mo88 vq31 (.ref h_tap) (.int x_mm_taped))))] H := by rw [evq31]; exact hP
                  replace hD : va_D A [(h_tap, .inl (cy_tap, 600, .inl f_tap)), (h_mm, .inr (8, (mo88 vq31 (.ref h_tap) (.int x_mm_taped))))] := by rw [evq31]; exact hD
                  have hPc := hP.sub (ws' := [(h_mm, .inr (8, (mo88 vq31 (.ref h_tap) (.int x_mm_taped)))), (h_tap, .inl (cy_tap, 600, .inl f_tap))]) [1, 0] rfl
                  have hDc := hD.sub (ws' := [(h_mm, .inr (8, (mo88 vq31 (.ref h_tap) (.int x_mm_taped)))), (h_tap, .inl (cy_tap, 600, .inl f_tap))]) [1, 0] (by decide) rfl
                  have hKc := hK.sub (tys' := [(cy_tap, .byte)]) [0] rfl
                  have hFc := va_free (wc := [(h_mm, .inr (8, (mo88 vq31 (.ref h_tap) (.int x_mm_taped)))), (h_tap, .inl (cy_tap, 600, .inl f_tap))]) hD hS hA [1, 0] rfl
                  refine va_calli (va_runV (As := [.int x27]) (rest := [.ref h_mm]) ⟨hx, hb, hml, hown, hts⟩ (c_X11_see l dC dI H.size h_mm h_tap vq31 x_mm_taped cy_tap f_tap x27 G (by first | exact hx_mm_taped | omega) (by first | exact klp29_1 | omega) hn_tapq) (cwV 1 hts (gv hT w_m_X11_77 w_instanceMethod_X11_see ws_sel_X11_see w_ini_X11 w_code_X11_see) rfl rfl rfl (by decide +kernel) ⟨(Nat.le_of_ble_eq_true rfl), (Nat.le_of_ble_eq_true rfl)⟩) ⟨pre_blind, va_recv hK hP (ci := 8) (q0 := 1) rfl rfl, pre_of hPc hKc hDc hN⟩ rfl rfl hl.1 rfl (lv_room (Nat.le_of_ble_eq_true rfl)) dX11_step_109 ⟨(Nat.le_of_ble_eq_true rfl), (Nat.le_of_ble_eq_true rfl)⟩) hS (fun q _ h => hFc q h) hFc (fun r32 u t H locs ht hvm hq hB hz1 hk1 hS9 => ?_)
                  obtain ⟨hP1, hD1⟩ := hB
                  rw [ht] at hP1
                  obtain ⟨hP9, hD9⟩ := va_join (wr := []) (w1 := [(h_mm, .inr (8, (mo88 vq31 (.ref h_tap) (.int x_mm_taped)))), (h_tap, .inl (cy_tap, 600, .inl f_tap))]) hP hD [1, 0] [] rfl rfl (by decide) (by decide) hk1 hFc hP1 hD1
                  clear hP hD hS hPc hDc hKc hFc hP1 hD1 hk1 hz1 ht hvm
                  have hP : va_P (dC, dI) cls [(h_mm, .inr (8, (mo88 vq31 (.ref h_tap) (.int x_mm_taped)))), (h_tap, .inl (cy_tap, 600, .inl f_tap))] H := hP9
                  have hD : va_D A [(h_mm, .inr (8, (mo88 vq31 (.ref h_tap) (.int x_mm_taped)))), (h_tap, .inl (cy_tap, 600, .inl f_tap))] := hD9
                  have hS := hS9
                  clear hP9 hD9 hS9
                  rw [evq31] at hP hD
                  replace hP : va_P (dC, dI) cls [(h_mm, .inr (8, (mo89 v_mm (.ref h_tap) (.int x_mm_taped) (.int x27) (.int x1) (.int x_mm_kind) (.int r19) (.long x28)))), (h_tap, .inl (cy_tap, 600, .inl f_tap))] H := hP
                  replace hD : va_D A [(h_mm, .inr (8, (mo89 v_mm (.ref h_tap) (.int x_mm_taped) (.int x27) (.int x1) (.int x_mm_kind) (.int r19) (.long x28)))), (h_tap, .inl (cy_tap, 600, .inl f_tap))] := hD
                  clear evq31 
                  obtain ⟨k33, k34, k35⟩ := hq
                  replace k33 : -1 ≤ (r32).toInt ∧ (r32).toInt ≤ 255 := k33
                  replace k34 : ((r32)).toInt = sG (G) ((x_mm_taped)).toInt ((x27)).toInt := k34
                  replace k35 : ((r32)).toInt = -1 ∨ ((x27)).toInt < ((x_mm_taped)).toInt := k35
                  have so52 := sG_or G (x_mm_taped).toInt (x27).toInt
                  obtain ⟨vq36, evq36⟩ := mq89_87 v_mm (.ref h_tap) (.int x_mm_taped) (.int x27) (.int x1) (.int x_mm_kind) (.int r19) (.long x28)
                  replace hP : va_P (dC, dI) cls [(h_mm, .inr (8, (mo87 vq36))), (h_tap, .inl (cy_tap, 600, .inl f_tap))] H := by rw [evq36]; exact hP
                  replace hD : va_D A [(h_mm, .inr (8, (mo87 vq36))), (h_tap, .inl (cy_tap, 600, .inl f_tap))] := by rw [evq36]; exact hD
                  have hPc := hP.sub (ws' := [(h_mm, .inr (8, (mo87 vq36)))]) [0] rfl
                  have hDc := hD.sub (ws' := [(h_mm, .inr (8, (mo87 vq36)))]) [0] (by decide) rfl
                  have hKc := hK.sub (tys' := []) [] rfl
                  have hFc := va_free (wc := [(h_mm, .inr (8, (mo87 vq36)))]) hD hS hA [0] rfl
                  refine va_calli (va_runV (As := [.int r32]) (rest := []) ⟨hx, hb, hml, hown, hts⟩ (c_X11_isLetter l dC dI H.size h_mm vq36 r32) (cwV 1 hts (gv hT w_m_X11_90 w_instanceMethod_X11_isLetter ws_sel_X11_isLetter w_ini_X11 w_code_X11_isLetter) rfl rfl rfl (by decide +kernel) ⟨(Nat.le_of_ble_eq_true rfl), (Nat.le_of_ble_eq_true rfl)⟩) ⟨pre_blind, va_recv hK hP (ci := 8) (q0 := 0) rfl rfl, pre_of hPc hKc hDc hN⟩ rfl rfl hl.1 rfl (lv_room (Nat.le_of_ble_eq_true rfl)) dX11_step_112 ⟨(Nat.le_of_ble_eq_true rfl), (Nat.le_of_ble_eq_true rfl)⟩) hS (fun q _ h => hFc q h) hFc (fun r37 u t H locs ht hvm hq hB hz1 hk1 hS9 => ?_)
                  obtain ⟨hP1, hD1⟩ := hB
                  rw [ht] at hP1
                  obtain ⟨hP9, hD9⟩ := va_join (wr := [(h_tap, .inl (cy_tap, 600, .inl f_tap))]) (w1 := [(h_mm, .inr (8, (mo87 vq36)))]) hP hD [0] [1] rfl rfl (by decide) (by decide) hk1 hFc hP1 hD1
                  clear hP hD hS hPc hDc hKc hFc hP1 hD1 hk1 hz1 ht hvm
                  have hP : va_P (dC, dI) cls [(h_tap, .inl (cy_tap, 600, .inl f_tap)), (h_mm, .inr (8, (mo87 vq36)))] H := hP9
                  have hD : va_D A [(h_tap, .inl (cy_tap, 600, .inl f_tap)), (h_mm, .inr (8, (mo87 vq36)))] := hD9
                  have hS := hS9
                  clear hP9 hD9 hS9
                  rw [evq36] at hP hD
                  replace hP : va_P (dC, dI) cls [(h_tap, .inl (cy_tap, 600, .inl f_tap)), (h_mm, .inr (8, (mo89 v_mm (.ref h_tap) (.int x_mm_taped) (.int x27) (.int x1) (.int x_mm_kind) (.int r19) (.long x28))))] H := hP
                  replace hD : va_D A [(h_tap, .inl (cy_tap, 600, .inl f_tap)), (h_mm, .inr (8, (mo89 v_mm (.ref h_tap) (.int x_mm_taped) (.int x27) (.int x1) (.int x_mm_kind) (.int r19) (.long x28))))] := hD
                  clear evq36 
                  rcases hq with ⟨rfl, hq⟩ | ⟨rfl, hq⟩
                  · replace hq : ((97 ≤ ((r32)).toInt ∧ ((r32)).toInt ≤ 122) ∨ (65 ≤ ((r32)).toInt ∧ ((r32)).toInt ≤ 90)) := hq
                    refine lv_if_eq (tgt := 198) hx hb dX11_step_115 (by decide) (fun c9 => absurd c9 (by decide)) (fun _ => ?_)
                    refine lv_iload_n hx hb dX11_step_118 rfl (lv_at hl 2 rfl) ?_
                    refine lv_if_eq (tgt := 141) hx hb dX11_step_119 (by decide) (fun c38 => ?_) (fun c38 => ?_)
                    · have kc38 := (cv_eq (rfl : (x26).toInt = (x26).toInt) (by decide : (0 : Int32).toInt = 0)).mp c38
                      refine lv_iconst (v := 0) hx hb dX11_step_141 (by decide) ?_
                      refine lv_istore_n (lv' := [(2, .int 0), (0, .ref h_mm), (1, .int r19)]) hx hb dX11_step_142 rfl hl (by decide) rfl (fun ls hl => ?_)
                      refine lv_aload_n hx hb dX11_step_143 rfl (lv_at hl 1 rfl) ?_
                      refine va_get (D := (dC, dI)) (ci := 8) (v := .int x27) (C := RX11) (T := TX11) (N := 71) hx hb hw iwX11 hown hK hP 1 rfl rfl 15 (by decide) (hw _ w_f_X11_74) (fun _ h9 => h9) rfl dX11_step_144 ?_
                      refine lv_aload_n hx hb dX11_step_147 rfl (lv_at hl 1 rfl) ?_
                      refine va_get (D := (dC, dI)) (ci := 8) (v := .int x1) (C := RX11) (T := TX11) (N := 71) hx hb hw iwX11 hown hK hP 1 rfl rfl 16 (by decide) (hw _ w_f_X11_68) (fun _ h9 => h9) rfl dX11_step_148 ?_
                      refine lv_isub hx hb dX11_step_151 ?_
                      refine lv_topi (fun z39 ez39 => ?_)
                      have tz39 : (z39).toInt = (x27).toInt - (x1).toInt := by rw [ez39]; exact i_sub rfl rfl (by omega)
                      refine lv_bipush (v := 8) hx hb dX11_step_152 (by decide) ?_
                      refine lv_icmp_ge (tgt := 185) hx hb dX11_step_154 (by decide) (fun c40 => ?_) (fun c40 => ?_)
                      · have kc40 := (cv_le (by decide : (8 : Int32).toInt = 8) (rfl : (z39).toInt = (z39).toInt)).mp c40
                        refine lv_aload_n hx hb dX11_step_185 rfl (lv_at hl 1 rfl) ?_
                        refine lv_aload_n hx hb dX11_step_186 rfl (lv_at hl 1 rfl) ?_
                        refine va_get (D := (dC, dI)) (ci := 8) (v := .int x27) (C := RX11) (T := TX11) (N := 71) hx hb hw iwX11 hown hK hP 1 rfl rfl 15 (by decide) (hw _ w_f_X11_74) (fun _ h9 => h9) rfl dX11_step_187 ?_
                        refine lv_iconst (v := 1) hx hb dX11_step_190 (by decide) ?_
                        refine lv_iadd hx hb dX11_step_191 ?_
                        refine lv_topi (fun z41 ez41 => ?_)
                        have tz41 : (z41).toInt = (x27).toInt + 1 := by rw [ez41]; exact i_add rfl (by decide) (by omega)
                        refine va_put (D := (dC, dI)) (ci := 8) (v := .int z41) (ty := tyX11 15) (C := RX11) (T := TX11) (N := 71) hx hb hw iwX11 tyX11 tyX11_ok nmX11 hown hK hP hD hS 1 rfl rfl 15 (by decide) (hw _ w_f_X11_74) (fun _ h9 => h9) rfl (tyX11_ok 15 (by decide)) rfl rfl (Nat.le_of_ble_eq_true rfl) dX11_step_192 (fun H locs hP9 hD9 hS9 => ?_)
                        clear hP hD hS
                        have hP : va_P (dC, dI) cls [(h_tap, .inl (cy_tap, 600, .inl f_tap)), (h_mm, .inr (8, (mo89 v_mm (.ref h_tap) (.int x_mm_taped) (.int z41) (.int x1) (.int x_mm_kind) (.int r19) (.long x28))))] H := hP9
                        have hD : va_D A [(h_tap, .inl (cy_tap, 600, .inl f_tap)), (h_mm, .inr (8, (mo89 v_mm (.ref h_tap) (.int x_mm_taped) (.int z41) (.int x1) (.int x_mm_kind) (.int r19) (.long x28))))] := hD9
                        have hS := hS9
                        clear hP9 hD9 hS9
                        have eoz41 : tkE G (x_mm_taped).toInt (z41).toInt = tkE G (x_mm_taped).toInt (x27).toInt := by rw [tz41]; exact tkE_on (by omega) (by omega) (by omega) (by omega)
                        have goz41 : tkG G (x_mm_taped).toInt (x27).toInt = tkG G (x_mm_taped).toInt (z41).toInt ∨ tkG G (x_mm_taped).toInt (x27).toInt = 1 + tkG G (x_mm_taped).toInt (z41).toInt := by rw [tz41]; exact tkG_step (by omega) (by omega) (by omega) (by omega)
                        have nw42 : NMW G (x1).toInt (z41).toInt 0 (x28).toInt := (nmw_no (by decide))
                        refine lv_goto (tgt := 103) hx hb dX11_step_195 (by decide) ?_
                        have cst0 : (0 : Int32).toInt = 0 := by decide
                        exact ih30 (0) (z41) (x28) _ _ _ (by decide) (by omega) (by omega) (by omega) (by first | exact klp29_4 | omega) (by omega) (by omega) (by omega) (by first | exact klp29_8 | omega) nw42 (by omega) hP hD hS (lv_sub hl [1, 2, 0] rfl)
                      · have kc40 := (not_congr (cv_le (by decide : (8 : Int32).toInt = 8) (rfl : (z39).toInt = (z39).toInt))).mp c40
                        refine lv_aload_n hx hb dX11_step_157 rfl (lv_at hl 1 rfl) ?_
                        refine lv_ldc2 (v := 27) hx hb hown (hw _ w_cl_X11_93) dX11_step_158 ?_
                        refine lv_aload_n hx hb dX11_step_161 rfl (lv_at hl 1 rfl) ?_
                        refine va_get (D := (dC, dI)) (ci := 8) (v := .long x28) (C := RX11) (T := TX11) (N := 71) hx hb hw iwX11 hown hK hP 1 rfl rfl 19 (by decide) (hw _ w_f_X11_83) (fun _ h9 => h9) rfl dX11_step_162 ?_
                        refine lv_lmul hx hb dX11_step_165 ?_
                        refine lv_topl (fun z43 ez43 => ?_)
                        refine lv_aload_n hx hb dX11_step_166 rfl (lv_at hl 1 rfl) ?_
                        refine lv_aload_n hx hb dX11_step_167 rfl (lv_at hl 1 rfl) ?_
                        refine va_get (D := (dC, dI)) (ci := 8) (v := .int x27) (C := RX11) (T := TX11) (N := 71) hx hb hw iwX11 hown hK hP 1 rfl rfl 15 (by decide) (hw _ w_f_X11_74) (fun _ h9 => h9) rfl dX11_step_168 ?_
                        obtain ⟨vq44, evq44⟩ := mq89_88 v_mm (.int x27) (.int x1) (.int x_mm_kind) (.int r19) (.long x28)
                        replace hP : va_P (dC, dI) cls [(h_tap, .inl (cy_tap, 600, .inl f_tap)), (h_mm, .inr (8, (mo88 vq44 (.ref h_tap) (.int x_mm_taped))))] H := by rw [evq44]; exact hP
                        replace hD : va_D A [(h_tap, .inl (cy_tap, 600, .inl f_tap)), (h_mm, .inr (8, (mo88 vq44 (.ref h_tap) (.int x_mm_taped))))] := by rw [evq44]; exact hD
                        have hPc := hP.sub (ws' := [(h_mm, .inr (8, (mo88 vq44 (.ref h_tap) (.int x_mm_taped)))), (h_tap, .inl (cy_tap, 600, .inl f_tap))]) [1, 0] rfl
                        have hDc := hD.sub (ws' := [(h_mm, .inr (8, (mo88 vq44 (.ref h_tap) (.int x_mm_taped)))), (h_tap, .inl (cy_tap, 600, .inl f_tap))]) [1, 0] (by decide) rfl
                        have hKc := hK.sub (tys' := [(cy_tap, .byte)]) [0] rfl
                        have hFc := va_free (wc := [(h_mm, .inr (8, (mo88 vq44 (.ref h_tap) (.int x_mm_taped)))), (h_tap, .inl (cy_tap, 600, .inl f_tap))]) hD hS hA [1, 0] rfl
                        refine va_calli (va_runV (As := [.int x27]) (rest := [.long z43, .ref h_mm]) ⟨hx, hb, hml, hown, hts⟩ (c_X11_see l dC dI H.size h_mm h_tap vq44 x_mm_taped cy_tap f_tap x27 G (by first | exact hx_mm_taped | omega) (by first | exact klp29_1 | omega) hn_tapq) (cwV 1 hts (gv hT w_m_X11_77 w_instanceMethod_X11_see ws_sel_X11_see w_ini_X11 w_code_X11_see) rfl rfl rfl (by decide +kernel) ⟨(Nat.le_of_ble_eq_true rfl), (Nat.le_of_ble_eq_true rfl)⟩) ⟨pre_blind, va_recv hK hP (ci := 8) (q0 := 1) rfl rfl, pre_of hPc hKc hDc hN⟩ rfl rfl hl.1 rfl (lv_room (Nat.le_of_ble_eq_true rfl)) dX11_step_171 ⟨(Nat.le_of_ble_eq_true rfl), (Nat.le_of_ble_eq_true rfl)⟩) hS (fun q _ h => hFc q h) hFc (fun r45 u t H locs ht hvm hq hB hz1 hk1 hS9 => ?_)
                        obtain ⟨hP1, hD1⟩ := hB
                        rw [ht] at hP1
                        obtain ⟨hP9, hD9⟩ := va_join (wr := []) (w1 := [(h_mm, .inr (8, (mo88 vq44 (.ref h_tap) (.int x_mm_taped)))), (h_tap, .inl (cy_tap, 600, .inl f_tap))]) hP hD [1, 0] [] rfl rfl (by decide) (by decide) hk1 hFc hP1 hD1
                        clear hP hD hS hPc hDc hKc hFc hP1 hD1 hk1 hz1 ht hvm
                        have hP : va_P (dC, dI) cls [(h_mm, .inr (8, (mo88 vq44 (.ref h_tap) (.int x_mm_taped)))), (h_tap, .inl (cy_tap, 600, .inl f_tap))] H := hP9
                        have hD : va_D A [(h_mm, .inr (8, (mo88 vq44 (.ref h_tap) (.int x_mm_taped)))), (h_tap, .inl (cy_tap, 600, .inl f_tap))] := hD9
                        have hS := hS9
                        clear hP9 hD9 hS9
                        rw [evq44] at hP hD
                        replace hP : va_P (dC, dI) cls [(h_mm, .inr (8, (mo89 v_mm (.ref h_tap) (.int x_mm_taped) (.int x27) (.int x1) (.int x_mm_kind) (.int r19) (.long x28)))), (h_tap, .inl (cy_tap, 600, .inl f_tap))] H := hP
                        replace hD : va_D A [(h_mm, .inr (8, (mo89 v_mm (.ref h_tap) (.int x_mm_taped) (.int x27) (.int x1) (.int x_mm_kind) (.int r19) (.long x28)))), (h_tap, .inl (cy_tap, 600, .inl f_tap))] := hD
                        clear evq44 
                        obtain ⟨k46, k47, k48⟩ := hq
                        replace k46 : -1 ≤ (r45).toInt ∧ (r45).toInt ≤ 255 := k46
                        replace k47 : ((r45)).toInt = sG (G) ((x_mm_taped)).toInt ((x27)).toInt := k47
                        replace k48 : ((r45)).toInt = -1 ∨ ((x27)).toInt < ((x_mm_taped)).toInt := k48
                        refine lv_i2l hx hb dX11_step_174 rfl ?_
                        refine lv_topl (fun z49 ez49 => ?_)
                        refine lv_ladd hx hb dX11_step_175 ?_
                        refine lv_topl (fun z50 ez50 => ?_)
                        refine lv_ldc2 (v := 97) hx hb hown (hw _ w_cl_X11_45) dX11_step_176 ?_
                        refine lv_lsub hx hb dX11_step_179 ?_
                        refine lv_topl (fun z51 ez51 => ?_)
                        refine lv_lconst (v := 1) hx hb dX11_step_180 (by decide) ?_
                        refine lv_ladd hx hb dX11_step_181 ?_
                        refine lv_topl (fun z52 ez52 => ?_)
                        refine va_put (D := (dC, dI)) (ci := 8) (v := .long z52) (ty := tyX11 19) (C := RX11) (T := TX11) (N := 71) hx hb hw iwX11 tyX11 tyX11_ok nmX11 hown hK hP hD hS 0 rfl rfl 19 (by decide) (hw _ w_f_X11_83) (fun _ h9 => h9) rfl (tyX11_ok 19 (by decide)) rfl rfl (Nat.le_of_ble_eq_true rfl) dX11_step_182 (fun H locs hP9 hD9 hS9 => ?_)
                        clear hP hD hS
                        have hP : va_P (dC, dI) cls [(h_mm, .inr (8, (mo89 v_mm (.ref h_tap) (.int x_mm_taped) (.int x27) (.int x1) (.int x_mm_kind) (.int r19) (.long z52)))), (h_tap, .inl (cy_tap, 600, .inl f_tap))] H := hP9
                        have hD : va_D A [(h_mm, .inr (8, (mo89 v_mm (.ref h_tap) (.int x_mm_taped) (.int x27) (.int x1) (.int x_mm_kind) (.int r19) (.long z52)))), (h_tap, .inl (cy_tap, 600, .inl f_tap))] := hD9
                        have hS := hS9
                        clear hP9 hD9 hS9
                        refine lv_aload_n hx hb dX11_step_185 rfl (lv_at hl 1 rfl) ?_
                        refine lv_aload_n hx hb dX11_step_186 rfl (lv_at hl 1 rfl) ?_
                        refine va_get (D := (dC, dI)) (ci := 8) (v := .int x27) (C := RX11) (T := TX11) (N := 71) hx hb hw iwX11 hown hK hP 0 rfl rfl 15 (by decide) (hw _ w_f_X11_74) (fun _ h9 => h9) rfl dX11_step_187 ?_
                        refine lv_iconst (v := 1) hx hb dX11_step_190 (by decide) ?_
                        refine lv_iadd hx hb dX11_step_191 ?_
                        refine lv_topi (fun z53 ez53 => ?_)
                        have tz53 : (z53).toInt = (x27).toInt + 1 := by rw [ez53]; exact i_add rfl (by decide) (by omega)
                        refine va_put (D := (dC, dI)) (ci := 8) (v := .int z53) (ty := tyX11 15) (C := RX11) (T := TX11) (N := 71) hx hb hw iwX11 tyX11 tyX11_ok nmX11 hown hK hP hD hS 0 rfl rfl 15 (by decide) (hw _ w_f_X11_74) (fun _ h9 => h9) rfl (tyX11_ok 15 (by decide)) rfl rfl (Nat.le_of_ble_eq_true rfl) dX11_step_192 (fun H locs hP9 hD9 hS9 => ?_)
                        clear hP hD hS
                        have hP : va_P (dC, dI) cls [(h_mm, .inr (8, (mo89 v_mm (.ref h_tap) (.int x_mm_taped) (.int z53) (.int x1) (.int x_mm_kind) (.int r19) (.long z52)))), (h_tap, .inl (cy_tap, 600, .inl f_tap))] H := hP9
                        have hD : va_D A [(h_mm, .inr (8, (mo89 v_mm (.ref h_tap) (.int x_mm_taped) (.int z53) (.int x1) (.int x_mm_kind) (.int r19) (.long z52)))), (h_tap, .inl (cy_tap, 600, .inl f_tap))] := hD9
                        have hS := hS9
                        clear hP9 hD9 hS9
                        have eoz53 : tkE G (x_mm_taped).toInt (z53).toInt = tkE G (x_mm_taped).toInt (x27).toInt := by rw [tz53]; exact tkE_on (by omega) (by omega) (by omega) (by omega)
                        have goz53 : tkG G (x_mm_taped).toInt (x27).toInt = tkG G (x_mm_taped).toInt (z53).toInt ∨ tkG G (x_mm_taped).toInt (x27).toInt = 1 + tkG G (x_mm_taped).toInt (z53).toInt := by rw [tz53]; exact tkG_step (by omega) (by omega) (by omega) (by omega)
                        have nw54 : NMW G (x1).toInt (z53).toInt 0 (z52).toInt := (nmw_no (by decide))
                        refine lv_goto (tgt := 103) hx hb dX11_step_195 (by decide) ?_
                        replace hP : va_P (dC, dI) cls [(h_tap, .inl (cy_tap, 600, .inl f_tap)), (h_mm, .inr (8, (mo89 v_mm (.ref h_tap) (.int x_mm_taped) (.int z53) (.int x1) (.int x_mm_kind) (.int r19) (.long z52))))] H := hP.sub [1, 0] rfl
                        replace hD : va_D A [(h_tap, .inl (cy_tap, 600, .inl f_tap)), (h_mm, .inr (8, (mo89 v_mm (.ref h_tap) (.int x_mm_taped) (.int z53) (.int x1) (.int x_mm_kind) (.int r19) (.long z52))))] := hD.sub [1, 0] (by decide) rfl
                        have cst0 : (0 : Int32).toInt = 0 := by decide
                        exact ih30 (0) (z53) (z52) _ _ _ (by decide) (by omega) (by omega) (by omega) (by first | exact klp29_4 | omega) (by omega) (by omega) (by omega) (by first | exact klp29_8 | omega) nw54 (by omega) hP hD hS (lv_sub hl [1, 2, 0] rfl)
                    · have kc38 := (not_congr (cv_eq (rfl : (x26).toInt = (x26).toInt) (by decide : (0 : Int32).toInt = 0))).mp c38
                      refine lv_aload_n hx hb dX11_step_122 rfl (lv_at hl 0 rfl) ?_
                      refine lv_aload_n hx hb dX11_step_123 rfl (lv_at hl 0 rfl) ?_
                      refine lv_aload_n hx hb dX11_step_124 rfl (lv_at hl 0 rfl) ?_
                      refine va_get (D := (dC, dI)) (ci := 8) (v := .int x27) (C := RX11) (T := TX11) (N := 71) hx hb hw iwX11 hown hK hP 1 rfl rfl 15 (by decide) (hw _ w_f_X11_74) (fun _ h9 => h9) rfl dX11_step_125 ?_
                      obtain ⟨vq55, evq55⟩ := mq89_88 v_mm (.int x27) (.int x1) (.int x_mm_kind) (.int r19) (.long x28)
                      replace hP : va_P (dC, dI) cls [(h_tap, .inl (cy_tap, 600, .inl f_tap)), (h_mm, .inr (8, (mo88 vq55 (.ref h_tap) (.int x_mm_taped))))] H := by rw [evq55]; exact hP
                      replace hD : va_D A [(h_tap, .inl (cy_tap, 600, .inl f_tap)), (h_mm, .inr (8, (mo88 vq55 (.ref h_tap) (.int x_mm_taped))))] := by rw [evq55]; exact hD
                      have hPc := hP.sub (ws' := [(h_mm, .inr (8, (mo88 vq55 (.ref h_tap) (.int x_mm_taped)))), (h_tap, .inl (cy_tap, 600, .inl f_tap))]) [1, 0] rfl
                      have hDc := hD.sub (ws' := [(h_mm, .inr (8, (mo88 vq55 (.ref h_tap) (.int x_mm_taped)))), (h_tap, .inl (cy_tap, 600, .inl f_tap))]) [1, 0] (by decide) rfl
                      have hKc := hK.sub (tys' := [(cy_tap, .byte)]) [0] rfl
                      have hFc := va_free (wc := [(h_mm, .inr (8, (mo88 vq55 (.ref h_tap) (.int x_mm_taped)))), (h_tap, .inl (cy_tap, 600, .inl f_tap))]) hD hS hA [1, 0] rfl
                      refine va_calli (va_runV (As := [.int x27]) (rest := [.ref h_mm]) ⟨hx, hb, hml, hown, hts⟩ (c_X11_see l dC dI H.size h_mm h_tap vq55 x_mm_taped cy_tap f_tap x27 G (by first | exact hx_mm_taped | omega) (by first | exact klp29_1 | omega) hn_tapq) (cwV 1 hts (gv hT w_m_X11_77 w_instanceMethod_X11_see ws_sel_X11_see w_ini_X11 w_code_X11_see) rfl rfl rfl (by decide +kernel) ⟨(Nat.le_of_ble_eq_true rfl), (Nat.le_of_ble_eq_true rfl)⟩) ⟨pre_blind, va_recv hK hP (ci := 8) (q0 := 1) rfl rfl, pre_of hPc hKc hDc hN⟩ rfl rfl hl.1 rfl (lv_room (Nat.le_of_ble_eq_true rfl)) dX11_step_128 ⟨(Nat.le_of_ble_eq_true rfl), (Nat.le_of_ble_eq_true rfl)⟩) hS (fun q _ h => hFc q h) hFc (fun r56 u t H locs ht hvm hq hB hz1 hk1 hS9 => ?_)
                      obtain ⟨hP1, hD1⟩ := hB
                      rw [ht] at hP1
                      obtain ⟨hP9, hD9⟩ := va_join (wr := []) (w1 := [(h_mm, .inr (8, (mo88 vq55 (.ref h_tap) (.int x_mm_taped)))), (h_tap, .inl (cy_tap, 600, .inl f_tap))]) hP hD [1, 0] [] rfl rfl (by decide) (by decide) hk1 hFc hP1 hD1
                      clear hP hD hS hPc hDc hKc hFc hP1 hD1 hk1 hz1 ht hvm
                      have hP : va_P (dC, dI) cls [(h_mm, .inr (8, (mo88 vq55 (.ref h_tap) (.int x_mm_taped)))), (h_tap, .inl (cy_tap, 600, .inl f_tap))] H := hP9
                      have hD : va_D A [(h_mm, .inr (8, (mo88 vq55 (.ref h_tap) (.int x_mm_taped)))), (h_tap, .inl (cy_tap, 600, .inl f_tap))] := hD9
                      have hS := hS9
                      clear hP9 hD9 hS9
                      rw [evq55] at hP hD
                      replace hP : va_P (dC, dI) cls [(h_mm, .inr (8, (mo89 v_mm (.ref h_tap) (.int x_mm_taped) (.int x27) (.int x1) (.int x_mm_kind) (.int r19) (.long x28)))), (h_tap, .inl (cy_tap, 600, .inl f_tap))] H := hP
                      replace hD : va_D A [(h_mm, .inr (8, (mo89 v_mm (.ref h_tap) (.int x_mm_taped) (.int x27) (.int x1) (.int x_mm_kind) (.int r19) (.long x28)))), (h_tap, .inl (cy_tap, 600, .inl f_tap))] := hD
                      clear evq55 
                      obtain ⟨k57, k58, k59⟩ := hq
                      replace k57 : -1 ≤ (r56).toInt ∧ (r56).toInt ≤ 255 := k57
                      replace k58 : ((r56)).toInt = sG (G) ((x_mm_taped)).toInt ((x27)).toInt := k58
                      replace k59 : ((r56)).toInt = -1 ∨ ((x27)).toInt < ((x_mm_taped)).toInt := k59
                      have so102 := sG_or G (x_mm_taped).toInt (x27).toInt
                      obtain ⟨vq60, evq60⟩ := mq89_87 v_mm (.ref h_tap) (.int x_mm_taped) (.int x27) (.int x1) (.int x_mm_kind) (.int r19) (.long x28)
                      replace hP : va_P (dC, dI) cls [(h_mm, .inr (8, (mo87 vq60))), (h_tap, .inl (cy_tap, 600, .inl f_tap))] H := by rw [evq60]; exact hP
                      replace hD : va_D A [(h_mm, .inr (8, (mo87 vq60))), (h_tap, .inl (cy_tap, 600, .inl f_tap))] := by rw [evq60]; exact hD
                      have hPc := hP.sub (ws' := [(h_mm, .inr (8, (mo87 vq60)))]) [0] rfl
                      have hDc := hD.sub (ws' := [(h_mm, .inr (8, (mo87 vq60)))]) [0] (by decide) rfl
                      have hKc := hK.sub (tys' := []) [] rfl
                      have hFc := va_free (wc := [(h_mm, .inr (8, (mo87 vq60)))]) hD hS hA [0] rfl
                      refine va_calli (va_runV (As := [.int r56]) (rest := []) ⟨hx, hb, hml, hown, hts⟩ (c_X11_isSmall l dC dI H.size h_mm vq60 r56) (cwV 1 hts (gv hT w_m_X11_53 w_instanceMethod_X11_isSmall ws_sel_X11_isSmall w_ini_X11 w_code_X11_isSmall) rfl rfl rfl (by decide +kernel) ⟨(Nat.le_of_ble_eq_true rfl), (Nat.le_of_ble_eq_true rfl)⟩) ⟨pre_blind, va_recv hK hP (ci := 8) (q0 := 0) rfl rfl, pre_of hPc hKc hDc hN⟩ rfl rfl hl.1 rfl (lv_room (Nat.le_of_ble_eq_true rfl)) dX11_step_131 ⟨(Nat.le_of_ble_eq_true rfl), (Nat.le_of_ble_eq_true rfl)⟩) hS (fun q _ h => hFc q h) hFc (fun r61 u t H locs ht hvm hq hB hz1 hk1 hS9 => ?_)
                      obtain ⟨hP1, hD1⟩ := hB
                      rw [ht] at hP1
                      obtain ⟨hP9, hD9⟩ := va_join (wr := [(h_tap, .inl (cy_tap, 600, .inl f_tap))]) (w1 := [(h_mm, .inr (8, (mo87 vq60)))]) hP hD [0] [1] rfl rfl (by decide) (by decide) hk1 hFc hP1 hD1
                      clear hP hD hS hPc hDc hKc hFc hP1 hD1 hk1 hz1 ht hvm
                      have hP : va_P (dC, dI) cls [(h_tap, .inl (cy_tap, 600, .inl f_tap)), (h_mm, .inr (8, (mo87 vq60)))] H := hP9
                      have hD : va_D A [(h_tap, .inl (cy_tap, 600, .inl f_tap)), (h_mm, .inr (8, (mo87 vq60)))] := hD9
                      have hS := hS9
                      clear hP9 hD9 hS9
                      rw [evq60] at hP hD
                      replace hP : va_P (dC, dI) cls [(h_tap, .inl (cy_tap, 600, .inl f_tap)), (h_mm, .inr (8, (mo89 v_mm (.ref h_tap) (.int x_mm_taped) (.int x27) (.int x1) (.int x_mm_kind) (.int r19) (.long x28))))] H := hP
                      replace hD : va_D A [(h_tap, .inl (cy_tap, 600, .inl f_tap)), (h_mm, .inr (8, (mo89 v_mm (.ref h_tap) (.int x_mm_taped) (.int x27) (.int x1) (.int x_mm_kind) (.int r19) (.long x28))))] := hD
                      clear evq60 
                      rcases hq with ⟨rfl, hq⟩ | ⟨rfl, hq⟩
                      · replace hq : (97 ≤ ((r56)).toInt) ∧ (((r56)).toInt ≤ 122) := hq
                        refine lv_if_eq (tgt := 141) hx hb dX11_step_134 (by decide) (fun c9 => absurd c9 (by decide)) (fun _ => ?_)
                        refine lv_iconst (v := 1) hx hb dX11_step_137 (by decide) ?_
                        refine lv_goto (tgt := 142) hx hb dX11_step_138 (by decide) ?_
                        refine lv_istore_n (lv' := [(2, .int 1), (0, .ref h_mm), (1, .int r19)]) hx hb dX11_step_142 rfl hl (by decide) rfl (fun ls hl => ?_)
                        have nc62 : NMW G (x1).toInt (x27).toInt 1 (x28).toInt := by have h9 := klp29_9; rwa [show (x26).toInt = 1 by omega] at h9
                        refine lv_aload_n hx hb dX11_step_143 rfl (lv_at hl 1 rfl) ?_
                        refine va_get (D := (dC, dI)) (ci := 8) (v := .int x27) (C := RX11) (T := TX11) (N := 71) hx hb hw iwX11 hown hK hP 1 rfl rfl 15 (by decide) (hw _ w_f_X11_74) (fun _ h9 => h9) rfl dX11_step_144 ?_
                        refine lv_aload_n hx hb dX11_step_147 rfl (lv_at hl 1 rfl) ?_
                        refine va_get (D := (dC, dI)) (ci := 8) (v := .int x1) (C := RX11) (T := TX11) (N := 71) hx hb hw iwX11 hown hK hP 1 rfl rfl 16 (by decide) (hw _ w_f_X11_68) (fun _ h9 => h9) rfl dX11_step_148 ?_
                        refine lv_isub hx hb dX11_step_151 ?_
                        refine lv_topi (fun z63 ez63 => ?_)
                        have tz63 : (z63).toInt = (x27).toInt - (x1).toInt := by rw [ez63]; exact i_sub rfl rfl (by omega)
                        refine lv_bipush (v := 8) hx hb dX11_step_152 (by decide) ?_
                        refine lv_icmp_ge (tgt := 185) hx hb dX11_step_154 (by decide) (fun c64 => ?_) (fun c64 => ?_)
                        · have kc64 := (cv_le (by decide : (8 : Int32).toInt = 8) (rfl : (z63).toInt = (z63).toInt)).mp c64
                          refine lv_aload_n hx hb dX11_step_185 rfl (lv_at hl 1 rfl) ?_
                          refine lv_aload_n hx hb dX11_step_186 rfl (lv_at hl 1 rfl) ?_
                          refine va_get (D := (dC, dI)) (ci := 8) (v := .int x27) (C := RX11) (T := TX11) (N := 71) hx hb hw iwX11 hown hK hP 1 rfl rfl 15 (by decide) (hw _ w_f_X11_74) (fun _ h9 => h9) rfl dX11_step_187 ?_
                          refine lv_iconst (v := 1) hx hb dX11_step_190 (by decide) ?_
                          refine lv_iadd hx hb dX11_step_191 ?_
                          refine lv_topi (fun z65 ez65 => ?_)
                          have tz65 : (z65).toInt = (x27).toInt + 1 := by rw [ez65]; exact i_add rfl (by decide) (by omega)
                          refine va_put (D := (dC, dI)) (ci := 8) (v := .int z65) (ty := tyX11 15) (C := RX11) (T := TX11) (N := 71) hx hb hw iwX11 tyX11 tyX11_ok nmX11 hown hK hP hD hS 1 rfl rfl 15 (by decide) (hw _ w_f_X11_74) (fun _ h9 => h9) rfl (tyX11_ok 15 (by decide)) rfl rfl (Nat.le_of_ble_eq_true rfl) dX11_step_192 (fun H locs hP9 hD9 hS9 => ?_)
                          clear hP hD hS
                          have hP : va_P (dC, dI) cls [(h_tap, .inl (cy_tap, 600, .inl f_tap)), (h_mm, .inr (8, (mo89 v_mm (.ref h_tap) (.int x_mm_taped) (.int z65) (.int x1) (.int x_mm_kind) (.int r19) (.long x28))))] H := hP9
                          have hD : va_D A [(h_tap, .inl (cy_tap, 600, .inl f_tap)), (h_mm, .inr (8, (mo89 v_mm (.ref h_tap) (.int x_mm_taped) (.int z65) (.int x1) (.int x_mm_kind) (.int r19) (.long x28))))] := hD9
                          have hS := hS9
                          clear hP9 hD9 hS9
                          have eoz65 : tkE G (x_mm_taped).toInt (z65).toInt = tkE G (x_mm_taped).toInt (x27).toInt := by rw [tz65]; exact tkE_on (by omega) (by omega) (by omega) (by omega)
                          have goz65 : tkG G (x_mm_taped).toInt (x27).toInt = tkG G (x_mm_taped).toInt (z65).toInt := by rw [tz65]; exact tkG_sm (by omega) (by omega) (by omega) (by omega)
                          have nw66 : NMW G (x1).toInt (z65).toInt 1 (x28).toInt := (nmw_over (by omega))
                          refine lv_goto (tgt := 103) hx hb dX11_step_195 (by decide) ?_
                          have cst1 : (1 : Int32).toInt = 1 := by decide
                          exact ih30 (1) (z65) (x28) _ _ _ (by decide) (by omega) (by omega) (by omega) (by first | exact klp29_4 | omega) (by omega) (by omega) (by omega) (by first | exact klp29_8 | omega) nw66 (by omega) hP hD hS (lv_sub hl [1, 2, 0] rfl)
                        · have kc64 := (not_congr (cv_le (by decide : (8 : Int32).toInt = 8) (rfl : (z63).toInt = (z63).toInt))).mp c64
                          refine lv_aload_n hx hb dX11_step_157 rfl (lv_at hl 1 rfl) ?_
                          refine lv_ldc2 (v := 27) hx hb hown (hw _ w_cl_X11_93) dX11_step_158 ?_
                          refine lv_aload_n hx hb dX11_step_161 rfl (lv_at hl 1 rfl) ?_
                          refine va_get (D := (dC, dI)) (ci := 8) (v := .long x28) (C := RX11) (T := TX11) (N := 71) hx hb hw iwX11 hown hK hP 1 rfl rfl 19 (by decide) (hw _ w_f_X11_83) (fun _ h9 => h9) rfl dX11_step_162 ?_
                          refine lv_lmul hx hb dX11_step_165 ?_
                          refine lv_topl (fun z67 ez67 => ?_)
                          refine lv_aload_n hx hb dX11_step_166 rfl (lv_at hl 1 rfl) ?_
                          refine lv_aload_n hx hb dX11_step_167 rfl (lv_at hl 1 rfl) ?_
                          refine va_get (D := (dC, dI)) (ci := 8) (v := .int x27) (C := RX11) (T := TX11) (N := 71) hx hb hw iwX11 hown hK hP 1 rfl rfl 15 (by decide) (hw _ w_f_X11_74) (fun _ h9 => h9) rfl dX11_step_168 ?_
                          obtain ⟨vq68, evq68⟩ := mq89_88 v_mm (.int x27) (.int x1) (.int x_mm_kind) (.int r19) (.long x28)
                          replace hP : va_P (dC, dI) cls [(h_tap, .inl (cy_tap, 600, .inl f_tap)), (h_mm, .inr (8, (mo88 vq68 (.ref h_tap) (.int x_mm_taped))))] H := by rw [evq68]; exact hP
                          replace hD : va_D A [(h_tap, .inl (cy_tap, 600, .inl f_tap)), (h_mm, .inr (8, (mo88 vq68 (.ref h_tap) (.int x_mm_taped))))] := by rw [evq68]; exact hD
                          have hPc := hP.sub (ws' := [(h_mm, .inr (8, (mo88 vq68 (.ref h_tap) (.int x_mm_taped)))), (h_tap, .inl (cy_tap, 600, .inl f_tap))]) [1, 0] rfl
                          have hDc := hD.sub (ws' := [(h_mm, .inr (8, (mo88 vq68 (.ref h_tap) (.int x_mm_taped)))), (h_tap, .inl (cy_tap, 600, .inl f_tap))]) [1, 0] (by decide) rfl
                          have hKc := hK.sub (tys' := [(cy_tap, .byte)]) [0] rfl
                          have hFc := va_free (wc := [(h_mm, .inr (8, (mo88 vq68 (.ref h_tap) (.int x_mm_taped)))), (h_tap, .inl (cy_tap, 600, .inl f_tap))]) hD hS hA [1, 0] rfl
                          refine va_calli (va_runV (As := [.int x27]) (rest := [.long z67, .ref h_mm]) ⟨hx, hb, hml, hown, hts⟩ (c_X11_see l dC dI H.size h_mm h_tap vq68 x_mm_taped cy_tap f_tap x27 G (by first | exact hx_mm_taped | omega) (by first | exact klp29_1 | omega) hn_tapq) (cwV 1 hts (gv hT w_m_X11_77 w_instanceMethod_X11_see ws_sel_X11_see w_ini_X11 w_code_X11_see) rfl rfl rfl (by decide +kernel) ⟨(Nat.le_of_ble_eq_true rfl), (Nat.le_of_ble_eq_true rfl)⟩) ⟨pre_blind, va_recv hK hP (ci := 8) (q0 := 1) rfl rfl, pre_of hPc hKc hDc hN⟩ rfl rfl hl.1 rfl (lv_room (Nat.le_of_ble_eq_true rfl)) dX11_step_171 ⟨(Nat.le_of_ble_eq_true rfl), (Nat.le_of_ble_eq_true rfl)⟩) hS (fun q _ h => hFc q h) hFc (fun r69 u t H locs ht hvm hq hB hz1 hk1 hS9 => ?_)
                          obtain ⟨hP1, hD1⟩ := hB
                          rw [ht] at hP1
                          obtain ⟨hP9, hD9⟩ := va_join (wr := []) (w1 := [(h_mm, .inr (8, (mo88 vq68 (.ref h_tap) (.int x_mm_taped)))), (h_tap, .inl (cy_tap, 600, .inl f_tap))]) hP hD [1, 0] [] rfl rfl (by decide) (by decide) hk1 hFc hP1 hD1
                          clear hP hD hS hPc hDc hKc hFc hP1 hD1 hk1 hz1 ht hvm
                          have hP : va_P (dC, dI) cls [(h_mm, .inr (8, (mo88 vq68 (.ref h_tap) (.int x_mm_taped)))), (h_tap, .inl (cy_tap, 600, .inl f_tap))] H := hP9
                          have hD : va_D A [(h_mm, .inr (8, (mo88 vq68 (.ref h_tap) (.int x_mm_taped)))), (h_tap, .inl (cy_tap, 600, .inl f_tap))] := hD9
                          have hS := hS9
                          clear hP9 hD9 hS9
                          rw [evq68] at hP hD
                          replace hP : va_P (dC, dI) cls [(h_mm, .inr (8, (mo89 v_mm (.ref h_tap) (.int x_mm_taped) (.int x27) (.int x1) (.int x_mm_kind) (.int r19) (.long x28)))), (h_tap, .inl (cy_tap, 600, .inl f_tap))] H := hP
                          replace hD : va_D A [(h_mm, .inr (8, (mo89 v_mm (.ref h_tap) (.int x_mm_taped) (.int x27) (.int x1) (.int x_mm_kind) (.int r19) (.long x28)))), (h_tap, .inl (cy_tap, 600, .inl f_tap))] := hD
                          clear evq68 
                          obtain ⟨k70, k71, k72⟩ := hq
                          replace k70 : -1 ≤ (r69).toInt ∧ (r69).toInt ≤ 255 := k70
                          replace k71 : ((r69)).toInt = sG (G) ((x_mm_taped)).toInt ((x27)).toInt := k71
                          replace k72 : ((r69)).toInt = -1 ∨ ((x27)).toInt < ((x_mm_taped)).toInt := k72
                          refine lv_i2l hx hb dX11_step_174 rfl ?_
                          refine lv_topl (fun z73 ez73 => ?_)
                          refine lv_ladd hx hb dX11_step_175 ?_
                          refine lv_topl (fun z74 ez74 => ?_)
                          refine lv_ldc2 (v := 97) hx hb hown (hw _ w_cl_X11_45) dX11_step_176 ?_
                          refine lv_lsub hx hb dX11_step_179 ?_
                          refine lv_topl (fun z75 ez75 => ?_)
                          refine lv_lconst (v := 1) hx hb dX11_step_180 (by decide) ?_
                          refine lv_ladd hx hb dX11_step_181 ?_
                          refine lv_topl (fun z76 ez76 => ?_)
                          refine va_put (D := (dC, dI)) (ci := 8) (v := .long z76) (ty := tyX11 19) (C := RX11) (T := TX11) (N := 71) hx hb hw iwX11 tyX11 tyX11_ok nmX11 hown hK hP hD hS 0 rfl rfl 19 (by decide) (hw _ w_f_X11_83) (fun _ h9 => h9) rfl (tyX11_ok 19 (by decide)) rfl rfl (Nat.le_of_ble_eq_true rfl) dX11_step_182 (fun H locs hP9 hD9 hS9 => ?_)
                          clear hP hD hS
                          have hP : va_P (dC, dI) cls [(h_mm, .inr (8, (mo89 v_mm (.ref h_tap) (.int x_mm_taped) (.int x27) (.int x1) (.int x_mm_kind) (.int r19) (.long z76)))), (h_tap, .inl (cy_tap, 600, .inl f_tap))] H := hP9
                          have hD : va_D A [(h_mm, .inr (8, (mo89 v_mm (.ref h_tap) (.int x_mm_taped) (.int x27) (.int x1) (.int x_mm_kind) (.int r19) (.long z76)))), (h_tap, .inl (cy_tap, 600, .inl f_tap))] := hD9
                          have hS := hS9
                          clear hP9 hD9 hS9
                          refine lv_aload_n hx hb dX11_step_185 rfl (lv_at hl 1 rfl) ?_
                          refine lv_aload_n hx hb dX11_step_186 rfl (lv_at hl 1 rfl) ?_
                          refine va_get (D := (dC, dI)) (ci := 8) (v := .int x27) (C := RX11) (T := TX11) (N := 71) hx hb hw iwX11 hown hK hP 0 rfl rfl 15 (by decide) (hw _ w_f_X11_74) (fun _ h9 => h9) rfl dX11_step_187 ?_
                          refine lv_iconst (v := 1) hx hb dX11_step_190 (by decide) ?_
                          refine lv_iadd hx hb dX11_step_191 ?_
                          refine lv_topi (fun z77 ez77 => ?_)
                          have tz77 : (z77).toInt = (x27).toInt + 1 := by rw [ez77]; exact i_add rfl (by decide) (by omega)
                          refine va_put (D := (dC, dI)) (ci := 8) (v := .int z77) (ty := tyX11 15) (C := RX11) (T := TX11) (N := 71) hx hb hw iwX11 tyX11 tyX11_ok nmX11 hown hK hP hD hS 0 rfl rfl 15 (by decide) (hw _ w_f_X11_74) (fun _ h9 => h9) rfl (tyX11_ok 15 (by decide)) rfl rfl (Nat.le_of_ble_eq_true rfl) dX11_step_192 (fun H locs hP9 hD9 hS9 => ?_)
                          clear hP hD hS
                          have hP : va_P (dC, dI) cls [(h_mm, .inr (8, (mo89 v_mm (.ref h_tap) (.int x_mm_taped) (.int z77) (.int x1) (.int x_mm_kind) (.int r19) (.long z76)))), (h_tap, .inl (cy_tap, 600, .inl f_tap))] H := hP9
                          have hD : va_D A [(h_mm, .inr (8, (mo89 v_mm (.ref h_tap) (.int x_mm_taped) (.int z77) (.int x1) (.int x_mm_kind) (.int r19) (.long z76)))), (h_tap, .inl (cy_tap, 600, .inl f_tap))] := hD9
                          have hS := hS9
                          clear hP9 hD9 hS9
                          have eoz77 : tkE G (x_mm_taped).toInt (z77).toInt = tkE G (x_mm_taped).toInt (x27).toInt := by rw [tz77]; exact tkE_on (by omega) (by omega) (by omega) (by omega)
                          have goz77 : tkG G (x_mm_taped).toInt (x27).toInt = tkG G (x_mm_taped).toInt (z77).toInt := by rw [tz77]; exact tkG_sm (by omega) (by omega) (by omega) (by omega)
                          have nw78 : NMW G (x1).toInt (z77).toInt 1 (z76).toInt := nmw_small (a := (x27).toInt) (x := x28) nc62 (by omega) (by omega) (by omega) (by omega) ez67 ez73 ez74 ez75 ez76 (by omega)
                          refine lv_goto (tgt := 103) hx hb dX11_step_195 (by decide) ?_
                          replace hP : va_P (dC, dI) cls [(h_tap, .inl (cy_tap, 600, .inl f_tap)), (h_mm, .inr (8, (mo89 v_mm (.ref h_tap) (.int x_mm_taped) (.int z77) (.int x1) (.int x_mm_kind) (.int r19) (.long z76))))] H := hP.sub [1, 0] rfl
                          replace hD : va_D A [(h_tap, .inl (cy_tap, 600, .inl f_tap)), (h_mm, .inr (8, (mo89 v_mm (.ref h_tap) (.int x_mm_taped) (.int z77) (.int x1) (.int x_mm_kind) (.int r19) (.long z76))))] := hD.sub [1, 0] (by decide) rfl
                          have cst1 : (1 : Int32).toInt = 1 := by decide
                          exact ih30 (1) (z77) (z76) _ _ _ (by decide) (by omega) (by omega) (by omega) (by first | exact klp29_4 | omega) (by omega) (by omega) (by omega) (by first | exact klp29_8 | omega) nw78 (by omega) hP hD hS (lv_sub hl [1, 2, 0] rfl)
                      · replace hq : (((r56)).toInt < 97 ∨ 122 < ((r56)).toInt) := hq
                        refine lv_if_eq (tgt := 141) hx hb dX11_step_134 (by decide) (fun _ => ?_) (fun c9 => absurd c9 (by decide))
                        refine lv_iconst (v := 0) hx hb dX11_step_141 (by decide) ?_
                        refine lv_istore_n (lv' := [(2, .int 0), (0, .ref h_mm), (1, .int r19)]) hx hb dX11_step_142 rfl hl (by decide) rfl (fun ls hl => ?_)
                        refine lv_aload_n hx hb dX11_step_143 rfl (lv_at hl 1 rfl) ?_
                        refine va_get (D := (dC, dI)) (ci := 8) (v := .int x27) (C := RX11) (T := TX11) (N := 71) hx hb hw iwX11 hown hK hP 1 rfl rfl 15 (by decide) (hw _ w_f_X11_74) (fun _ h9 => h9) rfl dX11_step_144 ?_
                        refine lv_aload_n hx hb dX11_step_147 rfl (lv_at hl 1 rfl) ?_
                        refine va_get (D := (dC, dI)) (ci := 8) (v := .int x1) (C := RX11) (T := TX11) (N := 71) hx hb hw iwX11 hown hK hP 1 rfl rfl 16 (by decide) (hw _ w_f_X11_68) (fun _ h9 => h9) rfl dX11_step_148 ?_
                        refine lv_isub hx hb dX11_step_151 ?_
                        refine lv_topi (fun z79 ez79 => ?_)
                        have tz79 : (z79).toInt = (x27).toInt - (x1).toInt := by rw [ez79]; exact i_sub rfl rfl (by omega)
                        refine lv_bipush (v := 8) hx hb dX11_step_152 (by decide) ?_
                        refine lv_icmp_ge (tgt := 185) hx hb dX11_step_154 (by decide) (fun c80 => ?_) (fun c80 => ?_)
                        · have kc80 := (cv_le (by decide : (8 : Int32).toInt = 8) (rfl : (z79).toInt = (z79).toInt)).mp c80
                          refine lv_aload_n hx hb dX11_step_185 rfl (lv_at hl 1 rfl) ?_
                          refine lv_aload_n hx hb dX11_step_186 rfl (lv_at hl 1 rfl) ?_
                          refine va_get (D := (dC, dI)) (ci := 8) (v := .int x27) (C := RX11) (T := TX11) (N := 71) hx hb hw iwX11 hown hK hP 1 rfl rfl 15 (by decide) (hw _ w_f_X11_74) (fun _ h9 => h9) rfl dX11_step_187 ?_
                          refine lv_iconst (v := 1) hx hb dX11_step_190 (by decide) ?_
                          refine lv_iadd hx hb dX11_step_191 ?_
                          refine lv_topi (fun z81 ez81 => ?_)
                          have tz81 : (z81).toInt = (x27).toInt + 1 := by rw [ez81]; exact i_add rfl (by decide) (by omega)
                          refine va_put (D := (dC, dI)) (ci := 8) (v := .int z81) (ty := tyX11 15) (C := RX11) (T := TX11) (N := 71) hx hb hw iwX11 tyX11 tyX11_ok nmX11 hown hK hP hD hS 1 rfl rfl 15 (by decide) (hw _ w_f_X11_74) (fun _ h9 => h9) rfl (tyX11_ok 15 (by decide)) rfl rfl (Nat.le_of_ble_eq_true rfl) dX11_step_192 (fun H locs hP9 hD9 hS9 => ?_)
                          clear hP hD hS
                          have hP : va_P (dC, dI) cls [(h_tap, .inl (cy_tap, 600, .inl f_tap)), (h_mm, .inr (8, (mo89 v_mm (.ref h_tap) (.int x_mm_taped) (.int z81) (.int x1) (.int x_mm_kind) (.int r19) (.long x28))))] H := hP9
                          have hD : va_D A [(h_tap, .inl (cy_tap, 600, .inl f_tap)), (h_mm, .inr (8, (mo89 v_mm (.ref h_tap) (.int x_mm_taped) (.int z81) (.int x1) (.int x_mm_kind) (.int r19) (.long x28))))] := hD9
                          have hS := hS9
                          clear hP9 hD9 hS9
                          have eoz81 : tkE G (x_mm_taped).toInt (z81).toInt = tkE G (x_mm_taped).toInt (x27).toInt := by rw [tz81]; exact tkE_on (by omega) (by omega) (by omega) (by omega)
                          have goz81 : tkG G (x_mm_taped).toInt (x27).toInt = 1 + tkG G (x_mm_taped).toInt (z81).toInt := by rw [tz81]; exact tkG_gr (by omega) (by omega) (by omega) (by omega) (by omega)
                          have nw82 : NMW G (x1).toInt (z81).toInt 0 (x28).toInt := (nmw_no (by decide))
                          refine lv_goto (tgt := 103) hx hb dX11_step_195 (by decide) ?_
                          have cst0 : (0 : Int32).toInt = 0 := by decide
                          exact ih30 (0) (z81) (x28) _ _ _ (by decide) (by omega) (by omega) (by omega) (by first | exact klp29_4 | omega) (by omega) (by omega) (by omega) (by first | exact klp29_8 | omega) nw82 (by omega) hP hD hS (lv_sub hl [1, 2, 0] rfl)
                        · have kc80 := (not_congr (cv_le (by decide : (8 : Int32).toInt = 8) (rfl : (z79).toInt = (z79).toInt))).mp c80
                          refine lv_aload_n hx hb dX11_step_157 rfl (lv_at hl 1 rfl) ?_
                          refine lv_ldc2 (v := 27) hx hb hown (hw _ w_cl_X11_93) dX11_step_158 ?_
                          refine lv_aload_n hx hb dX11_step_161 rfl (lv_at hl 1 rfl) ?_
                          refine va_get (D := (dC, dI)) (ci := 8) (v := .long x28) (C := RX11) (T := TX11) (N := 71) hx hb hw iwX11 hown hK hP 1 rfl rfl 19 (by decide) (hw _ w_f_X11_83) (fun _ h9 => h9) rfl dX11_step_162 ?_
                          refine lv_lmul hx hb dX11_step_165 ?_
                          refine lv_topl (fun z83 ez83 => ?_)
                          refine lv_aload_n hx hb dX11_step_166 rfl (lv_at hl 1 rfl) ?_
                          refine lv_aload_n hx hb dX11_step_167 rfl (lv_at hl 1 rfl) ?_
                          refine va_get (D := (dC, dI)) (ci := 8) (v := .int x27) (C := RX11) (T := TX11) (N := 71) hx hb hw iwX11 hown hK hP 1 rfl rfl 15 (by decide) (hw _ w_f_X11_74) (fun _ h9 => h9) rfl dX11_step_168 ?_
                          obtain ⟨vq84, evq84⟩ := mq89_88 v_mm (.int x27) (.int x1) (.int x_mm_kind) (.int r19) (.long x28)
                          replace hP : va_P (dC, dI) cls [(h_tap, .inl (cy_tap, 600, .inl f_tap)), (h_mm, .inr (8, (mo88 vq84 (.ref h_tap) (.int x_mm_taped))))] H := by rw [evq84]; exact hP
                          replace hD : va_D A [(h_tap, .inl (cy_tap, 600, .inl f_tap)), (h_mm, .inr (8, (mo88 vq84 (.ref h_tap) (.int x_mm_taped))))] := by rw [evq84]; exact hD
                          have hPc := hP.sub (ws' := [(h_mm, .inr (8, (mo88 vq84 (.ref h_tap) (.int x_mm_taped)))), (h_tap, .inl (cy_tap, 600, .inl f_tap))]) [1, 0] rfl
                          have hDc := hD.sub (ws' := [(h_mm, .inr (8, (mo88 vq84 (.ref h_tap) (.int x_mm_taped)))), (h_tap, .inl (cy_tap, 600, .inl f_tap))]) [1, 0] (by decide) rfl
                          have hKc := hK.sub (tys' := [(cy_tap, .byte)]) [0] rfl
                          have hFc := va_free (wc := [(h_mm, .inr (8, (mo88 vq84 (.ref h_tap) (.int x_mm_taped)))), (h_tap, .inl (cy_tap, 600, .inl f_tap))]) hD hS hA [1, 0] rfl
                          refine va_calli (va_runV (As := [.int x27]) (rest := [.long z83, .ref h_mm]) ⟨hx, hb, hml, hown, hts⟩ (c_X11_see l dC dI H.size h_mm h_tap vq84 x_mm_taped cy_tap f_tap x27 G (by first | exact hx_mm_taped | omega) (by first | exact klp29_1 | omega) hn_tapq) (cwV 1 hts (gv hT w_m_X11_77 w_instanceMethod_X11_see ws_sel_X11_see w_ini_X11 w_code_X11_see) rfl rfl rfl (by decide +kernel) ⟨(Nat.le_of_ble_eq_true rfl), (Nat.le_of_ble_eq_true rfl)⟩) ⟨pre_blind, va_recv hK hP (ci := 8) (q0 := 1) rfl rfl, pre_of hPc hKc hDc hN⟩ rfl rfl hl.1 rfl (lv_room (Nat.le_of_ble_eq_true rfl)) dX11_step_171 ⟨(Nat.le_of_ble_eq_true rfl), (Nat.le_of_ble_eq_true rfl)⟩) hS (fun q _ h => hFc q h) hFc (fun r85 u t H locs ht hvm hq hB hz1 hk1 hS9 => ?_)
                          obtain ⟨hP1, hD1⟩ := hB
                          rw [ht] at hP1
                          obtain ⟨hP9, hD9⟩ := va_join (wr := []) (w1 := [(h_mm, .inr (8, (mo88 vq84 (.ref h_tap) (.int x_mm_taped)))), (h_tap, .inl (cy_tap, 600, .inl f_tap))]) hP hD [1, 0] [] rfl rfl (by decide) (by decide) hk1 hFc hP1 hD1
                          clear hP hD hS hPc hDc hKc hFc hP1 hD1 hk1 hz1 ht hvm
                          have hP : va_P (dC, dI) cls [(h_mm, .inr (8, (mo88 vq84 (.ref h_tap) (.int x_mm_taped)))), (h_tap, .inl (cy_tap, 600, .inl f_tap))] H := hP9
                          have hD : va_D A [(h_mm, .inr (8, (mo88 vq84 (.ref h_tap) (.int x_mm_taped)))), (h_tap, .inl (cy_tap, 600, .inl f_tap))] := hD9
                          have hS := hS9
                          clear hP9 hD9 hS9
                          rw [evq84] at hP hD
                          replace hP : va_P (dC, dI) cls [(h_mm, .inr (8, (mo89 v_mm (.ref h_tap) (.int x_mm_taped) (.int x27) (.int x1) (.int x_mm_kind) (.int r19) (.long x28)))), (h_tap, .inl (cy_tap, 600, .inl f_tap))] H := hP
                          replace hD : va_D A [(h_mm, .inr (8, (mo89 v_mm (.ref h_tap) (.int x_mm_taped) (.int x27) (.int x1) (.int x_mm_kind) (.int r19) (.long x28)))), (h_tap, .inl (cy_tap, 600, .inl f_tap))] := hD
                          clear evq84 
                          obtain ⟨k86, k87, k88⟩ := hq
                          replace k86 : -1 ≤ (r85).toInt ∧ (r85).toInt ≤ 255 := k86
                          replace k87 : ((r85)).toInt = sG (G) ((x_mm_taped)).toInt ((x27)).toInt := k87
                          replace k88 : ((r85)).toInt = -1 ∨ ((x27)).toInt < ((x_mm_taped)).toInt := k88
                          refine lv_i2l hx hb dX11_step_174 rfl ?_
                          refine lv_topl (fun z89 ez89 => ?_)
                          refine lv_ladd hx hb dX11_step_175 ?_
                          refine lv_topl (fun z90 ez90 => ?_)
                          refine lv_ldc2 (v := 97) hx hb hown (hw _ w_cl_X11_45) dX11_step_176 ?_
                          refine lv_lsub hx hb dX11_step_179 ?_
                          refine lv_topl (fun z91 ez91 => ?_)
                          refine lv_lconst (v := 1) hx hb dX11_step_180 (by decide) ?_
                          refine lv_ladd hx hb dX11_step_181 ?_
                          refine lv_topl (fun z92 ez92 => ?_)
                          refine va_put (D := (dC, dI)) (ci := 8) (v := .long z92) (ty := tyX11 19) (C := RX11) (T := TX11) (N := 71) hx hb hw iwX11 tyX11 tyX11_ok nmX11 hown hK hP hD hS 0 rfl rfl 19 (by decide) (hw _ w_f_X11_83) (fun _ h9 => h9) rfl (tyX11_ok 19 (by decide)) rfl rfl (Nat.le_of_ble_eq_true rfl) dX11_step_182 (fun H locs hP9 hD9 hS9 => ?_)
                          clear hP hD hS
                          have hP : va_P (dC, dI) cls [(h_mm, .inr (8, (mo89 v_mm (.ref h_tap) (.int x_mm_taped) (.int x27) (.int x1) (.int x_mm_kind) (.int r19) (.long z92)))), (h_tap, .inl (cy_tap, 600, .inl f_tap))] H := hP9
                          have hD : va_D A [(h_mm, .inr (8, (mo89 v_mm (.ref h_tap) (.int x_mm_taped) (.int x27) (.int x1) (.int x_mm_kind) (.int r19) (.long z92)))), (h_tap, .inl (cy_tap, 600, .inl f_tap))] := hD9
                          have hS := hS9
                          clear hP9 hD9 hS9
                          refine lv_aload_n hx hb dX11_step_185 rfl (lv_at hl 1 rfl) ?_
                          refine lv_aload_n hx hb dX11_step_186 rfl (lv_at hl 1 rfl) ?_
                          refine va_get (D := (dC, dI)) (ci := 8) (v := .int x27) (C := RX11) (T := TX11) (N := 71) hx hb hw iwX11 hown hK hP 0 rfl rfl 15 (by decide) (hw _ w_f_X11_74) (fun _ h9 => h9) rfl dX11_step_187 ?_
                          refine lv_iconst (v := 1) hx hb dX11_step_190 (by decide) ?_
                          refine lv_iadd hx hb dX11_step_191 ?_
                          refine lv_topi (fun z93 ez93 => ?_)
                          have tz93 : (z93).toInt = (x27).toInt + 1 := by rw [ez93]; exact i_add rfl (by decide) (by omega)
                          refine va_put (D := (dC, dI)) (ci := 8) (v := .int z93) (ty := tyX11 15) (C := RX11) (T := TX11) (N := 71) hx hb hw iwX11 tyX11 tyX11_ok nmX11 hown hK hP hD hS 0 rfl rfl 15 (by decide) (hw _ w_f_X11_74) (fun _ h9 => h9) rfl (tyX11_ok 15 (by decide)) rfl rfl (Nat.le_of_ble_eq_true rfl) dX11_step_192 (fun H locs hP9 hD9 hS9 => ?_)
                          clear hP hD hS
                          have hP : va_P (dC, dI) cls [(h_mm, .inr (8, (mo89 v_mm (.ref h_tap) (.int x_mm_taped) (.int z93) (.int x1) (.int x_mm_kind) (.int r19) (.long z92)))), (h_tap, .inl (cy_tap, 600, .inl f_tap))] H := hP9
                          have hD : va_D A [(h_mm, .inr (8, (mo89 v_mm (.ref h_tap) (.int x_mm_taped) (.int z93) (.int x1) (.int x_mm_kind) (.int r19) (.long z92)))), (h_tap, .inl (cy_tap, 600, .inl f_tap))] := hD9
                          have hS := hS9
                          clear hP9 hD9 hS9
                          have eoz93 : tkE G (x_mm_taped).toInt (z93).toInt = tkE G (x_mm_taped).toInt (x27).toInt := by rw [tz93]; exact tkE_on (by omega) (by omega) (by omega) (by omega)
                          have goz93 : tkG G (x_mm_taped).toInt (x27).toInt = 1 + tkG G (x_mm_taped).toInt (z93).toInt := by rw [tz93]; exact tkG_gr (by omega) (by omega) (by omega) (by omega) (by omega)
                          have nw94 : NMW G (x1).toInt (z93).toInt 0 (z92).toInt := (nmw_no (by decide))
                          refine lv_goto (tgt := 103) hx hb dX11_step_195 (by decide) ?_
                          replace hP : va_P (dC, dI) cls [(h_tap, .inl (cy_tap, 600, .inl f_tap)), (h_mm, .inr (8, (mo89 v_mm (.ref h_tap) (.int x_mm_taped) (.int z93) (.int x1) (.int x_mm_kind) (.int r19) (.long z92))))] H := hP.sub [1, 0] rfl
                          replace hD : va_D A [(h_tap, .inl (cy_tap, 600, .inl f_tap)), (h_mm, .inr (8, (mo89 v_mm (.ref h_tap) (.int x_mm_taped) (.int z93) (.int x1) (.int x_mm_kind) (.int r19) (.long z92))))] := hD.sub [1, 0] (by decide) rfl
                          have cst0 : (0 : Int32).toInt = 0 := by decide
                          exact ih30 (0) (z93) (z92) _ _ _ (by decide) (by omega) (by omega) (by omega) (by first | exact klp29_4 | omega) (by omega) (by omega) (by omega) (by first | exact klp29_8 | omega) nw94 (by omega) hP hD hS (lv_sub hl [1, 2, 0] rfl)
                  · replace hq : ((((r32)).toInt < 97 ∨ 122 < ((r32)).toInt) ∧ (((r32)).toInt < 65 ∨ 90 < ((r32)).toInt)) := hq
                    refine lv_if_eq (tgt := 198) hx hb dX11_step_115 (by decide) (fun _ => ?_) (fun c9 => absurd c9 (by decide))
                    have xo1 := tkE_off (G := G) (n := (x_mm_taped).toInt) (a := (x27).toInt) (fun q9 => by omega)
                    have xo2 := tkG_off (G := G) (n := (x_mm_taped).toInt) (a := (x27).toInt) (fun q9 => by omega)
                    have xo3 := tkX_let (G := G) (n := (x_mm_taped).toInt) (a := (x1).toInt) (by omega)
                    have xo4 := tkE_gt (G := G) (n := (x_mm_taped).toInt) (a := (x1).toInt) (by omega) (by omega) (by omega) (by omega)
                    refine lv_aload_n hx hb dX11_step_198 rfl (lv_at hl 0 rfl) ?_
                    refine lv_iload_n hx hb dX11_step_199 rfl (lv_at hl 2 rfl) ?_
                    refine lv_if_eq (tgt := 221) hx hb dX11_step_200 (by decide) (fun c95 => ?_) (fun c95 => ?_)
                    · have kc95 := (cv_eq (rfl : (x26).toInt = (x26).toInt) (by decide : (0 : Int32).toInt = 0)).mp c95
                      refine lv_aload_n hx hb dX11_step_221 rfl (lv_at hl 0 rfl) ?_
                      refine va_get (D := (dC, dI)) (ci := 8) (v := .int x27) (C := RX11) (T := TX11) (N := 71) hx hb hw iwX11 hown hK hP 1 rfl rfl 15 (by decide) (hw _ w_f_X11_74) (fun _ h9 => h9) rfl dX11_step_222 ?_
                      refine lv_aload_n hx hb dX11_step_225 rfl (lv_at hl 0 rfl) ?_
                      refine va_get (D := (dC, dI)) (ci := 8) (v := .int x1) (C := RX11) (T := TX11) (N := 71) hx hb hw iwX11 hown hK hP 1 rfl rfl 16 (by decide) (hw _ w_f_X11_68) (fun _ h9 => h9) rfl dX11_step_226 ?_
                      refine lv_isub hx hb dX11_step_229 ?_
                      refine lv_topi (fun z96 ez96 => ?_)
                      have tz96 : (z96).toInt = (x27).toInt - (x1).toInt := by rw [ez96]; exact i_sub rfl rfl (by omega)
                      refine lv_iconst (v := 1) hx hb dX11_step_230 (by decide) ?_
                      refine lv_icmp_ne (tgt := 238) hx hb dX11_step_231 (by decide) (fun c97 => ?_) (fun c97 => ?_)
                      · have kc97 := (not_congr (cv_eq (rfl : (z96).toInt = (z96).toInt) (by decide : (1 : Int32).toInt = 1))).mp c97
                        have tt9 := tkT_bad (G := G) (n := (x_mm_taped).toInt) (a := (x1).toInt) (by omega) (by omega) (by omega) (by omega)
                        have kk9 : kd (tkT G (x_mm_taped).toInt (x1).toInt) = 4 := by rw [tt9]; decide
                        refine lv_iconst (v := 4) hx hb dX11_step_238 (by decide) ?_
                        refine va_put (D := (dC, dI)) (ci := 8) (v := .int 4) (ty := tyX11 17) (C := RX11) (T := TX11) (N := 71) hx hb hw iwX11 tyX11 tyX11_ok nmX11 hown hK hP hD hS 1 rfl rfl 17 (by decide) (hw _ w_f_X11_87) (fun _ h9 => h9) rfl (tyX11_ok 17 (by decide)) rfl rfl (Nat.le_of_ble_eq_true rfl) dX11_step_239 (fun H locs hP9 hD9 hS9 => ?_)
                        clear hP hD hS
                        have hP : va_P (dC, dI) cls [(h_tap, .inl (cy_tap, 600, .inl f_tap)), (h_mm, .inr (8, (mo89 v_mm (.ref h_tap) (.int x_mm_taped) (.int x27) (.int x1) (.int 4) (.int r19) (.long x28))))] H := hP9
                        have hD : va_D A [(h_tap, .inl (cy_tap, 600, .inl f_tap)), (h_mm, .inr (8, (mo89 v_mm (.ref h_tap) (.int x_mm_taped) (.int x27) (.int x1) (.int 4) (.int r19) (.long x28))))] := hD9
                        have hS := hS9
                        clear hP9 hD9 hS9
                        replace hP : va_P (dC, dI) cls [(h_mm, .inr (8, (mo89 v_mm (.ref h_tap) (.int x_mm_taped) (.int x27) (.int x1) (.int 4) (.int r19) (.long x28)))), (h_tap, .inl (cy_tap, 600, .inl f_tap))] H := hP.sub [1, 0] rfl
                        replace hD : va_D A [(h_mm, .inr (8, (mo89 v_mm (.ref h_tap) (.int x_mm_taped) (.int x27) (.int x1) (.int 4) (.int r19) (.long x28)))), (h_tap, .inl (cy_tap, 600, .inl f_tap))] := hD.sub [1, 0] (by decide) rfl
                        refine W.widen (k := 0) (n := 0) (Nat.le_of_ble_eq_true rfl) (Nat.le_of_ble_eq_true rfl) ?_
                        have cst4 : (4 : Int32).toInt = 4 := by decide
                        have w98 : 0 ≤ ((x27)).toInt ∧ ((x27)).toInt ≤ 600 := by first | exact klp29_1 | omega
                        have w99 : 0 ≤ ((x1)).toInt ∧ ((x1)).toInt ≤ 600 := by first | exact klp2_0 | omega
                        have w100 : 0 ≤ ((4 : Int32)).toInt ∧ ((4 : Int32)).toInt ≤ 4 := by omega
                        have w101 : (x_mm_at).toInt ≤ ((x1)).toInt := by first | exact klp2_1 | omega
                        have w102 : ((x1)).toInt ≤ ((x27)).toInt := by first | exact klp29_2 | omega
                        have w103 : ((x1)).toInt = tkS G (x_mm_taped).toInt (x_mm_at).toInt := by omega
                        have w104 : ((4 : Int32)).toInt = kd (tkT G (x_mm_taped).toInt ((x1)).toInt) := by omega
                        have w105 : ((4 : Int32)).toInt = 0 ∨ (((x27)).toInt = tkX G (x_mm_taped).toInt ((x1)).toInt ∧ ((r19)).toInt = G ((x1)).toInt ∧ ((x1)).toInt < (x_mm_taped).toInt ∧ ((x1)).toInt + 1 ≤ ((x27)).toInt) := by omega
                        have w106 : ((x27)).toInt ≤ (x_mm_taped).toInt := by first | exact klp29_3 | omega
                        have w107 : ((x1)).toInt ≤ (x_mm_taped).toInt := by first | exact klp2_2 | omega
                        have w108 : NMK ((4 : Int32)).toInt ((x28)).toInt (NMI 27 G (x_mm_taped).toInt ((x1)).toInt) := (nmk_no (by decide))
                        exact W.vret hx hb hr (fun t ht hW => ⟨⟨(x27, x1, 4, r19, x28), rfl, ⟨w98, w99, w100, w101, w102, w103, w104, w105, w106, w107, w108⟩, by rw [ht]; exact hP, hD⟩, hS.F ht⟩) hS.2.2 dX11_step_242
                      · have kc97 := (cv_eq (rfl : (z96).toInt = (z96).toInt) (by decide : (1 : Int32).toInt = 1)).mp c97
                        have tt9 := tkT_var (G := G) (n := (x_mm_taped).toInt) (a := (x1).toInt) (by omega) (by omega) (by omega) (by omega)
                        have kk9 : kd (tkT G (x_mm_taped).toInt (x1).toInt) = 2 := by rw [tt9]; decide
                        refine lv_iconst (v := 2) hx hb dX11_step_234 (by decide) ?_
                        refine lv_goto (tgt := 239) hx hb dX11_step_235 (by decide) ?_
                        refine va_put (D := (dC, dI)) (ci := 8) (v := .int 2) (ty := tyX11 17) (C := RX11) (T := TX11) (N := 71) hx hb hw iwX11 tyX11 tyX11_ok nmX11 hown hK hP hD hS 1 rfl rfl 17 (by decide) (hw _ w_f_X11_87) (fun _ h9 => h9) rfl (tyX11_ok 17 (by decide)) rfl rfl (Nat.le_of_ble_eq_true rfl) dX11_step_239 (fun H locs hP9 hD9 hS9 => ?_)
                        clear hP hD hS
                        have hP : va_P (dC, dI) cls [(h_tap, .inl (cy_tap, 600, .inl f_tap)), (h_mm, .inr (8, (mo89 v_mm (.ref h_tap) (.int x_mm_taped) (.int x27) (.int x1) (.int 2) (.int r19) (.long x28))))] H := hP9
                        have hD : va_D A [(h_tap, .inl (cy_tap, 600, .inl f_tap)), (h_mm, .inr (8, (mo89 v_mm (.ref h_tap) (.int x_mm_taped) (.int x27) (.int x1) (.int 2) (.int r19) (.long x28))))] := hD9
                        have hS := hS9
                        clear hP9 hD9 hS9
                        replace hP : va_P (dC, dI) cls [(h_mm, .inr (8, (mo89 v_mm (.ref h_tap) (.int x_mm_taped) (.int x27) (.int x1) (.int 2) (.int r19) (.long x28)))), (h_tap, .inl (cy_tap, 600, .inl f_tap))] H := hP.sub [1, 0] rfl
                        replace hD : va_D A [(h_mm, .inr (8, (mo89 v_mm (.ref h_tap) (.int x_mm_taped) (.int x27) (.int x1) (.int 2) (.int r19) (.long x28)))), (h_tap, .inl (cy_tap, 600, .inl f_tap))] := hD.sub [1, 0] (by decide) rfl
                        refine W.widen (k := 0) (n := 0) (Nat.le_of_ble_eq_true rfl) (Nat.le_of_ble_eq_true rfl) ?_
                        have cst2 : (2 : Int32).toInt = 2 := by decide
                        have w109 : 0 ≤ ((x27)).toInt ∧ ((x27)).toInt ≤ 600 := by first | exact klp29_1 | omega
                        have w110 : 0 ≤ ((x1)).toInt ∧ ((x1)).toInt ≤ 600 := by first | exact klp2_0 | omega
                        have w111 : 0 ≤ ((2 : Int32)).toInt ∧ ((2 : Int32)).toInt ≤ 4 := by omega
                        have w112 : (x_mm_at).toInt ≤ ((x1)).toInt := by first | exact klp2_1 | omega
                        have w113 : ((x1)).toInt ≤ ((x27)).toInt := by first | exact klp29_2 | omega
                        have w114 : ((x1)).toInt = tkS G (x_mm_taped).toInt (x_mm_at).toInt := by omega
                        have w115 : ((2 : Int32)).toInt = kd (tkT G (x_mm_taped).toInt ((x1)).toInt) := by omega
                        have w116 : ((2 : Int32)).toInt = 0 ∨ (((x27)).toInt = tkX G (x_mm_taped).toInt ((x1)).toInt ∧ ((r19)).toInt = G ((x1)).toInt ∧ ((x1)).toInt < (x_mm_taped).toInt ∧ ((x1)).toInt + 1 ≤ ((x27)).toInt) := by omega
                        have w117 : ((x27)).toInt ≤ (x_mm_taped).toInt := by first | exact klp29_3 | omega
                        have w118 : ((x1)).toInt ≤ (x_mm_taped).toInt := by first | exact klp2_2 | omega
                        have w119 : NMK ((2 : Int32)).toInt ((x28)).toInt (NMI 27 G (x_mm_taped).toInt ((x1)).toInt) := (nmk_no (by decide))
                        exact W.vret hx hb hr (fun t ht hW => ⟨⟨(x27, x1, 2, r19, x28), rfl, ⟨w109, w110, w111, w112, w113, w114, w115, w116, w117, w118, w119⟩, by rw [ht]; exact hP, hD⟩, hS.F ht⟩) hS.2.2 dX11_step_242
                    · have kc95 := (not_congr (cv_eq (rfl : (x26).toInt = (x26).toInt) (by decide : (0 : Int32).toInt = 0))).mp c95
                      refine lv_aload_n hx hb dX11_step_203 rfl (lv_at hl 0 rfl) ?_
                      refine va_get (D := (dC, dI)) (ci := 8) (v := .int x27) (C := RX11) (T := TX11) (N := 71) hx hb hw iwX11 hown hK hP 1 rfl rfl 15 (by decide) (hw _ w_f_X11_74) (fun _ h9 => h9) rfl dX11_step_204 ?_
                      refine lv_aload_n hx hb dX11_step_207 rfl (lv_at hl 0 rfl) ?_
                      refine va_get (D := (dC, dI)) (ci := 8) (v := .int x1) (C := RX11) (T := TX11) (N := 71) hx hb hw iwX11 hown hK hP 1 rfl rfl 16 (by decide) (hw _ w_f_X11_68) (fun _ h9 => h9) rfl dX11_step_208 ?_
                      refine lv_isub hx hb dX11_step_211 ?_
                      refine lv_topi (fun z120 ez120 => ?_)
                      have tz120 : (z120).toInt = (x27).toInt - (x1).toInt := by rw [ez120]; exact i_sub rfl rfl (by omega)
                      refine lv_bipush (v := 8) hx hb dX11_step_212 (by decide) ?_
                      refine lv_icmp_gt (tgt := 221) hx hb dX11_step_214 (by decide) (fun c121 => ?_) (fun c121 => ?_)
                      · have kc121 := (cv_lt (by decide : (8 : Int32).toInt = 8) (rfl : (z120).toInt = (z120).toInt)).mp c121
                        refine lv_aload_n hx hb dX11_step_221 rfl (lv_at hl 0 rfl) ?_
                        refine va_get (D := (dC, dI)) (ci := 8) (v := .int x27) (C := RX11) (T := TX11) (N := 71) hx hb hw iwX11 hown hK hP 1 rfl rfl 15 (by decide) (hw _ w_f_X11_74) (fun _ h9 => h9) rfl dX11_step_222 ?_
                        refine lv_aload_n hx hb dX11_step_225 rfl (lv_at hl 0 rfl) ?_
                        refine va_get (D := (dC, dI)) (ci := 8) (v := .int x1) (C := RX11) (T := TX11) (N := 71) hx hb hw iwX11 hown hK hP 1 rfl rfl 16 (by decide) (hw _ w_f_X11_68) (fun _ h9 => h9) rfl dX11_step_226 ?_
                        refine lv_isub hx hb dX11_step_229 ?_
                        refine lv_topi (fun z122 ez122 => ?_)
                        have qz122 : (z122).toInt = (z120).toInt := by rw [ez122, ez120]
                        have tz122 : (z122).toInt = (x27).toInt - (x1).toInt := by rw [ez122]; exact i_sub rfl rfl (by omega)
                        refine lv_iconst (v := 1) hx hb dX11_step_230 (by decide) ?_
                        refine lv_icmp_ne (tgt := 238) hx hb dX11_step_231 (by decide) (fun c123 => ?_) (fun c123 => ?_)
                        · have kc123 := (not_congr (cv_eq (rfl : (z122).toInt = (z122).toInt) (by decide : (1 : Int32).toInt = 1))).mp c123
                          have tt9 := tkT_bad (G := G) (n := (x_mm_taped).toInt) (a := (x1).toInt) (by omega) (by omega) (by omega) (by omega)
                          have kk9 : kd (tkT G (x_mm_taped).toInt (x1).toInt) = 4 := by rw [tt9]; decide
                          refine lv_iconst (v := 4) hx hb dX11_step_238 (by decide) ?_
                          refine va_put (D := (dC, dI)) (ci := 8) (v := .int 4) (ty := tyX11 17) (C := RX11) (T := TX11) (N := 71) hx hb hw iwX11 tyX11 tyX11_ok nmX11 hown hK hP hD hS 1 rfl rfl 17 (by decide) (hw _ w_f_X11_87) (fun _ h9 => h9) rfl (tyX11_ok 17 (by decide)) rfl rfl (Nat.le_of_ble_eq_true rfl) dX11_step_239 (fun H locs hP9 hD9 hS9 => ?_)
                          clear hP hD hS
                          have hP : va_P (dC, dI) cls [(h_tap, .inl (cy_tap, 600, .inl f_tap)), (h_mm, .inr (8, (mo89 v_mm (.ref h_tap) (.int x_mm_taped) (.int x27) (.int x1) (.int 4) (.int r19) (.long x28))))] H := hP9
                          have hD : va_D A [(h_tap, .inl (cy_tap, 600, .inl f_tap)), (h_mm, .inr (8, (mo89 v_mm (.ref h_tap) (.int x_mm_taped) (.int x27) (.int x1) (.int 4) (.int r19) (.long x28))))] := hD9
                          have hS := hS9
                          clear hP9 hD9 hS9
                          replace hP : va_P (dC, dI) cls [(h_mm, .inr (8, (mo89 v_mm (.ref h_tap) (.int x_mm_taped) (.int x27) (.int x1) (.int 4) (.int r19) (.long x28)))), (h_tap, .inl (cy_tap, 600, .inl f_tap))] H := hP.sub [1, 0] rfl
                          replace hD : va_D A [(h_mm, .inr (8, (mo89 v_mm (.ref h_tap) (.int x_mm_taped) (.int x27) (.int x1) (.int 4) (.int r19) (.long x28)))), (h_tap, .inl (cy_tap, 600, .inl f_tap))] := hD.sub [1, 0] (by decide) rfl
                          refine W.widen (k := 0) (n := 0) (Nat.le_of_ble_eq_true rfl) (Nat.le_of_ble_eq_true rfl) ?_
                          have cst4 : (4 : Int32).toInt = 4 := by decide
                          have w124 : 0 ≤ ((x27)).toInt ∧ ((x27)).toInt ≤ 600 := by first | exact klp29_1 | omega
                          have w125 : 0 ≤ ((x1)).toInt ∧ ((x1)).toInt ≤ 600 := by first | exact klp2_0 | omega
                          have w126 : 0 ≤ ((4 : Int32)).toInt ∧ ((4 : Int32)).toInt ≤ 4 := by omega
                          have w127 : (x_mm_at).toInt ≤ ((x1)).toInt := by first | exact klp2_1 | omega
                          have w128 : ((x1)).toInt ≤ ((x27)).toInt := by first | exact klp29_2 | omega
                          have w129 : ((x1)).toInt = tkS G (x_mm_taped).toInt (x_mm_at).toInt := by omega
                          have w130 : ((4 : Int32)).toInt = kd (tkT G (x_mm_taped).toInt ((x1)).toInt) := by omega
                          have w131 : ((4 : Int32)).toInt = 0 ∨ (((x27)).toInt = tkX G (x_mm_taped).toInt ((x1)).toInt ∧ ((r19)).toInt = G ((x1)).toInt ∧ ((x1)).toInt < (x_mm_taped).toInt ∧ ((x1)).toInt + 1 ≤ ((x27)).toInt) := by omega
                          have w132 : ((x27)).toInt ≤ (x_mm_taped).toInt := by first | exact klp29_3 | omega
                          have w133 : ((x1)).toInt ≤ (x_mm_taped).toInt := by first | exact klp2_2 | omega
                          have w134 : NMK ((4 : Int32)).toInt ((x28)).toInt (NMI 27 G (x_mm_taped).toInt ((x1)).toInt) := (nmk_no (by decide))
                          exact W.vret hx hb hr (fun t ht hW => ⟨⟨(x27, x1, 4, r19, x28), rfl, ⟨w124, w125, w126, w127, w128, w129, w130, w131, w132, w133, w134⟩, by rw [ht]; exact hP, hD⟩, hS.F ht⟩) hS.2.2 dX11_step_242
                        · have kc123 := (cv_eq (rfl : (z122).toInt = (z122).toInt) (by decide : (1 : Int32).toInt = 1)).mp c123
                          have tt9 := tkT_var (G := G) (n := (x_mm_taped).toInt) (a := (x1).toInt) (by omega) (by omega) (by omega) (by omega)
                          have kk9 : kd (tkT G (x_mm_taped).toInt (x1).toInt) = 2 := by rw [tt9]; decide
                          refine lv_iconst (v := 2) hx hb dX11_step_234 (by decide) ?_
                          refine lv_goto (tgt := 239) hx hb dX11_step_235 (by decide) ?_
                          refine va_put (D := (dC, dI)) (ci := 8) (v := .int 2) (ty := tyX11 17) (C := RX11) (T := TX11) (N := 71) hx hb hw iwX11 tyX11 tyX11_ok nmX11 hown hK hP hD hS 1 rfl rfl 17 (by decide) (hw _ w_f_X11_87) (fun _ h9 => h9) rfl (tyX11_ok 17 (by decide)) rfl rfl (Nat.le_of_ble_eq_true rfl) dX11_step_239 (fun H locs hP9 hD9 hS9 => ?_)
                          clear hP hD hS
                          have hP : va_P (dC, dI) cls [(h_tap, .inl (cy_tap, 600, .inl f_tap)), (h_mm, .inr (8, (mo89 v_mm (.ref h_tap) (.int x_mm_taped) (.int x27) (.int x1) (.int 2) (.int r19) (.long x28))))] H := hP9
                          have hD : va_D A [(h_tap, .inl (cy_tap, 600, .inl f_tap)), (h_mm, .inr (8, (mo89 v_mm (.ref h_tap) (.int x_mm_taped) (.int x27) (.int x1) (.int 2) (.int r19) (.long x28))))] := hD9
                          have hS := hS9
                          clear hP9 hD9 hS9
                          replace hP : va_P (dC, dI) cls [(h_mm, .inr (8, (mo89 v_mm (.ref h_tap) (.int x_mm_taped) (.int x27) (.int x1) (.int 2) (.int r19) (.long x28)))), (h_tap, .inl (cy_tap, 600, .inl f_tap))] H := hP.sub [1, 0] rfl
                          replace hD : va_D A [(h_mm, .inr (8, (mo89 v_mm (.ref h_tap) (.int x_mm_taped) (.int x27) (.int x1) (.int 2) (.int r19) (.long x28)))), (h_tap, .inl (cy_tap, 600, .inl f_tap))] := hD.sub [1, 0] (by decide) rfl
                          refine W.widen (k := 0) (n := 0) (Nat.le_of_ble_eq_true rfl) (Nat.le_of_ble_eq_true rfl) ?_
                          have cst2 : (2 : Int32).toInt = 2 := by decide
                          have w135 : 0 ≤ ((x27)).toInt ∧ ((x27)).toInt ≤ 600 := by first | exact klp29_1 | omega
                          have w136 : 0 ≤ ((x1)).toInt ∧ ((x1)).toInt ≤ 600 := by first | exact klp2_0 | omega
                          have w137 : 0 ≤ ((2 : Int32)).toInt ∧ ((2 : Int32)).toInt ≤ 4 := by omega
                          have w138 : (x_mm_at).toInt ≤ ((x1)).toInt := by first | exact klp2_1 | omega
                          have w139 : ((x1)).toInt ≤ ((x27)).toInt := by first | exact klp29_2 | omega
                          have w140 : ((x1)).toInt = tkS G (x_mm_taped).toInt (x_mm_at).toInt := by omega
                          have w141 : ((2 : Int32)).toInt = kd (tkT G (x_mm_taped).toInt ((x1)).toInt) := by omega
                          have w142 : ((2 : Int32)).toInt = 0 ∨ (((x27)).toInt = tkX G (x_mm_taped).toInt ((x1)).toInt ∧ ((r19)).toInt = G ((x1)).toInt ∧ ((x1)).toInt < (x_mm_taped).toInt ∧ ((x1)).toInt + 1 ≤ ((x27)).toInt) := by omega
                          have w143 : ((x27)).toInt ≤ (x_mm_taped).toInt := by first | exact klp29_3 | omega
                          have w144 : ((x1)).toInt ≤ (x_mm_taped).toInt := by first | exact klp2_2 | omega
                          have w145 : NMK ((2 : Int32)).toInt ((x28)).toInt (NMI 27 G (x_mm_taped).toInt ((x1)).toInt) := (nmk_no (by decide))
                          exact W.vret hx hb hr (fun t ht hW => ⟨⟨(x27, x1, 2, r19, x28), rfl, ⟨w135, w136, w137, w138, w139, w140, w141, w142, w143, w144, w145⟩, by rw [ht]; exact hP, hD⟩, hS.F ht⟩) hS.2.2 dX11_step_242
                      · have kc121 := (not_congr (cv_lt (by decide : (8 : Int32).toInt = 8) (rfl : (z120).toInt = (z120).toInt))).mp c121
                        have tt9 := tkT_name (G := G) (n := (x_mm_taped).toInt) (a := (x1).toInt) (by omega) (by omega) (by omega) (by omega)
                        have kk9 : kd (tkT G (x_mm_taped).toInt (x1).toInt) = 1 := by rw [tt9]; decide
                        refine lv_iconst (v := 1) hx hb dX11_step_217 (by decide) ?_
                        refine lv_goto (tgt := 239) hx hb dX11_step_218 (by decide) ?_
                        refine va_put (D := (dC, dI)) (ci := 8) (v := .int 1) (ty := tyX11 17) (C := RX11) (T := TX11) (N := 71) hx hb hw iwX11 tyX11 tyX11_ok nmX11 hown hK hP hD hS 1 rfl rfl 17 (by decide) (hw _ w_f_X11_87) (fun _ h9 => h9) rfl (tyX11_ok 17 (by decide)) rfl rfl (Nat.le_of_ble_eq_true rfl) dX11_step_239 (fun H locs hP9 hD9 hS9 => ?_)
                        clear hP hD hS
                        have hP : va_P (dC, dI) cls [(h_tap, .inl (cy_tap, 600, .inl f_tap)), (h_mm, .inr (8, (mo89 v_mm (.ref h_tap) (.int x_mm_taped) (.int x27) (.int x1) (.int 1) (.int r19) (.long x28))))] H := hP9
                        have hD : va_D A [(h_tap, .inl (cy_tap, 600, .inl f_tap)), (h_mm, .inr (8, (mo89 v_mm (.ref h_tap) (.int x_mm_taped) (.int x27) (.int x1) (.int 1) (.int r19) (.long x28))))] := hD9
                        have hS := hS9
                        clear hP9 hD9 hS9
                        replace hP : va_P (dC, dI) cls [(h_mm, .inr (8, (mo89 v_mm (.ref h_tap) (.int x_mm_taped) (.int x27) (.int x1) (.int 1) (.int r19) (.long x28)))), (h_tap, .inl (cy_tap, 600, .inl f_tap))] H := hP.sub [1, 0] rfl
                        replace hD : va_D A [(h_mm, .inr (8, (mo89 v_mm (.ref h_tap) (.int x_mm_taped) (.int x27) (.int x1) (.int 1) (.int r19) (.long x28)))), (h_tap, .inl (cy_tap, 600, .inl f_tap))] := hD.sub [1, 0] (by decide) rfl
                        refine W.widen (k := 0) (n := 0) (Nat.le_of_ble_eq_true rfl) (Nat.le_of_ble_eq_true rfl) ?_
                        have cst1 : (1 : Int32).toInt = 1 := by decide
                        have w146 : 0 ≤ ((x27)).toInt ∧ ((x27)).toInt ≤ 600 := by first | exact klp29_1 | omega
                        have w147 : 0 ≤ ((x1)).toInt ∧ ((x1)).toInt ≤ 600 := by first | exact klp2_0 | omega
                        have w148 : 0 ≤ ((1 : Int32)).toInt ∧ ((1 : Int32)).toInt ≤ 4 := by omega
                        have w149 : (x_mm_at).toInt ≤ ((x1)).toInt := by first | exact klp2_1 | omega
                        have w150 : ((x1)).toInt ≤ ((x27)).toInt := by first | exact klp29_2 | omega
                        have w151 : ((x1)).toInt = tkS G (x_mm_taped).toInt (x_mm_at).toInt := by omega
                        have w152 : ((1 : Int32)).toInt = kd (tkT G (x_mm_taped).toInt ((x1)).toInt) := by omega
                        have w153 : ((1 : Int32)).toInt = 0 ∨ (((x27)).toInt = tkX G (x_mm_taped).toInt ((x1)).toInt ∧ ((r19)).toInt = G ((x1)).toInt ∧ ((x1)).toInt < (x_mm_taped).toInt ∧ ((x1)).toInt + 1 ≤ ((x27)).toInt) := by omega
                        have w154 : ((x27)).toInt ≤ (x_mm_taped).toInt := by first | exact klp29_3 | omega
                        have w155 : ((x1)).toInt ≤ (x_mm_taped).toInt := by first | exact klp2_2 | omega
                        have w156 : NMK ((1 : Int32)).toInt ((x28)).toInt (NMI 27 G (x_mm_taped).toInt ((x1)).toInt) := (nmk_end klp29_9 (by omega) (by omega) (by omega))
                        exact W.vret hx hb hr (fun t ht hW => ⟨⟨(x27, x1, 1, r19, x28), rfl, ⟨w146, w147, w148, w149, w150, w151, w152, w153, w154, w155, w156⟩, by rw [ht]; exact hP, hD⟩, hS.F ht⟩) hS.2.2 dX11_step_242
              have cst0 : (0 : Int32).toInt = 0 := by decide
              have cst1 : (1 : Int32).toInt = 1 := by decide
              exact lp29 _ (1) (x1) (0) _ _ _ (by decide) (by first | exact klp2_0 | omega) (by omega) (by first | exact klp2_2 | omega) (by omega) (by omega) (by omega) (by omega) (by omega) (nmw_zero rfl (by decide)) (Nat.le_refl _) hP hD hS (lv_sub hl [2, 1, 0] rfl)
            · replace hq : ((((r19)).toInt < 97 ∨ 122 < ((r19)).toInt) ∧ (((r19)).toInt < 65 ∨ 90 < ((r19)).toInt)) := hq
              refine lv_if_ne (tgt := 101) hx hb dX11_step_82 (by decide) (fun c9 => absurd c9 (by decide)) (fun _ => ?_)
              have ts9 := tkT_sign (G := G) (n := (x_mm_taped).toInt) (a := (x1).toInt) (by omega) (by omega)
              have tx9 := tkX_sign (G := G) (n := (x_mm_taped).toInt) (a := (x1).toInt) (by omega)
              have gr9 := hn_tapq.1 (x1).toInt
              have kk9 : kd (tkT G (x_mm_taped).toInt (x1).toInt) = 3 := kd_sign (by omega)
              refine lv_aload_n hx hb dX11_step_85 rfl (lv_at hl 1 rfl) ?_
              refine lv_iconst (v := 3) hx hb dX11_step_86 (by decide) ?_
              refine va_put (D := (dC, dI)) (ci := 8) (v := .int 3) (ty := tyX11 17) (C := RX11) (T := TX11) (N := 71) hx hb hw iwX11 tyX11 tyX11_ok nmX11 hown hK hP hD hS 1 rfl rfl 17 (by decide) (hw _ w_f_X11_87) (fun _ h9 => h9) rfl (tyX11_ok 17 (by decide)) rfl rfl (Nat.le_of_ble_eq_true rfl) dX11_step_87 (fun H locs hP9 hD9 hS9 => ?_)
              clear hP hD hS
              have hP : va_P (dC, dI) cls [(h_tap, .inl (cy_tap, 600, .inl f_tap)), (h_mm, .inr (8, (mo89 v_mm (.ref h_tap) (.int x_mm_taped) (.int x1) (.int x1) (.int 3) (.int r19) (.long 0))))] H := hP9
              have hD : va_D A [(h_tap, .inl (cy_tap, 600, .inl f_tap)), (h_mm, .inr (8, (mo89 v_mm (.ref h_tap) (.int x_mm_taped) (.int x1) (.int x1) (.int 3) (.int r19) (.long 0))))] := hD9
              have hS := hS9
              clear hP9 hD9 hS9
              refine lv_aload_n hx hb dX11_step_90 rfl (lv_at hl 1 rfl) ?_
              refine lv_aload_n hx hb dX11_step_91 rfl (lv_at hl 1 rfl) ?_
              refine va_get (D := (dC, dI)) (ci := 8) (v := .int x1) (C := RX11) (T := TX11) (N := 71) hx hb hw iwX11 hown hK hP 1 rfl rfl 15 (by decide) (hw _ w_f_X11_74) (fun _ h9 => h9) rfl dX11_step_92 ?_
              refine lv_iconst (v := 1) hx hb dX11_step_95 (by decide) ?_
              refine lv_iadd hx hb dX11_step_96 ?_
              refine lv_topi (fun z157 ez157 => ?_)
              have tz157 : (z157).toInt = (x1).toInt + 1 := by rw [ez157]; exact i_add rfl (by decide) (by omega)
              refine va_put (D := (dC, dI)) (ci := 8) (v := .int z157) (ty := tyX11 15) (C := RX11) (T := TX11) (N := 71) hx hb hw iwX11 tyX11 tyX11_ok nmX11 hown hK hP hD hS 1 rfl rfl 15 (by decide) (hw _ w_f_X11_74) (fun _ h9 => h9) rfl (tyX11_ok 15 (by decide)) rfl rfl (Nat.le_of_ble_eq_true rfl) dX11_step_97 (fun H locs hP9 hD9 hS9 => ?_)
              clear hP hD hS
              have hP : va_P (dC, dI) cls [(h_tap, .inl (cy_tap, 600, .inl f_tap)), (h_mm, .inr (8, (mo89 v_mm (.ref h_tap) (.int x_mm_taped) (.int z157) (.int x1) (.int 3) (.int r19) (.long 0))))] H := hP9
              have hD : va_D A [(h_tap, .inl (cy_tap, 600, .inl f_tap)), (h_mm, .inr (8, (mo89 v_mm (.ref h_tap) (.int x_mm_taped) (.int z157) (.int x1) (.int 3) (.int r19) (.long 0))))] := hD9
              have hS := hS9
              clear hP9 hD9 hS9
              replace hP : va_P (dC, dI) cls [(h_mm, .inr (8, (mo89 v_mm (.ref h_tap) (.int x_mm_taped) (.int z157) (.int x1) (.int 3) (.int r19) (.long 0)))), (h_tap, .inl (cy_tap, 600, .inl f_tap))] H := hP.sub [1, 0] rfl
              replace hD : va_D A [(h_mm, .inr (8, (mo89 v_mm (.ref h_tap) (.int x_mm_taped) (.int z157) (.int x1) (.int 3) (.int r19) (.long 0)))), (h_tap, .inl (cy_tap, 600, .inl f_tap))] := hD.sub [1, 0] (by decide) rfl
              refine W.widen (k := 0) (n := 0) (Nat.le_of_ble_eq_true rfl) (Nat.le_of_ble_eq_true rfl) ?_
              have cst3 : (3 : Int32).toInt = 3 := by decide
              have w158 : 0 ≤ ((z157)).toInt ∧ ((z157)).toInt ≤ 600 := by omega
              have w159 : 0 ≤ ((x1)).toInt ∧ ((x1)).toInt ≤ 600 := by first | exact klp2_0 | omega
              have w160 : 0 ≤ ((3 : Int32)).toInt ∧ ((3 : Int32)).toInt ≤ 4 := by omega
              have w161 : (x_mm_at).toInt ≤ ((x1)).toInt := by first | exact klp2_1 | omega
              have w162 : ((x1)).toInt ≤ ((z157)).toInt := by omega
              have w163 : ((x1)).toInt = tkS G (x_mm_taped).toInt (x_mm_at).toInt := by omega
              have w164 : ((3 : Int32)).toInt = kd (tkT G (x_mm_taped).toInt ((x1)).toInt) := by omega
              have w165 : ((3 : Int32)).toInt = 0 ∨ (((z157)).toInt = tkX G (x_mm_taped).toInt ((x1)).toInt ∧ ((r19)).toInt = G ((x1)).toInt ∧ ((x1)).toInt < (x_mm_taped).toInt ∧ ((x1)).toInt + 1 ≤ ((z157)).toInt) := by omega
              have w166 : ((z157)).toInt ≤ (x_mm_taped).toInt := by omega
              have w167 : ((x1)).toInt ≤ (x_mm_taped).toInt := by first | exact klp2_2 | omega
              have w168 : NMK ((3 : Int32)).toInt ((0 : Int32)).toInt (NMI 27 G (x_mm_taped).toInt ((x1)).toInt) := (nmk_no (by decide))
              exact W.vret hx hb hr (fun t ht hW => ⟨⟨(z157, x1, 3, r19, 0), rfl, ⟨w158, w159, w160, w161, w162, w163, w164, w165, w166, w167, w168⟩, by rw [ht]; exact hP, hD⟩, hS.F ht⟩) hS.2.2 dX11_step_100
          · have kc23 := (cv_eq (rfl : (r19).toInt = (r19).toInt) (by decide : ((-1) : Int32).toInt = -1)).mp c23
            have gg9 := hn_tapq.1 (x1).toInt
            have te9 := tkT_end (G := G) (n := (x_mm_taped).toInt) (a := (x1).toInt) (by omega)
            have kk9 : kd (tkT G (x_mm_taped).toInt (x1).toInt) = 0 := by rw [te9]; decide
            refine lv_aload_n hx hb dX11_step_71 rfl (lv_at hl 1 rfl) ?_
            refine lv_iconst (v := 0) hx hb dX11_step_72 (by decide) ?_
            refine va_put (D := (dC, dI)) (ci := 8) (v := .int 0) (ty := tyX11 17) (C := RX11) (T := TX11) (N := 71) hx hb hw iwX11 tyX11 tyX11_ok nmX11 hown hK hP hD hS 0 rfl rfl 17 (by decide) (hw _ w_f_X11_87) (fun _ h9 => h9) rfl (tyX11_ok 17 (by decide)) rfl rfl (Nat.le_of_ble_eq_true rfl) dX11_step_73 (fun H locs hP9 hD9 hS9 => ?_)
            clear hP hD hS
            have hP : va_P (dC, dI) cls [(h_mm, .inr (8, (mo89 v_mm (.ref h_tap) (.int x_mm_taped) (.int x1) (.int x1) (.int 0) (.int r19) (.long 0)))), (h_tap, .inl (cy_tap, 600, .inl f_tap))] H := hP9
            have hD : va_D A [(h_mm, .inr (8, (mo89 v_mm (.ref h_tap) (.int x_mm_taped) (.int x1) (.int x1) (.int 0) (.int r19) (.long 0)))), (h_tap, .inl (cy_tap, 600, .inl f_tap))] := hD9
            have hS := hS9
            clear hP9 hD9 hS9
            refine W.widen (k := 0) (n := 0) (Nat.le_of_ble_eq_true rfl) (Nat.le_of_ble_eq_true rfl) ?_
            have cst0 : (0 : Int32).toInt = 0 := by decide
            have w169 : 0 ≤ ((x1)).toInt ∧ ((x1)).toInt ≤ 600 := by first | exact klp2_0 | omega
            have w170 : 0 ≤ ((x1)).toInt ∧ ((x1)).toInt ≤ 600 := by first | exact klp2_0 | omega
            have w171 : 0 ≤ ((0 : Int32)).toInt ∧ ((0 : Int32)).toInt ≤ 4 := by omega
            have w172 : (x_mm_at).toInt ≤ ((x1)).toInt := by first | exact klp2_1 | omega
            have w173 : ((x1)).toInt ≤ ((x1)).toInt := by omega
            have w174 : ((x1)).toInt = tkS G (x_mm_taped).toInt (x_mm_at).toInt := by omega
            have w175 : ((0 : Int32)).toInt = kd (tkT G (x_mm_taped).toInt ((x1)).toInt) := by omega
            have w176 : ((0 : Int32)).toInt = 0 ∨ (((x1)).toInt = tkX G (x_mm_taped).toInt ((x1)).toInt ∧ ((r19)).toInt = G ((x1)).toInt ∧ ((x1)).toInt < (x_mm_taped).toInt ∧ ((x1)).toInt + 1 ≤ ((x1)).toInt) := by omega
            have w177 : ((x1)).toInt ≤ (x_mm_taped).toInt := by first | exact klp2_2 | omega
            have w178 : ((x1)).toInt ≤ (x_mm_taped).toInt := by first | exact klp2_2 | omega
            have w179 : NMK ((0 : Int32)).toInt ((0 : Int32)).toInt (NMI 27 G (x_mm_taped).toInt ((x1)).toInt) := (nmk_no (by decide))
            exact W.vret hx hb hr (fun t ht hW => ⟨⟨(x1, x1, 0, r19, 0), rfl, ⟨w169, w170, w171, w172, w173, w174, w175, w176, w177, w178, w179⟩, by rw [ht]; exact hP, hD⟩, hS.F ht⟩) hS.2.2 dX11_step_76
        · have kc17 := (cv_eq (rfl : (r13).toInt = (r13).toInt) (by decide : (10 : Int32).toInt = 10)).mp c17
          refine lv_aload_n hx hb dX11_step_26 rfl (lv_at hl 0 rfl) ?_
          refine lv_aload_n hx hb dX11_step_27 rfl (lv_at hl 0 rfl) ?_
          refine va_get (D := (dC, dI)) (ci := 8) (v := .int x1) (C := RX11) (T := TX11) (N := 71) hx hb hw iwX11 hown hK hP 0 rfl rfl 15 (by decide) (hw _ w_f_X11_74) (fun _ h9 => h9) rfl dX11_step_28 ?_
          refine lv_iconst (v := 1) hx hb dX11_step_31 (by decide) ?_
          refine lv_iadd hx hb dX11_step_32 ?_
          refine lv_topi (fun z180 ez180 => ?_)
          have tz180 : (z180).toInt = (x1).toInt + 1 := by rw [ez180]; exact i_add rfl (by decide) (by omega)
          refine va_put (D := (dC, dI)) (ci := 8) (v := .int z180) (ty := tyX11 15) (C := RX11) (T := TX11) (N := 71) hx hb hw iwX11 tyX11 tyX11_ok nmX11 hown hK hP hD hS 0 rfl rfl 15 (by decide) (hw _ w_f_X11_74) (fun _ h9 => h9) rfl (tyX11_ok 15 (by decide)) rfl rfl (Nat.le_of_ble_eq_true rfl) dX11_step_33 (fun H locs hP9 hD9 hS9 => ?_)
          clear hP hD hS
          have hP : va_P (dC, dI) cls [(h_mm, .inr (8, (mo89 v_mm (.ref h_tap) (.int x_mm_taped) (.int z180) (.int x_mm_place) (.int x_mm_kind) (.int x_mm_sign) (.long x_mm_name)))), (h_tap, .inl (cy_tap, 600, .inl f_tap))] H := hP9
          have hD : va_D A [(h_mm, .inr (8, (mo89 v_mm (.ref h_tap) (.int x_mm_taped) (.int z180) (.int x_mm_place) (.int x_mm_kind) (.int x_mm_sign) (.long x_mm_name)))), (h_tap, .inl (cy_tap, 600, .inl f_tap))] := hD9
          have hS := hS9
          clear hP9 hD9 hS9
          have sk181 : tkS G (x_mm_taped).toInt (z180).toInt = tkS G (x_mm_taped).toInt (x_mm_at).toInt := by rw [tz180]; exact (tkS_on (a := (x1).toInt) (by omega) (by omega) (by omega) (by omega)).trans klp2_3
          refine lv_goto (tgt := 0) hx hb dX11_step_36 (by decide) ?_
          exact ih3 (z180) _ _ _ (by omega) (by omega) (by omega) sk181 (by omega) hP hD hS (lv_sub hl [0] rfl)
  exact lp2 _ (x_mm_at) _ _ _ (by first | exact hx_mm_at | omega) (by omega) (by first | exact q0 | omega) rfl (Nat.le_refl _) hP hD hS (lv_sub hl [0] rfl)

set_option maxHeartbeats 8000000 in
set_option maxRecDepth 100000 in
theorem c_X11_faulty (l : Launch) (dC : Nat → ClassId) (dI : Nat → Nat → Nat) (sz : Nat) (h_mm : Nat) (v_mm : Nat → Value) (x_mm_place : Int32) (x_mm_isFaulty : Int32) (x_mm_fault : Int32) (x_mm_faultPlace : Int32) (p1 : Int32) (hx_mm_place : 0 ≤ (x_mm_place).toInt ∧ (x_mm_place).toInt ≤ 600) (hx_mm_isFaulty : 0 ≤ (x_mm_isFaulty).toInt ∧ (x_mm_isFaulty).toInt ≤ 1) : Met l yX11_faulty (Ws yX11_faulty cX11_faulty 2 none) (({ frames := 0, cells := 0, slots := 0, locals := 0 } : Room)) (PRE (dC, dI) cls [] [(h_mm, .inr (8, (mo90 v_mm (.int x_mm_place) (.int x_mm_isFaulty) (.int x_mm_fault) (.int x_mm_faultPlace))))] sz [.ref h_mm, .int p1]) (va_Qv (fun (u : (Int32) × (Int32) × (Int32)) => (0 ≤ (u.1).toInt ∧ (u.1).toInt ≤ 1) ∧ ((u.1).toInt = 1) ∧ (((x_mm_isFaulty).toInt = 1 ∧ (u.2.1).toInt = (x_mm_fault).toInt ∧ (u.2.2).toInt = (x_mm_faultPlace).toInt) ∨ ((x_mm_isFaulty).toInt = 0 ∧ (u.2.1).toInt = (p1).toInt ∧ (u.2.2).toInt = (x_mm_place).toInt))) (fun (u : (Int32) × (Int32) × (Int32)) (t : State) => va_P (dC, dI) cls [(h_mm, .inr (8, (mo90 v_mm (.int x_mm_place) (.int u.1) (.int u.2.1) (.int u.2.2))))] t.heap ∧ va_D (va_A [(h_mm, .inr (8, (mo90 v_mm (.int x_mm_place) (.int x_mm_isFaulty) (.int x_mm_fault) (.int x_mm_faultPlace))))] sz) [(h_mm, .inr (8, (mo90 v_mm (.int x_mm_place) (.int u.1) (.int u.2.1) (.int u.2.2))))]) (va_A [(h_mm, .inr (8, (mo90 v_mm (.int x_mm_place) (.int x_mm_isFaulty) (.int x_mm_fault) (.int x_mm_faultPlace))))] sz)) 0 0 (va_A [(h_mm, .inr (8, (mo90 v_mm (.int x_mm_place) (.int x_mm_isFaulty) (.int x_mm_fault) (.int x_mm_faultPlace))))] sz) := by
  refine Met.ofW (cc := cX11_faulty) (maxL := 2) (ret := none) (by decide) rfl ?_
  intro p e s m args below meth c s₁ B hml hv
  obtain ⟨rfl, hsz, hP, hK, hD0, hN⟩ := hv
  have hx := B.exec
  have hb := B.bytes
  have hr := B.returns
  have hts := atoms_spec (ws := Ws yX11_faulty cX11_faulty 2 none) B.pre
  have hT : ∀ w ∈ WALL, w ∈ Ws yX11_faulty cX11_faulty 2 none := fun w h => List.mem_cons_of_mem _ h
  have hw := fun w (h : w ∈ WALL) => hts w (hT w h)
  have hown : s.vm.findClass RX11 = some m.cls := findClass_of_methodNamed B.named
  have hlocks := B.notSynchronized
  subst hsz
  have hD := hD0.self (sz := s.heap.size)
  generalize hAe : va_A [(h_mm, .inr (8, (mo90 v_mm (.int x_mm_place) (.int x_mm_isFaulty) (.int x_mm_fault) (.int x_mm_faultPlace))))] s.heap.size = A at hD ⊢
  have hA : ∀ q : Nat, s.heap.size ≤ q → A q := fun q h => by rw [← hAe]; exact Or.inr h
  have hS : va_S A s.heap s.heap [] := va_S.rf
  have hl := lv_entry ([.ref h_mm, .int p1]) (n := 2) (Nat.le_of_ble_eq_true rfl)
  rw [lg_entry_eq]
  generalize (lg_sl ([.ref h_mm, .int p1]) ++ List.replicate (2 - (lg_sl ([.ref h_mm, .int p1])).length) Slot.unset).toArray = ls at hl ⊢
  have hl : lv_has ls 2 [(0, .ref h_mm), (1, .int p1)] := hl
  refine lv_aload_n hx hb dX11_faulty_0 rfl (lv_at hl 0 rfl) ?_
  refine va_get (D := (dC, dI)) (ci := 8) (v := .int x_mm_isFaulty) (C := RX11) (T := TX11) (N := 71) hx hb hw iwX11 hown hK hP 0 rfl rfl 20 (by decide) (hw _ w_f_X11_61) (fun _ h9 => h9) rfl dX11_faulty_1 ?_
  refine lv_if_eq (tgt := 8) hx hb dX11_faulty_4 (by decide) (fun c1 => ?_) (fun c1 => ?_)
  · have kc1 := (cv_eq (rfl : (x_mm_isFaulty).toInt = (x_mm_isFaulty).toInt) (by decide : (0 : Int32).toInt = 0)).mp c1
    refine lv_aload_n hx hb dX11_faulty_8 rfl (lv_at hl 0 rfl) ?_
    refine lv_iconst (v := 1) hx hb dX11_faulty_9 (by decide) ?_
    refine va_put (D := (dC, dI)) (ci := 8) (v := .int 1) (ty := tyX11 20) (C := RX11) (T := TX11) (N := 71) hx hb hw iwX11 tyX11 tyX11_ok nmX11 hown hK hP hD hS 0 rfl rfl 20 (by decide) (hw _ w_f_X11_61) (fun _ h9 => h9) rfl (tyX11_ok 20 (by decide)) rfl rfl (Nat.le_of_ble_eq_true rfl) dX11_faulty_10 (fun H locs hP9 hD9 hS9 => ?_)
    clear hP hD hS
    have hP : va_P (dC, dI) cls [(h_mm, .inr (8, (mo90 v_mm (.int x_mm_place) (.int 1) (.int x_mm_fault) (.int x_mm_faultPlace))))] H := hP9
    have hD : va_D A [(h_mm, .inr (8, (mo90 v_mm (.int x_mm_place) (.int 1) (.int x_mm_fault) (.int x_mm_faultPlace))))] := hD9
    have hS := hS9
    clear hP9 hD9 hS9
    refine lv_aload_n hx hb dX11_faulty_13 rfl (lv_at hl 0 rfl) ?_
    refine lv_iload_n hx hb dX11_faulty_14 rfl (lv_at hl 1 rfl) ?_
    refine va_put (D := (dC, dI)) (ci := 8) (v := .int p1) (ty := tyX11 21) (C := RX11) (T := TX11) (N := 71) hx hb hw iwX11 tyX11 tyX11_ok nmX11 hown hK hP hD hS 0 rfl rfl 21 (by decide) (hw _ w_f_X11_65) (fun _ h9 => h9) rfl (tyX11_ok 21 (by decide)) rfl rfl (Nat.le_of_ble_eq_true rfl) dX11_faulty_15 (fun H locs hP9 hD9 hS9 => ?_)
    clear hP hD hS
    have hP : va_P (dC, dI) cls [(h_mm, .inr (8, (mo90 v_mm (.int x_mm_place) (.int 1) (.int p1) (.int x_mm_faultPlace))))] H := hP9
    have hD : va_D A [(h_mm, .inr (8, (mo90 v_mm (.int x_mm_place) (.int 1) (.int p1) (.int x_mm_faultPlace))))] := hD9
    have hS := hS9
    clear hP9 hD9 hS9
    refine lv_aload_n hx hb dX11_faulty_18 rfl (lv_at hl 0 rfl) ?_
    refine lv_aload_n hx hb dX11_faulty_19 rfl (lv_at hl 0 rfl) ?_
    refine va_get (D := (dC, dI)) (ci := 8) (v := .int x_mm_place) (C := RX11) (T := TX11) (N := 71) hx hb hw iwX11 hown hK hP 0 rfl rfl 16 (by decide) (hw _ w_f_X11_68) (fun _ h9 => h9) rfl dX11_faulty_20 ?_
    refine va_put (D := (dC, dI)) (ci := 8) (v := .int x_mm_place) (ty := tyX11 22) (C := RX11) (T := TX11) (N := 71) hx hb hw iwX11 tyX11 tyX11_ok nmX11 hown hK hP hD hS 0 rfl rfl 22 (by decide) (hw _ w_f_X11_71) (fun _ h9 => h9) rfl (tyX11_ok 22 (by decide)) rfl rfl (Nat.le_of_ble_eq_true rfl) dX11_faulty_23 (fun H locs hP9 hD9 hS9 => ?_)
    clear hP hD hS
    have hP : va_P (dC, dI) cls [(h_mm, .inr (8, (mo90 v_mm (.int x_mm_place) (.int 1) (.int p1) (.int x_mm_place))))] H := hP9
    have hD : va_D A [(h_mm, .inr (8, (mo90 v_mm (.int x_mm_place) (.int 1) (.int p1) (.int x_mm_place))))] := hD9
    have hS := hS9
    clear hP9 hD9 hS9
    refine W.widen (k := 0) (n := 0) (Nat.le_of_ble_eq_true rfl) (Nat.le_of_ble_eq_true rfl) ?_
    have cst1 : (1 : Int32).toInt = 1 := by decide
    have w2 : 0 ≤ ((1 : Int32)).toInt ∧ ((1 : Int32)).toInt ≤ 1 := by omega
    have w3 : ((1 : Int32)).toInt = 1 := by omega
    have w4 : ((x_mm_isFaulty).toInt = 1 ∧ ((p1)).toInt = (x_mm_fault).toInt ∧ ((x_mm_place)).toInt = (x_mm_faultPlace).toInt) ∨ ((x_mm_isFaulty).toInt = 0 ∧ ((p1)).toInt = (p1).toInt ∧ ((x_mm_place)).toInt = (x_mm_place).toInt) := by omega
    exact W.vret hx hb hr (fun t ht hW => ⟨⟨(1, p1, x_mm_place), rfl, ⟨w2, w3, w4⟩, by rw [ht]; exact hP, hD⟩, hS.F ht⟩) hS.2.2 dX11_faulty_26
  · have kc1 := (not_congr (cv_eq (rfl : (x_mm_isFaulty).toInt = (x_mm_isFaulty).toInt) (by decide : (0 : Int32).toInt = 0))).mp c1
    refine W.widen (k := 0) (n := 0) (Nat.le_of_ble_eq_true rfl) (Nat.le_of_ble_eq_true rfl) ?_
    have w5 : 0 ≤ ((x_mm_isFaulty)).toInt ∧ ((x_mm_isFaulty)).toInt ≤ 1 := by first | exact hx_mm_isFaulty | omega
    have w6 : ((x_mm_isFaulty)).toInt = 1 := by omega
    have w7 : ((x_mm_isFaulty).toInt = 1 ∧ ((x_mm_fault)).toInt = (x_mm_fault).toInt ∧ ((x_mm_faultPlace)).toInt = (x_mm_faultPlace).toInt) ∨ ((x_mm_isFaulty).toInt = 0 ∧ ((x_mm_fault)).toInt = (p1).toInt ∧ ((x_mm_faultPlace)).toInt = (x_mm_place).toInt) := by omega
    exact W.vret hx hb hr (fun t ht hW => ⟨⟨(x_mm_isFaulty, x_mm_fault, x_mm_faultPlace), rfl, ⟨w5, w6, w7⟩, by rw [ht]; exact hP, hD⟩, hS.F ht⟩) hS.2.2 dX11_faulty_7

set_option maxHeartbeats 8000000 in
set_option maxRecDepth 100000 in
theorem c_X11_isSign (l : Launch) (dC : Nat → ClassId) (dI : Nat → Nat → Nat) (sz : Nat) (h_mm : Nat) (v_mm : Nat → Value) (x_mm_kind : Int32) (x_mm_sign : Int32) (x_mm_isFaulty : Int32) (p1 : Int32) (hx_mm_kind : 0 ≤ (x_mm_kind).toInt ∧ (x_mm_kind).toInt ≤ 4) (hx_mm_isFaulty : 0 ≤ (x_mm_isFaulty).toInt ∧ (x_mm_isFaulty).toInt ≤ 1) : Met l yX11_isSign (Ws yX11_isSign cX11_isSign 2 (some .boolean)) (({ frames := 0, cells := 0, slots := 0, locals := 0 } : Room)) (PRE (dC, dI) cls [] [(h_mm, .inr (8, (mo91 v_mm (.int x_mm_kind) (.int x_mm_sign) (.int x_mm_isFaulty))))] sz [.ref h_mm, .int p1]) (va_Qi (fun (r : Int32) (_ : Unit) => ((r = 1 ∧ ((x_mm_isFaulty).toInt = 0) ∧ ((x_mm_kind).toInt = 3) ∧ ((x_mm_sign).toInt = (p1).toInt)) ∨ (r = 0 ∧ ((x_mm_isFaulty).toInt = 1)) ∨ (r = 0 ∧ ((x_mm_isFaulty).toInt = 0) ∧ (¬ (x_mm_kind).toInt = 3 ∨ ¬ (x_mm_sign).toInt = (p1).toInt)))) (fun (_ : Unit) (t : State) => va_P (dC, dI) cls [(h_mm, .inr (8, (mo91 v_mm (.int x_mm_kind) (.int x_mm_sign) (.int x_mm_isFaulty))))] t.heap ∧ va_D (va_A [(h_mm, .inr (8, (mo91 v_mm (.int x_mm_kind) (.int x_mm_sign) (.int x_mm_isFaulty))))] sz) [(h_mm, .inr (8, (mo91 v_mm (.int x_mm_kind) (.int x_mm_sign) (.int x_mm_isFaulty))))]) (va_A [(h_mm, .inr (8, (mo91 v_mm (.int x_mm_kind) (.int x_mm_sign) (.int x_mm_isFaulty))))] sz)) 0 0 (va_A [(h_mm, .inr (8, (mo91 v_mm (.int x_mm_kind) (.int x_mm_sign) (.int x_mm_isFaulty))))] sz) := by
  refine Met.ofW (cc := cX11_isSign) (maxL := 2) (ret := (some .boolean)) (by decide) rfl ?_
  intro p e s m args below meth c s₁ B hml hv
  obtain ⟨rfl, hsz, hP, hK, hD0, hN⟩ := hv
  have hx := B.exec
  have hb := B.bytes
  have hr := B.returns
  have hts := atoms_spec (ws := Ws yX11_isSign cX11_isSign 2 (some .boolean)) B.pre
  have hT : ∀ w ∈ WALL, w ∈ Ws yX11_isSign cX11_isSign 2 (some .boolean) := fun w h => List.mem_cons_of_mem _ h
  have hw := fun w (h : w ∈ WALL) => hts w (hT w h)
  have hown : s.vm.findClass RX11 = some m.cls := findClass_of_methodNamed B.named
  have hlocks := B.notSynchronized
  subst hsz
  have hD := hD0.self (sz := s.heap.size)
  generalize hAe : va_A [(h_mm, .inr (8, (mo91 v_mm (.int x_mm_kind) (.int x_mm_sign) (.int x_mm_isFaulty))))] s.heap.size = A at hD ⊢
  have hA : ∀ q : Nat, s.heap.size ≤ q → A q := fun q h => by rw [← hAe]; exact Or.inr h
  have hS : va_S A s.heap s.heap [] := va_S.rf
  have hl := lv_entry ([.ref h_mm, .int p1]) (n := 2) (Nat.le_of_ble_eq_true rfl)
  rw [lg_entry_eq]
  generalize (lg_sl ([.ref h_mm, .int p1]) ++ List.replicate (2 - (lg_sl ([.ref h_mm, .int p1])).length) Slot.unset).toArray = ls at hl ⊢
  have hl : lv_has ls 2 [(0, .ref h_mm), (1, .int p1)] := hl
  refine lv_aload_n hx hb dX11_isSign_0 rfl (lv_at hl 0 rfl) ?_
  refine va_get (D := (dC, dI)) (ci := 8) (v := .int x_mm_isFaulty) (C := RX11) (T := TX11) (N := 71) hx hb hw iwX11 hown hK hP 0 rfl rfl 20 (by decide) (hw _ w_f_X11_61) (fun _ h9 => h9) rfl dX11_isSign_1 ?_
  refine lv_if_ne (tgt := 27) hx hb dX11_isSign_4 (by decide) (fun c1 => ?_) (fun c1 => ?_)
  · have kc1 := (not_congr (cv_eq (rfl : (x_mm_isFaulty).toInt = (x_mm_isFaulty).toInt) (by decide : (0 : Int32).toInt = 0))).mp c1
    refine lv_iconst (v := 0) hx hb dX11_isSign_27 (by decide) ?_
    refine W.widen (k := 0) (n := 0) (Nat.le_of_ble_eq_true rfl) (Nat.le_of_ble_eq_true rfl) ?_
    have cst0 : (0 : Int32).toInt = 0 := by decide
    have : (x_mm_isFaulty).toInt = 1 := by omega
    exact W.zret (v := 0) (ty := .boolean) hx hb hr (by decide) (fun t ht hW => ⟨⟨0, (), rfl, (Or.inr (Or.inl (⟨rfl, by assumption⟩))), by rw [ht]; exact hP, hD⟩, hS.F ht⟩) hS.2.2 dX11_isSign_28
  · have kc1 := (cv_eq (rfl : (x_mm_isFaulty).toInt = (x_mm_isFaulty).toInt) (by decide : (0 : Int32).toInt = 0)).mp c1
    refine lv_aload_n hx hb dX11_isSign_7 rfl (lv_at hl 0 rfl) ?_
    refine va_get (D := (dC, dI)) (ci := 8) (v := .int x_mm_kind) (C := RX11) (T := TX11) (N := 71) hx hb hw iwX11 hown hK hP 0 rfl rfl 17 (by decide) (hw _ w_f_X11_87) (fun _ h9 => h9) rfl dX11_isSign_8 ?_
    refine lv_iconst (v := 3) hx hb dX11_isSign_11 (by decide) ?_
    refine lv_icmp_ne (tgt := 27) hx hb dX11_isSign_12 (by decide) (fun c3 => ?_) (fun c3 => ?_)
    · have kc3 := (not_congr (cv_eq (rfl : (x_mm_kind).toInt = (x_mm_kind).toInt) (by decide : (3 : Int32).toInt = 3))).mp c3
      refine lv_iconst (v := 0) hx hb dX11_isSign_27 (by decide) ?_
      refine W.widen (k := 0) (n := 0) (Nat.le_of_ble_eq_true rfl) (Nat.le_of_ble_eq_true rfl) ?_
      have cst0 : (0 : Int32).toInt = 0 := by decide
      have : (x_mm_isFaulty).toInt = 0 := by omega
      have : ¬ (x_mm_kind).toInt = 3 ∨ ¬ (x_mm_sign).toInt = (p1).toInt := by omega
      exact W.zret (v := 0) (ty := .boolean) hx hb hr (by decide) (fun t ht hW => ⟨⟨0, (), rfl, (Or.inr (Or.inr (⟨rfl, by assumption, by assumption⟩))), by rw [ht]; exact hP, hD⟩, hS.F ht⟩) hS.2.2 dX11_isSign_28
    · have kc3 := (cv_eq (rfl : (x_mm_kind).toInt = (x_mm_kind).toInt) (by decide : (3 : Int32).toInt = 3)).mp c3
      refine lv_aload_n hx hb dX11_isSign_15 rfl (lv_at hl 0 rfl) ?_
      refine va_get (D := (dC, dI)) (ci := 8) (v := .int x_mm_sign) (C := RX11) (T := TX11) (N := 71) hx hb hw iwX11 hown hK hP 0 rfl rfl 18 (by decide) (hw _ w_f_X11_80) (fun _ h9 => h9) rfl dX11_isSign_16 ?_
      refine lv_iload_n hx hb dX11_isSign_19 rfl (lv_at hl 1 rfl) ?_
      refine lv_icmp_ne (tgt := 27) hx hb dX11_isSign_20 (by decide) (fun c5 => ?_) (fun c5 => ?_)
      · have kc5 := (not_congr (cv_eq (rfl : (x_mm_sign).toInt = (x_mm_sign).toInt) (rfl : (p1).toInt = (p1).toInt))).mp c5
        refine lv_iconst (v := 0) hx hb dX11_isSign_27 (by decide) ?_
        refine W.widen (k := 0) (n := 0) (Nat.le_of_ble_eq_true rfl) (Nat.le_of_ble_eq_true rfl) ?_
        have cst0 : (0 : Int32).toInt = 0 := by decide
        have : (x_mm_isFaulty).toInt = 0 := by omega
        have : ¬ (x_mm_kind).toInt = 3 ∨ ¬ (x_mm_sign).toInt = (p1).toInt := by omega
        exact W.zret (v := 0) (ty := .boolean) hx hb hr (by decide) (fun t ht hW => ⟨⟨0, (), rfl, (Or.inr (Or.inr (⟨rfl, by assumption, by assumption⟩))), by rw [ht]; exact hP, hD⟩, hS.F ht⟩) hS.2.2 dX11_isSign_28
      · have kc5 := (cv_eq (rfl : (x_mm_sign).toInt = (x_mm_sign).toInt) (rfl : (p1).toInt = (p1).toInt)).mp c5
        refine lv_iconst (v := 1) hx hb dX11_isSign_23 (by decide) ?_
        refine lv_goto (tgt := 28) hx hb dX11_isSign_24 (by decide) ?_
        refine W.widen (k := 0) (n := 0) (Nat.le_of_ble_eq_true rfl) (Nat.le_of_ble_eq_true rfl) ?_
        have cst1 : (1 : Int32).toInt = 1 := by decide
        have : (x_mm_isFaulty).toInt = 0 := by omega
        have : (x_mm_kind).toInt = 3 := by omega
        have : (x_mm_sign).toInt = (p1).toInt := by omega
        exact W.zret (v := 1) (ty := .boolean) hx hb hr (by decide) (fun t ht hW => ⟨⟨1, (), rfl, (Or.inl (⟨rfl, by assumption, by assumption, by assumption⟩)), by rw [ht]; exact hP, hD⟩, hS.F ht⟩) hS.2.2 dX11_isSign_28

set_option maxHeartbeats 8000000 in
set_option maxRecDepth 100000 in
theorem c_X11_passes (l : Launch) (dC : Nat → ClassId) (dI : Nat → Nat → Nat) (sz : Nat) (h_mm : Nat) (h_tap : Nat) (v_mm : Nat → Value) (x_mm_taped : Int32) (x_mm_at : Int32) (x_mm_place : Int32) (x_mm_kind : Int32) (x_mm_sign : Int32) (x_mm_name : Int64) (x_mm_isFaulty : Int32) (cy_tap : ClassId) (f_tap : Nat → Int32) (p1 : Int32) (G : Int → Int) (hx_mm_taped : 0 ≤ (x_mm_taped).toInt ∧ (x_mm_taped).toInt ≤ 600) (hx_mm_at : 0 ≤ (x_mm_at).toInt ∧ (x_mm_at).toInt ≤ 600) (hx_mm_place : 0 ≤ (x_mm_place).toInt ∧ (x_mm_place).toInt ≤ 600) (hx_mm_kind : 0 ≤ (x_mm_kind).toInt ∧ (x_mm_kind).toInt ≤ 4) (hx_mm_isFaulty : 0 ≤ (x_mm_isFaulty).toInt ∧ (x_mm_isFaulty).toInt ≤ 1) (q0 : (x_mm_place).toInt ≤ (x_mm_at).toInt) (q1 : 0 ≤ (x_mm_at).toInt) (q2 : 0 ≤ (p1).toInt ∧ (p1).toInt ≤ 255) (q3 : (x_mm_kind).toInt = kd (tkT G (x_mm_taped).toInt (x_mm_place).toInt)) (q4 : (x_mm_kind).toInt = 0 ∨ ((x_mm_at).toInt = tkX G (x_mm_taped).toInt (x_mm_place).toInt ∧ (x_mm_sign).toInt = G (x_mm_place).toInt ∧ (x_mm_place).toInt < (x_mm_taped).toInt ∧ (x_mm_place).toInt + 1 ≤ (x_mm_at).toInt)) (q5 : (x_mm_at).toInt ≤ (x_mm_taped).toInt) (q6 : (x_mm_place).toInt ≤ (x_mm_taped).toInt) (hn_tapq : TAP G (x_mm_taped).toInt f_tap) (hn_nmk : NMK (x_mm_kind).toInt (x_mm_name).toInt (NMI 27 G (x_mm_taped).toInt (x_mm_place).toInt)) : Met l yX11_passes (Ws yX11_passes cX11_passes 2 (some .boolean)) (({ frames := 4, cells := 0, slots := 0, locals := 90 } : Room)) (PRE (dC, dI) cls [(cy_tap, .byte)] [(h_mm, .inr (8, (mo92 v_mm (.ref h_tap) (.int x_mm_taped) (.int x_mm_at) (.int x_mm_place) (.int x_mm_kind) (.int x_mm_sign) (.long x_mm_name) (.int x_mm_isFaulty)))), (h_tap, .inl (cy_tap, 600, .inl f_tap))] sz [.ref h_mm, .int p1]) (va_Qi (fun (r : Int32) (u : (Int32) × (Int32) × (Int32) × (Int32) × (Int64)) => (0 ≤ (u.1).toInt ∧ (u.1).toInt ≤ 600) ∧ (0 ≤ (u.2.1).toInt ∧ (u.2.1).toInt ≤ 600) ∧ (0 ≤ (u.2.2.1).toInt ∧ (u.2.2.1).toInt ≤ 4) ∧ ((u.2.1).toInt ≤ (u.1).toInt) ∧ ((u.2.2.1).toInt = kd (tkT G (x_mm_taped).toInt (u.2.1).toInt)) ∧ ((u.2.2.1).toInt = 0 ∨ ((u.1).toInt = tkX G (x_mm_taped).toInt (u.2.1).toInt ∧ (u.2.2.2.1).toInt = G (u.2.1).toInt ∧ (u.2.1).toInt < (x_mm_taped).toInt ∧ (u.2.1).toInt + 1 ≤ (u.1).toInt)) ∧ ((u.1).toInt ≤ (x_mm_taped).toInt) ∧ ((u.2.1).toInt ≤ (x_mm_taped).toInt) ∧ (NMK (u.2.2.1).toInt (u.2.2.2.2).toInt (NMI 27 G (x_mm_taped).toInt (u.2.1).toInt)) ∧ ((r = 1 ∧ ((x_mm_isFaulty).toInt = 0) ∧ (tkT G (x_mm_taped).toInt (x_mm_place).toInt = (p1).toInt) ∧ ((u.2.1).toInt = tkN G (x_mm_taped).toInt (x_mm_place).toInt) ∧ ((x_mm_at).toInt ≤ (u.2.1).toInt) ∧ ((x_mm_place).toInt + 1 ≤ (u.2.1).toInt)) ∨ (r = 0 ∧ ((u.2.1).toInt = (x_mm_place).toInt) ∧ ((u.1).toInt = (x_mm_at).toInt) ∧ ((u.2.2.1).toInt = (x_mm_kind).toInt) ∧ ((x_mm_isFaulty).toInt = 1)) ∨ (r = 0 ∧ ((u.2.1).toInt = (x_mm_place).toInt) ∧ ((u.1).toInt = (x_mm_at).toInt) ∧ ((u.2.2.1).toInt = (x_mm_kind).toInt) ∧ ((x_mm_isFaulty).toInt = 0) ∧ (¬ tkT G (x_mm_taped).toInt (x_mm_place).toInt = (p1).toInt)))) (fun (u : (Int32) × (Int32) × (Int32) × (Int32) × (Int64)) (t : State) => va_P (dC, dI) cls [(h_mm, .inr (8, (mo92 v_mm (.ref h_tap) (.int x_mm_taped) (.int u.1) (.int u.2.1) (.int u.2.2.1) (.int u.2.2.2.1) (.long u.2.2.2.2) (.int x_mm_isFaulty)))), (h_tap, .inl (cy_tap, 600, .inl f_tap))] t.heap ∧ va_D (va_A [(h_mm, .inr (8, (mo92 v_mm (.ref h_tap) (.int x_mm_taped) (.int x_mm_at) (.int x_mm_place) (.int x_mm_kind) (.int x_mm_sign) (.long x_mm_name) (.int x_mm_isFaulty)))), (h_tap, .inl (cy_tap, 600, .inl f_tap))] sz) [(h_mm, .inr (8, (mo92 v_mm (.ref h_tap) (.int x_mm_taped) (.int u.1) (.int u.2.1) (.int u.2.2.1) (.int u.2.2.2.1) (.long u.2.2.2.2) (.int x_mm_isFaulty)))), (h_tap, .inl (cy_tap, 600, .inl f_tap))]) (va_A [(h_mm, .inr (8, (mo92 v_mm (.ref h_tap) (.int x_mm_taped) (.int x_mm_at) (.int x_mm_place) (.int x_mm_kind) (.int x_mm_sign) (.long x_mm_name) (.int x_mm_isFaulty)))), (h_tap, .inl (cy_tap, 600, .inl f_tap))] sz)) 0 0 (va_A [(h_mm, .inr (8, (mo92 v_mm (.ref h_tap) (.int x_mm_taped) (.int x_mm_at) (.int x_mm_place) (.int x_mm_kind) (.int x_mm_sign) (.long x_mm_name) (.int x_mm_isFaulty)))), (h_tap, .inl (cy_tap, 600, .inl f_tap))] sz) := by
  refine Met.ofW (cc := cX11_passes) (maxL := 2) (ret := (some .boolean)) (by decide) rfl ?_
  intro p e s m args below meth c s₁ B hml hv
  obtain ⟨rfl, hsz, hP, hK, hD0, hN⟩ := hv
  have hx := B.exec
  have hb := B.bytes
  have hr := B.returns
  have hts := atoms_spec (ws := Ws yX11_passes cX11_passes 2 (some .boolean)) B.pre
  have hT : ∀ w ∈ WALL, w ∈ Ws yX11_passes cX11_passes 2 (some .boolean) := fun w h => List.mem_cons_of_mem _ h
  have hw := fun w (h : w ∈ WALL) => hts w (hT w h)
  have hown : s.vm.findClass RX11 = some m.cls := findClass_of_methodNamed B.named
  have hlocks := B.notSynchronized
  subst hsz
  have hD := hD0.self (sz := s.heap.size)
  generalize hAe : va_A [(h_mm, .inr (8, (mo92 v_mm (.ref h_tap) (.int x_mm_taped) (.int x_mm_at) (.int x_mm_place) (.int x_mm_kind) (.int x_mm_sign) (.long x_mm_name) (.int x_mm_isFaulty)))), (h_tap, .inl (cy_tap, 600, .inl f_tap))] s.heap.size = A at hD ⊢
  have hA : ∀ q : Nat, s.heap.size ≤ q → A q := fun q h => by rw [← hAe]; exact Or.inr h
  have hS : va_S A s.heap s.heap [] := va_S.rf
  have hl := lv_entry ([.ref h_mm, .int p1]) (n := 2) (Nat.le_of_ble_eq_true rfl)
  rw [lg_entry_eq]
  generalize (lg_sl ([.ref h_mm, .int p1]) ++ List.replicate (2 - (lg_sl ([.ref h_mm, .int p1])).length) Slot.unset).toArray = ls at hl ⊢
  have hl : lv_has ls 2 [(0, .ref h_mm), (1, .int p1)] := hl
  have to9 := tk_or hn_tapq.1 (x_mm_taped).toInt (x_mm_place).toInt
  refine lv_aload_n hx hb dX11_passes_0 rfl (lv_at hl 0 rfl) ?_
  refine lv_iload_n hx hb dX11_passes_1 rfl (lv_at hl 1 rfl) ?_
  obtain ⟨vq1, evq1⟩ := mq92_91 v_mm (.ref h_tap) (.int x_mm_taped) (.int x_mm_at) (.int x_mm_place) (.long x_mm_name)
  replace hP : va_P (dC, dI) cls [(h_mm, .inr (8, (mo91 vq1 (.int x_mm_kind) (.int x_mm_sign) (.int x_mm_isFaulty)))), (h_tap, .inl (cy_tap, 600, .inl f_tap))] s.heap := by rw [evq1]; exact hP
  replace hD : va_D A [(h_mm, .inr (8, (mo91 vq1 (.int x_mm_kind) (.int x_mm_sign) (.int x_mm_isFaulty)))), (h_tap, .inl (cy_tap, 600, .inl f_tap))] := by rw [evq1]; exact hD
  have hPc := hP.sub (ws' := [(h_mm, .inr (8, (mo91 vq1 (.int x_mm_kind) (.int x_mm_sign) (.int x_mm_isFaulty))))]) [0] rfl
  have hDc := hD.sub (ws' := [(h_mm, .inr (8, (mo91 vq1 (.int x_mm_kind) (.int x_mm_sign) (.int x_mm_isFaulty))))]) [0] (by decide) rfl
  have hKc := hK.sub (tys' := []) [] rfl
  have hFc := va_free (wc := [(h_mm, .inr (8, (mo91 vq1 (.int x_mm_kind) (.int x_mm_sign) (.int x_mm_isFaulty))))]) hD hS hA [0] rfl
  refine va_calli (va_runV (As := [.int p1]) (rest := []) ⟨hx, hb, hml, hown, hts⟩ (c_X11_isSign l dC dI s.heap.size h_mm vq1 x_mm_kind x_mm_sign x_mm_isFaulty p1 (by first | exact hx_mm_kind | omega) (by first | exact hx_mm_isFaulty | omega)) (cwV 1 hts (gv hT w_m_X11_95 w_instanceMethod_X11_isSign ws_sel_X11_isSign w_ini_X11 w_code_X11_isSign) rfl rfl rfl (by decide +kernel) ⟨(Nat.le_of_ble_eq_true rfl), (Nat.le_of_ble_eq_true rfl)⟩) ⟨pre_blind, va_recv hK hP (ci := 8) (q0 := 0) rfl rfl, pre_of hPc hKc hDc hN⟩ rfl rfl hl.1 rfl (lv_room (Nat.le_of_ble_eq_true rfl)) dX11_passes_2 ⟨(Nat.le_of_ble_eq_true rfl), (Nat.le_of_ble_eq_true rfl)⟩) hS (fun q _ h => hFc q h) hFc (fun r2 u t H locs ht hvm hq hB hz1 hk1 hS9 => ?_)
  obtain ⟨hP1, hD1⟩ := hB
  rw [ht] at hP1
  obtain ⟨hP9, hD9⟩ := va_join (wr := [(h_tap, .inl (cy_tap, 600, .inl f_tap))]) (w1 := [(h_mm, .inr (8, (mo91 vq1 (.int x_mm_kind) (.int x_mm_sign) (.int x_mm_isFaulty))))]) hP hD [0] [1] rfl rfl (by decide) (by decide) hk1 hFc hP1 hD1
  clear hP hD hS hPc hDc hKc hFc hP1 hD1 hk1 hz1 ht hvm
  have hP : va_P (dC, dI) cls [(h_tap, .inl (cy_tap, 600, .inl f_tap)), (h_mm, .inr (8, (mo91 vq1 (.int x_mm_kind) (.int x_mm_sign) (.int x_mm_isFaulty))))] H := hP9
  have hD : va_D A [(h_tap, .inl (cy_tap, 600, .inl f_tap)), (h_mm, .inr (8, (mo91 vq1 (.int x_mm_kind) (.int x_mm_sign) (.int x_mm_isFaulty))))] := hD9
  have hS := hS9
  clear hP9 hD9 hS9
  rw [evq1] at hP hD
  replace hP : va_P (dC, dI) cls [(h_tap, .inl (cy_tap, 600, .inl f_tap)), (h_mm, .inr (8, (mo92 v_mm (.ref h_tap) (.int x_mm_taped) (.int x_mm_at) (.int x_mm_place) (.int x_mm_kind) (.int x_mm_sign) (.long x_mm_name) (.int x_mm_isFaulty))))] H := hP
  replace hD : va_D A [(h_tap, .inl (cy_tap, 600, .inl f_tap)), (h_mm, .inr (8, (mo92 v_mm (.ref h_tap) (.int x_mm_taped) (.int x_mm_at) (.int x_mm_place) (.int x_mm_kind) (.int x_mm_sign) (.long x_mm_name) (.int x_mm_isFaulty))))] := hD
  clear evq1 
  rcases hq with ⟨rfl, hq⟩ | ⟨rfl, hq⟩ | ⟨rfl, hq⟩
  · replace hq : (((x_mm_isFaulty)).toInt = 0) ∧ (((x_mm_kind)).toInt = 3) ∧ (((x_mm_sign)).toInt = ((p1)).toInt) := hq
    refine lv_if_ne (tgt := 10) hx hb dX11_passes_5 (by decide) (fun _ => ?_) (fun c9 => absurd c9 (by decide))
    refine lv_aload_n hx hb dX11_passes_10 rfl (lv_at hl 0 rfl) ?_
    obtain ⟨vq3, evq3⟩ := mq92_89 v_mm (.int x_mm_isFaulty)
    replace hP : va_P (dC, dI) cls [(h_tap, .inl (cy_tap, 600, .inl f_tap)), (h_mm, .inr (8, (mo89 vq3 (.ref h_tap) (.int x_mm_taped) (.int x_mm_at) (.int x_mm_place) (.int x_mm_kind) (.int x_mm_sign) (.long x_mm_name))))] H := by rw [evq3]; exact hP
    replace hD : va_D A [(h_tap, .inl (cy_tap, 600, .inl f_tap)), (h_mm, .inr (8, (mo89 vq3 (.ref h_tap) (.int x_mm_taped) (.int x_mm_at) (.int x_mm_place) (.int x_mm_kind) (.int x_mm_sign) (.long x_mm_name))))] := by rw [evq3]; exact hD
    have hPc := hP.sub (ws' := [(h_mm, .inr (8, (mo89 vq3 (.ref h_tap) (.int x_mm_taped) (.int x_mm_at) (.int x_mm_place) (.int x_mm_kind) (.int x_mm_sign) (.long x_mm_name)))), (h_tap, .inl (cy_tap, 600, .inl f_tap))]) [1, 0] rfl
    have hDc := hD.sub (ws' := [(h_mm, .inr (8, (mo89 vq3 (.ref h_tap) (.int x_mm_taped) (.int x_mm_at) (.int x_mm_place) (.int x_mm_kind) (.int x_mm_sign) (.long x_mm_name)))), (h_tap, .inl (cy_tap, 600, .inl f_tap))]) [1, 0] (by decide) rfl
    have hKc := hK.sub (tys' := [(cy_tap, .byte)]) [0] rfl
    have hFc := va_free (wc := [(h_mm, .inr (8, (mo89 vq3 (.ref h_tap) (.int x_mm_taped) (.int x_mm_at) (.int x_mm_place) (.int x_mm_kind) (.int x_mm_sign) (.long x_mm_name)))), (h_tap, .inl (cy_tap, 600, .inl f_tap))]) hD hS hA [1, 0] rfl
    refine va_callv (va_runV (As := []) (rest := []) ⟨hx, hb, hml, hown, hts⟩ (c_X11_step l dC dI H.size h_mm h_tap vq3 x_mm_taped x_mm_at x_mm_place x_mm_kind x_mm_sign x_mm_name cy_tap f_tap G (by first | exact hx_mm_taped | omega) (by first | exact hx_mm_at | omega) (by first | exact hx_mm_place | omega) (by first | exact hx_mm_kind | omega) (by first | exact q5 | omega) hn_tapq) (cwV 0 hts (gv hT w_m_X11_98 w_instanceMethod_X11_step ws_sel_X11_step w_ini_X11 w_code_X11_step) rfl rfl rfl (by decide +kernel) ⟨(Nat.le_of_ble_eq_true rfl), (Nat.le_of_ble_eq_true rfl)⟩) ⟨pre_blind, va_recv hK hP (ci := 8) (q0 := 1) rfl rfl, pre_of hPc hKc hDc hN⟩ rfl rfl hl.1 rfl (lv_room (Nat.le_of_ble_eq_true rfl)) dX11_passes_11 ⟨(Nat.le_of_ble_eq_true rfl), (Nat.le_of_ble_eq_true rfl)⟩) hS (fun q _ h => hFc q h) hFc (fun u t H locs ht hvm hq hB hz1 hk1 hS9 => ?_)
    obtain ⟨z5, z6, z7, z8, z9⟩ := u
    obtain ⟨hP1, hD1⟩ := hB
    rw [ht] at hP1
    obtain ⟨hP9, hD9⟩ := va_join (wr := []) (w1 := [(h_mm, .inr (8, (mo89 vq3 (.ref h_tap) (.int x_mm_taped) (.int z5) (.int z6) (.int z7) (.int z8) (.long z9)))), (h_tap, .inl (cy_tap, 600, .inl f_tap))]) hP hD [1, 0] [] rfl rfl (by decide) (by decide) hk1 hFc hP1 hD1
    clear hP hD hS hPc hDc hKc hFc hP1 hD1 hk1 hz1 ht hvm
    have hP : va_P (dC, dI) cls [(h_mm, .inr (8, (mo89 vq3 (.ref h_tap) (.int x_mm_taped) (.int z5) (.int z6) (.int z7) (.int z8) (.long z9)))), (h_tap, .inl (cy_tap, 600, .inl f_tap))] H := hP9
    have hD : va_D A [(h_mm, .inr (8, (mo89 vq3 (.ref h_tap) (.int x_mm_taped) (.int z5) (.int z6) (.int z7) (.int z8) (.long z9)))), (h_tap, .inl (cy_tap, 600, .inl f_tap))] := hD9
    have hS := hS9
    clear hP9 hD9 hS9
    rw [evq3] at hP hD
    replace hP : va_P (dC, dI) cls [(h_mm, .inr (8, (mo92 v_mm (.ref h_tap) (.int x_mm_taped) (.int z5) (.int z6) (.int z7) (.int z8) (.long z9) (.int x_mm_isFaulty)))), (h_tap, .inl (cy_tap, 600, .inl f_tap))] H := hP
    replace hD : va_D A [(h_mm, .inr (8, (mo92 v_mm (.ref h_tap) (.int x_mm_taped) (.int z5) (.int z6) (.int z7) (.int z8) (.long z9) (.int x_mm_isFaulty)))), (h_tap, .inl (cy_tap, 600, .inl f_tap))] := hD
    clear evq3 
    obtain ⟨k10, k11, k12, k13, k14, k15, k16, k17, k18, k19, k20⟩ := hq
    replace k10 : 0 ≤ ((z5)).toInt ∧ ((z5)).toInt ≤ 600 := k10
    replace k11 : 0 ≤ ((z6)).toInt ∧ ((z6)).toInt ≤ 600 := k11
    replace k12 : 0 ≤ ((z7)).toInt ∧ ((z7)).toInt ≤ 4 := k12
    replace k13 : ((x_mm_at)).toInt ≤ ((z6)).toInt := k13
    replace k14 : ((z6)).toInt ≤ ((z5)).toInt := k14
    replace k15 : ((z6)).toInt = tkS (G) ((x_mm_taped)).toInt ((x_mm_at)).toInt := k15
    replace k16 : ((z7)).toInt = kd (tkT (G) ((x_mm_taped)).toInt ((z6)).toInt) := k16
    replace k17 : ((z7)).toInt = 0 ∨ (((z5)).toInt = tkX (G) ((x_mm_taped)).toInt ((z6)).toInt ∧ ((z8)).toInt = (G) ((z6)).toInt ∧ ((z6)).toInt < ((x_mm_taped)).toInt ∧ ((z6)).toInt + 1 ≤ ((z5)).toInt) := k17
    replace k18 : ((z5)).toInt ≤ ((x_mm_taped)).toInt := k18
    replace k19 : ((z6)).toInt ≤ ((x_mm_taped)).toInt := k19
    replace k20 : NMK ((z7)).toInt ((z9)).toInt (NMI 27 (G) ((x_mm_taped)).toInt ((z6)).toInt) := k20
    have ax9 : (x_mm_at).toInt = tkX G (x_mm_taped).toInt (x_mm_place).toInt := by omega
    have tn9 : (z6).toInt = tkN G (x_mm_taped).toInt (x_mm_place).toInt := by rw [k15, ax9]; rfl
    refine lv_iconst (v := 1) hx hb dX11_passes_14 (by decide) ?_
    refine W.widen (k := 0) (n := 0) (Nat.le_of_ble_eq_true rfl) (Nat.le_of_ble_eq_true rfl) ?_
    have cst1 : (1 : Int32).toInt = 1 := by decide
    have w21 : 0 ≤ ((z5)).toInt ∧ ((z5)).toInt ≤ 600 := by first | exact k10 | omega
    have w22 : 0 ≤ ((z6)).toInt ∧ ((z6)).toInt ≤ 600 := by first | exact k11 | omega
    have w23 : 0 ≤ ((z7)).toInt ∧ ((z7)).toInt ≤ 4 := by first | exact k12 | omega
    have w24 : ((z6)).toInt ≤ ((z5)).toInt := by first | exact k14 | omega
    have w25 : ((z7)).toInt = kd (tkT G (x_mm_taped).toInt ((z6)).toInt) := by first | exact k16 | omega
    have w26 : ((z7)).toInt = 0 ∨ (((z5)).toInt = tkX G (x_mm_taped).toInt ((z6)).toInt ∧ ((z8)).toInt = G ((z6)).toInt ∧ ((z6)).toInt < (x_mm_taped).toInt ∧ ((z6)).toInt + 1 ≤ ((z5)).toInt) := by first | exact k17 | omega
    have w27 : ((z5)).toInt ≤ (x_mm_taped).toInt := by first | exact k18 | omega
    have w28 : ((z6)).toInt ≤ (x_mm_taped).toInt := by first | exact k19 | omega
    have w29 : NMK ((z7)).toInt ((z9)).toInt (NMI 27 G (x_mm_taped).toInt ((z6)).toInt) := k20
    have : (x_mm_isFaulty).toInt = 0 := by omega
    have : tkT G (x_mm_taped).toInt (x_mm_place).toInt = (p1).toInt := by omega
    have : ((z6)).toInt = tkN G (x_mm_taped).toInt (x_mm_place).toInt := by omega
    have : (x_mm_at).toInt ≤ ((z6)).toInt := by omega
    have : (x_mm_place).toInt + 1 ≤ ((z6)).toInt := by omega
    exact W.zret (v := 1) (ty := .boolean) hx hb hr (by decide) (fun t ht hW => ⟨⟨1, (z5, z6, z7, z8, z9), rfl, ⟨w21, w22, w23, w24, w25, w26, w27, w28, w29, (Or.inl (⟨rfl, by assumption, by assumption, by assumption, by assumption, by assumption⟩))⟩, by rw [ht]; exact hP, hD⟩, hS.F ht⟩) hS.2.2 dX11_passes_15
  · replace hq : (((x_mm_isFaulty)).toInt = 1) := hq
    refine lv_if_ne (tgt := 10) hx hb dX11_passes_5 (by decide) (fun c9 => absurd c9 (by decide)) (fun _ => ?_)
    refine lv_iconst (v := 0) hx hb dX11_passes_8 (by decide) ?_
    replace hP : va_P (dC, dI) cls [(h_mm, .inr (8, (mo92 v_mm (.ref h_tap) (.int x_mm_taped) (.int x_mm_at) (.int x_mm_place) (.int x_mm_kind) (.int x_mm_sign) (.long x_mm_name) (.int x_mm_isFaulty)))), (h_tap, .inl (cy_tap, 600, .inl f_tap))] H := hP.sub [1, 0] rfl
    replace hD : va_D A [(h_mm, .inr (8, (mo92 v_mm (.ref h_tap) (.int x_mm_taped) (.int x_mm_at) (.int x_mm_place) (.int x_mm_kind) (.int x_mm_sign) (.long x_mm_name) (.int x_mm_isFaulty)))), (h_tap, .inl (cy_tap, 600, .inl f_tap))] := hD.sub [1, 0] (by decide) rfl
    refine W.widen (k := 0) (n := 0) (Nat.le_of_ble_eq_true rfl) (Nat.le_of_ble_eq_true rfl) ?_
    have cst0 : (0 : Int32).toInt = 0 := by decide
    have w31 : 0 ≤ ((x_mm_at)).toInt ∧ ((x_mm_at)).toInt ≤ 600 := by first | exact hx_mm_at | omega
    have w32 : 0 ≤ ((x_mm_place)).toInt ∧ ((x_mm_place)).toInt ≤ 600 := by first | exact hx_mm_place | omega
    have w33 : 0 ≤ ((x_mm_kind)).toInt ∧ ((x_mm_kind)).toInt ≤ 4 := by first | exact hx_mm_kind | omega
    have w34 : ((x_mm_place)).toInt ≤ ((x_mm_at)).toInt := by first | exact q0 | omega
    have w35 : ((x_mm_kind)).toInt = kd (tkT G (x_mm_taped).toInt ((x_mm_place)).toInt) := by first | exact q3 | omega
    have w36 : ((x_mm_kind)).toInt = 0 ∨ (((x_mm_at)).toInt = tkX G (x_mm_taped).toInt ((x_mm_place)).toInt ∧ ((x_mm_sign)).toInt = G ((x_mm_place)).toInt ∧ ((x_mm_place)).toInt < (x_mm_taped).toInt ∧ ((x_mm_place)).toInt + 1 ≤ ((x_mm_at)).toInt) := by first | exact q4 | omega
    have w37 : ((x_mm_at)).toInt ≤ (x_mm_taped).toInt := by first | exact q5 | omega
    have w38 : ((x_mm_place)).toInt ≤ (x_mm_taped).toInt := by first | exact q6 | omega
    have w39 : NMK ((x_mm_kind)).toInt ((x_mm_name)).toInt (NMI 27 G (x_mm_taped).toInt ((x_mm_place)).toInt) := hn_nmk
    have : ((x_mm_place)).toInt = (x_mm_place).toInt := by omega
    have : ((x_mm_at)).toInt = (x_mm_at).toInt := by omega
    have : ((x_mm_kind)).toInt = (x_mm_kind).toInt := by omega
    have : (x_mm_isFaulty).toInt = 1 := by omega
    exact W.zret (v := 0) (ty := .boolean) hx hb hr (by decide) (fun t ht hW => ⟨⟨0, (x_mm_at, x_mm_place, x_mm_kind, x_mm_sign, x_mm_name), rfl, ⟨w31, w32, w33, w34, w35, w36, w37, w38, w39, (Or.inr (Or.inl (⟨rfl, by assumption, by assumption, by assumption, by assumption⟩)))⟩, by rw [ht]; exact hP, hD⟩, hS.F ht⟩) hS.2.2 dX11_passes_9
  · replace hq : (((x_mm_isFaulty)).toInt = 0) ∧ (¬ ((x_mm_kind)).toInt = 3 ∨ ¬ ((x_mm_sign)).toInt = ((p1)).toInt) := hq
    refine lv_if_ne (tgt := 10) hx hb dX11_passes_5 (by decide) (fun c9 => absurd c9 (by decide)) (fun _ => ?_)
    refine lv_iconst (v := 0) hx hb dX11_passes_8 (by decide) ?_
    replace hP : va_P (dC, dI) cls [(h_mm, .inr (8, (mo92 v_mm (.ref h_tap) (.int x_mm_taped) (.int x_mm_at) (.int x_mm_place) (.int x_mm_kind) (.int x_mm_sign) (.long x_mm_name) (.int x_mm_isFaulty)))), (h_tap, .inl (cy_tap, 600, .inl f_tap))] H := hP.sub [1, 0] rfl
    replace hD : va_D A [(h_mm, .inr (8, (mo92 v_mm (.ref h_tap) (.int x_mm_taped) (.int x_mm_at) (.int x_mm_place) (.int x_mm_kind) (.int x_mm_sign) (.long x_mm_name) (.int x_mm_isFaulty)))), (h_tap, .inl (cy_tap, 600, .inl f_tap))] := hD.sub [1, 0] (by decide) rfl
    refine W.widen (k := 0) (n := 0) (Nat.le_of_ble_eq_true rfl) (Nat.le_of_ble_eq_true rfl) ?_
    have cst0 : (0 : Int32).toInt = 0 := by decide
    have w41 : 0 ≤ ((x_mm_at)).toInt ∧ ((x_mm_at)).toInt ≤ 600 := by first | exact hx_mm_at | omega
    have w42 : 0 ≤ ((x_mm_place)).toInt ∧ ((x_mm_place)).toInt ≤ 600 := by first | exact hx_mm_place | omega
    have w43 : 0 ≤ ((x_mm_kind)).toInt ∧ ((x_mm_kind)).toInt ≤ 4 := by first | exact hx_mm_kind | omega
    have w44 : ((x_mm_place)).toInt ≤ ((x_mm_at)).toInt := by first | exact q0 | omega
    have w45 : ((x_mm_kind)).toInt = kd (tkT G (x_mm_taped).toInt ((x_mm_place)).toInt) := by first | exact q3 | omega
    have w46 : ((x_mm_kind)).toInt = 0 ∨ (((x_mm_at)).toInt = tkX G (x_mm_taped).toInt ((x_mm_place)).toInt ∧ ((x_mm_sign)).toInt = G ((x_mm_place)).toInt ∧ ((x_mm_place)).toInt < (x_mm_taped).toInt ∧ ((x_mm_place)).toInt + 1 ≤ ((x_mm_at)).toInt) := by first | exact q4 | omega
    have w47 : ((x_mm_at)).toInt ≤ (x_mm_taped).toInt := by first | exact q5 | omega
    have w48 : ((x_mm_place)).toInt ≤ (x_mm_taped).toInt := by first | exact q6 | omega
    have w49 : NMK ((x_mm_kind)).toInt ((x_mm_name)).toInt (NMI 27 G (x_mm_taped).toInt ((x_mm_place)).toInt) := hn_nmk
    have : ((x_mm_place)).toInt = (x_mm_place).toInt := by omega
    have : ((x_mm_at)).toInt = (x_mm_at).toInt := by omega
    have : ((x_mm_kind)).toInt = (x_mm_kind).toInt := by omega
    have : (x_mm_isFaulty).toInt = 0 := by omega
    have : ¬ tkT G (x_mm_taped).toInt (x_mm_place).toInt = (p1).toInt := by omega
    exact W.zret (v := 0) (ty := .boolean) hx hb hr (by decide) (fun t ht hW => ⟨⟨0, (x_mm_at, x_mm_place, x_mm_kind, x_mm_sign, x_mm_name), rfl, ⟨w41, w42, w43, w44, w45, w46, w47, w48, w49, (Or.inr (Or.inr (⟨rfl, by assumption, by assumption, by assumption, by assumption, by assumption⟩)))⟩, by rw [ht]; exact hP, hD⟩, hS.F ht⟩) hS.2.2 dX11_passes_9

set_option maxHeartbeats 8000000 in
set_option maxRecDepth 100000 in
theorem c_X11_isTermHere (l : Launch) (dC : Nat → ClassId) (dI : Nat → Nat → Nat) (sz : Nat) (h_mm : Nat) (v_mm : Nat → Value) (x_mm_taped : Int32) (x_mm_place : Int32) (x_mm_kind : Int32) (x_mm_isFaulty : Int32) (G : Int → Int) (hx_mm_taped : 0 ≤ (x_mm_taped).toInt ∧ (x_mm_taped).toInt ≤ 600) (hx_mm_place : 0 ≤ (x_mm_place).toInt ∧ (x_mm_place).toInt ≤ 600) (hx_mm_kind : 0 ≤ (x_mm_kind).toInt ∧ (x_mm_kind).toInt ≤ 4) (hx_mm_isFaulty : 0 ≤ (x_mm_isFaulty).toInt ∧ (x_mm_isFaulty).toInt ≤ 1) (q0 : (x_mm_kind).toInt = kd (tkT G (x_mm_taped).toInt (x_mm_place).toInt)) : Met l yX11_isTermHere (Ws yX11_isTermHere cX11_isTermHere 1 (some .boolean)) (({ frames := 0, cells := 0, slots := 0, locals := 0 } : Room)) (PRE (dC, dI) cls [] [(h_mm, .inr (8, (mo93 v_mm (.int x_mm_taped) (.int x_mm_place) (.int x_mm_kind) (.int x_mm_isFaulty))))] sz [.ref h_mm]) (va_Qi (fun (r : Int32) (_ : Unit) => ((r = 1 ∧ ((x_mm_isFaulty).toInt = 0) ∧ (tkT G (x_mm_taped).toInt (x_mm_place).toInt = 256 ∨ tkT G (x_mm_taped).toInt (x_mm_place).toInt = 257)) ∨ (r = 0 ∧ ((x_mm_isFaulty).toInt = 1)) ∨ (r = 0 ∧ ((x_mm_isFaulty).toInt = 0) ∧ (¬ tkT G (x_mm_taped).toInt (x_mm_place).toInt = 256 ∧ ¬ tkT G (x_mm_taped).toInt (x_mm_place).toInt = 257)))) (fun (_ : Unit) (t : State) => va_P (dC, dI) cls [(h_mm, .inr (8, (mo93 v_mm (.int x_mm_taped) (.int x_mm_place) (.int x_mm_kind) (.int x_mm_isFaulty))))] t.heap ∧ va_D (va_A [(h_mm, .inr (8, (mo93 v_mm (.int x_mm_taped) (.int x_mm_place) (.int x_mm_kind) (.int x_mm_isFaulty))))] sz) [(h_mm, .inr (8, (mo93 v_mm (.int x_mm_taped) (.int x_mm_place) (.int x_mm_kind) (.int x_mm_isFaulty))))]) (va_A [(h_mm, .inr (8, (mo93 v_mm (.int x_mm_taped) (.int x_mm_place) (.int x_mm_kind) (.int x_mm_isFaulty))))] sz)) 0 0 (va_A [(h_mm, .inr (8, (mo93 v_mm (.int x_mm_taped) (.int x_mm_place) (.int x_mm_kind) (.int x_mm_isFaulty))))] sz) := by
  refine Met.ofW (cc := cX11_isTermHere) (maxL := 1) (ret := (some .boolean)) (by decide) rfl ?_
  intro p e s m args below meth c s₁ B hml hv
  obtain ⟨rfl, hsz, hP, hK, hD0, hN⟩ := hv
  have hx := B.exec
  have hb := B.bytes
  have hr := B.returns
  have hts := atoms_spec (ws := Ws yX11_isTermHere cX11_isTermHere 1 (some .boolean)) B.pre
  have hT : ∀ w ∈ WALL, w ∈ Ws yX11_isTermHere cX11_isTermHere 1 (some .boolean) := fun w h => List.mem_cons_of_mem _ h
  have hw := fun w (h : w ∈ WALL) => hts w (hT w h)
  have hown : s.vm.findClass RX11 = some m.cls := findClass_of_methodNamed B.named
  have hlocks := B.notSynchronized
  subst hsz
  have hD := hD0.self (sz := s.heap.size)
  generalize hAe : va_A [(h_mm, .inr (8, (mo93 v_mm (.int x_mm_taped) (.int x_mm_place) (.int x_mm_kind) (.int x_mm_isFaulty))))] s.heap.size = A at hD ⊢
  have hA : ∀ q : Nat, s.heap.size ≤ q → A q := fun q h => by rw [← hAe]; exact Or.inr h
  have hS : va_S A s.heap s.heap [] := va_S.rf
  have hl := lv_entry ([.ref h_mm]) (n := 1) (Nat.le_of_ble_eq_true rfl)
  rw [lg_entry_eq]
  generalize (lg_sl ([.ref h_mm]) ++ List.replicate (1 - (lg_sl ([.ref h_mm])).length) Slot.unset).toArray = ls at hl ⊢
  have hl : lv_has ls 1 [(0, .ref h_mm)] := hl
  have ko9 := kd_or (tkT G (x_mm_taped).toInt (x_mm_place).toInt)
  refine lv_aload_n hx hb dX11_isTermHere_0 rfl (lv_at hl 0 rfl) ?_
  refine va_get (D := (dC, dI)) (ci := 8) (v := .int x_mm_isFaulty) (C := RX11) (T := TX11) (N := 71) hx hb hw iwX11 hown hK hP 0 rfl rfl 20 (by decide) (hw _ w_f_X11_61) (fun _ h9 => h9) rfl dX11_isTermHere_1 ?_
  refine lv_if_ne (tgt := 27) hx hb dX11_isTermHere_4 (by decide) (fun c1 => ?_) (fun c1 => ?_)
  · have kc1 := (not_congr (cv_eq (rfl : (x_mm_isFaulty).toInt = (x_mm_isFaulty).toInt) (by decide : (0 : Int32).toInt = 0))).mp c1
    refine lv_iconst (v := 0) hx hb dX11_isTermHere_27 (by decide) ?_
    refine W.widen (k := 0) (n := 0) (Nat.le_of_ble_eq_true rfl) (Nat.le_of_ble_eq_true rfl) ?_
    have cst0 : (0 : Int32).toInt = 0 := by decide
    have : (x_mm_isFaulty).toInt = 1 := by omega
    exact W.zret (v := 0) (ty := .boolean) hx hb hr (by decide) (fun t ht hW => ⟨⟨0, (), rfl, (Or.inr (Or.inl (⟨rfl, by assumption⟩))), by rw [ht]; exact hP, hD⟩, hS.F ht⟩) hS.2.2 dX11_isTermHere_28
  · have kc1 := (cv_eq (rfl : (x_mm_isFaulty).toInt = (x_mm_isFaulty).toInt) (by decide : (0 : Int32).toInt = 0)).mp c1
    refine lv_aload_n hx hb dX11_isTermHere_7 rfl (lv_at hl 0 rfl) ?_
    refine va_get (D := (dC, dI)) (ci := 8) (v := .int x_mm_kind) (C := RX11) (T := TX11) (N := 71) hx hb hw iwX11 hown hK hP 0 rfl rfl 17 (by decide) (hw _ w_f_X11_87) (fun _ h9 => h9) rfl dX11_isTermHere_8 ?_
    refine lv_iconst (v := 1) hx hb dX11_isTermHere_11 (by decide) ?_
    refine lv_icmp_eq (tgt := 23) hx hb dX11_isTermHere_12 (by decide) (fun c3 => ?_) (fun c3 => ?_)
    · have kc3 := (cv_eq (rfl : (x_mm_kind).toInt = (x_mm_kind).toInt) (by decide : (1 : Int32).toInt = 1)).mp c3
      refine lv_iconst (v := 1) hx hb dX11_isTermHere_23 (by decide) ?_
      refine lv_goto (tgt := 28) hx hb dX11_isTermHere_24 (by decide) ?_
      refine W.widen (k := 0) (n := 0) (Nat.le_of_ble_eq_true rfl) (Nat.le_of_ble_eq_true rfl) ?_
      have cst1 : (1 : Int32).toInt = 1 := by decide
      have : (x_mm_isFaulty).toInt = 0 := by omega
      have : tkT G (x_mm_taped).toInt (x_mm_place).toInt = 256 ∨ tkT G (x_mm_taped).toInt (x_mm_place).toInt = 257 := by omega
      exact W.zret (v := 1) (ty := .boolean) hx hb hr (by decide) (fun t ht hW => ⟨⟨1, (), rfl, (Or.inl (⟨rfl, by assumption, by assumption⟩)), by rw [ht]; exact hP, hD⟩, hS.F ht⟩) hS.2.2 dX11_isTermHere_28
    · have kc3 := (not_congr (cv_eq (rfl : (x_mm_kind).toInt = (x_mm_kind).toInt) (by decide : (1 : Int32).toInt = 1))).mp c3
      refine lv_aload_n hx hb dX11_isTermHere_15 rfl (lv_at hl 0 rfl) ?_
      refine va_get (D := (dC, dI)) (ci := 8) (v := .int x_mm_kind) (C := RX11) (T := TX11) (N := 71) hx hb hw iwX11 hown hK hP 0 rfl rfl 17 (by decide) (hw _ w_f_X11_87) (fun _ h9 => h9) rfl dX11_isTermHere_16 ?_
      refine lv_iconst (v := 2) hx hb dX11_isTermHere_19 (by decide) ?_
      refine lv_icmp_ne (tgt := 27) hx hb dX11_isTermHere_20 (by decide) (fun c5 => ?_) (fun c5 => ?_)
      · have kc5 := (not_congr (cv_eq (rfl : (x_mm_kind).toInt = (x_mm_kind).toInt) (by decide : (2 : Int32).toInt = 2))).mp c5
        refine lv_iconst (v := 0) hx hb dX11_isTermHere_27 (by decide) ?_
        refine W.widen (k := 0) (n := 0) (Nat.le_of_ble_eq_true rfl) (Nat.le_of_ble_eq_true rfl) ?_
        have cst0 : (0 : Int32).toInt = 0 := by decide
        have : (x_mm_isFaulty).toInt = 0 := by omega
        have : ¬ tkT G (x_mm_taped).toInt (x_mm_place).toInt = 256 ∧ ¬ tkT G (x_mm_taped).toInt (x_mm_place).toInt = 257 := by omega
        exact W.zret (v := 0) (ty := .boolean) hx hb hr (by decide) (fun t ht hW => ⟨⟨0, (), rfl, (Or.inr (Or.inr (⟨rfl, by assumption, by assumption⟩))), by rw [ht]; exact hP, hD⟩, hS.F ht⟩) hS.2.2 dX11_isTermHere_28
      · have kc5 := (cv_eq (rfl : (x_mm_kind).toInt = (x_mm_kind).toInt) (by decide : (2 : Int32).toInt = 2)).mp c5
        refine lv_iconst (v := 1) hx hb dX11_isTermHere_23 (by decide) ?_
        refine lv_goto (tgt := 28) hx hb dX11_isTermHere_24 (by decide) ?_
        refine W.widen (k := 0) (n := 0) (Nat.le_of_ble_eq_true rfl) (Nat.le_of_ble_eq_true rfl) ?_
        have cst1 : (1 : Int32).toInt = 1 := by decide
        have : (x_mm_isFaulty).toInt = 0 := by omega
        have : tkT G (x_mm_taped).toInt (x_mm_place).toInt = 256 ∨ tkT G (x_mm_taped).toInt (x_mm_place).toInt = 257 := by omega
        exact W.zret (v := 1) (ty := .boolean) hx hb hr (by decide) (fun t ht hW => ⟨⟨1, (), rfl, (Or.inl (⟨rfl, by assumption, by assumption⟩)), by rw [ht]; exact hP, hD⟩, hS.F ht⟩) hS.2.2 dX11_isTermHere_28

set_option maxHeartbeats 8000000 in
set_option maxRecDepth 100000 in
theorem c_X11_isLiteralHere (l : Launch) (dC : Nat → ClassId) (dI : Nat → Nat → Nat) (sz : Nat) (h_mm : Nat) (v_mm : Nat → Value) (x_mm_taped : Int32) (x_mm_place : Int32) (x_mm_kind : Int32) (x_mm_sign : Int32) (x_mm_isFaulty : Int32) (G : Int → Int) (hx_mm_taped : 0 ≤ (x_mm_taped).toInt ∧ (x_mm_taped).toInt ≤ 600) (hx_mm_place : 0 ≤ (x_mm_place).toInt ∧ (x_mm_place).toInt ≤ 600) (hx_mm_kind : 0 ≤ (x_mm_kind).toInt ∧ (x_mm_kind).toInt ≤ 4) (hx_mm_isFaulty : 0 ≤ (x_mm_isFaulty).toInt ∧ (x_mm_isFaulty).toInt ≤ 1) (q0 : (x_mm_kind).toInt = kd (tkT G (x_mm_taped).toInt (x_mm_place).toInt)) (q1 : (x_mm_kind).toInt = 0 ∨ (x_mm_sign).toInt = G (x_mm_place).toInt) (hn_hG : ∀ k : Int, 0 ≤ G k ∧ G k ≤ 255) : Met l yX11_isLiteralHere (Ws yX11_isLiteralHere cX11_isLiteralHere 1 (some .boolean)) (({ frames := 1, cells := 0, slots := 0, locals := 21 } : Room)) (PRE (dC, dI) cls [] [(h_mm, .inr (8, (mo94 v_mm (.int x_mm_taped) (.int x_mm_place) (.int x_mm_kind) (.int x_mm_sign) (.int x_mm_isFaulty))))] sz [.ref h_mm]) (va_Qi (fun (r : Int32) (_ : Unit) => ((r = 1 ∧ ((x_mm_isFaulty).toInt = 0) ∧ (tkT G (x_mm_taped).toInt (x_mm_place).toInt = 256 ∨ tkT G (x_mm_taped).toInt (x_mm_place).toInt = 45)) ∨ (r = 0 ∧ ((x_mm_isFaulty).toInt = 1)) ∨ (r = 0 ∧ ((x_mm_isFaulty).toInt = 0) ∧ (¬ tkT G (x_mm_taped).toInt (x_mm_place).toInt = 256 ∧ ¬ tkT G (x_mm_taped).toInt (x_mm_place).toInt = 45)))) (fun (_ : Unit) (t : State) => va_P (dC, dI) cls [(h_mm, .inr (8, (mo94 v_mm (.int x_mm_taped) (.int x_mm_place) (.int x_mm_kind) (.int x_mm_sign) (.int x_mm_isFaulty))))] t.heap ∧ va_D (va_A [(h_mm, .inr (8, (mo94 v_mm (.int x_mm_taped) (.int x_mm_place) (.int x_mm_kind) (.int x_mm_sign) (.int x_mm_isFaulty))))] sz) [(h_mm, .inr (8, (mo94 v_mm (.int x_mm_taped) (.int x_mm_place) (.int x_mm_kind) (.int x_mm_sign) (.int x_mm_isFaulty))))]) (va_A [(h_mm, .inr (8, (mo94 v_mm (.int x_mm_taped) (.int x_mm_place) (.int x_mm_kind) (.int x_mm_sign) (.int x_mm_isFaulty))))] sz)) 0 0 (va_A [(h_mm, .inr (8, (mo94 v_mm (.int x_mm_taped) (.int x_mm_place) (.int x_mm_kind) (.int x_mm_sign) (.int x_mm_isFaulty))))] sz) := by
  refine Met.ofW (cc := cX11_isLiteralHere) (maxL := 1) (ret := (some .boolean)) (by decide) rfl ?_
  intro p e s m args below meth c s₁ B hml hv
  obtain ⟨rfl, hsz, hP, hK, hD0, hN⟩ := hv
  have hx := B.exec
  have hb := B.bytes
  have hr := B.returns
  have hts := atoms_spec (ws := Ws yX11_isLiteralHere cX11_isLiteralHere 1 (some .boolean)) B.pre
  have hT : ∀ w ∈ WALL, w ∈ Ws yX11_isLiteralHere cX11_isLiteralHere 1 (some .boolean) := fun w h => List.mem_cons_of_mem _ h
  have hw := fun w (h : w ∈ WALL) => hts w (hT w h)
  have hown : s.vm.findClass RX11 = some m.cls := findClass_of_methodNamed B.named
  have hlocks := B.notSynchronized
  subst hsz
  have hD := hD0.self (sz := s.heap.size)
  generalize hAe : va_A [(h_mm, .inr (8, (mo94 v_mm (.int x_mm_taped) (.int x_mm_place) (.int x_mm_kind) (.int x_mm_sign) (.int x_mm_isFaulty))))] s.heap.size = A at hD ⊢
  have hA : ∀ q : Nat, s.heap.size ≤ q → A q := fun q h => by rw [← hAe]; exact Or.inr h
  have hS : va_S A s.heap s.heap [] := va_S.rf
  have hl := lv_entry ([.ref h_mm]) (n := 1) (Nat.le_of_ble_eq_true rfl)
  rw [lg_entry_eq]
  generalize (lg_sl ([.ref h_mm]) ++ List.replicate (1 - (lg_sl ([.ref h_mm])).length) Slot.unset).toArray = ls at hl ⊢
  have hl : lv_has ls 1 [(0, .ref h_mm)] := hl
  have ko9 := kd_or (tkT G (x_mm_taped).toInt (x_mm_place).toInt)
  have to9 := tk_or hn_hG (x_mm_taped).toInt (x_mm_place).toInt
  refine lv_aload_n hx hb dX11_isLiteralHere_0 rfl (lv_at hl 0 rfl) ?_
  refine va_get (D := (dC, dI)) (ci := 8) (v := .int x_mm_isFaulty) (C := RX11) (T := TX11) (N := 71) hx hb hw iwX11 hown hK hP 0 rfl rfl 20 (by decide) (hw _ w_f_X11_61) (fun _ h9 => h9) rfl dX11_isLiteralHere_1 ?_
  refine lv_if_ne (tgt := 28) hx hb dX11_isLiteralHere_4 (by decide) (fun c1 => ?_) (fun c1 => ?_)
  · have kc1 := (not_congr (cv_eq (rfl : (x_mm_isFaulty).toInt = (x_mm_isFaulty).toInt) (by decide : (0 : Int32).toInt = 0))).mp c1
    refine lv_iconst (v := 0) hx hb dX11_isLiteralHere_28 (by decide) ?_
    refine W.widen (k := 0) (n := 0) (Nat.le_of_ble_eq_true rfl) (Nat.le_of_ble_eq_true rfl) ?_
    have cst0 : (0 : Int32).toInt = 0 := by decide
    have : (x_mm_isFaulty).toInt = 1 := by omega
    exact W.zret (v := 0) (ty := .boolean) hx hb hr (by decide) (fun t ht hW => ⟨⟨0, (), rfl, (Or.inr (Or.inl (⟨rfl, by assumption⟩))), by rw [ht]; exact hP, hD⟩, hS.F ht⟩) hS.2.2 dX11_isLiteralHere_29
  · have kc1 := (cv_eq (rfl : (x_mm_isFaulty).toInt = (x_mm_isFaulty).toInt) (by decide : (0 : Int32).toInt = 0)).mp c1
    refine lv_aload_n hx hb dX11_isLiteralHere_7 rfl (lv_at hl 0 rfl) ?_
    refine va_get (D := (dC, dI)) (ci := 8) (v := .int x_mm_kind) (C := RX11) (T := TX11) (N := 71) hx hb hw iwX11 hown hK hP 0 rfl rfl 17 (by decide) (hw _ w_f_X11_87) (fun _ h9 => h9) rfl dX11_isLiteralHere_8 ?_
    refine lv_iconst (v := 1) hx hb dX11_isLiteralHere_11 (by decide) ?_
    refine lv_icmp_eq (tgt := 24) hx hb dX11_isLiteralHere_12 (by decide) (fun c3 => ?_) (fun c3 => ?_)
    · have kc3 := (cv_eq (rfl : (x_mm_kind).toInt = (x_mm_kind).toInt) (by decide : (1 : Int32).toInt = 1)).mp c3
      refine lv_iconst (v := 1) hx hb dX11_isLiteralHere_24 (by decide) ?_
      refine lv_goto (tgt := 29) hx hb dX11_isLiteralHere_25 (by decide) ?_
      refine W.widen (k := 0) (n := 0) (Nat.le_of_ble_eq_true rfl) (Nat.le_of_ble_eq_true rfl) ?_
      have cst1 : (1 : Int32).toInt = 1 := by decide
      have : (x_mm_isFaulty).toInt = 0 := by omega
      have : tkT G (x_mm_taped).toInt (x_mm_place).toInt = 256 ∨ tkT G (x_mm_taped).toInt (x_mm_place).toInt = 45 := by omega
      exact W.zret (v := 1) (ty := .boolean) hx hb hr (by decide) (fun t ht hW => ⟨⟨1, (), rfl, (Or.inl (⟨rfl, by assumption, by assumption⟩)), by rw [ht]; exact hP, hD⟩, hS.F ht⟩) hS.2.2 dX11_isLiteralHere_29
    · have kc3 := (not_congr (cv_eq (rfl : (x_mm_kind).toInt = (x_mm_kind).toInt) (by decide : (1 : Int32).toInt = 1))).mp c3
      refine lv_aload_n hx hb dX11_isLiteralHere_15 rfl (lv_at hl 0 rfl) ?_
      refine lv_bipush (v := 45) hx hb dX11_isLiteralHere_16 (by decide) ?_
      obtain ⟨vq5, evq5⟩ := mq94_91 v_mm (.int x_mm_taped) (.int x_mm_place)
      replace hP : va_P (dC, dI) cls [(h_mm, .inr (8, (mo91 vq5 (.int x_mm_kind) (.int x_mm_sign) (.int x_mm_isFaulty))))] s.heap := by rw [evq5]; exact hP
      replace hD : va_D A [(h_mm, .inr (8, (mo91 vq5 (.int x_mm_kind) (.int x_mm_sign) (.int x_mm_isFaulty))))] := by rw [evq5]; exact hD
      have cst45 : (45 : Int32).toInt = 45 := by decide
      have hPc := hP.sub (ws' := [(h_mm, .inr (8, (mo91 vq5 (.int x_mm_kind) (.int x_mm_sign) (.int x_mm_isFaulty))))]) [0] rfl
      have hDc := hD.sub (ws' := [(h_mm, .inr (8, (mo91 vq5 (.int x_mm_kind) (.int x_mm_sign) (.int x_mm_isFaulty))))]) [0] (by decide) rfl
      have hKc := hK.sub (tys' := []) [] rfl
      have hFc := va_free (wc := [(h_mm, .inr (8, (mo91 vq5 (.int x_mm_kind) (.int x_mm_sign) (.int x_mm_isFaulty))))]) hD hS hA [0] rfl
      refine va_calli (va_runV (As := [.int 45]) (rest := []) ⟨hx, hb, hml, hown, hts⟩ (c_X11_isSign l dC dI s.heap.size h_mm vq5 x_mm_kind x_mm_sign x_mm_isFaulty 45 (by first | exact hx_mm_kind | omega) (by first | exact hx_mm_isFaulty | omega)) (cwV 1 hts (gv hT w_m_X11_95 w_instanceMethod_X11_isSign ws_sel_X11_isSign w_ini_X11 w_code_X11_isSign) rfl rfl rfl (by decide +kernel) ⟨(Nat.le_of_ble_eq_true rfl), (Nat.le_of_ble_eq_true rfl)⟩) ⟨pre_blind, va_recv hK hP (ci := 8) (q0 := 0) rfl rfl, pre_of hPc hKc hDc hN⟩ rfl rfl hl.1 rfl (lv_room (Nat.le_of_ble_eq_true rfl)) dX11_isLiteralHere_18 ⟨(Nat.le_of_ble_eq_true rfl), (Nat.le_of_ble_eq_true rfl)⟩) hS (fun q _ h => hFc q h) hFc (fun r6 u t H locs ht hvm hq hB hz1 hk1 hS9 => ?_)
      obtain ⟨hP1, hD1⟩ := hB
      rw [ht] at hP1
      obtain ⟨hP9, hD9⟩ := va_join (wr := []) (w1 := [(h_mm, .inr (8, (mo91 vq5 (.int x_mm_kind) (.int x_mm_sign) (.int x_mm_isFaulty))))]) hP hD [0] [] rfl rfl (by decide) (by decide) hk1 hFc hP1 hD1
      clear hP hD hS hPc hDc hKc hFc hP1 hD1 hk1 hz1 ht hvm
      have hP : va_P (dC, dI) cls [(h_mm, .inr (8, (mo91 vq5 (.int x_mm_kind) (.int x_mm_sign) (.int x_mm_isFaulty))))] H := hP9
      have hD : va_D A [(h_mm, .inr (8, (mo91 vq5 (.int x_mm_kind) (.int x_mm_sign) (.int x_mm_isFaulty))))] := hD9
      have hS := hS9
      clear hP9 hD9 hS9
      rw [evq5] at hP hD
      replace hP : va_P (dC, dI) cls [(h_mm, .inr (8, (mo94 v_mm (.int x_mm_taped) (.int x_mm_place) (.int x_mm_kind) (.int x_mm_sign) (.int x_mm_isFaulty))))] H := hP
      replace hD : va_D A [(h_mm, .inr (8, (mo94 v_mm (.int x_mm_taped) (.int x_mm_place) (.int x_mm_kind) (.int x_mm_sign) (.int x_mm_isFaulty))))] := hD
      clear evq5 
      rcases hq with ⟨rfl, hq⟩ | ⟨rfl, hq⟩ | ⟨rfl, hq⟩
      · replace hq : (((x_mm_isFaulty)).toInt = 0) ∧ (((x_mm_kind)).toInt = 3) ∧ (((x_mm_sign)).toInt = ((45 : Int32)).toInt) := hq
        refine lv_if_eq (tgt := 28) hx hb dX11_isLiteralHere_21 (by decide) (fun c9 => absurd c9 (by decide)) (fun _ => ?_)
        refine lv_iconst (v := 1) hx hb dX11_isLiteralHere_24 (by decide) ?_
        refine lv_goto (tgt := 29) hx hb dX11_isLiteralHere_25 (by decide) ?_
        refine W.widen (k := 0) (n := 0) (Nat.le_of_ble_eq_true rfl) (Nat.le_of_ble_eq_true rfl) ?_
        have cst1 : (1 : Int32).toInt = 1 := by decide
        have : (x_mm_isFaulty).toInt = 0 := by omega
        have : tkT G (x_mm_taped).toInt (x_mm_place).toInt = 256 ∨ tkT G (x_mm_taped).toInt (x_mm_place).toInt = 45 := by omega
        exact W.zret (v := 1) (ty := .boolean) hx hb hr (by decide) (fun t ht hW => ⟨⟨1, (), rfl, (Or.inl (⟨rfl, by assumption, by assumption⟩)), by rw [ht]; exact hP, hD⟩, hS.F ht⟩) hS.2.2 dX11_isLiteralHere_29
      · replace hq : (((x_mm_isFaulty)).toInt = 1) := hq
        exact False.elim (by omega)
      · replace hq : (((x_mm_isFaulty)).toInt = 0) ∧ (¬ ((x_mm_kind)).toInt = 3 ∨ ¬ ((x_mm_sign)).toInt = ((45 : Int32)).toInt) := hq
        refine lv_if_eq (tgt := 28) hx hb dX11_isLiteralHere_21 (by decide) (fun _ => ?_) (fun c9 => absurd c9 (by decide))
        refine lv_iconst (v := 0) hx hb dX11_isLiteralHere_28 (by decide) ?_
        refine W.widen (k := 0) (n := 0) (Nat.le_of_ble_eq_true rfl) (Nat.le_of_ble_eq_true rfl) ?_
        have cst0 : (0 : Int32).toInt = 0 := by decide
        have : (x_mm_isFaulty).toInt = 0 := by omega
        have : ¬ tkT G (x_mm_taped).toInt (x_mm_place).toInt = 256 ∧ ¬ tkT G (x_mm_taped).toInt (x_mm_place).toInt = 45 := by omega
        exact W.zret (v := 0) (ty := .boolean) hx hb hr (by decide) (fun t ht hW => ⟨⟨0, (), rfl, (Or.inr (Or.inr (⟨rfl, by assumption, by assumption⟩))), by rw [ht]; exact hP, hD⟩, hS.F ht⟩) hS.2.2 dX11_isLiteralHere_29

