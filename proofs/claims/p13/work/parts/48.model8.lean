theorem w_code_X11_doMeet : Cond.code yX11_doMeet prog_13_method_47_code 7 (some .boolean) ∈ WALL := wall_t (tb_6 125 (by decide +kernel)) rfl
theorem w_code_X11_has : Cond.code yX11_has prog_13_method_3_code 3 (some .boolean) ∈ WALL := wall_t (tb_6 161 (by decide +kernel)) rfl
theorem w_code_X11_isLiteral : Cond.code yX11_isLiteral prog_13_method_30_code 3 (some .boolean) ∈ WALL := wall_t (tb_6 121 (by decide +kernel)) rfl
theorem w_code_X11_isPure : Cond.code yX11_isPure prog_13_method_51_code 4 (some .boolean) ∈ WALL := wall_t (tb_6 169 (by decide +kernel)) rfl
theorem w_code_X11_litOf : Cond.code yX11_litOf prog_13_method_53_code 3 (some .int) ∈ WALL := wall_t (tb_6 215 (by decide +kernel)) rfl
theorem w_code_X11_partnersIn : Cond.code yX11_partnersIn prog_13_method_49_code 7 (some .int) ∈ WALL := wall_t (tb_6 157 (by decide +kernel)) rfl
theorem w_code_X11_takesBack : Cond.code yX11_takesBack prog_13_method_37_code 2 none ∈ WALL := wall_t (tb_6 149 (by decide +kernel)) rfl
theorem w_instanceMethod_X11_doMeet : Cond.instanceMethod yX11_doMeet ∈ WALL := wall_t (tb_6 124 (by decide +kernel)) rfl
theorem w_instanceMethod_X11_has : Cond.instanceMethod yX11_has ∈ WALL := wall_t (tb_6 160 (by decide +kernel)) rfl
theorem w_instanceMethod_X11_isLiteral : Cond.instanceMethod yX11_isLiteral ∈ WALL := wall_t (tb_6 120 (by decide +kernel)) rfl
theorem w_instanceMethod_X11_isPure : Cond.instanceMethod yX11_isPure ∈ WALL := wall_t (tb_6 168 (by decide +kernel)) rfl
theorem w_instanceMethod_X11_litOf : Cond.instanceMethod yX11_litOf ∈ WALL := wall_t (tb_6 214 (by decide +kernel)) rfl
theorem w_instanceMethod_X11_partnersIn : Cond.instanceMethod yX11_partnersIn ∈ WALL := wall_t (tb_6 156 (by decide +kernel)) rfl
theorem w_instanceMethod_X11_takesBack : Cond.instanceMethod yX11_takesBack ∈ WALL := wall_t (tb_6 148 (by decide +kernel)) rfl
theorem w_m_X11_297 : Cond.methodLink "OppositePairsModel" 297 yX11_takesBack ∈ WALL := wall_t (tb_6 146 (by decide +kernel)) rfl
theorem w_m_X11_300 : Cond.methodLink "OppositePairsModel" 300 yX11_isLiteral ∈ WALL := wall_t (tb_6 118 (by decide +kernel)) rfl
theorem w_m_X11_304 : Cond.methodLink "OppositePairsModel" 304 yX11_doMeet ∈ WALL := wall_t (tb_6 122 (by decide +kernel)) rfl
theorem w_m_X11_307 : Cond.methodLink "OppositePairsModel" 307 yX11_has ∈ WALL := wall_t (tb_6 158 (by decide +kernel)) rfl
theorem w_m_X11_310 : Cond.methodLink "OppositePairsModel" 310 yX11_partnersIn ∈ WALL := wall_t (tb_6 154 (by decide +kernel)) rfl
theorem w_m_X11_314 : Cond.methodLink "OppositePairsModel" 314 yX11_isPure ∈ WALL := wall_t (tb_6 166 (by decide +kernel)) rfl
theorem w_m_X11_317 : Cond.methodLink "OppositePairsModel" 317 yX11_litOf ∈ WALL := wall_t (tb_6 212 (by decide +kernel)) rfl
theorem ws_sel_X11_doMeet : Cond.selects "OppositePairsModel" yX11_doMeet yX11_doMeet ∈ WALL := wall_s 111 (by decide +kernel) rfl
theorem ws_sel_X11_has : Cond.selects "OppositePairsModel" yX11_has yX11_has ∈ WALL := wall_s 119 (by decide +kernel) rfl
theorem ws_sel_X11_isLiteral : Cond.selects "OppositePairsModel" yX11_isLiteral yX11_isLiteral ∈ WALL := wall_s 110 (by decide +kernel) rfl
theorem ws_sel_X11_isPure : Cond.selects "OppositePairsModel" yX11_isPure yX11_isPure ∈ WALL := wall_s 120 (by decide +kernel) rfl
theorem ws_sel_X11_litOf : Cond.selects "OppositePairsModel" yX11_litOf yX11_litOf ∈ WALL := wall_s 130 (by decide +kernel) rfl
theorem ws_sel_X11_partnersIn : Cond.selects "OppositePairsModel" yX11_partnersIn yX11_partnersIn ∈ WALL := wall_s 118 (by decide +kernel) rfl
theorem ws_sel_X11_takesBack : Cond.selects "OppositePairsModel" yX11_takesBack yX11_takesBack ∈ WALL := wall_s 117 (by decide +kernel) rfl
theorem dX11_doMeet_0 : decode cX11_doMeet 0 = .ok (.aload_n 0, 1) := by decide +kernel
theorem dX11_doMeet_1 : decode cX11_doMeet 1 = .ok (.getfield 145, 3) := by decide +kernel
theorem dX11_doMeet_10 : decode cX11_doMeet 10 = .ok (.baload, 1) := by decide +kernel
theorem dX11_doMeet_11 : decode cX11_doMeet 11 = .ok (.aload_n 0, 1) := by decide +kernel
theorem dX11_doMeet_12 : decode cX11_doMeet 12 = .ok (.getfield 145, 3) := by decide +kernel
theorem dX11_doMeet_15 : decode cX11_doMeet 15 = .ok (.aload_n 0, 1) := by decide +kernel
theorem dX11_doMeet_16 : decode cX11_doMeet 16 = .ok (.iload_n 3, 1) := by decide +kernel
theorem dX11_doMeet_17 : decode cX11_doMeet 17 = .ok (.iload 4, 2) := by decide +kernel
theorem dX11_doMeet_19 : decode cX11_doMeet 19 = .ok (.invokevirtual 149, 3) := by decide +kernel
theorem dX11_doMeet_22 : decode cX11_doMeet 22 = .ok (.baload, 1) := by decide +kernel
theorem dX11_doMeet_23 : decode cX11_doMeet 23 = .ok (.if_icmp .ne 5, 3) := by decide +kernel
theorem dX11_doMeet_26 : decode cX11_doMeet 26 = .ok (.iconst 0, 1) := by decide +kernel
theorem dX11_doMeet_27 : decode cX11_doMeet 27 = .ok (.ireturn, 1) := by decide +kernel
theorem dX11_doMeet_28 : decode cX11_doMeet 28 = .ok (.aload_n 0, 1) := by decide +kernel
theorem dX11_doMeet_29 : decode cX11_doMeet 29 = .ok (.getfield 261, 3) := by decide +kernel
theorem dX11_doMeet_32 : decode cX11_doMeet 32 = .ok (.istore 5, 2) := by decide +kernel
theorem dX11_doMeet_34 : decode cX11_doMeet 34 = .ok (.aload_n 0, 1) := by decide +kernel
theorem dX11_doMeet_35 : decode cX11_doMeet 35 = .ok (.aload_n 0, 1) := by decide +kernel
theorem dX11_doMeet_36 : decode cX11_doMeet 36 = .ok (.getfield 152, 3) := by decide +kernel
theorem dX11_doMeet_39 : decode cX11_doMeet 39 = .ok (.aload_n 0, 1) := by decide +kernel
theorem dX11_doMeet_4 : decode cX11_doMeet 4 = .ok (.aload_n 0, 1) := by decide +kernel
theorem dX11_doMeet_40 : decode cX11_doMeet 40 = .ok (.iload_n 1, 1) := by decide +kernel
theorem dX11_doMeet_41 : decode cX11_doMeet 41 = .ok (.iload_n 2, 1) := by decide +kernel
theorem dX11_doMeet_42 : decode cX11_doMeet 42 = .ok (.invokevirtual 149, 3) := by decide +kernel
theorem dX11_doMeet_45 : decode cX11_doMeet 45 = .ok (.iaload, 1) := by decide +kernel
theorem dX11_doMeet_46 : decode cX11_doMeet 46 = .ok (.bipush 30, 2) := by decide +kernel
theorem dX11_doMeet_48 : decode cX11_doMeet 48 = .ok (.aload_n 0, 1) := by decide +kernel
theorem dX11_doMeet_49 : decode cX11_doMeet 49 = .ok (.getfield 152, 3) := by decide +kernel
theorem dX11_doMeet_5 : decode cX11_doMeet 5 = .ok (.iload_n 1, 1) := by decide +kernel
theorem dX11_doMeet_52 : decode cX11_doMeet 52 = .ok (.aload_n 0, 1) := by decide +kernel
theorem dX11_doMeet_53 : decode cX11_doMeet 53 = .ok (.iload_n 3, 1) := by decide +kernel
theorem dX11_doMeet_54 : decode cX11_doMeet 54 = .ok (.iload 4, 2) := by decide +kernel
theorem dX11_doMeet_56 : decode cX11_doMeet 56 = .ok (.invokevirtual 149, 3) := by decide +kernel
theorem dX11_doMeet_59 : decode cX11_doMeet 59 = .ok (.iaload, 1) := by decide +kernel
theorem dX11_doMeet_6 : decode cX11_doMeet 6 = .ok (.iload_n 2, 1) := by decide +kernel
theorem dX11_doMeet_60 : decode cX11_doMeet 60 = .ok (.bipush 31, 2) := by decide +kernel
theorem dX11_doMeet_62 : decode cX11_doMeet 62 = .ok (.invokevirtual 284, 3) := by decide +kernel
theorem dX11_doMeet_65 : decode cX11_doMeet 65 = .ok (.istore 6, 2) := by decide +kernel
theorem dX11_doMeet_67 : decode cX11_doMeet 67 = .ok (.aload_n 0, 1) := by decide +kernel
theorem dX11_doMeet_68 : decode cX11_doMeet 68 = .ok (.iload 5, 2) := by decide +kernel
theorem dX11_doMeet_7 : decode cX11_doMeet 7 = .ok (.invokevirtual 149, 3) := by decide +kernel
theorem dX11_doMeet_70 : decode cX11_doMeet 70 = .ok (.invokevirtual 297, 3) := by decide +kernel
theorem dX11_doMeet_73 : decode cX11_doMeet 73 = .ok (.iload 6, 2) := by decide +kernel
theorem dX11_doMeet_75 : decode cX11_doMeet 75 = .ok (.ireturn, 1) := by decide +kernel
theorem dX11_isPure_0 : decode cX11_isPure 0 = .ok (.iconst 0, 1) := by decide +kernel
theorem dX11_isPure_1 : decode cX11_isPure 1 = .ok (.istore_n 3, 1) := by decide +kernel
theorem dX11_isPure_12 : decode cX11_isPure 12 = .ok (.aload_n 0, 1) := by decide +kernel
theorem dX11_isPure_13 : decode cX11_isPure 13 = .ok (.iload_n 1, 1) := by decide +kernel
theorem dX11_isPure_14 : decode cX11_isPure 14 = .ok (.iload_n 3, 1) := by decide +kernel
theorem dX11_isPure_15 : decode cX11_isPure 15 = .ok (.iload_n 2, 1) := by decide +kernel
theorem dX11_isPure_16 : decode cX11_isPure 16 = .ok (.invokevirtual 310, 3) := by decide +kernel
theorem dX11_isPure_19 : decode cX11_isPure 19 = .ok (.ifCond .ne 5, 3) := by decide +kernel
theorem dX11_isPure_2 : decode cX11_isPure 2 = .ok (.iload_n 3, 1) := by decide +kernel
theorem dX11_isPure_22 : decode cX11_isPure 22 = .ok (.iconst 1, 1) := by decide +kernel
theorem dX11_isPure_23 : decode cX11_isPure 23 = .ok (.ireturn, 1) := by decide +kernel
theorem dX11_isPure_24 : decode cX11_isPure 24 = .ok (.iinc 3 1, 3) := by decide +kernel
theorem dX11_isPure_27 : decode cX11_isPure 27 = .ok (.goto (-25), 3) := by decide +kernel
theorem dX11_isPure_3 : decode cX11_isPure 3 = .ok (.aload_n 0, 1) := by decide +kernel
theorem dX11_isPure_30 : decode cX11_isPure 30 = .ok (.iconst 0, 1) := by decide +kernel
theorem dX11_isPure_31 : decode cX11_isPure 31 = .ok (.ireturn, 1) := by decide +kernel
theorem dX11_isPure_4 : decode cX11_isPure 4 = .ok (.getfield 142, 3) := by decide +kernel
theorem dX11_isPure_7 : decode cX11_isPure 7 = .ok (.iload_n 1, 1) := by decide +kernel
theorem dX11_isPure_8 : decode cX11_isPure 8 = .ok (.iaload, 1) := by decide +kernel
theorem dX11_isPure_9 : decode cX11_isPure 9 = .ok (.if_icmp .ge 21, 3) := by decide +kernel
theorem dX11_litOf_0 : decode cX11_litOf 0 = .ok (.aload_n 0, 1) := by decide +kernel
theorem dX11_litOf_1 : decode cX11_litOf 1 = .ok (.aload_n 0, 1) := by decide +kernel
theorem dX11_litOf_11 : decode cX11_litOf 11 = .ok (.ireturn, 1) := by decide +kernel
theorem dX11_litOf_2 : decode cX11_litOf 2 = .ok (.getfield 204, 3) := by decide +kernel
theorem dX11_litOf_5 : decode cX11_litOf 5 = .ok (.iload_n 1, 1) := by decide +kernel
theorem dX11_litOf_6 : decode cX11_litOf 6 = .ok (.iaload, 1) := by decide +kernel
theorem dX11_litOf_7 : decode cX11_litOf 7 = .ok (.iload_n 2, 1) := by decide +kernel
theorem dX11_litOf_8 : decode cX11_litOf 8 = .ok (.invokevirtual 149, 3) := by decide +kernel
theorem dX11_meets_0 : decode cX11_meets 0 = .ok (.aload_n 0, 1) := by decide +kernel
theorem dX11_meets_1 : decode cX11_meets 1 = .ok (.iconst 0, 1) := by decide +kernel
theorem dX11_meets_11 : decode cX11_meets 11 = .ok (.ifCond .eq 33, 3) := by decide +kernel
theorem dX11_meets_14 : decode cX11_meets 14 = .ok (.aload_n 0, 1) := by decide +kernel
theorem dX11_meets_15 : decode cX11_meets 15 = .ok (.iload_n 3, 1) := by decide +kernel
theorem dX11_meets_16 : decode cX11_meets 16 = .ok (.iload 4, 2) := by decide +kernel
theorem dX11_meets_18 : decode cX11_meets 18 = .ok (.invokevirtual 300, 3) := by decide +kernel
theorem dX11_meets_2 : decode cX11_meets 2 = .ok (.putfield 1, 3) := by decide +kernel
theorem dX11_meets_21 : decode cX11_meets 21 = .ok (.ifCond .eq 23, 3) := by decide +kernel
theorem dX11_meets_24 : decode cX11_meets 24 = .ok (.aload_n 0, 1) := by decide +kernel
theorem dX11_meets_25 : decode cX11_meets 25 = .ok (.iload_n 1, 1) := by decide +kernel
theorem dX11_meets_26 : decode cX11_meets 26 = .ok (.iload_n 2, 1) := by decide +kernel
theorem dX11_meets_27 : decode cX11_meets 27 = .ok (.iload_n 3, 1) := by decide +kernel
theorem dX11_meets_28 : decode cX11_meets 28 = .ok (.iload 4, 2) := by decide +kernel
theorem dX11_meets_30 : decode cX11_meets 30 = .ok (.invokevirtual 304, 3) := by decide +kernel
theorem dX11_meets_33 : decode cX11_meets 33 = .ok (.ifCond .eq 7, 3) := by decide +kernel
theorem dX11_meets_36 : decode cX11_meets 36 = .ok (.iconst 1, 1) := by decide +kernel
theorem dX11_meets_37 : decode cX11_meets 37 = .ok (.goto 8, 3) := by decide +kernel
theorem dX11_meets_40 : decode cX11_meets 40 = .ok (.iconst 0, 1) := by decide +kernel
theorem dX11_meets_41 : decode cX11_meets 41 = .ok (.goto 4, 3) := by decide +kernel
theorem dX11_meets_44 : decode cX11_meets 44 = .ok (.iconst (-1), 1) := by decide +kernel
theorem dX11_meets_45 : decode cX11_meets 45 = .ok (.ireturn, 1) := by decide +kernel
theorem dX11_meets_5 : decode cX11_meets 5 = .ok (.aload_n 0, 1) := by decide +kernel
theorem dX11_meets_6 : decode cX11_meets 6 = .ok (.iload_n 1, 1) := by decide +kernel
theorem dX11_meets_7 : decode cX11_meets 7 = .ok (.iload_n 2, 1) := by decide +kernel
theorem dX11_meets_8 : decode cX11_meets 8 = .ok (.invokevirtual 300, 3) := by decide +kernel
theorem dX11_partnersIn_0 : decode cX11_partnersIn 0 = .ok (.iconst 0, 1) := by decide +kernel
theorem dX11_partnersIn_1 : decode cX11_partnersIn 1 = .ok (.istore 4, 2) := by decide +kernel
theorem dX11_partnersIn_12 : decode cX11_partnersIn 12 = .ok (.if_icmp .ge 59, 3) := by decide +kernel
theorem dX11_partnersIn_15 : decode cX11_partnersIn 15 = .ok (.iconst 0, 1) := by decide +kernel
theorem dX11_partnersIn_16 : decode cX11_partnersIn 16 = .ok (.istore 6, 2) := by decide +kernel
theorem dX11_partnersIn_18 : decode cX11_partnersIn 18 = .ok (.iload 6, 2) := by decide +kernel
theorem dX11_partnersIn_20 : decode cX11_partnersIn 20 = .ok (.aload_n 0, 1) := by decide +kernel
theorem dX11_partnersIn_21 : decode cX11_partnersIn 21 = .ok (.getfield 142, 3) := by decide +kernel
theorem dX11_partnersIn_24 : decode cX11_partnersIn 24 = .ok (.iload 5, 2) := by decide +kernel
theorem dX11_partnersIn_26 : decode cX11_partnersIn 26 = .ok (.iaload, 1) := by decide +kernel
theorem dX11_partnersIn_27 : decode cX11_partnersIn 27 = .ok (.if_icmp .ge 38, 3) := by decide +kernel
theorem dX11_partnersIn_3 : decode cX11_partnersIn 3 = .ok (.iconst 0, 1) := by decide +kernel
theorem dX11_partnersIn_30 : decode cX11_partnersIn 30 = .ok (.aload_n 0, 1) := by decide +kernel
theorem dX11_partnersIn_31 : decode cX11_partnersIn 31 = .ok (.iload_n 3, 1) := by decide +kernel
theorem dX11_partnersIn_32 : decode cX11_partnersIn 32 = .ok (.iload 5, 2) := by decide +kernel
theorem dX11_partnersIn_34 : decode cX11_partnersIn 34 = .ok (.invokevirtual 307, 3) := by decide +kernel
theorem dX11_partnersIn_37 : decode cX11_partnersIn 37 = .ok (.ifCond .ne 28, 3) := by decide +kernel
theorem dX11_partnersIn_4 : decode cX11_partnersIn 4 = .ok (.istore 5, 2) := by decide +kernel
theorem dX11_partnersIn_40 : decode cX11_partnersIn 40 = .ok (.aload_n 0, 1) := by decide +kernel
theorem dX11_partnersIn_41 : decode cX11_partnersIn 41 = .ok (.iload_n 1, 1) := by decide +kernel
theorem dX11_partnersIn_42 : decode cX11_partnersIn 42 = .ok (.iload_n 2, 1) := by decide +kernel
theorem dX11_partnersIn_43 : decode cX11_partnersIn 43 = .ok (.iload 5, 2) := by decide +kernel
theorem dX11_partnersIn_45 : decode cX11_partnersIn 45 = .ok (.iload 6, 2) := by decide +kernel
theorem dX11_partnersIn_47 : decode cX11_partnersIn 47 = .ok (.invokevirtual 304, 3) := by decide +kernel
theorem dX11_partnersIn_50 : decode cX11_partnersIn 50 = .ok (.ifCond .eq 9, 3) := by decide +kernel
theorem dX11_partnersIn_53 : decode cX11_partnersIn 53 = .ok (.iload 4, 2) := by decide +kernel
theorem dX11_partnersIn_55 : decode cX11_partnersIn 55 = .ok (.iconst 1, 1) := by decide +kernel
theorem dX11_partnersIn_56 : decode cX11_partnersIn 56 = .ok (.iadd, 1) := by decide +kernel
theorem dX11_partnersIn_57 : decode cX11_partnersIn 57 = .ok (.istore 4, 2) := by decide +kernel
theorem dX11_partnersIn_59 : decode cX11_partnersIn 59 = .ok (.iinc 6 1, 3) := by decide +kernel
theorem dX11_partnersIn_6 : decode cX11_partnersIn 6 = .ok (.iload 5, 2) := by decide +kernel
theorem dX11_partnersIn_62 : decode cX11_partnersIn 62 = .ok (.goto (-44), 3) := by decide +kernel
theorem dX11_partnersIn_65 : decode cX11_partnersIn 65 = .ok (.iinc 5 1, 3) := by decide +kernel
theorem dX11_partnersIn_68 : decode cX11_partnersIn 68 = .ok (.goto (-62), 3) := by decide +kernel
theorem dX11_partnersIn_71 : decode cX11_partnersIn 71 = .ok (.iload 4, 2) := by decide +kernel
theorem dX11_partnersIn_73 : decode cX11_partnersIn 73 = .ok (.ireturn, 1) := by decide +kernel
theorem dX11_partnersIn_8 : decode cX11_partnersIn 8 = .ok (.aload_n 0, 1) := by decide +kernel
theorem dX11_partnersIn_9 : decode cX11_partnersIn 9 = .ok (.getfield 164, 3) := by decide +kernel
theorem dX11_partners_0 : decode cX11_partners 0 = .ok (.aload_n 0, 1) := by decide +kernel
theorem dX11_partners_1 : decode cX11_partners 1 = .ok (.iconst 0, 1) := by decide +kernel
theorem dX11_partners_11 : decode cX11_partners 11 = .ok (.ifCond .eq 13, 3) := by decide +kernel
theorem dX11_partners_14 : decode cX11_partners 14 = .ok (.aload_n 0, 1) := by decide +kernel
theorem dX11_partners_15 : decode cX11_partners 15 = .ok (.iload_n 1, 1) := by decide +kernel
theorem dX11_partners_16 : decode cX11_partners 16 = .ok (.iload_n 2, 1) := by decide +kernel
theorem dX11_partners_17 : decode cX11_partners 17 = .ok (.iconst 0, 1) := by decide +kernel
theorem dX11_partners_18 : decode cX11_partners 18 = .ok (.invokevirtual 310, 3) := by decide +kernel
theorem dX11_partners_2 : decode cX11_partners 2 = .ok (.putfield 1, 3) := by decide +kernel
theorem dX11_partners_21 : decode cX11_partners 21 = .ok (.goto 4, 3) := by decide +kernel
theorem dX11_partners_24 : decode cX11_partners 24 = .ok (.iconst (-1), 1) := by decide +kernel
theorem dX11_partners_25 : decode cX11_partners 25 = .ok (.ireturn, 1) := by decide +kernel
theorem dX11_partners_5 : decode cX11_partners 5 = .ok (.aload_n 0, 1) := by decide +kernel
theorem dX11_partners_6 : decode cX11_partners 6 = .ok (.iload_n 1, 1) := by decide +kernel
theorem dX11_partners_7 : decode cX11_partners 7 = .ok (.iload_n 2, 1) := by decide +kernel
theorem dX11_partners_8 : decode cX11_partners 8 = .ok (.invokevirtual 300, 3) := by decide +kernel
theorem dX11_pure_0 : decode cX11_pure 0 = .ok (.aload_n 0, 1) := by decide +kernel
theorem dX11_pure_1 : decode cX11_pure 1 = .ok (.iconst 0, 1) := by decide +kernel
theorem dX11_pure_10 : decode cX11_pure 10 = .ok (.ifCond .eq 66, 3) := by decide +kernel
theorem dX11_pure_13 : decode cX11_pure 13 = .ok (.iload_n 1, 1) := by decide +kernel
theorem dX11_pure_14 : decode cX11_pure 14 = .ok (.istore_n 3, 1) := by decide +kernel
theorem dX11_pure_15 : decode cX11_pure 15 = .ok (.iconst 0, 1) := by decide +kernel
theorem dX11_pure_16 : decode cX11_pure 16 = .ok (.istore 4, 2) := by decide +kernel
theorem dX11_pure_18 : decode cX11_pure 18 = .ok (.iload 4, 2) := by decide +kernel
theorem dX11_pure_2 : decode cX11_pure 2 = .ok (.putfield 1, 3) := by decide +kernel
theorem dX11_pure_20 : decode cX11_pure 20 = .ok (.aload_n 0, 1) := by decide +kernel
theorem dX11_pure_21 : decode cX11_pure 21 = .ok (.getfield 164, 3) := by decide +kernel
theorem dX11_pure_24 : decode cX11_pure 24 = .ok (.if_icmp .ge 36, 3) := by decide +kernel
theorem dX11_pure_27 : decode cX11_pure 27 = .ok (.aload_n 0, 1) := by decide +kernel
theorem dX11_pure_28 : decode cX11_pure 28 = .ok (.iload_n 1, 1) := by decide +kernel
theorem dX11_pure_29 : decode cX11_pure 29 = .ok (.iload 4, 2) := by decide +kernel
theorem dX11_pure_31 : decode cX11_pure 31 = .ok (.invokevirtual 307, 3) := by decide +kernel
theorem dX11_pure_34 : decode cX11_pure 34 = .ok (.ifCond .ne 20, 3) := by decide +kernel
theorem dX11_pure_37 : decode cX11_pure 37 = .ok (.aload_n 0, 1) := by decide +kernel
theorem dX11_pure_38 : decode cX11_pure 38 = .ok (.iload 4, 2) := by decide +kernel
theorem dX11_pure_40 : decode cX11_pure 40 = .ok (.iload_n 1, 1) := by decide +kernel
theorem dX11_pure_41 : decode cX11_pure 41 = .ok (.invokevirtual 314, 3) := by decide +kernel
theorem dX11_pure_44 : decode cX11_pure 44 = .ok (.ifCond .eq 10, 3) := by decide +kernel
theorem dX11_pure_47 : decode cX11_pure 47 = .ok (.iload_n 3, 1) := by decide +kernel
theorem dX11_pure_48 : decode cX11_pure 48 = .ok (.iconst 1, 1) := by decide +kernel
theorem dX11_pure_49 : decode cX11_pure 49 = .ok (.iload 4, 2) := by decide +kernel
theorem dX11_pure_5 : decode cX11_pure 5 = .ok (.iconst 0, 1) := by decide +kernel
theorem dX11_pure_51 : decode cX11_pure 51 = .ok (.ishl, 1) := by decide +kernel
theorem dX11_pure_52 : decode cX11_pure 52 = .ok (.ior, 1) := by decide +kernel
theorem dX11_pure_53 : decode cX11_pure 53 = .ok (.istore_n 3, 1) := by decide +kernel
theorem dX11_pure_54 : decode cX11_pure 54 = .ok (.iinc 4 1, 3) := by decide +kernel
theorem dX11_pure_57 : decode cX11_pure 57 = .ok (.goto (-39), 3) := by decide +kernel
theorem dX11_pure_6 : decode cX11_pure 6 = .ok (.istore_n 1, 1) := by decide +kernel
theorem dX11_pure_60 : decode cX11_pure 60 = .ok (.iload_n 3, 1) := by decide +kernel
theorem dX11_pure_61 : decode cX11_pure 61 = .ok (.iload_n 1, 1) := by decide +kernel
theorem dX11_pure_62 : decode cX11_pure 62 = .ok (.if_icmp .eq 7, 3) := by decide +kernel
theorem dX11_pure_65 : decode cX11_pure 65 = .ok (.iconst 1, 1) := by decide +kernel
theorem dX11_pure_66 : decode cX11_pure 66 = .ok (.goto 4, 3) := by decide +kernel
theorem dX11_pure_69 : decode cX11_pure 69 = .ok (.iconst 0, 1) := by decide +kernel
theorem dX11_pure_7 : decode cX11_pure 7 = .ok (.iconst 1, 1) := by decide +kernel
theorem dX11_pure_70 : decode cX11_pure 70 = .ok (.istore_n 2, 1) := by decide +kernel
theorem dX11_pure_71 : decode cX11_pure 71 = .ok (.iload_n 3, 1) := by decide +kernel
theorem dX11_pure_72 : decode cX11_pure 72 = .ok (.istore_n 1, 1) := by decide +kernel
theorem dX11_pure_73 : decode cX11_pure 73 = .ok (.goto (-64), 3) := by decide +kernel
theorem dX11_pure_76 : decode cX11_pure 76 = .ok (.iload_n 1, 1) := by decide +kernel
theorem dX11_pure_77 : decode cX11_pure 77 = .ok (.ireturn, 1) := by decide +kernel
theorem dX11_pure_8 : decode cX11_pure 8 = .ok (.istore_n 2, 1) := by decide +kernel
theorem dX11_pure_9 : decode cX11_pure 9 = .ok (.iload_n 2, 1) := by decide +kernel
theorem dX11_termOf_0 : decode cX11_termOf 0 = .ok (.aload_n 0, 1) := by decide +kernel
theorem dX11_termOf_1 : decode cX11_termOf 1 = .ok (.getfield 152, 3) := by decide +kernel
theorem dX11_termOf_10 : decode cX11_termOf 10 = .ok (.iaload, 1) := by decide +kernel
theorem dX11_termOf_11 : decode cX11_termOf 11 = .ok (.ireturn, 1) := by decide +kernel
theorem dX11_termOf_4 : decode cX11_termOf 4 = .ok (.aload_n 0, 1) := by decide +kernel
theorem dX11_termOf_5 : decode cX11_termOf 5 = .ok (.iload_n 1, 1) := by decide +kernel
theorem dX11_termOf_6 : decode cX11_termOf 6 = .ok (.iload_n 2, 1) := by decide +kernel
theorem dX11_termOf_7 : decode cX11_termOf 7 = .ok (.invokevirtual 317, 3) := by decide +kernel
abbrev mo139 (v : Nat → Value) (a37 : Value) : List Value := ((v 0) :: (v 1) :: (v 2) :: (v 3) :: (v 4) :: (v 5) :: (v 6) :: (v 7) :: (v 8) :: (v 9) :: (v 10) :: (v 11) :: (v 12) :: (v 13) :: (v 14) :: (v 15) :: (v 16) :: (v 17) :: (v 18) :: (v 19) :: (v 20) :: (v 21) :: (v 22) :: (v 23) :: (v 24) :: (v 25) :: (v 26) :: (v 27) :: (v 28) :: (v 29) :: (v 30) :: (v 31) :: (v 32) :: (v 33) :: (v 34) :: (v 35) :: (v 36) :: a37 :: (v 38) :: (v 39) :: (v 40) :: (v 41) :: (v 42) :: [(v 43), (v 44), (v 45), (v 46), (v 47), (v 48), (v 49), (v 50), (v 51), (v 52), (v 53), (v 54), (v 55), (v 56), (v 57), (v 58), (v 59), (v 60), (v 61), (v 62), (v 63), (v 64), (v 65), (v 66), (v 67), (v 68), (v 69), (v 70)])
abbrev mo140 (v : Nat → Value) (a8 a12 a37 : Value) : List Value := ((v 0) :: (v 1) :: (v 2) :: (v 3) :: (v 4) :: (v 5) :: (v 6) :: (v 7) :: a8 :: (v 9) :: (v 10) :: (v 11) :: a12 :: (v 13) :: (v 14) :: (v 15) :: (v 16) :: (v 17) :: (v 18) :: (v 19) :: (v 20) :: (v 21) :: (v 22) :: (v 23) :: (v 24) :: (v 25) :: (v 26) :: (v 27) :: (v 28) :: (v 29) :: (v 30) :: (v 31) :: (v 32) :: (v 33) :: (v 34) :: (v 35) :: (v 36) :: a37 :: (v 38) :: (v 39) :: (v 40) :: (v 41) :: (v 42) :: [(v 43), (v 44), (v 45), (v 46), (v 47), (v 48), (v 49), (v 50), (v 51), (v 52), (v 53), (v 54), (v 55), (v 56), (v 57), (v 58), (v 59), (v 60), (v 61), (v 62), (v 63), (v 64), (v 65), (v 66), (v 67), (v 68), (v 69), (v 70)])
abbrev mo141 (v : Nat → Value) (a1 a2 a3 a4 a5 a8 a11 a12 a27 a28 a29 a30 a31 a32 : Value) : List Value := ((v 0) :: a1 :: a2 :: a3 :: a4 :: a5 :: (v 6) :: (v 7) :: a8 :: (v 9) :: (v 10) :: a11 :: a12 :: (v 13) :: (v 14) :: (v 15) :: (v 16) :: (v 17) :: (v 18) :: (v 19) :: (v 20) :: (v 21) :: (v 22) :: (v 23) :: (v 24) :: (v 25) :: (v 26) :: a27 :: a28 :: a29 :: a30 :: a31 :: a32 :: (v 33) :: (v 34) :: (v 35) :: (v 36) :: (v 37) :: (v 38) :: (v 39) :: (v 40) :: (v 41) :: (v 42) :: [(v 43), (v 44), (v 45), (v 46), (v 47), (v 48), (v 49), (v 50), (v 51), (v 52), (v 53), (v 54), (v 55), (v 56), (v 57), (v 58), (v 59), (v 60), (v 61), (v 62), (v 63), (v 64), (v 65), (v 66), (v 67), (v 68), (v 69), (v 70)])
abbrev mo142 (v : Nat → Value) (a1 a2 a3 a4 a5 a7 a8 a11 a12 a27 a28 a29 a30 a31 a32 : Value) : List Value := ((v 0) :: a1 :: a2 :: a3 :: a4 :: a5 :: (v 6) :: a7 :: a8 :: (v 9) :: (v 10) :: a11 :: a12 :: (v 13) :: (v 14) :: (v 15) :: (v 16) :: (v 17) :: (v 18) :: (v 19) :: (v 20) :: (v 21) :: (v 22) :: (v 23) :: (v 24) :: (v 25) :: (v 26) :: a27 :: a28 :: a29 :: a30 :: a31 :: a32 :: (v 33) :: (v 34) :: (v 35) :: (v 36) :: (v 37) :: (v 38) :: (v 39) :: (v 40) :: (v 41) :: (v 42) :: [(v 43), (v 44), (v 45), (v 46), (v 47), (v 48), (v 49), (v 50), (v 51), (v 52), (v 53), (v 54), (v 55), (v 56), (v 57), (v 58), (v 59), (v 60), (v 61), (v 62), (v 63), (v 64), (v 65), (v 66), (v 67), (v 68), (v 69), (v 70)])
abbrev mo143 (v : Nat → Value) (a0 a1 a2 a3 a4 a5 a7 a8 a11 a12 a27 a28 a29 a30 a31 a32 : Value) : List Value := (a0 :: a1 :: a2 :: a3 :: a4 :: a5 :: (v 6) :: a7 :: a8 :: (v 9) :: (v 10) :: a11 :: a12 :: (v 13) :: (v 14) :: (v 15) :: (v 16) :: (v 17) :: (v 18) :: (v 19) :: (v 20) :: (v 21) :: (v 22) :: (v 23) :: (v 24) :: (v 25) :: (v 26) :: a27 :: a28 :: a29 :: a30 :: a31 :: a32 :: (v 33) :: (v 34) :: (v 35) :: (v 36) :: (v 37) :: (v 38) :: (v 39) :: (v 40) :: (v 41) :: (v 42) :: [(v 43), (v 44), (v 45), (v 46), (v 47), (v 48), (v 49), (v 50), (v 51), (v 52), (v 53), (v 54), (v 55), (v 56), (v 57), (v 58), (v 59), (v 60), (v 61), (v 62), (v 63), (v 64), (v 65), (v 66), (v 67), (v 68), (v 69), (v 70)])
set_option maxRecDepth 100000 in
theorem mq140_139 (v : Nat → Value) (b8 b12 : Value) : ∃ w : Nat → Value, ∀ (a37 : Value), mo139 w a37 = (mo140 v b8 b12 a37) := ⟨fun k => List.getD (mo140 v b8 b12 .null) k .null, fun _ => rfl⟩
set_option maxRecDepth 100000 in
theorem mq141_136 (v : Nat → Value) (b8 b11 b12 : Value) : ∃ w : Nat → Value, ∀ (a1 a2 a3 a4 a5 a27 a28 a29 a30 a31 a32 : Value), mo136 w a1 a2 a3 a4 a5 a27 a28 a29 a30 a31 a32 = (mo141 v a1 a2 a3 a4 a5 b8 b11 b12 a27 a28 a29 a30 a31 a32) := ⟨fun k => List.getD (mo141 v .null .null .null .null .null b8 b11 b12 .null .null .null .null .null .null) k .null, fun _ _ _ _ _ _ _ _ _ _ _ => rfl⟩
set_option maxRecDepth 100000 in
theorem mq141_108 (v : Nat → Value) (b1 b2 b3 b4 b5 b8 b11 b12 b28 b31 b32 : Value) : ∃ w : Nat → Value, ∀ (a27 a29 a30 : Value), mo108 w a27 a29 a30 = (mo141 v b1 b2 b3 b4 b5 b8 b11 b12 a27 b28 a29 a30 b31 b32) := ⟨fun k => List.getD (mo141 v b1 b2 b3 b4 b5 b8 b11 b12 .null b28 .null .null b31 b32) k .null, fun _ _ _ => rfl⟩
set_option maxRecDepth 100000 in
theorem mq143_101 (v : Nat → Value) (b0 b1 b2 b3 b4 b5 b11 b12 b27 b28 b29 b30 b31 b32 : Value) : ∃ w : Nat → Value, ∀ (a7 a8 : Value), mo101 w a7 a8 = (mo143 v b0 b1 b2 b3 b4 b5 a7 a8 b11 b12 b27 b28 b29 b30 b31 b32) := ⟨fun k => List.getD (mo143 v b0 b1 b2 b3 b4 b5 .null .null b11 b12 b27 b28 b29 b30 b31 b32) k .null, fun _ _ => rfl⟩
set_option maxRecDepth 100000 in
theorem mq143_141 (v : Nat → Value) (b0 b7 : Value) : ∃ w : Nat → Value, ∀ (a1 a2 a3 a4 a5 a8 a11 a12 a27 a28 a29 a30 a31 a32 : Value), mo141 w a1 a2 a3 a4 a5 a8 a11 a12 a27 a28 a29 a30 a31 a32 = (mo143 v b0 a1 a2 a3 a4 a5 b7 a8 a11 a12 a27 a28 a29 a30 a31 a32) := ⟨fun k => List.getD (mo143 v b0 .null .null .null .null .null b7 .null .null .null .null .null .null .null .null .null) k .null, fun _ _ _ _ _ _ _ _ _ _ _ _ _ _ => rfl⟩
set_option maxRecDepth 100000 in
theorem mq142_141 (v : Nat → Value) (b7 : Value) : ∃ w : Nat → Value, ∀ (a1 a2 a3 a4 a5 a8 a11 a12 a27 a28 a29 a30 a31 a32 : Value), mo141 w a1 a2 a3 a4 a5 a8 a11 a12 a27 a28 a29 a30 a31 a32 = (mo142 v a1 a2 a3 a4 a5 b7 a8 a11 a12 a27 a28 a29 a30 a31 a32) := ⟨fun k => List.getD (mo142 v .null .null .null .null .null b7 .null .null .null .null .null .null .null .null .null) k .null, fun _ _ _ _ _ _ _ _ _ _ _ _ _ _ => rfl⟩
set_option maxRecDepth 100000 in
theorem mq143_142 (v : Nat → Value) (b0 : Value) : ∃ w : Nat → Value, ∀ (a1 a2 a3 a4 a5 a7 a8 a11 a12 a27 a28 a29 a30 a31 a32 : Value), mo142 w a1 a2 a3 a4 a5 a7 a8 a11 a12 a27 a28 a29 a30 a31 a32 = (mo143 v b0 a1 a2 a3 a4 a5 a7 a8 a11 a12 a27 a28 a29 a30 a31 a32) := ⟨fun k => List.getD (mo143 v b0 .null .null .null .null .null .null .null .null .null .null .null .null .null .null .null) k .null, fun _ _ _ _ _ _ _ _ _ _ _ _ _ _ _ => rfl⟩
set_option maxHeartbeats 8000000 in
set_option maxRecDepth 100000 in
theorem c_X11_has_e (l : Launch) (dC : Nat → ClassId) (dI : Nat → Nat → Nat) (sz : Nat) (h0 : Nat) (p1 : Int32) (p2 : Int32)  : Met l yX11_has (Ws yX11_has cX11_has 3 (some .boolean)) (({ frames := 0, cells := 0, slots := 0, locals := 0 } : Room)) (PRE (dC, dI) cls [] [] sz [.ref h0, .int p1, .int p2]) (va_Qi (fun (r : Int32) (_ : Unit) => (0 ≤ r.toInt ∧ r.toInt ≤ 1) ∧ ((r).toInt = bt p1 p2)) (fun (_ : Unit) (t : State) => va_P (dC, dI) cls [] t.heap ∧ va_D (va_A [] sz) []) (va_A [] sz)) 0 0 (va_A [] sz) := by
  refine Met.ofW (cc := cX11_has) (maxL := 3) (ret := (some .boolean)) (by decide) rfl ?_
  intro p e s m args below meth c s₁ B hml hv
  obtain ⟨rfl, hsz, hP, hK, hD0, hN⟩ := hv
  have hx := B.exec
  have hb := B.bytes
  have hr := B.returns
  have hts := atoms_spec (ws := Ws yX11_has cX11_has 3 (some .boolean)) B.pre
  have hT : ∀ w ∈ WALL, w ∈ Ws yX11_has cX11_has 3 (some .boolean) := fun w h => List.mem_cons_of_mem _ h
  have hw := fun w (h : w ∈ WALL) => hts w (hT w h)
  have hown : s.vm.findClass RX11 = some m.cls := findClass_of_methodNamed B.named
  have hlocks := B.notSynchronized
  subst hsz
  have hD := hD0.self (sz := s.heap.size)
  generalize hAe : va_A [] s.heap.size = A at hD ⊢
  have hA : ∀ q : Nat, s.heap.size ≤ q → A q := fun q h => by rw [← hAe]; exact Or.inr h
  have hS : va_S A s.heap s.heap [] := va_S.rf
  have hl := lv_entry ([.ref h0, .int p1, .int p2]) (n := 3) (Nat.le_of_ble_eq_true rfl)
  rw [lg_entry_eq]
  generalize (lg_sl ([.ref h0, .int p1, .int p2]) ++ List.replicate (3 - (lg_sl ([.ref h0, .int p1, .int p2])).length) Slot.unset).toArray = ls at hl ⊢
  have hl : lv_has ls 3 [(0, .ref h0), (1, .int p1), (2, .int p2)] := hl
  refine lv_iload_n hx hb dX11_has_0 rfl (lv_at hl 1 rfl) ?_
  refine lv_iload_n hx hb dX11_has_1 rfl (lv_at hl 2 rfl) ?_
  refine lv_ishr hx hb dX11_has_2 ?_
  refine lv_topi (fun z1 ez1 => ?_)
  refine lv_iconst (v := 1) hx hb dX11_has_3 (by decide) ?_
  refine lv_iand hx hb dX11_has_4 ?_
  refine lv_topi (fun z2 ez2 => ?_)
  have tz2 : 0 ≤ (z2).toInt ∧ (z2).toInt ≤ 1 := by rw [ez2]; exact i_andr 1 (by decide) (by decide) (by decide)
  refine lv_iconst (v := 1) hx hb dX11_has_5 (by decide) ?_
  refine lv_icmp_ne (tgt := 13) hx hb dX11_has_6 (by decide) (fun c3 => ?_) (fun c3 => ?_)
  · have kc3 := (not_congr (cv_eq (rfl : (z2).toInt = (z2).toInt) (by decide : (1 : Int32).toInt = 1))).mp c3
    refine lv_iconst (v := 0) hx hb dX11_has_13 (by decide) ?_
    refine W.widen (k := 0) (n := 0) (Nat.le_of_ble_eq_true rfl) (Nat.le_of_ble_eq_true rfl) ?_
    have cst0 : (0 : Int32).toInt = 0 := by decide
    have w4 : 0 ≤ (0 : Int32).toInt ∧ (0 : Int32).toInt ≤ 1 := by omega
    have w5 : ((0 : Int32)).toInt = bt p1 p2 := by unfold bt; rw [← ez1, ← ez2]; omega
    exact W.zret (v := 0) (ty := .boolean) hx hb hr (by decide) (fun t ht hW => ⟨⟨0, (), rfl, ⟨w4, w5⟩, by rw [ht]; exact hP, hD⟩, hS.F ht⟩) hS.2.2 dX11_has_14
  · have kc3 := (cv_eq (rfl : (z2).toInt = (z2).toInt) (by decide : (1 : Int32).toInt = 1)).mp c3
    refine lv_iconst (v := 1) hx hb dX11_has_9 (by decide) ?_
    refine lv_goto (tgt := 14) hx hb dX11_has_10 (by decide) ?_
    refine W.widen (k := 0) (n := 0) (Nat.le_of_ble_eq_true rfl) (Nat.le_of_ble_eq_true rfl) ?_
    have cst1 : (1 : Int32).toInt = 1 := by decide
    have w6 : 0 ≤ (1 : Int32).toInt ∧ (1 : Int32).toInt ≤ 1 := by omega
    have w7 : ((1 : Int32)).toInt = bt p1 p2 := by unfold bt; rw [← ez1, ← ez2]; omega
    exact W.zret (v := 1) (ty := .boolean) hx hb hr (by decide) (fun t ht hW => ⟨⟨1, (), rfl, ⟨w6, w7⟩, by rw [ht]; exact hP, hD⟩, hS.F ht⟩) hS.2.2 dX11_has_14

set_option maxHeartbeats 8000000 in
set_option maxRecDepth 100000 in
theorem c_X11_litOf (l : Launch) (dC : Nat → ClassId) (dI : Nat → Nat → Nat) (sz : Nat) (h_mm : Nat) (h_cof : Nat) (v_mm : Nat → Value) (cy_cof : ClassId) (f_cof : Nat → Int32) (p1 : Int32) (p2 : Int32) (hf_cof : Rg 0 15 f_cof) (q0 : 0 ≤ (p1).toInt ∧ (p1).toInt ≤ 30) (q1 : 0 ≤ (p2).toInt ∧ (p2).toInt ≤ 5) : Met l yX11_litOf (Ws yX11_litOf cX11_litOf 3 (some .int)) (({ frames := 1, cells := 0, slots := 0, locals := 22 } : Room)) (PRE (dC, dI) cls [(cy_cof, .int)] [(h_mm, .inr (8, (mo139 v_mm (.ref h_cof)))), (h_cof, .inl (cy_cof, 31, .inl f_cof))] sz [.ref h_mm, .int p1, .int p2]) (va_Qi (fun (r : Int32) (_ : Unit) => (0 ≤ r.toInt ∧ r.toInt ≤ 95) ∧ ((r).toInt = 6 * (f_cof (p1).toInt.toNat).toInt + (p2).toInt)) (fun (_ : Unit) (t : State) => va_P (dC, dI) cls [(h_mm, .inr (8, (mo139 v_mm (.ref h_cof)))), (h_cof, .inl (cy_cof, 31, .inl f_cof))] t.heap ∧ va_D (va_A [(h_mm, .inr (8, (mo139 v_mm (.ref h_cof)))), (h_cof, .inl (cy_cof, 31, .inl f_cof))] sz) [(h_mm, .inr (8, (mo139 v_mm (.ref h_cof)))), (h_cof, .inl (cy_cof, 31, .inl f_cof))]) (va_A [(h_mm, .inr (8, (mo139 v_mm (.ref h_cof)))), (h_cof, .inl (cy_cof, 31, .inl f_cof))] sz)) 0 0 (va_A [(h_mm, .inr (8, (mo139 v_mm (.ref h_cof)))), (h_cof, .inl (cy_cof, 31, .inl f_cof))] sz) := by
  refine Met.ofW (cc := cX11_litOf) (maxL := 3) (ret := (some .int)) (by decide) rfl ?_
  intro p e s m args below meth c s₁ B hml hv
  obtain ⟨rfl, hsz, hP, hK, hD0, hN⟩ := hv
  have hx := B.exec
  have hb := B.bytes
  have hr := B.returns
  have hts := atoms_spec (ws := Ws yX11_litOf cX11_litOf 3 (some .int)) B.pre
  have hT : ∀ w ∈ WALL, w ∈ Ws yX11_litOf cX11_litOf 3 (some .int) := fun w h => List.mem_cons_of_mem _ h
  have hw := fun w (h : w ∈ WALL) => hts w (hT w h)
  have hown : s.vm.findClass RX11 = some m.cls := findClass_of_methodNamed B.named
  have hlocks := B.notSynchronized
  subst hsz
  have hD := hD0.self (sz := s.heap.size)
  generalize hAe : va_A [(h_mm, .inr (8, (mo139 v_mm (.ref h_cof)))), (h_cof, .inl (cy_cof, 31, .inl f_cof))] s.heap.size = A at hD ⊢
  have hA : ∀ q : Nat, s.heap.size ≤ q → A q := fun q h => by rw [← hAe]; exact Or.inr h
  have hS : va_S A s.heap s.heap [] := va_S.rf
  have hl := lv_entry ([.ref h_mm, .int p1, .int p2]) (n := 3) (Nat.le_of_ble_eq_true rfl)
  rw [lg_entry_eq]
  generalize (lg_sl ([.ref h_mm, .int p1, .int p2]) ++ List.replicate (3 - (lg_sl ([.ref h_mm, .int p1, .int p2])).length) Slot.unset).toArray = ls at hl ⊢
  have hl : lv_has ls 3 [(0, .ref h_mm), (1, .int p1), (2, .int p2)] := hl
  refine lv_aload_n hx hb dX11_litOf_0 rfl (lv_at hl 0 rfl) ?_
  refine lv_aload_n hx hb dX11_litOf_1 rfl (lv_at hl 0 rfl) ?_
  refine va_get (D := (dC, dI)) (ci := 8) (v := .ref h_cof) (C := RX11) (T := TX11) (N := 71) hx hb hw iwX11 hown hK hP 0 rfl rfl 37 (by decide) (hw _ w_f_X11_204) (fun _ h9 => h9) rfl dX11_litOf_2 ?_
  refine lv_iload_n hx hb dX11_litOf_5 rfl (lv_at hl 1 rfl) ?_
  refine va_iald hx hb hK hP 1 0 rfl rfl (i := p1) (vp_in_iff.mpr (by omega)) dX11_litOf_6 ?_
  refine lv_topi (fun z1 ez1 => ?_)
  have rz1 : 0 ≤ (z1).toInt ∧ (z1).toInt ≤ 15 := by rw [ez1]; exact hf_cof _
  refine lv_iload_n hx hb dX11_litOf_7 rfl (lv_at hl 2 rfl) ?_
  have hPc := hP.sub (ws' := []) [] rfl
  have hDc := hD.sub (ws' := []) [] (by decide) rfl
  have hKc := hK.sub (tys' := []) [] rfl
  have hFc := va_free (wc := []) hD hS hA [] rfl
  refine va_calli (va_runV (As := [.int z1, .int p2]) (rest := []) ⟨hx, hb, hml, hown, hts⟩ (c_X11_litAt l dC dI s.heap.size h_mm z1 p2 (by omega) (by first | exact q1 | omega)) (cwV 2 hts (gv hT w_m_X11_149 w_instanceMethod_X11_litAt ws_sel_X11_litAt w_ini_X11 w_code_X11_litAt) rfl rfl rfl (by decide +kernel) ⟨(Nat.le_of_ble_eq_true rfl), (Nat.le_of_ble_eq_true rfl)⟩) ⟨pre_blind, va_recv hK hP (ci := 8) (q0 := 0) rfl rfl, pre_of hPc hKc hDc hN⟩ rfl rfl hl.1 rfl (lv_room (Nat.le_of_ble_eq_true rfl)) dX11_litOf_8 ⟨(Nat.le_of_ble_eq_true rfl), (Nat.le_of_ble_eq_true rfl)⟩) hS (fun q _ h => hFc q h) hFc (fun r2 u t H locs ht hvm hq hB hz1 hk1 hS9 => ?_)
  obtain ⟨hP1, hD1⟩ := hB
  rw [ht] at hP1
  obtain ⟨hP9, hD9⟩ := va_join (wr := [(h_mm, .inr (8, (mo139 v_mm (.ref h_cof)))), (h_cof, .inl (cy_cof, 31, .inl f_cof))]) (w1 := []) hP hD [] [0, 1] rfl rfl (by decide) (by decide) hk1 hFc hP1 hD1
  clear hP hD hS hPc hDc hKc hFc hP1 hD1 hk1 hz1 ht hvm
  have hP : va_P (dC, dI) cls [(h_mm, .inr (8, (mo139 v_mm (.ref h_cof)))), (h_cof, .inl (cy_cof, 31, .inl f_cof))] H := hP9
  have hD : va_D A [(h_mm, .inr (8, (mo139 v_mm (.ref h_cof)))), (h_cof, .inl (cy_cof, 31, .inl f_cof))] := hD9
  have hS := hS9
  clear hP9 hD9 hS9
  obtain ⟨k3, k4⟩ := hq
  replace k3 : 0 ≤ (r2).toInt ∧ (r2).toInt ≤ 191 := k3
  replace k4 : ((r2)).toInt = 6 * ((z1)).toInt + ((p2)).toInt := k4
  refine W.widen (k := 0) (n := 0) (Nat.le_of_ble_eq_true rfl) (Nat.le_of_ble_eq_true rfl) ?_
  have w5 : 0 ≤ (r2 : Int32).toInt ∧ (r2 : Int32).toInt ≤ 95 := by omega
  have w6 : ((r2 : Int32)).toInt = 6 * (f_cof (p1).toInt.toNat).toInt + (p2).toInt := by rw [(clamp_nat (i := p1) (by omega))] at ez1; rw [← ez1]; omega
  exact W.iret (v := r2) hx hb hr (fun t ht hW => ⟨⟨r2, (), rfl, ⟨w5, w6⟩, by rw [ht]; exact hP, hD⟩, hS.F ht⟩) hS.2.2 dX11_litOf_11

set_option maxHeartbeats 8000000 in
set_option maxRecDepth 100000 in
theorem c_X11_termOf (l : Launch) (dC : Nat → ClassId) (dI : Nat → Nat → Nat) (sz : Nat) (h_mm : Nat) (h_cof : Nat) (h_mny : Nat) (h_tem : Nat) (v_mm : Nat → Value) (cy_cof : ClassId) (f_cof : Nat → Int32) (cy_mny : ClassId) (f_mny : Nat → Int32) (cy_tem : ClassId) (f_tem : Nat → Int32) (p1 : Int32) (p2 : Int32) (N : Int) (hz : Nat → Nat) (cb : Int) (hf_cof : Rg 0 15 f_cof) (hf_mny : Rg 0 6 f_mny) (hf_tem : Rg 0 7999 f_tem) (q0 : 0 ≤ (p1).toInt ∧ (p1).toInt ≤ 30) (q1 : 0 ≤ (p2).toInt ∧ (p2).toInt ≤ 5) (q2 : (f_cof (p1).toInt.toNat).toInt < cb ∧ 0 ≤ (p2).toInt ∧ (p2).toInt < (f_mny ((f_cof (p1).toInt.toNat).toInt).toNat).toInt) (hn_tms : TM 0 N hz 0 cb f_mny f_tem) : Met l yX11_termOf (Ws yX11_termOf cX11_termOf 3 (some .int)) (({ frames := 2, cells := 0, slots := 0, locals := 44 } : Room)) (PRE (dC, dI) cls [(cy_cof, .int), (cy_mny, .int), (cy_tem, .int)] [(h_mm, .inr (8, (mo140 v_mm (.ref h_mny) (.ref h_tem) (.ref h_cof)))), (h_cof, .inl (cy_cof, 31, .inl f_cof)), (h_mny, .inl (cy_mny, 32, .inl f_mny)), (h_tem, .inl (cy_tem, 192, .inl f_tem))] sz [.ref h_mm, .int p1, .int p2]) (va_Qi (fun (r : Int32) (_ : Unit) => (0 ≤ r.toInt ∧ r.toInt ≤ 7999) ∧ (0 ≤ (r).toInt ∧ (r).toInt < N) ∧ (hz (r).toInt.toNat = 7)) (fun (_ : Unit) (t : State) => va_P (dC, dI) cls [(h_mm, .inr (8, (mo140 v_mm (.ref h_mny) (.ref h_tem) (.ref h_cof)))), (h_cof, .inl (cy_cof, 31, .inl f_cof)), (h_mny, .inl (cy_mny, 32, .inl f_mny)), (h_tem, .inl (cy_tem, 192, .inl f_tem))] t.heap ∧ va_D (va_A [(h_mm, .inr (8, (mo140 v_mm (.ref h_mny) (.ref h_tem) (.ref h_cof)))), (h_cof, .inl (cy_cof, 31, .inl f_cof)), (h_mny, .inl (cy_mny, 32, .inl f_mny)), (h_tem, .inl (cy_tem, 192, .inl f_tem))] sz) [(h_mm, .inr (8, (mo140 v_mm (.ref h_mny) (.ref h_tem) (.ref h_cof)))), (h_cof, .inl (cy_cof, 31, .inl f_cof)), (h_mny, .inl (cy_mny, 32, .inl f_mny)), (h_tem, .inl (cy_tem, 192, .inl f_tem))]) (va_A [(h_mm, .inr (8, (mo140 v_mm (.ref h_mny) (.ref h_tem) (.ref h_cof)))), (h_cof, .inl (cy_cof, 31, .inl f_cof)), (h_mny, .inl (cy_mny, 32, .inl f_mny)), (h_tem, .inl (cy_tem, 192, .inl f_tem))] sz)) 0 0 (va_A [(h_mm, .inr (8, (mo140 v_mm (.ref h_mny) (.ref h_tem) (.ref h_cof)))), (h_cof, .inl (cy_cof, 31, .inl f_cof)), (h_mny, .inl (cy_mny, 32, .inl f_mny)), (h_tem, .inl (cy_tem, 192, .inl f_tem))] sz) := by
  refine Met.ofW (cc := cX11_termOf) (maxL := 3) (ret := (some .int)) (by decide) rfl ?_
  intro p e s m args below meth c s₁ B hml hv
  obtain ⟨rfl, hsz, hP, hK, hD0, hN⟩ := hv
  have hx := B.exec
  have hb := B.bytes
  have hr := B.returns
  have hts := atoms_spec (ws := Ws yX11_termOf cX11_termOf 3 (some .int)) B.pre
  have hT : ∀ w ∈ WALL, w ∈ Ws yX11_termOf cX11_termOf 3 (some .int) := fun w h => List.mem_cons_of_mem _ h
  have hw := fun w (h : w ∈ WALL) => hts w (hT w h)
  have hown : s.vm.findClass RX11 = some m.cls := findClass_of_methodNamed B.named
  have hlocks := B.notSynchronized
  subst hsz
  have hD := hD0.self (sz := s.heap.size)
  generalize hAe : va_A [(h_mm, .inr (8, (mo140 v_mm (.ref h_mny) (.ref h_tem) (.ref h_cof)))), (h_cof, .inl (cy_cof, 31, .inl f_cof)), (h_mny, .inl (cy_mny, 32, .inl f_mny)), (h_tem, .inl (cy_tem, 192, .inl f_tem))] s.heap.size = A at hD ⊢
  have hA : ∀ q : Nat, s.heap.size ≤ q → A q := fun q h => by rw [← hAe]; exact Or.inr h
  have hS : va_S A s.heap s.heap [] := va_S.rf
  have hl := lv_entry ([.ref h_mm, .int p1, .int p2]) (n := 3) (Nat.le_of_ble_eq_true rfl)
  rw [lg_entry_eq]
  generalize (lg_sl ([.ref h_mm, .int p1, .int p2]) ++ List.replicate (3 - (lg_sl ([.ref h_mm, .int p1, .int p2])).length) Slot.unset).toArray = ls at hl ⊢
  have hl : lv_has ls 3 [(0, .ref h_mm), (1, .int p1), (2, .int p2)] := hl
  refine lv_aload_n hx hb dX11_termOf_0 rfl (lv_at hl 0 rfl) ?_
  refine va_get (D := (dC, dI)) (ci := 8) (v := .ref h_tem) (C := RX11) (T := TX11) (N := 71) hx hb hw iwX11 hown hK hP 0 rfl rfl 12 (by decide) (hw _ w_f_X11_152) (fun _ h9 => h9) rfl dX11_termOf_1 ?_
  refine lv_aload_n hx hb dX11_termOf_4 rfl (lv_at hl 0 rfl) ?_
  refine lv_iload_n hx hb dX11_termOf_5 rfl (lv_at hl 1 rfl) ?_
  refine lv_iload_n hx hb dX11_termOf_6 rfl (lv_at hl 2 rfl) ?_
  obtain ⟨vq1, evq1⟩ := mq140_139 v_mm (.ref h_mny) (.ref h_tem)
  replace hP : va_P (dC, dI) cls [(h_mm, .inr (8, (mo139 vq1 (.ref h_cof)))), (h_cof, .inl (cy_cof, 31, .inl f_cof)), (h_mny, .inl (cy_mny, 32, .inl f_mny)), (h_tem, .inl (cy_tem, 192, .inl f_tem))] s.heap := by rw [evq1]; exact hP
  replace hD : va_D A [(h_mm, .inr (8, (mo139 vq1 (.ref h_cof)))), (h_cof, .inl (cy_cof, 31, .inl f_cof)), (h_mny, .inl (cy_mny, 32, .inl f_mny)), (h_tem, .inl (cy_tem, 192, .inl f_tem))] := by rw [evq1]; exact hD
  have hPc := hP.sub (ws' := [(h_mm, .inr (8, (mo139 vq1 (.ref h_cof)))), (h_cof, .inl (cy_cof, 31, .inl f_cof))]) [0, 1] rfl
  have hDc := hD.sub (ws' := [(h_mm, .inr (8, (mo139 vq1 (.ref h_cof)))), (h_cof, .inl (cy_cof, 31, .inl f_cof))]) [0, 1] (by decide) rfl
  have hKc := hK.sub (tys' := [(cy_cof, .int)]) [0] rfl
  have hFc := va_free (wc := [(h_mm, .inr (8, (mo139 vq1 (.ref h_cof)))), (h_cof, .inl (cy_cof, 31, .inl f_cof))]) hD hS hA [0, 1] rfl
  refine va_calli (va_runV (As := [.int p1, .int p2]) (rest := [.ref h_tem]) ⟨hx, hb, hml, hown, hts⟩ (c_X11_litOf l dC dI s.heap.size h_mm h_cof vq1 cy_cof f_cof p1 p2 hf_cof (by first | exact q0 | omega) (by first | exact q1 | omega)) (cwV 2 hts (gv hT w_m_X11_317 w_instanceMethod_X11_litOf ws_sel_X11_litOf w_ini_X11 w_code_X11_litOf) rfl rfl rfl (by decide +kernel) ⟨(Nat.le_of_ble_eq_true rfl), (Nat.le_of_ble_eq_true rfl)⟩) ⟨pre_blind, va_recv hK hP (ci := 8) (q0 := 0) rfl rfl, pre_of hPc hKc hDc hN⟩ rfl rfl hl.1 rfl (lv_room (Nat.le_of_ble_eq_true rfl)) dX11_termOf_7 ⟨(Nat.le_of_ble_eq_true rfl), (Nat.le_of_ble_eq_true rfl)⟩) hS (fun q _ h => hFc q h) hFc (fun r2 u t H locs ht hvm hq hB hz1 hk1 hS9 => ?_)
  obtain ⟨hP1, hD1⟩ := hB
  rw [ht] at hP1
  obtain ⟨hP9, hD9⟩ := va_join (wr := [(h_mny, .inl (cy_mny, 32, .inl f_mny)), (h_tem, .inl (cy_tem, 192, .inl f_tem))]) (w1 := [(h_mm, .inr (8, (mo139 vq1 (.ref h_cof)))), (h_cof, .inl (cy_cof, 31, .inl f_cof))]) hP hD [0, 1] [2, 3] rfl rfl (by decide) (by decide) hk1 hFc hP1 hD1
  clear hP hD hS hPc hDc hKc hFc hP1 hD1 hk1 hz1 ht hvm
  have hP : va_P (dC, dI) cls [(h_mny, .inl (cy_mny, 32, .inl f_mny)), (h_tem, .inl (cy_tem, 192, .inl f_tem)), (h_mm, .inr (8, (mo139 vq1 (.ref h_cof)))), (h_cof, .inl (cy_cof, 31, .inl f_cof))] H := hP9
  have hD : va_D A [(h_mny, .inl (cy_mny, 32, .inl f_mny)), (h_tem, .inl (cy_tem, 192, .inl f_tem)), (h_mm, .inr (8, (mo139 vq1 (.ref h_cof)))), (h_cof, .inl (cy_cof, 31, .inl f_cof))] := hD9
  have hS := hS9
  clear hP9 hD9 hS9
  rw [evq1] at hP hD
  replace hP : va_P (dC, dI) cls [(h_mny, .inl (cy_mny, 32, .inl f_mny)), (h_tem, .inl (cy_tem, 192, .inl f_tem)), (h_mm, .inr (8, (mo140 v_mm (.ref h_mny) (.ref h_tem) (.ref h_cof)))), (h_cof, .inl (cy_cof, 31, .inl f_cof))] H := hP
  replace hD : va_D A [(h_mny, .inl (cy_mny, 32, .inl f_mny)), (h_tem, .inl (cy_tem, 192, .inl f_tem)), (h_mm, .inr (8, (mo140 v_mm (.ref h_mny) (.ref h_tem) (.ref h_cof)))), (h_cof, .inl (cy_cof, 31, .inl f_cof))] := hD
  clear evq1 
  obtain ⟨k3, k4⟩ := hq
  replace k3 : 0 ≤ (r2).toInt ∧ (r2).toInt ≤ 95 := k3
  replace k4 : ((r2)).toInt = 6 * (f_cof ((p1)).toInt.toNat).toInt + ((p2)).toInt := k4
  refine va_iald hx hb hK hP 1 2 rfl rfl (i := r2) (vp_in_iff.mpr (by omega)) dX11_termOf_10 ?_
  refine lv_topi (fun z5 ez5 => ?_)
  have rz5 : 0 ≤ (z5).toInt ∧ (z5).toInt ≤ 7999 := by rw [ez5]; exact hf_tem _
  have hc9 := hf_cof (p1).toInt.toNat
  have tg9 := tm_get (c := f_cof (p1).toInt.toNat) (t := r2) (l := (p2).toInt) hn_tms (by omega) (by rw [clamp_nat (i := f_cof (p1).toInt.toNat) (by omega)]; omega) (by omega) ez5
  replace hP : va_P (dC, dI) cls [(h_mm, .inr (8, (mo140 v_mm (.ref h_mny) (.ref h_tem) (.ref h_cof)))), (h_cof, .inl (cy_cof, 31, .inl f_cof)), (h_mny, .inl (cy_mny, 32, .inl f_mny)), (h_tem, .inl (cy_tem, 192, .inl f_tem))] H := hP.sub [2, 3, 0, 1] rfl
  replace hD : va_D A [(h_mm, .inr (8, (mo140 v_mm (.ref h_mny) (.ref h_tem) (.ref h_cof)))), (h_cof, .inl (cy_cof, 31, .inl f_cof)), (h_mny, .inl (cy_mny, 32, .inl f_mny)), (h_tem, .inl (cy_tem, 192, .inl f_tem))] := hD.sub [2, 3, 0, 1] (by decide) rfl
  refine W.widen (k := 0) (n := 0) (Nat.le_of_ble_eq_true rfl) (Nat.le_of_ble_eq_true rfl) ?_
  have w6 : 0 ≤ (z5 : Int32).toInt ∧ (z5 : Int32).toInt ≤ 7999 := by omega
  have w7 : 0 ≤ ((z5 : Int32)).toInt ∧ ((z5 : Int32)).toInt < N := by omega
  have w8 : hz ((z5 : Int32)).toInt.toNat = 7 := by omega
  exact W.iret (v := z5) hx hb hr (fun t ht hW => ⟨⟨z5, (), rfl, ⟨w6, w7, w8⟩, by rw [ht]; exact hP, hD⟩, hS.F ht⟩) hS.2.2 dX11_termOf_11

set_option maxHeartbeats 8000000 in
set_option maxRecDepth 100000 in
theorem c_X11_isLiteral_e (l : Launch) (dC : Nat → ClassId) (dI : Nat → Nat → Nat) (sz : Nat) (h_mm : Nat) (h_mny : Nat) (v_mm : Nat → Value) (x_mm_clauses : Int32) (cy_mny : ClassId) (f_mny : Nat → Int32) (p1 : Int32) (p2 : Int32) (hx_mm_clauses : 0 ≤ (x_mm_clauses).toInt ∧ (x_mm_clauses).toInt ≤ 16) (hf_mny : Rg 0 6 f_mny) : Met l yX11_isLiteral (Ws yX11_isLiteral cX11_isLiteral 3 (some .boolean)) (({ frames := 2, cells := 0, slots := 0, locals := 47 } : Room)) (PRE (dC, dI) cls [(cy_mny, .int)] [(h_mm, .inr (8, (mo101 v_mm (.int x_mm_clauses) (.ref h_mny)))), (h_mny, .inl (cy_mny, 32, .inl f_mny))] sz [.ref h_mm, .int p1, .int p2]) (va_Qi (fun (r : Int32) (_ : Unit) => ((r = 1 ∧ (0 ≤ (p1).toInt) ∧ ((p1).toInt < (x_mm_clauses).toInt) ∧ (0 ≤ (p2).toInt) ∧ ((p2).toInt ≤ 5) ∧ ((p2).toInt < (f_mny (p1).toInt.toNat).toInt)) ∨ (r = 0))) (fun (_ : Unit) (t : State) => va_P (dC, dI) cls [(h_mm, .inr (8, (mo101 v_mm (.int x_mm_clauses) (.ref h_mny)))), (h_mny, .inl (cy_mny, 32, .inl f_mny))] t.heap ∧ va_D (va_A [(h_mm, .inr (8, (mo101 v_mm (.int x_mm_clauses) (.ref h_mny)))), (h_mny, .inl (cy_mny, 32, .inl f_mny))] sz) [(h_mm, .inr (8, (mo101 v_mm (.int x_mm_clauses) (.ref h_mny)))), (h_mny, .inl (cy_mny, 32, .inl f_mny))]) (va_A [(h_mm, .inr (8, (mo101 v_mm (.int x_mm_clauses) (.ref h_mny)))), (h_mny, .inl (cy_mny, 32, .inl f_mny))] sz)) 0 0 (va_A [(h_mm, .inr (8, (mo101 v_mm (.int x_mm_clauses) (.ref h_mny)))), (h_mny, .inl (cy_mny, 32, .inl f_mny))] sz) := by
  refine Met.ofW (cc := cX11_isLiteral) (maxL := 3) (ret := (some .boolean)) (by decide) rfl ?_
  intro p e s m args below meth c s₁ B hml hv
  obtain ⟨rfl, hsz, hP, hK, hD0, hN⟩ := hv
  have hx := B.exec
  have hb := B.bytes
  have hr := B.returns
  have hts := atoms_spec (ws := Ws yX11_isLiteral cX11_isLiteral 3 (some .boolean)) B.pre
  have hT : ∀ w ∈ WALL, w ∈ Ws yX11_isLiteral cX11_isLiteral 3 (some .boolean) := fun w h => List.mem_cons_of_mem _ h
  have hw := fun w (h : w ∈ WALL) => hts w (hT w h)
  have hown : s.vm.findClass RX11 = some m.cls := findClass_of_methodNamed B.named
  have hlocks := B.notSynchronized
  subst hsz
  have hD := hD0.self (sz := s.heap.size)
  generalize hAe : va_A [(h_mm, .inr (8, (mo101 v_mm (.int x_mm_clauses) (.ref h_mny)))), (h_mny, .inl (cy_mny, 32, .inl f_mny))] s.heap.size = A at hD ⊢
  have hA : ∀ q : Nat, s.heap.size ≤ q → A q := fun q h => by rw [← hAe]; exact Or.inr h
  have hS : va_S A s.heap s.heap [] := va_S.rf
  have hl := lv_entry ([.ref h_mm, .int p1, .int p2]) (n := 3) (Nat.le_of_ble_eq_true rfl)
  rw [lg_entry_eq]
  generalize (lg_sl ([.ref h_mm, .int p1, .int p2]) ++ List.replicate (3 - (lg_sl ([.ref h_mm, .int p1, .int p2])).length) Slot.unset).toArray = ls at hl ⊢
  have hl : lv_has ls 3 [(0, .ref h_mm), (1, .int p1), (2, .int p2)] := hl
  refine lv_aload_n hx hb dX11_isLiteral_0 rfl (lv_at hl 0 rfl) ?_
  refine lv_iload_n hx hb dX11_isLiteral_1 rfl (lv_at hl 1 rfl) ?_
  obtain ⟨vq1, evq1⟩ := mq101_100 v_mm (.ref h_mny)
  replace hP : va_P (dC, dI) cls [(h_mm, .inr (8, (mo100 vq1 (.int x_mm_clauses)))), (h_mny, .inl (cy_mny, 32, .inl f_mny))] s.heap := by rw [evq1]; exact hP
  replace hD : va_D A [(h_mm, .inr (8, (mo100 vq1 (.int x_mm_clauses)))), (h_mny, .inl (cy_mny, 32, .inl f_mny))] := by rw [evq1]; exact hD
  have hPc := hP.sub (ws' := [(h_mm, .inr (8, (mo100 vq1 (.int x_mm_clauses))))]) [0] rfl
  have hDc := hD.sub (ws' := [(h_mm, .inr (8, (mo100 vq1 (.int x_mm_clauses))))]) [0] (by decide) rfl
  have hKc := hK.sub (tys' := []) [] rfl
  have hFc := va_free (wc := [(h_mm, .inr (8, (mo100 vq1 (.int x_mm_clauses))))]) hD hS hA [0] rfl
  refine va_calli (va_runV (As := [.int p1]) (rest := []) ⟨hx, hb, hml, hown, hts⟩ (c_X11_isClause l dC dI s.heap.size h_mm vq1 x_mm_clauses p1 (by first | exact hx_mm_clauses | omega)) (cwV 1 hts (gv hT w_m_X11_174 w_instanceMethod_X11_isClause ws_sel_X11_isClause w_ini_X11 w_code_X11_isClause) rfl rfl rfl (by decide +kernel) ⟨(Nat.le_of_ble_eq_true rfl), (Nat.le_of_ble_eq_true rfl)⟩) ⟨pre_blind, va_recv hK hP (ci := 8) (q0 := 0) rfl rfl, pre_of hPc hKc hDc hN⟩ rfl rfl hl.1 rfl (lv_room (Nat.le_of_ble_eq_true rfl)) dX11_isLiteral_2 ⟨(Nat.le_of_ble_eq_true rfl), (Nat.le_of_ble_eq_true rfl)⟩) hS (fun q _ h => hFc q h) hFc (fun r2 u t H locs ht hvm hq hB hz1 hk1 hS9 => ?_)
  obtain ⟨hP1, hD1⟩ := hB
  rw [ht] at hP1
  obtain ⟨hP9, hD9⟩ := va_join (wr := [(h_mny, .inl (cy_mny, 32, .inl f_mny))]) (w1 := [(h_mm, .inr (8, (mo100 vq1 (.int x_mm_clauses))))]) hP hD [0] [1] rfl rfl (by decide) (by decide) hk1 hFc hP1 hD1
  clear hP hD hS hPc hDc hKc hFc hP1 hD1 hk1 hz1 ht hvm
  have hP : va_P (dC, dI) cls [(h_mny, .inl (cy_mny, 32, .inl f_mny)), (h_mm, .inr (8, (mo100 vq1 (.int x_mm_clauses))))] H := hP9
  have hD : va_D A [(h_mny, .inl (cy_mny, 32, .inl f_mny)), (h_mm, .inr (8, (mo100 vq1 (.int x_mm_clauses))))] := hD9
  have hS := hS9
  clear hP9 hD9 hS9
  rw [evq1] at hP hD
  replace hP : va_P (dC, dI) cls [(h_mny, .inl (cy_mny, 32, .inl f_mny)), (h_mm, .inr (8, (mo101 v_mm (.int x_mm_clauses) (.ref h_mny))))] H := hP
  replace hD : va_D A [(h_mny, .inl (cy_mny, 32, .inl f_mny)), (h_mm, .inr (8, (mo101 v_mm (.int x_mm_clauses) (.ref h_mny))))] := hD
  clear evq1 
  rcases hq with ⟨rfl, hq⟩ | ⟨rfl, hq⟩
  · replace hq : (0 ≤ ((p1)).toInt) ∧ (((p1)).toInt < ((x_mm_clauses)).toInt) := hq
    refine lv_if_eq (tgt := 31) hx hb dX11_isLiteral_5 (by decide) (fun c9 => absurd c9 (by decide)) (fun _ => ?_)
    refine lv_aload_n hx hb dX11_isLiteral_8 rfl (lv_at hl 0 rfl) ?_
    refine lv_iload_n hx hb dX11_isLiteral_9 rfl (lv_at hl 2 rfl) ?_
    refine lv_i2l hx hb dX11_isLiteral_10 rfl ?_
    refine lv_topl (fun z3 ez3 => ?_)
    have tz3 : (z3).toInt = (p2).toInt := by rw [ez3]; exact Int32.toInt_toInt64 _
    have bz3 := i_bd p2
    refine lv_lconst (v := 0) hx hb dX11_isLiteral_11 (by decide) ?_
    refine lv_aload_n hx hb dX11_isLiteral_12 rfl (lv_at hl 0 rfl) ?_
    refine va_get (D := (dC, dI)) (ci := 8) (v := .ref h_mny) (C := RX11) (T := TX11) (N := 71) hx hb hw iwX11 hown hK hP 1 rfl rfl 8 (by decide) (hw _ w_f_X11_142) (fun _ h9 => h9) rfl dX11_isLiteral_13 ?_
    refine lv_iload_n hx hb dX11_isLiteral_16 rfl (lv_at hl 1 rfl) ?_
    refine va_iald hx hb hK hP 0 0 rfl rfl (i := p1) (vp_in_iff.mpr (by omega)) dX11_isLiteral_17 ?_
    refine lv_topi (fun z4 ez4 => ?_)
    have rz4 : 0 ≤ (z4).toInt ∧ (z4).toInt ≤ 6 := by rw [ez4]; exact hf_mny _
    have mqz4 : (f_mny (p1).toInt.toNat).toInt = (z4).toInt := by rw [ez4, (clamp_nat (i := p1) (by omega))]
    refine lv_i2l hx hb dX11_isLiteral_18 rfl ?_
    refine lv_topl (fun z5 ez5 => ?_)
    have tz5 : (z5).toInt = (z4).toInt := by rw [ez5]; exact Int32.toInt_toInt64 _
    have bz5 := i_bd z4
    refine lv_lconst (v := 1) hx hb dX11_isLiteral_19 (by decide) ?_
    refine lv_lsub hx hb dX11_isLiteral_20 ?_
    refine lv_topl (fun z6 ez6 => ?_)
    have tz6 : (z6).toInt = (z5).toInt - 1 := by rw [ez6]; exact l_sub rfl (by decide) (by omega)
    have : (0 : Int64).toInt = 0 := by decide
    have hPc := hP.sub (ws' := []) [] rfl
    have hDc := hD.sub (ws' := []) [] (by decide) rfl
    have hKc := hK.sub (tys' := []) [] rfl
    have hFc := va_free (wc := []) hD hS hA [] rfl
    refine va_calli (va_runV (As := [.long z3, .long 0, .long z6]) (rest := []) ⟨hx, hb, hml, hown, hts⟩ (c_X11_isIn l dC dI H.size h_mm z3 0 z6) (cwV 3 hts (gv hT w_m_X11_49 w_instanceMethod_X11_isIn ws_sel_X11_isIn w_ini_X11 w_code_X11_isIn) rfl rfl rfl (by decide +kernel) ⟨(Nat.le_of_ble_eq_true rfl), (Nat.le_of_ble_eq_true rfl)⟩) ⟨pre_blind, va_recv hK hP (ci := 8) (q0 := 1) rfl rfl, pre_of hPc hKc hDc hN⟩ rfl rfl hl.1 rfl (lv_room (Nat.le_of_ble_eq_true rfl)) dX11_isLiteral_21 ⟨(Nat.le_of_ble_eq_true rfl), (Nat.le_of_ble_eq_true rfl)⟩) hS (fun q _ h => hFc q h) hFc (fun r7 u t H locs ht hvm hq hB hz1 hk1 hS9 => ?_)
    obtain ⟨hP1, hD1⟩ := hB
    rw [ht] at hP1
    obtain ⟨hP9, hD9⟩ := va_join (wr := [(h_mny, .inl (cy_mny, 32, .inl f_mny)), (h_mm, .inr (8, (mo101 v_mm (.int x_mm_clauses) (.ref h_mny))))]) (w1 := []) hP hD [] [0, 1] rfl rfl (by decide) (by decide) hk1 hFc hP1 hD1
    clear hP hD hS hPc hDc hKc hFc hP1 hD1 hk1 hz1 ht hvm
    have hP : va_P (dC, dI) cls [(h_mny, .inl (cy_mny, 32, .inl f_mny)), (h_mm, .inr (8, (mo101 v_mm (.int x_mm_clauses) (.ref h_mny))))] H := hP9
    have hD : va_D A [(h_mny, .inl (cy_mny, 32, .inl f_mny)), (h_mm, .inr (8, (mo101 v_mm (.int x_mm_clauses) (.ref h_mny))))] := hD9
    have hS := hS9
    clear hP9 hD9 hS9
    rcases hq with ⟨rfl, hq⟩ | ⟨rfl, hq⟩
    · replace hq : (((0 : Int64)).toInt ≤ ((z3)).toInt) ∧ (((z3)).toInt ≤ ((z6)).toInt) := hq
      refine lv_if_eq (tgt := 31) hx hb dX11_isLiteral_24 (by decide) (fun c9 => absurd c9 (by decide)) (fun _ => ?_)
      refine lv_iconst (v := 1) hx hb dX11_isLiteral_27 (by decide) ?_
      refine lv_goto (tgt := 32) hx hb dX11_isLiteral_28 (by decide) ?_
      replace hP : va_P (dC, dI) cls [(h_mm, .inr (8, (mo101 v_mm (.int x_mm_clauses) (.ref h_mny)))), (h_mny, .inl (cy_mny, 32, .inl f_mny))] H := hP.sub [1, 0] rfl
      replace hD : va_D A [(h_mm, .inr (8, (mo101 v_mm (.int x_mm_clauses) (.ref h_mny)))), (h_mny, .inl (cy_mny, 32, .inl f_mny))] := hD.sub [1, 0] (by decide) rfl
      refine W.widen (k := 0) (n := 0) (Nat.le_of_ble_eq_true rfl) (Nat.le_of_ble_eq_true rfl) ?_
      have cst1 : (1 : Int32).toInt = 1 := by decide
      have : 0 ≤ (p1).toInt := by omega
      have : (p1).toInt < (x_mm_clauses).toInt := by omega
      have : 0 ≤ (p2).toInt := by omega
      have : (p2).toInt ≤ 5 := by omega
      have : (p2).toInt < (f_mny (p1).toInt.toNat).toInt := by omega
      exact W.zret (v := 1) (ty := .boolean) hx hb hr (by decide) (fun t ht hW => ⟨⟨1, (), rfl, (Or.inl (⟨rfl, by assumption, by assumption, by assumption, by assumption, by assumption⟩)), by rw [ht]; exact hP, hD⟩, hS.F ht⟩) hS.2.2 dX11_isLiteral_32
    · replace hq : (((z3)).toInt < ((0 : Int64)).toInt ∨ ((z6)).toInt < ((z3)).toInt) := hq
      refine lv_if_eq (tgt := 31) hx hb dX11_isLiteral_24 (by decide) (fun _ => ?_) (fun c9 => absurd c9 (by decide))
      refine lv_iconst (v := 0) hx hb dX11_isLiteral_31 (by decide) ?_
      replace hP : va_P (dC, dI) cls [(h_mm, .inr (8, (mo101 v_mm (.int x_mm_clauses) (.ref h_mny)))), (h_mny, .inl (cy_mny, 32, .inl f_mny))] H := hP.sub [1, 0] rfl
      replace hD : va_D A [(h_mm, .inr (8, (mo101 v_mm (.int x_mm_clauses) (.ref h_mny)))), (h_mny, .inl (cy_mny, 32, .inl f_mny))] := hD.sub [1, 0] (by decide) rfl
      refine W.widen (k := 0) (n := 0) (Nat.le_of_ble_eq_true rfl) (Nat.le_of_ble_eq_true rfl) ?_
      have cst0 : (0 : Int32).toInt = 0 := by decide
      exact W.zret (v := 0) (ty := .boolean) hx hb hr (by decide) (fun t ht hW => ⟨⟨0, (), rfl, (Or.inr (rfl)), by rw [ht]; exact hP, hD⟩, hS.F ht⟩) hS.2.2 dX11_isLiteral_32
  · replace hq : (((p1)).toInt < 0 ∨ ((x_mm_clauses)).toInt ≤ ((p1)).toInt) := hq
    refine lv_if_eq (tgt := 31) hx hb dX11_isLiteral_5 (by decide) (fun _ => ?_) (fun c9 => absurd c9 (by decide))
    refine lv_iconst (v := 0) hx hb dX11_isLiteral_31 (by decide) ?_
    replace hP : va_P (dC, dI) cls [(h_mm, .inr (8, (mo101 v_mm (.int x_mm_clauses) (.ref h_mny)))), (h_mny, .inl (cy_mny, 32, .inl f_mny))] H := hP.sub [1, 0] rfl
    replace hD : va_D A [(h_mm, .inr (8, (mo101 v_mm (.int x_mm_clauses) (.ref h_mny)))), (h_mny, .inl (cy_mny, 32, .inl f_mny))] := hD.sub [1, 0] (by decide) rfl
    refine W.widen (k := 0) (n := 0) (Nat.le_of_ble_eq_true rfl) (Nat.le_of_ble_eq_true rfl) ?_
    have cst0 : (0 : Int32).toInt = 0 := by decide
    exact W.zret (v := 0) (ty := .boolean) hx hb hr (by decide) (fun t ht hW => ⟨⟨0, (), rfl, (Or.inr (rfl)), by rw [ht]; exact hP, hD⟩, hS.F ht⟩) hS.2.2 dX11_isLiteral_32

set_option maxHeartbeats 8000000 in
set_option maxRecDepth 100000 in
theorem c_X11_doMeet (l : Launch) (dC : Nat → ClassId) (dI : Nat → Nat → Nat) (sz : Nat) (h_mm : Nat) (h_nv : Nat) (h_na : Nat) (h_nb : Nat) (h_nc : Nat) (h_bto : Nat) (h_bin : Nat) (h_nn : Nat) (h_tra : Nat) (h_mny : Nat) (h_isn : Nat) (h_tem : Nat) (v_mm : Nat → Value) (x_mm_trailed : Int32) (x_mm_goneTo : Int32) (x_mm_goneIn : Int32) (cy_nv : ClassId) (f_nv : Nat → Int32) (cy_na : ClassId) (f_na : Nat → Int32) (cy_nb : ClassId) (f_nb : Nat → Int32) (cy_nc : ClassId) (f_nc : Nat → Int32) (cy_bto : ClassId) (f_bto : Nat → Int32) (cy_bin : ClassId) (f_bin : Nat → Int32) (cy_nn : ClassId) (f_nn : Nat → Int64) (cy_tra : ClassId) (f_tra : Nat → Int32) (cy_mny : ClassId) (f_mny : Nat → Int32) (cy_isn : ClassId) (f_isn : Nat → Int32) (cy_tem : ClassId) (f_tem : Nat → Int32) (p1 : Int32) (p2 : Int32) (p3 : Int32) (p4 : Int32) (N : Int) (hz : Nat → Nat) (cb : Int) (mf : MFT) (hx_mm_trailed : 0 ≤ (x_mm_trailed).toInt ∧ (x_mm_trailed).toInt ≤ 256) (hx_mm_goneTo : 0 ≤ (x_mm_goneTo).toInt ∧ (x_mm_goneTo).toInt ≤ 7999) (hx_mm_goneIn : 0 ≤ (x_mm_goneIn).toInt ∧ (x_mm_goneIn).toInt ≤ 31) (hf_nv : Rg (-1) 7 f_nv) (hf_na : Rg (-1) 7999 f_na) (hf_nb : Rg (-1) 7999 f_nb) (hf_nc : Rg (-1) 7999 f_nc) (hf_bto : Rg (-1) 7999 f_bto) (hf_bin : Rg 0 31 f_bin) (hf_tra : Rg 0 255 f_tra) (hf_mny : Rg 0 6 f_mny) (hf_isn : Rg 0 1 f_isn) (hf_tem : Rg 0 7999 f_tem) (q0 : 0 ≤ (p1).toInt ∧ (p1).toInt < cb) (q1 : 0 ≤ (p2).toInt ∧ (p2).toInt < (f_mny (p1).toInt.toNat).toInt) (q2 : 0 ≤ (p3).toInt ∧ (p3).toInt < cb) (q3 : 0 ≤ (p4).toInt ∧ (p4).toInt < (f_mny (p3).toInt.toNat).toInt) (q4 : cb ≤ 16) (q5 : N ≤ 8000) (q6 : 0 ≤ (p2).toInt ∧ (p2).toInt ≤ 5) (q7 : 0 ≤ (p4).toInt ∧ (p4).toInt ≤ 5) (hn_nds : ND 0 N hz f_na f_nb f_nc) (hn_tms : TM 0 N hz 0 cb f_mny f_tem) (hn_fre : FRE f_bto) (hn_trl : TRL (x_mm_trailed).toInt f_tra f_bto) (hn_mfr : MFN (RGW f_nn f_nv f_na f_nb f_nc) (mlC f_mny) (ndC f_tem) (sgR f_isn) 240000 248000 cb mf) : Met l yX11_doMeet (Ws yX11_doMeet cX11_doMeet 7 (some .boolean)) (({ frames := 1548, cells := 0, slots := 0, locals := 44876 } : Room)) (PRE (dC, dI) cls [(cy_nv, .int), (cy_na, .int), (cy_nb, .int), (cy_nc, .int), (cy_bto, .int), (cy_bin, .int), (cy_nn, .long), (cy_tra, .int), (cy_mny, .int), (cy_isn, .boolean), (cy_tem, .int)] [(h_mm, .inr (8, (mo141 v_mm (.ref h_nv) (.ref h_nn) (.ref h_na) (.ref h_nb) (.ref h_nc) (.ref h_mny) (.ref h_isn) (.ref h_tem) (.ref h_bto) (.ref h_bin) (.ref h_tra) (.int x_mm_trailed) (.int x_mm_goneTo) (.int x_mm_goneIn)))), (h_nv, .inl (cy_nv, 8000, .inl f_nv)), (h_na, .inl (cy_na, 8000, .inl f_na)), (h_nb, .inl (cy_nb, 8000, .inl f_nb)), (h_nc, .inl (cy_nc, 8000, .inl f_nc)), (h_bto, .inl (cy_bto, 256, .inl f_bto)), (h_bin, .inl (cy_bin, 256, .inl f_bin)), (h_nn, .inl (cy_nn, 8000, .inr (.inl f_nn))), (h_tra, .inl (cy_tra, 256, .inl f_tra)), (h_mny, .inl (cy_mny, 32, .inl f_mny)), (h_isn, .inl (cy_isn, 192, .inl f_isn)), (h_tem, .inl (cy_tem, 192, .inl f_tem))] sz [.ref h_mm, .int p1, .int p2, .int p3, .int p4]) (va_Qi (fun (r : Int32) (u : (Int32) × (Int32) × (Int32) × (Nat → Int32) × (Nat → Int32) × (Nat → Int32)) => (0 ≤ (u.1).toInt ∧ (u.1).toInt ≤ 256) ∧ (0 ≤ (u.2.1).toInt ∧ (u.2.1).toInt ≤ 7999) ∧ (0 ≤ (u.2.2.1).toInt ∧ (u.2.2.1).toInt ≤ 31) ∧ (Rg (-1) 7999 u.2.2.2.1) ∧ (Rg 0 31 u.2.2.2.2.1) ∧ (Rg 0 255 u.2.2.2.2.2) ∧ (0 ≤ r.toInt ∧ r.toInt ≤ 1) ∧ ((u.1).toInt = (x_mm_trailed).toInt) ∧ ((r).toInt = mf (p1).toInt.toNat (p2).toInt.toNat (p3).toInt.toNat (p4).toInt.toNat) ∧ (SAM f_bto f_bin u.2.2.2.1 u.2.2.2.2.1) ∧ (TRL (u.1).toInt u.2.2.2.2.2 u.2.2.2.1)) (fun (u : (Int32) × (Int32) × (Int32) × (Nat → Int32) × (Nat → Int32) × (Nat → Int32)) (t : State) => va_P (dC, dI) cls [(h_mm, .inr (8, (mo141 v_mm (.ref h_nv) (.ref h_nn) (.ref h_na) (.ref h_nb) (.ref h_nc) (.ref h_mny) (.ref h_isn) (.ref h_tem) (.ref h_bto) (.ref h_bin) (.ref h_tra) (.int u.1) (.int u.2.1) (.int u.2.2.1)))), (h_nv, .inl (cy_nv, 8000, .inl f_nv)), (h_na, .inl (cy_na, 8000, .inl f_na)), (h_nb, .inl (cy_nb, 8000, .inl f_nb)), (h_nc, .inl (cy_nc, 8000, .inl f_nc)), (h_bto, .inl (cy_bto, 256, .inl u.2.2.2.1)), (h_bin, .inl (cy_bin, 256, .inl u.2.2.2.2.1)), (h_nn, .inl (cy_nn, 8000, .inr (.inl f_nn))), (h_tra, .inl (cy_tra, 256, .inl u.2.2.2.2.2)), (h_mny, .inl (cy_mny, 32, .inl f_mny)), (h_isn, .inl (cy_isn, 192, .inl f_isn)), (h_tem, .inl (cy_tem, 192, .inl f_tem))] t.heap ∧ va_D (va_A [(h_mm, .inr (8, (mo141 v_mm (.ref h_nv) (.ref h_nn) (.ref h_na) (.ref h_nb) (.ref h_nc) (.ref h_mny) (.ref h_isn) (.ref h_tem) (.ref h_bto) (.ref h_bin) (.ref h_tra) (.int x_mm_trailed) (.int x_mm_goneTo) (.int x_mm_goneIn)))), (h_nv, .inl (cy_nv, 8000, .inl f_nv)), (h_na, .inl (cy_na, 8000, .inl f_na)), (h_nb, .inl (cy_nb, 8000, .inl f_nb)), (h_nc, .inl (cy_nc, 8000, .inl f_nc)), (h_bto, .inl (cy_bto, 256, .inl f_bto)), (h_bin, .inl (cy_bin, 256, .inl f_bin)), (h_nn, .inl (cy_nn, 8000, .inr (.inl f_nn))), (h_tra, .inl (cy_tra, 256, .inl f_tra)), (h_mny, .inl (cy_mny, 32, .inl f_mny)), (h_isn, .inl (cy_isn, 192, .inl f_isn)), (h_tem, .inl (cy_tem, 192, .inl f_tem))] sz) [(h_mm, .inr (8, (mo141 v_mm (.ref h_nv) (.ref h_nn) (.ref h_na) (.ref h_nb) (.ref h_nc) (.ref h_mny) (.ref h_isn) (.ref h_tem) (.ref h_bto) (.ref h_bin) (.ref h_tra) (.int u.1) (.int u.2.1) (.int u.2.2.1)))), (h_nv, .inl (cy_nv, 8000, .inl f_nv)), (h_na, .inl (cy_na, 8000, .inl f_na)), (h_nb, .inl (cy_nb, 8000, .inl f_nb)), (h_nc, .inl (cy_nc, 8000, .inl f_nc)), (h_bto, .inl (cy_bto, 256, .inl u.2.2.2.1)), (h_bin, .inl (cy_bin, 256, .inl u.2.2.2.2.1)), (h_nn, .inl (cy_nn, 8000, .inr (.inl f_nn))), (h_tra, .inl (cy_tra, 256, .inl u.2.2.2.2.2)), (h_mny, .inl (cy_mny, 32, .inl f_mny)), (h_isn, .inl (cy_isn, 192, .inl f_isn)), (h_tem, .inl (cy_tem, 192, .inl f_tem))]) (va_A [(h_mm, .inr (8, (mo141 v_mm (.ref h_nv) (.ref h_nn) (.ref h_na) (.ref h_nb) (.ref h_nc) (.ref h_mny) (.ref h_isn) (.ref h_tem) (.ref h_bto) (.ref h_bin) (.ref h_tra) (.int x_mm_trailed) (.int x_mm_goneTo) (.int x_mm_goneIn)))), (h_nv, .inl (cy_nv, 8000, .inl f_nv)), (h_na, .inl (cy_na, 8000, .inl f_na)), (h_nb, .inl (cy_nb, 8000, .inl f_nb)), (h_nc, .inl (cy_nc, 8000, .inl f_nc)), (h_bto, .inl (cy_bto, 256, .inl f_bto)), (h_bin, .inl (cy_bin, 256, .inl f_bin)), (h_nn, .inl (cy_nn, 8000, .inr (.inl f_nn))), (h_tra, .inl (cy_tra, 256, .inl f_tra)), (h_mny, .inl (cy_mny, 32, .inl f_mny)), (h_isn, .inl (cy_isn, 192, .inl f_isn)), (h_tem, .inl (cy_tem, 192, .inl f_tem))] sz)) 0 0 (va_A [(h_mm, .inr (8, (mo141 v_mm (.ref h_nv) (.ref h_nn) (.ref h_na) (.ref h_nb) (.ref h_nc) (.ref h_mny) (.ref h_isn) (.ref h_tem) (.ref h_bto) (.ref h_bin) (.ref h_tra) (.int x_mm_trailed) (.int x_mm_goneTo) (.int x_mm_goneIn)))), (h_nv, .inl (cy_nv, 8000, .inl f_nv)), (h_na, .inl (cy_na, 8000, .inl f_na)), (h_nb, .inl (cy_nb, 8000, .inl f_nb)), (h_nc, .inl (cy_nc, 8000, .inl f_nc)), (h_bto, .inl (cy_bto, 256, .inl f_bto)), (h_bin, .inl (cy_bin, 256, .inl f_bin)), (h_nn, .inl (cy_nn, 8000, .inr (.inl f_nn))), (h_tra, .inl (cy_tra, 256, .inl f_tra)), (h_mny, .inl (cy_mny, 32, .inl f_mny)), (h_isn, .inl (cy_isn, 192, .inl f_isn)), (h_tem, .inl (cy_tem, 192, .inl f_tem))] sz) := by
  refine Met.ofW (cc := cX11_doMeet) (maxL := 7) (ret := (some .boolean)) (by decide) rfl ?_
  intro p e s m args below meth c s₁ B hml hv
  obtain ⟨rfl, hsz, hP, hK, hD0, hN⟩ := hv
  have hx := B.exec
  have hb := B.bytes
  have hr := B.returns
  have hts := atoms_spec (ws := Ws yX11_doMeet cX11_doMeet 7 (some .boolean)) B.pre
  have hT : ∀ w ∈ WALL, w ∈ Ws yX11_doMeet cX11_doMeet 7 (some .boolean) := fun w h => List.mem_cons_of_mem _ h
  have hw := fun w (h : w ∈ WALL) => hts w (hT w h)
  have hown : s.vm.findClass RX11 = some m.cls := findClass_of_methodNamed B.named
  have hlocks := B.notSynchronized
  subst hsz
  have hD := hD0.self (sz := s.heap.size)
  generalize hAe : va_A [(h_mm, .inr (8, (mo141 v_mm (.ref h_nv) (.ref h_nn) (.ref h_na) (.ref h_nb) (.ref h_nc) (.ref h_mny) (.ref h_isn) (.ref h_tem) (.ref h_bto) (.ref h_bin) (.ref h_tra) (.int x_mm_trailed) (.int x_mm_goneTo) (.int x_mm_goneIn)))), (h_nv, .inl (cy_nv, 8000, .inl f_nv)), (h_na, .inl (cy_na, 8000, .inl f_na)), (h_nb, .inl (cy_nb, 8000, .inl f_nb)), (h_nc, .inl (cy_nc, 8000, .inl f_nc)), (h_bto, .inl (cy_bto, 256, .inl f_bto)), (h_bin, .inl (cy_bin, 256, .inl f_bin)), (h_nn, .inl (cy_nn, 8000, .inr (.inl f_nn))), (h_tra, .inl (cy_tra, 256, .inl f_tra)), (h_mny, .inl (cy_mny, 32, .inl f_mny)), (h_isn, .inl (cy_isn, 192, .inl f_isn)), (h_tem, .inl (cy_tem, 192, .inl f_tem))] s.heap.size = A at hD ⊢
  have hA : ∀ q : Nat, s.heap.size ≤ q → A q := fun q h => by rw [← hAe]; exact Or.inr h
  have hS : va_S A s.heap s.heap [] := va_S.rf
  have hl := lv_entry ([.ref h_mm, .int p1, .int p2, .int p3, .int p4]) (n := 7) (Nat.le_of_ble_eq_true rfl)
  rw [lg_entry_eq]
  generalize (lg_sl ([.ref h_mm, .int p1, .int p2, .int p3, .int p4]) ++ List.replicate (7 - (lg_sl ([.ref h_mm, .int p1, .int p2, .int p3, .int p4])).length) Slot.unset).toArray = ls at hl ⊢
  have hl : lv_has ls 7 [(0, .ref h_mm), (1, .int p1), (2, .int p2), (3, .int p3), (4, .int p4)] := hl
  have sam0 : SAM f_bto f_bin f_bto f_bin := sam_refl
  refine lv_aload_n hx hb dX11_doMeet_0 rfl (lv_at hl 0 rfl) ?_
  refine va_get (D := (dC, dI)) (ci := 8) (v := .ref h_isn) (C := RX11) (T := TX11) (N := 71) hx hb hw iwX11 hown hK hP 0 rfl rfl 11 (by decide) (hw _ w_f_X11_145) (fun _ h9 => h9) rfl dX11_doMeet_1 ?_
  refine lv_aload_n hx hb dX11_doMeet_4 rfl (lv_at hl 0 rfl) ?_
  refine lv_iload_n hx hb dX11_doMeet_5 rfl (lv_at hl 1 rfl) ?_
  refine lv_iload_n hx hb dX11_doMeet_6 rfl (lv_at hl 2 rfl) ?_
  have hPc := hP.sub (ws' := []) [] rfl
  have hDc := hD.sub (ws' := []) [] (by decide) rfl
  have hKc := hK.sub (tys' := []) [] rfl
  have hFc := va_free (wc := []) hD hS hA [] rfl
  refine va_calli (va_runV (As := [.int p1, .int p2]) (rest := [.ref h_isn]) ⟨hx, hb, hml, hown, hts⟩ (c_X11_litAt l dC dI s.heap.size h_mm p1 p2 (by omega) (by first | exact q6 | omega)) (cwV 2 hts (gv hT w_m_X11_149 w_instanceMethod_X11_litAt ws_sel_X11_litAt w_ini_X11 w_code_X11_litAt) rfl rfl rfl (by decide +kernel) ⟨(Nat.le_of_ble_eq_true rfl), (Nat.le_of_ble_eq_true rfl)⟩) ⟨pre_blind, va_recv hK hP (ci := 8) (q0 := 0) rfl rfl, pre_of hPc hKc hDc hN⟩ rfl rfl hl.1 rfl (lv_room (Nat.le_of_ble_eq_true rfl)) dX11_doMeet_7 ⟨(Nat.le_of_ble_eq_true rfl), (Nat.le_of_ble_eq_true rfl)⟩) hS (fun q _ h => hFc q h) hFc (fun r1 u t H locs ht hvm hq hB hz1 hk1 hS9 => ?_)
  obtain ⟨hP1, hD1⟩ := hB
  rw [ht] at hP1
  obtain ⟨hP9, hD9⟩ := va_join (wr := [(h_mm, .inr (8, (mo141 v_mm (.ref h_nv) (.ref h_nn) (.ref h_na) (.ref h_nb) (.ref h_nc) (.ref h_mny) (.ref h_isn) (.ref h_tem) (.ref h_bto) (.ref h_bin) (.ref h_tra) (.int x_mm_trailed) (.int x_mm_goneTo) (.int x_mm_goneIn)))), (h_nv, .inl (cy_nv, 8000, .inl f_nv)), (h_na, .inl (cy_na, 8000, .inl f_na)), (h_nb, .inl (cy_nb, 8000, .inl f_nb)), (h_nc, .inl (cy_nc, 8000, .inl f_nc)), (h_bto, .inl (cy_bto, 256, .inl f_bto)), (h_bin, .inl (cy_bin, 256, .inl f_bin)), (h_nn, .inl (cy_nn, 8000, .inr (.inl f_nn))), (h_tra, .inl (cy_tra, 256, .inl f_tra)), (h_mny, .inl (cy_mny, 32, .inl f_mny)), (h_isn, .inl (cy_isn, 192, .inl f_isn)), (h_tem, .inl (cy_tem, 192, .inl f_tem))]) (w1 := []) hP hD [] [0, 1, 2, 3, 4, 5, 6, 7, 8, 9, 10, 11] rfl rfl (by decide) (by decide) hk1 hFc hP1 hD1
  clear hP hD hS hPc hDc hKc hFc hP1 hD1 hk1 hz1 ht hvm
  have hP : va_P (dC, dI) cls [(h_mm, .inr (8, (mo141 v_mm (.ref h_nv) (.ref h_nn) (.ref h_na) (.ref h_nb) (.ref h_nc) (.ref h_mny) (.ref h_isn) (.ref h_tem) (.ref h_bto) (.ref h_bin) (.ref h_tra) (.int x_mm_trailed) (.int x_mm_goneTo) (.int x_mm_goneIn)))), (h_nv, .inl (cy_nv, 8000, .inl f_nv)), (h_na, .inl (cy_na, 8000, .inl f_na)), (h_nb, .inl (cy_nb, 8000, .inl f_nb)), (h_nc, .inl (cy_nc, 8000, .inl f_nc)), (h_bto, .inl (cy_bto, 256, .inl f_bto)), (h_bin, .inl (cy_bin, 256, .inl f_bin)), (h_nn, .inl (cy_nn, 8000, .inr (.inl f_nn))), (h_tra, .inl (cy_tra, 256, .inl f_tra)), (h_mny, .inl (cy_mny, 32, .inl f_mny)), (h_isn, .inl (cy_isn, 192, .inl f_isn)), (h_tem, .inl (cy_tem, 192, .inl f_tem))] H := hP9
  have hD : va_D A [(h_mm, .inr (8, (mo141 v_mm (.ref h_nv) (.ref h_nn) (.ref h_na) (.ref h_nb) (.ref h_nc) (.ref h_mny) (.ref h_isn) (.ref h_tem) (.ref h_bto) (.ref h_bin) (.ref h_tra) (.int x_mm_trailed) (.int x_mm_goneTo) (.int x_mm_goneIn)))), (h_nv, .inl (cy_nv, 8000, .inl f_nv)), (h_na, .inl (cy_na, 8000, .inl f_na)), (h_nb, .inl (cy_nb, 8000, .inl f_nb)), (h_nc, .inl (cy_nc, 8000, .inl f_nc)), (h_bto, .inl (cy_bto, 256, .inl f_bto)), (h_bin, .inl (cy_bin, 256, .inl f_bin)), (h_nn, .inl (cy_nn, 8000, .inr (.inl f_nn))), (h_tra, .inl (cy_tra, 256, .inl f_tra)), (h_mny, .inl (cy_mny, 32, .inl f_mny)), (h_isn, .inl (cy_isn, 192, .inl f_isn)), (h_tem, .inl (cy_tem, 192, .inl f_tem))] := hD9
  have hS := hS9
  clear hP9 hD9 hS9
  obtain ⟨k2, k3⟩ := hq
  replace k2 : 0 ≤ (r1).toInt ∧ (r1).toInt ≤ 191 := k2
  replace k3 : ((r1)).toInt = 6 * ((p1)).toInt + ((p2)).toInt := k3
  refine va_zald hx hb hK hP 10 9 rfl rfl (i := r1) (vp_in_iff.mpr (by omega)) dX11_doMeet_10 ?_
  refine lv_topi (fun z4 ez4 => ?_)
  have rz4 : 0 ≤ (z4).toInt ∧ (z4).toInt ≤ 1 := by rw [ez4]; exact hf_isn _
  have sg1 : sgR f_isn (p1).toInt.toNat (p2).toInt.toNat = 1 - (z4).toInt := by show 1 - (f_isn (6 * (p1).toInt.toNat + (p2).toInt.toNat)).toInt = _; rw [ez4, show Int32.toNatClampNeg r1 = 6 * (p1).toInt.toNat + (p2).toInt.toNat by rw [clamp_nat (i := r1) (by omega)]; omega]
  refine lv_aload_n hx hb dX11_doMeet_11 rfl (lv_at hl 0 rfl) ?_
  refine va_get (D := (dC, dI)) (ci := 8) (v := .ref h_isn) (C := RX11) (T := TX11) (N := 71) hx hb hw iwX11 hown hK hP 0 rfl rfl 11 (by decide) (hw _ w_f_X11_145) (fun _ h9 => h9) rfl dX11_doMeet_12 ?_
  refine lv_aload_n hx hb dX11_doMeet_15 rfl (lv_at hl 0 rfl) ?_
  refine lv_iload_n hx hb dX11_doMeet_16 rfl (lv_at hl 3 rfl) ?_
  refine lv_iload hx hb dX11_doMeet_17 (lv_at hl 4 rfl) ?_
  have hPc := hP.sub (ws' := []) [] rfl
  have hDc := hD.sub (ws' := []) [] (by decide) rfl
  have hKc := hK.sub (tys' := []) [] rfl
  have hFc := va_free (wc := []) hD hS hA [] rfl
  refine va_calli (va_runV (As := [.int p3, .int p4]) (rest := [.ref h_isn, .int z4]) ⟨hx, hb, hml, hown, hts⟩ (c_X11_litAt l dC dI H.size h_mm p3 p4 (by omega) (by first | exact q7 | omega)) (cwV 2 hts (gv hT w_m_X11_149 w_instanceMethod_X11_litAt ws_sel_X11_litAt w_ini_X11 w_code_X11_litAt) rfl rfl rfl (by decide +kernel) ⟨(Nat.le_of_ble_eq_true rfl), (Nat.le_of_ble_eq_true rfl)⟩) ⟨pre_blind, va_recv hK hP (ci := 8) (q0 := 0) rfl rfl, pre_of hPc hKc hDc hN⟩ rfl rfl hl.1 rfl (lv_room (Nat.le_of_ble_eq_true rfl)) dX11_doMeet_19 ⟨(Nat.le_of_ble_eq_true rfl), (Nat.le_of_ble_eq_true rfl)⟩) hS (fun q _ h => hFc q h) hFc (fun r5 u t H locs ht hvm hq hB hz1 hk1 hS9 => ?_)
  obtain ⟨hP1, hD1⟩ := hB
  rw [ht] at hP1
  obtain ⟨hP9, hD9⟩ := va_join (wr := [(h_mm, .inr (8, (mo141 v_mm (.ref h_nv) (.ref h_nn) (.ref h_na) (.ref h_nb) (.ref h_nc) (.ref h_mny) (.ref h_isn) (.ref h_tem) (.ref h_bto) (.ref h_bin) (.ref h_tra) (.int x_mm_trailed) (.int x_mm_goneTo) (.int x_mm_goneIn)))), (h_nv, .inl (cy_nv, 8000, .inl f_nv)), (h_na, .inl (cy_na, 8000, .inl f_na)), (h_nb, .inl (cy_nb, 8000, .inl f_nb)), (h_nc, .inl (cy_nc, 8000, .inl f_nc)), (h_bto, .inl (cy_bto, 256, .inl f_bto)), (h_bin, .inl (cy_bin, 256, .inl f_bin)), (h_nn, .inl (cy_nn, 8000, .inr (.inl f_nn))), (h_tra, .inl (cy_tra, 256, .inl f_tra)), (h_mny, .inl (cy_mny, 32, .inl f_mny)), (h_isn, .inl (cy_isn, 192, .inl f_isn)), (h_tem, .inl (cy_tem, 192, .inl f_tem))]) (w1 := []) hP hD [] [0, 1, 2, 3, 4, 5, 6, 7, 8, 9, 10, 11] rfl rfl (by decide) (by decide) hk1 hFc hP1 hD1
  clear hP hD hS hPc hDc hKc hFc hP1 hD1 hk1 hz1 ht hvm
  have hP : va_P (dC, dI) cls [(h_mm, .inr (8, (mo141 v_mm (.ref h_nv) (.ref h_nn) (.ref h_na) (.ref h_nb) (.ref h_nc) (.ref h_mny) (.ref h_isn) (.ref h_tem) (.ref h_bto) (.ref h_bin) (.ref h_tra) (.int x_mm_trailed) (.int x_mm_goneTo) (.int x_mm_goneIn)))), (h_nv, .inl (cy_nv, 8000, .inl f_nv)), (h_na, .inl (cy_na, 8000, .inl f_na)), (h_nb, .inl (cy_nb, 8000, .inl f_nb)), (h_nc, .inl (cy_nc, 8000, .inl f_nc)), (h_bto, .inl (cy_bto, 256, .inl f_bto)), (h_bin, .inl (cy_bin, 256, .inl f_bin)), (h_nn, .inl (cy_nn, 8000, .inr (.inl f_nn))), (h_tra, .inl (cy_tra, 256, .inl f_tra)), (h_mny, .inl (cy_mny, 32, .inl f_mny)), (h_isn, .inl (cy_isn, 192, .inl f_isn)), (h_tem, .inl (cy_tem, 192, .inl f_tem))] H := hP9
  have hD : va_D A [(h_mm, .inr (8, (mo141 v_mm (.ref h_nv) (.ref h_nn) (.ref h_na) (.ref h_nb) (.ref h_nc) (.ref h_mny) (.ref h_isn) (.ref h_tem) (.ref h_bto) (.ref h_bin) (.ref h_tra) (.int x_mm_trailed) (.int x_mm_goneTo) (.int x_mm_goneIn)))), (h_nv, .inl (cy_nv, 8000, .inl f_nv)), (h_na, .inl (cy_na, 8000, .inl f_na)), (h_nb, .inl (cy_nb, 8000, .inl f_nb)), (h_nc, .inl (cy_nc, 8000, .inl f_nc)), (h_bto, .inl (cy_bto, 256, .inl f_bto)), (h_bin, .inl (cy_bin, 256, .inl f_bin)), (h_nn, .inl (cy_nn, 8000, .inr (.inl f_nn))), (h_tra, .inl (cy_tra, 256, .inl f_tra)), (h_mny, .inl (cy_mny, 32, .inl f_mny)), (h_isn, .inl (cy_isn, 192, .inl f_isn)), (h_tem, .inl (cy_tem, 192, .inl f_tem))] := hD9
  have hS := hS9
  clear hP9 hD9 hS9
  obtain ⟨k6, k7⟩ := hq
  replace k6 : 0 ≤ (r5).toInt ∧ (r5).toInt ≤ 191 := k6
  replace k7 : ((r5)).toInt = 6 * ((p3)).toInt + ((p4)).toInt := k7
  refine va_zald hx hb hK hP 10 9 rfl rfl (i := r5) (vp_in_iff.mpr (by omega)) dX11_doMeet_22 ?_
  refine lv_topi (fun z8 ez8 => ?_)
  have rz8 : 0 ≤ (z8).toInt ∧ (z8).toInt ≤ 1 := by rw [ez8]; exact hf_isn _
  have sg2 : sgR f_isn (p3).toInt.toNat (p4).toInt.toNat = 1 - (z8).toInt := by show 1 - (f_isn (6 * (p3).toInt.toNat + (p4).toInt.toNat)).toInt = _; rw [ez8, show Int32.toNatClampNeg r5 = 6 * (p3).toInt.toNat + (p4).toInt.toNat by rw [clamp_nat (i := r5) (by omega)]; omega]
  refine lv_icmp_ne (tgt := 28) hx hb dX11_doMeet_23 (by decide) (fun c9 => ?_) (fun c9 => ?_)
  · have kc9 := (not_congr (cv_eq (rfl : (z4).toInt = (z4).toInt) (rfl : (z8).toInt = (z8).toInt))).mp c9
    refine lv_aload_n hx hb dX11_doMeet_28 rfl (lv_at hl 0 rfl) ?_
    refine va_get (D := (dC, dI)) (ci := 8) (v := .int x_mm_trailed) (C := RX11) (T := TX11) (N := 71) hx hb hw iwX11 hown hK hP 0 rfl rfl 30 (by decide) (hw _ w_f_X11_261) (fun _ h9 => h9) rfl dX11_doMeet_29 ?_
    refine lv_istore (lv' := [(5, .int x_mm_trailed), (0, .ref h_mm), (1, .int p1), (2, .int p2), (3, .int p3), (4, .int p4)]) hx hb dX11_doMeet_32 hl (by decide) rfl (fun ls hl => ?_)
    refine lv_aload_n hx hb dX11_doMeet_34 rfl (lv_at hl 1 rfl) ?_
    refine lv_aload_n hx hb dX11_doMeet_35 rfl (lv_at hl 1 rfl) ?_
    refine va_get (D := (dC, dI)) (ci := 8) (v := .ref h_tem) (C := RX11) (T := TX11) (N := 71) hx hb hw iwX11 hown hK hP 0 rfl rfl 12 (by decide) (hw _ w_f_X11_152) (fun _ h9 => h9) rfl dX11_doMeet_36 ?_
    refine lv_aload_n hx hb dX11_doMeet_39 rfl (lv_at hl 1 rfl) ?_
    refine lv_iload_n hx hb dX11_doMeet_40 rfl (lv_at hl 2 rfl) ?_
    refine lv_iload_n hx hb dX11_doMeet_41 rfl (lv_at hl 3 rfl) ?_
    have hPc := hP.sub (ws' := []) [] rfl
    have hDc := hD.sub (ws' := []) [] (by decide) rfl
    have hKc := hK.sub (tys' := []) [] rfl
    have hFc := va_free (wc := []) hD hS hA [] rfl
    refine va_calli (va_runV (As := [.int p1, .int p2]) (rest := [.ref h_tem, .ref h_mm]) ⟨hx, hb, hml, hown, hts⟩ (c_X11_litAt l dC dI H.size h_mm p1 p2 (by omega) (by first | exact q6 | omega)) (cwV 2 hts (gv hT w_m_X11_149 w_instanceMethod_X11_litAt ws_sel_X11_litAt w_ini_X11 w_code_X11_litAt) rfl rfl rfl (by decide +kernel) ⟨(Nat.le_of_ble_eq_true rfl), (Nat.le_of_ble_eq_true rfl)⟩) ⟨pre_blind, va_recv hK hP (ci := 8) (q0 := 0) rfl rfl, pre_of hPc hKc hDc hN⟩ rfl rfl hl.1 rfl (lv_room (Nat.le_of_ble_eq_true rfl)) dX11_doMeet_42 ⟨(Nat.le_of_ble_eq_true rfl), (Nat.le_of_ble_eq_true rfl)⟩) hS (fun q _ h => hFc q h) hFc (fun r10 u t H locs ht hvm hq hB hz1 hk1 hS9 => ?_)
    obtain ⟨hP1, hD1⟩ := hB
    rw [ht] at hP1
    obtain ⟨hP9, hD9⟩ := va_join (wr := [(h_mm, .inr (8, (mo141 v_mm (.ref h_nv) (.ref h_nn) (.ref h_na) (.ref h_nb) (.ref h_nc) (.ref h_mny) (.ref h_isn) (.ref h_tem) (.ref h_bto) (.ref h_bin) (.ref h_tra) (.int x_mm_trailed) (.int x_mm_goneTo) (.int x_mm_goneIn)))), (h_nv, .inl (cy_nv, 8000, .inl f_nv)), (h_na, .inl (cy_na, 8000, .inl f_na)), (h_nb, .inl (cy_nb, 8000, .inl f_nb)), (h_nc, .inl (cy_nc, 8000, .inl f_nc)), (h_bto, .inl (cy_bto, 256, .inl f_bto)), (h_bin, .inl (cy_bin, 256, .inl f_bin)), (h_nn, .inl (cy_nn, 8000, .inr (.inl f_nn))), (h_tra, .inl (cy_tra, 256, .inl f_tra)), (h_mny, .inl (cy_mny, 32, .inl f_mny)), (h_isn, .inl (cy_isn, 192, .inl f_isn)), (h_tem, .inl (cy_tem, 192, .inl f_tem))]) (w1 := []) hP hD [] [0, 1, 2, 3, 4, 5, 6, 7, 8, 9, 10, 11] rfl rfl (by decide) (by decide) hk1 hFc hP1 hD1
    clear hP hD hS hPc hDc hKc hFc hP1 hD1 hk1 hz1 ht hvm
    have hP : va_P (dC, dI) cls [(h_mm, .inr (8, (mo141 v_mm (.ref h_nv) (.ref h_nn) (.ref h_na) (.ref h_nb) (.ref h_nc) (.ref h_mny) (.ref h_isn) (.ref h_tem) (.ref h_bto) (.ref h_bin) (.ref h_tra) (.int x_mm_trailed) (.int x_mm_goneTo) (.int x_mm_goneIn)))), (h_nv, .inl (cy_nv, 8000, .inl f_nv)), (h_na, .inl (cy_na, 8000, .inl f_na)), (h_nb, .inl (cy_nb, 8000, .inl f_nb)), (h_nc, .inl (cy_nc, 8000, .inl f_nc)), (h_bto, .inl (cy_bto, 256, .inl f_bto)), (h_bin, .inl (cy_bin, 256, .inl f_bin)), (h_nn, .inl (cy_nn, 8000, .inr (.inl f_nn))), (h_tra, .inl (cy_tra, 256, .inl f_tra)), (h_mny, .inl (cy_mny, 32, .inl f_mny)), (h_isn, .inl (cy_isn, 192, .inl f_isn)), (h_tem, .inl (cy_tem, 192, .inl f_tem))] H := hP9
    have hD : va_D A [(h_mm, .inr (8, (mo141 v_mm (.ref h_nv) (.ref h_nn) (.ref h_na) (.ref h_nb) (.ref h_nc) (.ref h_mny) (.ref h_isn) (.ref h_tem) (.ref h_bto) (.ref h_bin) (.ref h_tra) (.int x_mm_trailed) (.int x_mm_goneTo) (.int x_mm_goneIn)))), (h_nv, .inl (cy_nv, 8000, .inl f_nv)), (h_na, .inl (cy_na, 8000, .inl f_na)), (h_nb, .inl (cy_nb, 8000, .inl f_nb)), (h_nc, .inl (cy_nc, 8000, .inl f_nc)), (h_bto, .inl (cy_bto, 256, .inl f_bto)), (h_bin, .inl (cy_bin, 256, .inl f_bin)), (h_nn, .inl (cy_nn, 8000, .inr (.inl f_nn))), (h_tra, .inl (cy_tra, 256, .inl f_tra)), (h_mny, .inl (cy_mny, 32, .inl f_mny)), (h_isn, .inl (cy_isn, 192, .inl f_isn)), (h_tem, .inl (cy_tem, 192, .inl f_tem))] := hD9
    have hS := hS9
    clear hP9 hD9 hS9
    obtain ⟨k11, k12⟩ := hq
    replace k11 : 0 ≤ (r10).toInt ∧ (r10).toInt ≤ 191 := k11
    replace k12 : ((r10)).toInt = 6 * ((p1)).toInt + ((p2)).toInt := k12
    refine va_iald hx hb hK hP 11 10 rfl rfl (i := r10) (vp_in_iff.mpr (by omega)) dX11_doMeet_45 ?_
    refine lv_topi (fun z13 ez13 => ?_)
    have rz13 : 0 ≤ (z13).toInt ∧ (z13).toInt ≤ 7999 := by rw [ez13]; exact hf_tem _
    have hmz13 := hf_mny (p1).toInt.toNat
    have tgz13 := tm_get (c := p1) (t := r10) (l := (p2).toInt) hn_tms (by omega) (by rw [clamp_nat (i := p1) (by omega)]; omega) (by omega) ez13
    have nt1 : ndC f_tem (p1).toInt.toNat (p2).toInt.toNat = (z13).toInt.toNat := by show Int32.toNatClampNeg (f_tem (6 * (p1).toInt.toNat + (p2).toInt.toNat)) = _; rw [show 6 * (p1).toInt.toNat + (p2).toInt.toNat = Int32.toNatClampNeg r10 by rw [clamp_nat (i := r10) (by omega)]; omega, ← ez13, clamp_nat (i := z13) (by omega)]
    refine lv_bipush (v := 30) hx hb dX11_doMeet_46 (by decide) ?_
    refine lv_aload_n hx hb dX11_doMeet_48 rfl (lv_at hl 1 rfl) ?_
    refine va_get (D := (dC, dI)) (ci := 8) (v := .ref h_tem) (C := RX11) (T := TX11) (N := 71) hx hb hw iwX11 hown hK hP 0 rfl rfl 12 (by decide) (hw _ w_f_X11_152) (fun _ h9 => h9) rfl dX11_doMeet_49 ?_
    refine lv_aload_n hx hb dX11_doMeet_52 rfl (lv_at hl 1 rfl) ?_
    refine lv_iload_n hx hb dX11_doMeet_53 rfl (lv_at hl 4 rfl) ?_
    refine lv_iload hx hb dX11_doMeet_54 (lv_at hl 5 rfl) ?_
    have hPc := hP.sub (ws' := []) [] rfl
    have hDc := hD.sub (ws' := []) [] (by decide) rfl
    have hKc := hK.sub (tys' := []) [] rfl
    have hFc := va_free (wc := []) hD hS hA [] rfl
    refine va_calli (va_runV (As := [.int p3, .int p4]) (rest := [.ref h_tem, .int 30, .int z13, .ref h_mm]) ⟨hx, hb, hml, hown, hts⟩ (c_X11_litAt l dC dI H.size h_mm p3 p4 (by omega) (by first | exact q7 | omega)) (cwV 2 hts (gv hT w_m_X11_149 w_instanceMethod_X11_litAt ws_sel_X11_litAt w_ini_X11 w_code_X11_litAt) rfl rfl rfl (by decide +kernel) ⟨(Nat.le_of_ble_eq_true rfl), (Nat.le_of_ble_eq_true rfl)⟩) ⟨pre_blind, va_recv hK hP (ci := 8) (q0 := 0) rfl rfl, pre_of hPc hKc hDc hN⟩ rfl rfl hl.1 rfl (lv_room (Nat.le_of_ble_eq_true rfl)) dX11_doMeet_56 ⟨(Nat.le_of_ble_eq_true rfl), (Nat.le_of_ble_eq_true rfl)⟩) hS (fun q _ h => hFc q h) hFc (fun r14 u t H locs ht hvm hq hB hz1 hk1 hS9 => ?_)
    obtain ⟨hP1, hD1⟩ := hB
    rw [ht] at hP1
    obtain ⟨hP9, hD9⟩ := va_join (wr := [(h_mm, .inr (8, (mo141 v_mm (.ref h_nv) (.ref h_nn) (.ref h_na) (.ref h_nb) (.ref h_nc) (.ref h_mny) (.ref h_isn) (.ref h_tem) (.ref h_bto) (.ref h_bin) (.ref h_tra) (.int x_mm_trailed) (.int x_mm_goneTo) (.int x_mm_goneIn)))), (h_nv, .inl (cy_nv, 8000, .inl f_nv)), (h_na, .inl (cy_na, 8000, .inl f_na)), (h_nb, .inl (cy_nb, 8000, .inl f_nb)), (h_nc, .inl (cy_nc, 8000, .inl f_nc)), (h_bto, .inl (cy_bto, 256, .inl f_bto)), (h_bin, .inl (cy_bin, 256, .inl f_bin)), (h_nn, .inl (cy_nn, 8000, .inr (.inl f_nn))), (h_tra, .inl (cy_tra, 256, .inl f_tra)), (h_mny, .inl (cy_mny, 32, .inl f_mny)), (h_isn, .inl (cy_isn, 192, .inl f_isn)), (h_tem, .inl (cy_tem, 192, .inl f_tem))]) (w1 := []) hP hD [] [0, 1, 2, 3, 4, 5, 6, 7, 8, 9, 10, 11] rfl rfl (by decide) (by decide) hk1 hFc hP1 hD1
    clear hP hD hS hPc hDc hKc hFc hP1 hD1 hk1 hz1 ht hvm
    have hP : va_P (dC, dI) cls [(h_mm, .inr (8, (mo141 v_mm (.ref h_nv) (.ref h_nn) (.ref h_na) (.ref h_nb) (.ref h_nc) (.ref h_mny) (.ref h_isn) (.ref h_tem) (.ref h_bto) (.ref h_bin) (.ref h_tra) (.int x_mm_trailed) (.int x_mm_goneTo) (.int x_mm_goneIn)))), (h_nv, .inl (cy_nv, 8000, .inl f_nv)), (h_na, .inl (cy_na, 8000, .inl f_na)), (h_nb, .inl (cy_nb, 8000, .inl f_nb)), (h_nc, .inl (cy_nc, 8000, .inl f_nc)), (h_bto, .inl (cy_bto, 256, .inl f_bto)), (h_bin, .inl (cy_bin, 256, .inl f_bin)), (h_nn, .inl (cy_nn, 8000, .inr (.inl f_nn))), (h_tra, .inl (cy_tra, 256, .inl f_tra)), (h_mny, .inl (cy_mny, 32, .inl f_mny)), (h_isn, .inl (cy_isn, 192, .inl f_isn)), (h_tem, .inl (cy_tem, 192, .inl f_tem))] H := hP9
    have hD : va_D A [(h_mm, .inr (8, (mo141 v_mm (.ref h_nv) (.ref h_nn) (.ref h_na) (.ref h_nb) (.ref h_nc) (.ref h_mny) (.ref h_isn) (.ref h_tem) (.ref h_bto) (.ref h_bin) (.ref h_tra) (.int x_mm_trailed) (.int x_mm_goneTo) (.int x_mm_goneIn)))), (h_nv, .inl (cy_nv, 8000, .inl f_nv)), (h_na, .inl (cy_na, 8000, .inl f_na)), (h_nb, .inl (cy_nb, 8000, .inl f_nb)), (h_nc, .inl (cy_nc, 8000, .inl f_nc)), (h_bto, .inl (cy_bto, 256, .inl f_bto)), (h_bin, .inl (cy_bin, 256, .inl f_bin)), (h_nn, .inl (cy_nn, 8000, .inr (.inl f_nn))), (h_tra, .inl (cy_tra, 256, .inl f_tra)), (h_mny, .inl (cy_mny, 32, .inl f_mny)), (h_isn, .inl (cy_isn, 192, .inl f_isn)), (h_tem, .inl (cy_tem, 192, .inl f_tem))] := hD9
    have hS := hS9
    clear hP9 hD9 hS9
    obtain ⟨k15, k16⟩ := hq
    replace k15 : 0 ≤ (r14).toInt ∧ (r14).toInt ≤ 191 := k15
    replace k16 : ((r14)).toInt = 6 * ((p3)).toInt + ((p4)).toInt := k16
    refine va_iald hx hb hK hP 11 10 rfl rfl (i := r14) (vp_in_iff.mpr (by omega)) dX11_doMeet_59 ?_
    refine lv_topi (fun z17 ez17 => ?_)
    have rz17 : 0 ≤ (z17).toInt ∧ (z17).toInt ≤ 7999 := by rw [ez17]; exact hf_tem _
    have hmz17 := hf_mny (p3).toInt.toNat
    have tgz17 := tm_get (c := p3) (t := r14) (l := (p4).toInt) hn_tms (by omega) (by rw [clamp_nat (i := p3) (by omega)]; omega) (by omega) ez17
    have nt2 : ndC f_tem (p3).toInt.toNat (p4).toInt.toNat = (z17).toInt.toNat := by show Int32.toNatClampNeg (f_tem (6 * (p3).toInt.toNat + (p4).toInt.toNat)) = _; rw [show 6 * (p3).toInt.toNat + (p4).toInt.toNat = Int32.toNatClampNeg r14 by rw [clamp_nat (i := r14) (by omega)]; omega, ← ez17, clamp_nat (i := z17) (by omega)]
    refine lv_bipush (v := 31) hx hb dX11_doMeet_60 (by decide) ?_
    have l09 : ([] : List Nat).length = 0 := rfl
    have bf9 : BI 30 31 N hz f_nv f_na f_nb f_nc f_bto f_bin := bi_free hn_nds hn_fre
    obtain ⟨vq18, evq18⟩ := mq141_136 v_mm (.ref h_mny) (.ref h_isn) (.ref h_tem)
    replace hP : va_P (dC, dI) cls [(h_mm, .inr (8, (mo136 vq18 (.ref h_nv) (.ref h_nn) (.ref h_na) (.ref h_nb) (.ref h_nc) (.ref h_bto) (.ref h_bin) (.ref h_tra) (.int x_mm_trailed) (.int x_mm_goneTo) (.int x_mm_goneIn)))), (h_nv, .inl (cy_nv, 8000, .inl f_nv)), (h_na, .inl (cy_na, 8000, .inl f_na)), (h_nb, .inl (cy_nb, 8000, .inl f_nb)), (h_nc, .inl (cy_nc, 8000, .inl f_nc)), (h_bto, .inl (cy_bto, 256, .inl f_bto)), (h_bin, .inl (cy_bin, 256, .inl f_bin)), (h_nn, .inl (cy_nn, 8000, .inr (.inl f_nn))), (h_tra, .inl (cy_tra, 256, .inl f_tra)), (h_mny, .inl (cy_mny, 32, .inl f_mny)), (h_isn, .inl (cy_isn, 192, .inl f_isn)), (h_tem, .inl (cy_tem, 192, .inl f_tem))] H := by rw [evq18]; exact hP
    replace hD : va_D A [(h_mm, .inr (8, (mo136 vq18 (.ref h_nv) (.ref h_nn) (.ref h_na) (.ref h_nb) (.ref h_nc) (.ref h_bto) (.ref h_bin) (.ref h_tra) (.int x_mm_trailed) (.int x_mm_goneTo) (.int x_mm_goneIn)))), (h_nv, .inl (cy_nv, 8000, .inl f_nv)), (h_na, .inl (cy_na, 8000, .inl f_na)), (h_nb, .inl (cy_nb, 8000, .inl f_nb)), (h_nc, .inl (cy_nc, 8000, .inl f_nc)), (h_bto, .inl (cy_bto, 256, .inl f_bto)), (h_bin, .inl (cy_bin, 256, .inl f_bin)), (h_nn, .inl (cy_nn, 8000, .inr (.inl f_nn))), (h_tra, .inl (cy_tra, 256, .inl f_tra)), (h_mny, .inl (cy_mny, 32, .inl f_mny)), (h_isn, .inl (cy_isn, 192, .inl f_isn)), (h_tem, .inl (cy_tem, 192, .inl f_tem))] := by rw [evq18]; exact hD
    have cst30 : (30 : Int32).toInt = 30 := by decide
    have cst31 : (31 : Int32).toInt = 31 := by decide
    have hPc := hP.sub (ws' := [(h_mm, .inr (8, (mo136 vq18 (.ref h_nv) (.ref h_nn) (.ref h_na) (.ref h_nb) (.ref h_nc) (.ref h_bto) (.ref h_bin) (.ref h_tra) (.int x_mm_trailed) (.int x_mm_goneTo) (.int x_mm_goneIn)))), (h_nv, .inl (cy_nv, 8000, .inl f_nv)), (h_na, .inl (cy_na, 8000, .inl f_na)), (h_nb, .inl (cy_nb, 8000, .inl f_nb)), (h_nc, .inl (cy_nc, 8000, .inl f_nc)), (h_bto, .inl (cy_bto, 256, .inl f_bto)), (h_bin, .inl (cy_bin, 256, .inl f_bin)), (h_nn, .inl (cy_nn, 8000, .inr (.inl f_nn))), (h_tra, .inl (cy_tra, 256, .inl f_tra))]) [0, 1, 2, 3, 4, 5, 6, 7, 8] rfl
    have hDc := hD.sub (ws' := [(h_mm, .inr (8, (mo136 vq18 (.ref h_nv) (.ref h_nn) (.ref h_na) (.ref h_nb) (.ref h_nc) (.ref h_bto) (.ref h_bin) (.ref h_tra) (.int x_mm_trailed) (.int x_mm_goneTo) (.int x_mm_goneIn)))), (h_nv, .inl (cy_nv, 8000, .inl f_nv)), (h_na, .inl (cy_na, 8000, .inl f_na)), (h_nb, .inl (cy_nb, 8000, .inl f_nb)), (h_nc, .inl (cy_nc, 8000, .inl f_nc)), (h_bto, .inl (cy_bto, 256, .inl f_bto)), (h_bin, .inl (cy_bin, 256, .inl f_bin)), (h_nn, .inl (cy_nn, 8000, .inr (.inl f_nn))), (h_tra, .inl (cy_tra, 256, .inl f_tra))]) [0, 1, 2, 3, 4, 5, 6, 7, 8] (by decide) rfl
    have hKc := hK.sub (tys' := [(cy_nv, .int), (cy_na, .int), (cy_nb, .int), (cy_nc, .int), (cy_bto, .int), (cy_bin, .int), (cy_nn, .long), (cy_tra, .int)]) [0, 1, 2, 3, 4, 5, 6, 7] rfl
    have hFc := va_free (wc := [(h_mm, .inr (8, (mo136 vq18 (.ref h_nv) (.ref h_nn) (.ref h_na) (.ref h_nb) (.ref h_nc) (.ref h_bto) (.ref h_bin) (.ref h_tra) (.int x_mm_trailed) (.int x_mm_goneTo) (.int x_mm_goneIn)))), (h_nv, .inl (cy_nv, 8000, .inl f_nv)), (h_na, .inl (cy_na, 8000, .inl f_na)), (h_nb, .inl (cy_nb, 8000, .inl f_nb)), (h_nc, .inl (cy_nc, 8000, .inl f_nc)), (h_bto, .inl (cy_bto, 256, .inl f_bto)), (h_bin, .inl (cy_bin, 256, .inl f_bin)), (h_nn, .inl (cy_nn, 8000, .inr (.inl f_nn))), (h_tra, .inl (cy_tra, 256, .inl f_tra))]) hD hS hA [0, 1, 2, 3, 4, 5, 6, 7, 8] rfl
    refine va_calli (va_runV (As := [.int z13, .int 30, .int z17, .int 31]) (rest := []) ⟨hx, hb, hml, hown, hts⟩ (c_X11_unifies l 1544 dC dI H.size h_mm h_nv h_na h_nb h_nc h_bto h_bin h_nn h_tra vq18 x_mm_trailed x_mm_goneTo x_mm_goneIn cy_nv f_nv cy_na f_na cy_nb f_nb cy_nc f_nc cy_bto f_bto cy_bin f_bin cy_nn f_nn cy_tra f_tra z13 30 z17 31 30 31 N hz (RGW f_nn f_nv f_na f_nb f_nc) ([]) ([]) (by first | exact hx_mm_trailed | omega) (by first | exact hx_mm_goneTo | omega) (by first | exact hx_mm_goneIn | omega) hf_nv hf_na hf_nb hf_nc hf_bto hf_bin hf_tra (by omega) (by first | exact q5 | omega) (by omega) (by omega) (by omega) (by omega) (by omega) (by omega) bf9 (trl_cast hn_trl (by omega)) pa_nil pa_nil rgw_grv rgw_grn) (cwV 4 hts (gv hT w_m_X11_284 w_instanceMethod_X11_unifies ws_sel_X11_unifies w_ini_X11 w_code_X11_unifies) rfl rfl rfl (by decide +kernel) ⟨(Nat.le_of_ble_eq_true rfl), (Nat.le_of_ble_eq_true rfl)⟩) ⟨pre_blind, va_recv hK hP (ci := 8) (q0 := 0) rfl rfl, pre_of hPc hKc hDc hN⟩ rfl rfl hl.1 rfl (lv_room (Nat.le_of_ble_eq_true rfl)) dX11_doMeet_62 ⟨(Nat.le_of_ble_eq_true rfl), (Nat.le_of_ble_eq_true rfl)⟩) hS (fun q _ h => hFc q h) hFc (fun r19 u t H locs ht hvm hq hB hz1 hk1 hS9 => ?_)
    obtain ⟨z20, z21, z22, f23, f24, f25⟩ := u
    obtain ⟨hP1, hD1⟩ := hB
    rw [ht] at hP1
    obtain ⟨hP9, hD9⟩ := va_join (wr := [(h_mny, .inl (cy_mny, 32, .inl f_mny)), (h_isn, .inl (cy_isn, 192, .inl f_isn)), (h_tem, .inl (cy_tem, 192, .inl f_tem))]) (w1 := [(h_mm, .inr (8, (mo136 vq18 (.ref h_nv) (.ref h_nn) (.ref h_na) (.ref h_nb) (.ref h_nc) (.ref h_bto) (.ref h_bin) (.ref h_tra) (.int z20) (.int z21) (.int z22)))), (h_nv, .inl (cy_nv, 8000, .inl f_nv)), (h_na, .inl (cy_na, 8000, .inl f_na)), (h_nb, .inl (cy_nb, 8000, .inl f_nb)), (h_nc, .inl (cy_nc, 8000, .inl f_nc)), (h_bto, .inl (cy_bto, 256, .inl f23)), (h_bin, .inl (cy_bin, 256, .inl f24)), (h_nn, .inl (cy_nn, 8000, .inr (.inl f_nn))), (h_tra, .inl (cy_tra, 256, .inl f25))]) hP hD [0, 1, 2, 3, 4, 5, 6, 7, 8] [9, 10, 11] rfl rfl (by decide) (by decide) hk1 hFc hP1 hD1
    clear hP hD hS hPc hDc hKc hFc hP1 hD1 hk1 hz1 ht hvm
    have hP : va_P (dC, dI) cls [(h_mny, .inl (cy_mny, 32, .inl f_mny)), (h_isn, .inl (cy_isn, 192, .inl f_isn)), (h_tem, .inl (cy_tem, 192, .inl f_tem)), (h_mm, .inr (8, (mo136 vq18 (.ref h_nv) (.ref h_nn) (.ref h_na) (.ref h_nb) (.ref h_nc) (.ref h_bto) (.ref h_bin) (.ref h_tra) (.int z20) (.int z21) (.int z22)))), (h_nv, .inl (cy_nv, 8000, .inl f_nv)), (h_na, .inl (cy_na, 8000, .inl f_na)), (h_nb, .inl (cy_nb, 8000, .inl f_nb)), (h_nc, .inl (cy_nc, 8000, .inl f_nc)), (h_bto, .inl (cy_bto, 256, .inl f23)), (h_bin, .inl (cy_bin, 256, .inl f24)), (h_nn, .inl (cy_nn, 8000, .inr (.inl f_nn))), (h_tra, .inl (cy_tra, 256, .inl f25))] H := hP9
    have hD : va_D A [(h_mny, .inl (cy_mny, 32, .inl f_mny)), (h_isn, .inl (cy_isn, 192, .inl f_isn)), (h_tem, .inl (cy_tem, 192, .inl f_tem)), (h_mm, .inr (8, (mo136 vq18 (.ref h_nv) (.ref h_nn) (.ref h_na) (.ref h_nb) (.ref h_nc) (.ref h_bto) (.ref h_bin) (.ref h_tra) (.int z20) (.int z21) (.int z22)))), (h_nv, .inl (cy_nv, 8000, .inl f_nv)), (h_na, .inl (cy_na, 8000, .inl f_na)), (h_nb, .inl (cy_nb, 8000, .inl f_nb)), (h_nc, .inl (cy_nc, 8000, .inl f_nc)), (h_bto, .inl (cy_bto, 256, .inl f23)), (h_bin, .inl (cy_bin, 256, .inl f24)), (h_nn, .inl (cy_nn, 8000, .inr (.inl f_nn))), (h_tra, .inl (cy_tra, 256, .inl f25))] := hD9
    have hS := hS9
    clear hP9 hD9 hS9
    rw [evq18] at hP hD
    replace hP : va_P (dC, dI) cls [(h_mny, .inl (cy_mny, 32, .inl f_mny)), (h_isn, .inl (cy_isn, 192, .inl f_isn)), (h_tem, .inl (cy_tem, 192, .inl f_tem)), (h_mm, .inr (8, (mo141 v_mm (.ref h_nv) (.ref h_nn) (.ref h_na) (.ref h_nb) (.ref h_nc) (.ref h_mny) (.ref h_isn) (.ref h_tem) (.ref h_bto) (.ref h_bin) (.ref h_tra) (.int z20) (.int z21) (.int z22)))), (h_nv, .inl (cy_nv, 8000, .inl f_nv)), (h_na, .inl (cy_na, 8000, .inl f_na)), (h_nb, .inl (cy_nb, 8000, .inl f_nb)), (h_nc, .inl (cy_nc, 8000, .inl f_nc)), (h_bto, .inl (cy_bto, 256, .inl f23)), (h_bin, .inl (cy_bin, 256, .inl f24)), (h_nn, .inl (cy_nn, 8000, .inr (.inl f_nn))), (h_tra, .inl (cy_tra, 256, .inl f25))] H := hP
    replace hD : va_D A [(h_mny, .inl (cy_mny, 32, .inl f_mny)), (h_isn, .inl (cy_isn, 192, .inl f_isn)), (h_tem, .inl (cy_tem, 192, .inl f_tem)), (h_mm, .inr (8, (mo141 v_mm (.ref h_nv) (.ref h_nn) (.ref h_na) (.ref h_nb) (.ref h_nc) (.ref h_mny) (.ref h_isn) (.ref h_tem) (.ref h_bto) (.ref h_bin) (.ref h_tra) (.int z20) (.int z21) (.int z22)))), (h_nv, .inl (cy_nv, 8000, .inl f_nv)), (h_na, .inl (cy_na, 8000, .inl f_na)), (h_nb, .inl (cy_nb, 8000, .inl f_nb)), (h_nc, .inl (cy_nc, 8000, .inl f_nc)), (h_bto, .inl (cy_bto, 256, .inl f23)), (h_bin, .inl (cy_bin, 256, .inl f24)), (h_nn, .inl (cy_nn, 8000, .inr (.inl f_nn))), (h_tra, .inl (cy_tra, 256, .inl f25))] := hD
    clear evq18 
    obtain ⟨k26, k27, k28, hf23, hf24, hf25, k29, k30, k31, k32, k33, k34⟩ := hq
    replace k26 : 0 ≤ ((z20)).toInt ∧ ((z20)).toInt ≤ 256 := k26
    replace k27 : 0 ≤ ((z21)).toInt ∧ ((z21)).toInt ≤ 7999 := k27
    replace k28 : 0 ≤ ((z22)).toInt ∧ ((z22)).toInt ≤ 31 := k28
    replace hf23 : Rg (-1) 7999 (f23) := hf23
    replace hf24 : Rg 0 31 (f24) := hf24
    replace hf25 : Rg 0 255 (f25) := hf25
    replace k29 : 0 ≤ (r19).toInt ∧ (r19).toInt ≤ 1 := k29
    replace k30 : BI (30 : Int) (31 : Int) (N) (hz) f_nv f_na f_nb f_nc (f23) (f24) := k30
    replace k31 : TRL ((z20)).toInt (f25) (f23) := k31
    replace k32 : GRW ((x_mm_trailed)).toInt ((z20)).toInt f_bto f_bin f_tra (f23) (f24) (f25) := k32
    replace k33 : GHI f_bto f_bin (f23) (f24) := k33
    replace k34 : UNX ((RGW f_nn f_nv f_na f_nb f_nc)) (BDW f_bto f_bin) (BDW (f23) (f24)) (PLR (z13) (30 : Int32)) (PLR (z17) (31 : Int32)) ((r19)).toInt := k34
    have pr1 : PLR z13 (30 : Int32) = 240000 + ndC f_tem (p1).toInt.toNat (p2).toInt.toNat := by rw [nt1]; show 8000 * (30 : Int32).toInt.toNat + _ = _; rw [show (30 : Int32).toInt.toNat = 30 by decide]
    have pr2 : PLR z17 (31 : Int32) = 248000 + ndC f_tem (p3).toInt.toNat (p4).toInt.toNat := by rw [nt2]; show 8000 * (31 : Int32).toInt.toNat + _ = _; rw [show (31 : Int32).toInt.toNat = 31 by decide]
    refine lv_istore (lv' := [(6, .int r19), (5, .int x_mm_trailed), (0, .ref h_mm), (1, .int p1), (2, .int p2), (3, .int p3), (4, .int p4)]) hx hb dX11_doMeet_65 hl (by decide) rfl (fun ls hl => ?_)
    have gl9 := k32.1
    refine lv_aload_n hx hb dX11_doMeet_67 rfl (lv_at hl 2 rfl) ?_
    refine lv_iload hx hb dX11_doMeet_68 (lv_at hl 1 rfl) ?_
    obtain ⟨vq35, evq35⟩ := mq141_108 v_mm (.ref h_nv) (.ref h_nn) (.ref h_na) (.ref h_nb) (.ref h_nc) (.ref h_mny) (.ref h_isn) (.ref h_tem) (.ref h_bin) (.int z21) (.int z22)
    replace hP : va_P (dC, dI) cls [(h_mny, .inl (cy_mny, 32, .inl f_mny)), (h_isn, .inl (cy_isn, 192, .inl f_isn)), (h_tem, .inl (cy_tem, 192, .inl f_tem)), (h_mm, .inr (8, (mo108 vq35 (.ref h_bto) (.ref h_tra) (.int z20)))), (h_nv, .inl (cy_nv, 8000, .inl f_nv)), (h_na, .inl (cy_na, 8000, .inl f_na)), (h_nb, .inl (cy_nb, 8000, .inl f_nb)), (h_nc, .inl (cy_nc, 8000, .inl f_nc)), (h_bto, .inl (cy_bto, 256, .inl f23)), (h_bin, .inl (cy_bin, 256, .inl f24)), (h_nn, .inl (cy_nn, 8000, .inr (.inl f_nn))), (h_tra, .inl (cy_tra, 256, .inl f25))] H := by rw [evq35]; exact hP
    replace hD : va_D A [(h_mny, .inl (cy_mny, 32, .inl f_mny)), (h_isn, .inl (cy_isn, 192, .inl f_isn)), (h_tem, .inl (cy_tem, 192, .inl f_tem)), (h_mm, .inr (8, (mo108 vq35 (.ref h_bto) (.ref h_tra) (.int z20)))), (h_nv, .inl (cy_nv, 8000, .inl f_nv)), (h_na, .inl (cy_na, 8000, .inl f_na)), (h_nb, .inl (cy_nb, 8000, .inl f_nb)), (h_nc, .inl (cy_nc, 8000, .inl f_nc)), (h_bto, .inl (cy_bto, 256, .inl f23)), (h_bin, .inl (cy_bin, 256, .inl f24)), (h_nn, .inl (cy_nn, 8000, .inr (.inl f_nn))), (h_tra, .inl (cy_tra, 256, .inl f25))] := by rw [evq35]; exact hD
    have hPc := hP.sub (ws' := [(h_mm, .inr (8, (mo108 vq35 (.ref h_bto) (.ref h_tra) (.int z20)))), (h_bto, .inl (cy_bto, 256, .inl f23)), (h_tra, .inl (cy_tra, 256, .inl f25))]) [3, 8, 11] rfl
    have hDc := hD.sub (ws' := [(h_mm, .inr (8, (mo108 vq35 (.ref h_bto) (.ref h_tra) (.int z20)))), (h_bto, .inl (cy_bto, 256, .inl f23)), (h_tra, .inl (cy_tra, 256, .inl f25))]) [3, 8, 11] (by decide) rfl
    have hKc := hK.sub (tys' := [(cy_bto, .int), (cy_tra, .int)]) [4, 7] rfl
    have hFc := va_free (wc := [(h_mm, .inr (8, (mo108 vq35 (.ref h_bto) (.ref h_tra) (.int z20)))), (h_bto, .inl (cy_bto, 256, .inl f23)), (h_tra, .inl (cy_tra, 256, .inl f25))]) hD hS hA [3, 8, 11] rfl
    refine va_callv (va_runV (As := [.int x_mm_trailed]) (rest := []) ⟨hx, hb, hml, hown, hts⟩ (c_X11_takesBack_e l dC dI H.size h_mm h_bto h_tra vq35 z20 cy_bto f23 cy_tra f25 x_mm_trailed (by first | exact k26 | omega) hf23 hf25 (by omega) (trl_cast k31 (by omega))) (cwV 1 hts (gv hT w_m_X11_297 w_instanceMethod_X11_takesBack ws_sel_X11_takesBack w_ini_X11 w_code_X11_takesBack) rfl rfl rfl (by decide +kernel) ⟨(Nat.le_of_ble_eq_true rfl), (Nat.le_of_ble_eq_true rfl)⟩) ⟨pre_blind, va_recv hK hP (ci := 8) (q0 := 3) rfl rfl, pre_of hPc hKc hDc hN⟩ rfl rfl hl.1 rfl (lv_room (Nat.le_of_ble_eq_true rfl)) dX11_doMeet_70 ⟨(Nat.le_of_ble_eq_true rfl), (Nat.le_of_ble_eq_true rfl)⟩) hS (fun q _ h => hFc q h) hFc (fun u t H locs ht hvm hq hB hz1 hk1 hS9 => ?_)
    obtain ⟨z37, f38⟩ := u
    obtain ⟨hP1, hD1⟩ := hB
    rw [ht] at hP1
    obtain ⟨hP9, hD9⟩ := va_join (wr := [(h_mny, .inl (cy_mny, 32, .inl f_mny)), (h_isn, .inl (cy_isn, 192, .inl f_isn)), (h_tem, .inl (cy_tem, 192, .inl f_tem)), (h_nv, .inl (cy_nv, 8000, .inl f_nv)), (h_na, .inl (cy_na, 8000, .inl f_na)), (h_nb, .inl (cy_nb, 8000, .inl f_nb)), (h_nc, .inl (cy_nc, 8000, .inl f_nc)), (h_bin, .inl (cy_bin, 256, .inl f24)), (h_nn, .inl (cy_nn, 8000, .inr (.inl f_nn)))]) (w1 := [(h_mm, .inr (8, (mo108 vq35 (.ref h_bto) (.ref h_tra) (.int z37)))), (h_bto, .inl (cy_bto, 256, .inl f38)), (h_tra, .inl (cy_tra, 256, .inl f25))]) hP hD [3, 8, 11] [0, 1, 2, 4, 5, 6, 7, 9, 10] rfl rfl (by decide) (by decide) hk1 hFc hP1 hD1
    clear hP hD hS hPc hDc hKc hFc hP1 hD1 hk1 hz1 ht hvm
    have hP : va_P (dC, dI) cls [(h_mny, .inl (cy_mny, 32, .inl f_mny)), (h_isn, .inl (cy_isn, 192, .inl f_isn)), (h_tem, .inl (cy_tem, 192, .inl f_tem)), (h_nv, .inl (cy_nv, 8000, .inl f_nv)), (h_na, .inl (cy_na, 8000, .inl f_na)), (h_nb, .inl (cy_nb, 8000, .inl f_nb)), (h_nc, .inl (cy_nc, 8000, .inl f_nc)), (h_bin, .inl (cy_bin, 256, .inl f24)), (h_nn, .inl (cy_nn, 8000, .inr (.inl f_nn))), (h_mm, .inr (8, (mo108 vq35 (.ref h_bto) (.ref h_tra) (.int z37)))), (h_bto, .inl (cy_bto, 256, .inl f38)), (h_tra, .inl (cy_tra, 256, .inl f25))] H := hP9
    have hD : va_D A [(h_mny, .inl (cy_mny, 32, .inl f_mny)), (h_isn, .inl (cy_isn, 192, .inl f_isn)), (h_tem, .inl (cy_tem, 192, .inl f_tem)), (h_nv, .inl (cy_nv, 8000, .inl f_nv)), (h_na, .inl (cy_na, 8000, .inl f_na)), (h_nb, .inl (cy_nb, 8000, .inl f_nb)), (h_nc, .inl (cy_nc, 8000, .inl f_nc)), (h_bin, .inl (cy_bin, 256, .inl f24)), (h_nn, .inl (cy_nn, 8000, .inr (.inl f_nn))), (h_mm, .inr (8, (mo108 vq35 (.ref h_bto) (.ref h_tra) (.int z37)))), (h_bto, .inl (cy_bto, 256, .inl f38)), (h_tra, .inl (cy_tra, 256, .inl f25))] := hD9
    have hS := hS9
    clear hP9 hD9 hS9
    rw [evq35] at hP hD
    replace hP : va_P (dC, dI) cls [(h_mny, .inl (cy_mny, 32, .inl f_mny)), (h_isn, .inl (cy_isn, 192, .inl f_isn)), (h_tem, .inl (cy_tem, 192, .inl f_tem)), (h_nv, .inl (cy_nv, 8000, .inl f_nv)), (h_na, .inl (cy_na, 8000, .inl f_na)), (h_nb, .inl (cy_nb, 8000, .inl f_nb)), (h_nc, .inl (cy_nc, 8000, .inl f_nc)), (h_bin, .inl (cy_bin, 256, .inl f24)), (h_nn, .inl (cy_nn, 8000, .inr (.inl f_nn))), (h_mm, .inr (8, (mo141 v_mm (.ref h_nv) (.ref h_nn) (.ref h_na) (.ref h_nb) (.ref h_nc) (.ref h_mny) (.ref h_isn) (.ref h_tem) (.ref h_bto) (.ref h_bin) (.ref h_tra) (.int z37) (.int z21) (.int z22)))), (h_bto, .inl (cy_bto, 256, .inl f38)), (h_tra, .inl (cy_tra, 256, .inl f25))] H := hP
    replace hD : va_D A [(h_mny, .inl (cy_mny, 32, .inl f_mny)), (h_isn, .inl (cy_isn, 192, .inl f_isn)), (h_tem, .inl (cy_tem, 192, .inl f_tem)), (h_nv, .inl (cy_nv, 8000, .inl f_nv)), (h_na, .inl (cy_na, 8000, .inl f_na)), (h_nb, .inl (cy_nb, 8000, .inl f_nb)), (h_nc, .inl (cy_nc, 8000, .inl f_nc)), (h_bin, .inl (cy_bin, 256, .inl f24)), (h_nn, .inl (cy_nn, 8000, .inr (.inl f_nn))), (h_mm, .inr (8, (mo141 v_mm (.ref h_nv) (.ref h_nn) (.ref h_na) (.ref h_nb) (.ref h_nc) (.ref h_mny) (.ref h_isn) (.ref h_tem) (.ref h_bto) (.ref h_bin) (.ref h_tra) (.int z37) (.int z21) (.int z22)))), (h_bto, .inl (cy_bto, 256, .inl f38)), (h_tra, .inl (cy_tra, 256, .inl f25))] := hD
    clear evq35 
    obtain ⟨k39, hf38, k40, k41, k42, k43⟩ := hq
    replace k39 : 0 ≤ ((z37)).toInt ∧ ((z37)).toInt ≤ 256 := k39
    replace hf38 : Rg (-1) 7999 (f38) := hf38
    replace k40 : (((z37)).toInt = ((x_mm_trailed)).toInt ∧ ((x_mm_trailed)).toInt ≤ ((z20)).toInt) ∨ (((z37)).toInt = ((z20)).toInt ∧ ((z20)).toInt ≤ ((x_mm_trailed)).toInt) := k40
    replace k41 : TRL ((z37)).toInt (f25) (f38) := k41
    replace k42 : TBK ((z37)).toInt ((z20)).toInt (f23) (f25) (f38) := k42
    replace k43 : TBE ((z37)).toInt ((z20)).toInt (f23) (f25) (f38) := k43
    have sm9 : SAM f_bto f_bin f38 f24 := fun s9 h1 h2 => gr_tb k32 (tb_cast k42 (by omega) rfl) h1 h2
    refine lv_iload hx hb dX11_doMeet_73 (lv_at hl 0 rfl) ?_
    have mq9 : (r19).toInt = mf (p1).toInt.toNat (p2).toInt.toNat (p3).toInt.toNat (p4).toInt.toNat := hn_mfr (BDW f_bto f_bin) (neg_fre hn_fre) (p1).toInt.toNat (p2).toInt.toNat (p3).toInt.toNat (p4).toInt.toNat _ (by omega) (show (((p2).toInt.toNat : Nat) : Int) < (f_mny (p1).toInt.toNat).toInt by omega) (by omega) (show (((p4).toInt.toNat : Nat) : Int) < (f_mny (p3).toInt.toNat).toInt by omega) (meo_unx (by omega) (by have h9 := k34; rw [pr1, pr2] at h9; exact h9))
    replace hP : va_P (dC, dI) cls [(h_mm, .inr (8, (mo141 v_mm (.ref h_nv) (.ref h_nn) (.ref h_na) (.ref h_nb) (.ref h_nc) (.ref h_mny) (.ref h_isn) (.ref h_tem) (.ref h_bto) (.ref h_bin) (.ref h_tra) (.int z37) (.int z21) (.int z22)))), (h_nv, .inl (cy_nv, 8000, .inl f_nv)), (h_na, .inl (cy_na, 8000, .inl f_na)), (h_nb, .inl (cy_nb, 8000, .inl f_nb)), (h_nc, .inl (cy_nc, 8000, .inl f_nc)), (h_bto, .inl (cy_bto, 256, .inl f38)), (h_bin, .inl (cy_bin, 256, .inl f24)), (h_nn, .inl (cy_nn, 8000, .inr (.inl f_nn))), (h_tra, .inl (cy_tra, 256, .inl f25)), (h_mny, .inl (cy_mny, 32, .inl f_mny)), (h_isn, .inl (cy_isn, 192, .inl f_isn)), (h_tem, .inl (cy_tem, 192, .inl f_tem))] H := hP.sub [9, 3, 4, 5, 6, 10, 7, 8, 11, 0, 1, 2] rfl
    replace hD : va_D A [(h_mm, .inr (8, (mo141 v_mm (.ref h_nv) (.ref h_nn) (.ref h_na) (.ref h_nb) (.ref h_nc) (.ref h_mny) (.ref h_isn) (.ref h_tem) (.ref h_bto) (.ref h_bin) (.ref h_tra) (.int z37) (.int z21) (.int z22)))), (h_nv, .inl (cy_nv, 8000, .inl f_nv)), (h_na, .inl (cy_na, 8000, .inl f_na)), (h_nb, .inl (cy_nb, 8000, .inl f_nb)), (h_nc, .inl (cy_nc, 8000, .inl f_nc)), (h_bto, .inl (cy_bto, 256, .inl f38)), (h_bin, .inl (cy_bin, 256, .inl f24)), (h_nn, .inl (cy_nn, 8000, .inr (.inl f_nn))), (h_tra, .inl (cy_tra, 256, .inl f25)), (h_mny, .inl (cy_mny, 32, .inl f_mny)), (h_isn, .inl (cy_isn, 192, .inl f_isn)), (h_tem, .inl (cy_tem, 192, .inl f_tem))] := hD.sub [9, 3, 4, 5, 6, 10, 7, 8, 11, 0, 1, 2] (by decide) rfl
    refine W.widen (k := 0) (n := 0) (Nat.le_of_ble_eq_true rfl) (Nat.le_of_ble_eq_true rfl) ?_
    have w44 : 0 ≤ ((z37)).toInt ∧ ((z37)).toInt ≤ 256 := by first | exact k39 | omega
    have w45 : 0 ≤ ((z21)).toInt ∧ ((z21)).toInt ≤ 7999 := by first | exact k27 | omega
    have w46 : 0 ≤ ((z22)).toInt ∧ ((z22)).toInt ≤ 31 := by first | exact k28 | omega
    have w47 : 0 ≤ (r19 : Int32).toInt ∧ (r19 : Int32).toInt ≤ 1 := by first | exact k29 | omega
    have w48 : ((z37)).toInt = (x_mm_trailed).toInt := by omega
    have w49 : ((r19 : Int32)).toInt = mf (p1).toInt.toNat (p2).toInt.toNat (p3).toInt.toNat (p4).toInt.toNat := by omega
    have w50 : SAM f_bto f_bin (f38) (f24) := sm9
    have w51 : TRL ((z37)).toInt (f25) (f38) := (trl_cast k41 (by omega))
    exact W.zret (v := r19) (ty := .boolean) hx hb hr (zz_bool (by omega)) (fun t ht hW => ⟨⟨r19, (z37, z21, z22, f38, f24, f25), rfl, ⟨w44, w45, w46, hf38, hf24, hf25, w47, w48, w49, w50, w51⟩, by rw [ht]; exact hP, hD⟩, hS.F ht⟩) hS.2.2 dX11_doMeet_75
  · have kc9 := (cv_eq (rfl : (z4).toInt = (z4).toInt) (rfl : (z8).toInt = (z8).toInt)).mp c9
    have cst0 : (0 : Int32).toInt = 0 := by decide
    have mq9 : (0 : Int32).toInt = mf (p1).toInt.toNat (p2).toInt.toNat (p3).toInt.toNat (p4).toInt.toNat := hn_mfr (BDW f_bto f_bin) (neg_fre hn_fre) (p1).toInt.toNat (p2).toInt.toNat (p3).toInt.toNat (p4).toInt.toNat _ (by omega) (show (((p2).toInt.toNat : Nat) : Int) < (f_mny (p1).toInt.toNat).toInt by omega) (by omega) (show (((p4).toInt.toNat : Nat) : Int) < (f_mny (p3).toInt.toNat).toInt by omega) (Or.inl ⟨by omega, by decide⟩)
    refine lv_iconst (v := 0) hx hb dX11_doMeet_26 (by decide) ?_
    refine W.widen (k := 0) (n := 0) (Nat.le_of_ble_eq_true rfl) (Nat.le_of_ble_eq_true rfl) ?_
    have cst0 : (0 : Int32).toInt = 0 := by decide
    have w52 : 0 ≤ ((x_mm_trailed)).toInt ∧ ((x_mm_trailed)).toInt ≤ 256 := by first | exact hx_mm_trailed | omega
    have w53 : 0 ≤ ((x_mm_goneTo)).toInt ∧ ((x_mm_goneTo)).toInt ≤ 7999 := by first | exact hx_mm_goneTo | omega
    have w54 : 0 ≤ ((x_mm_goneIn)).toInt ∧ ((x_mm_goneIn)).toInt ≤ 31 := by first | exact hx_mm_goneIn | omega
    have w55 : 0 ≤ (0 : Int32).toInt ∧ (0 : Int32).toInt ≤ 1 := by omega
    have w56 : ((x_mm_trailed)).toInt = (x_mm_trailed).toInt := by omega
    have w57 : ((0 : Int32)).toInt = mf (p1).toInt.toNat (p2).toInt.toNat (p3).toInt.toNat (p4).toInt.toNat := by omega
    have w58 : SAM f_bto f_bin (f_bto) (f_bin) := sam0
    have w59 : TRL ((x_mm_trailed)).toInt (f_tra) (f_bto) := (trl_cast hn_trl (by omega))
    exact W.zret (v := 0) (ty := .boolean) hx hb hr (by decide) (fun t ht hW => ⟨⟨0, (x_mm_trailed, x_mm_goneTo, x_mm_goneIn, f_bto, f_bin, f_tra), rfl, ⟨w52, w53, w54, hf_bto, hf_bin, hf_tra, w55, w56, w57, w58, w59⟩, by rw [ht]; exact hP, hD⟩, hS.F ht⟩) hS.2.2 dX11_doMeet_27

set_option maxHeartbeats 8000000 in
set_option maxRecDepth 100000 in
theorem c_X11_isLiteral_g (l : Launch) (dC : Nat → ClassId) (dI : Nat → Nat → Nat) (sz : Nat) (h_mm : Nat) (h_mny : Nat) (v_mm : Nat → Value) (x_mm_clauses : Int32) (cy_mny : ClassId) (f_mny : Nat → Int32) (p1 : Int32) (p2 : Int32) (hx_mm_clauses : 0 ≤ (x_mm_clauses).toInt ∧ (x_mm_clauses).toInt ≤ 16) (hf_mny : Rg 0 6 f_mny) : Met l yX11_isLiteral (Ws yX11_isLiteral cX11_isLiteral 3 (some .boolean)) (({ frames := 2, cells := 0, slots := 0, locals := 47 } : Room)) (PRE (dC, dI) cls [(cy_mny, .int)] [(h_mm, .inr (8, (mo101 v_mm (.int x_mm_clauses) (.ref h_mny)))), (h_mny, .inl (cy_mny, 32, .inl f_mny))] sz [.ref h_mm, .int p1, .int p2]) (va_Qi (fun (r : Int32) (_ : Unit) => ((r = 1 ∧ (0 ≤ (p1).toInt) ∧ ((p1).toInt < (x_mm_clauses).toInt) ∧ (0 ≤ (p2).toInt) ∧ ((p2).toInt ≤ 5) ∧ ((p2).toInt < (f_mny (Int32.toNatClampNeg p1)).toInt)) ∨ (r = 0 ∧ ((p1).toInt < 0 ∨ (x_mm_clauses).toInt ≤ (p1).toInt ∨ (p2).toInt < 0 ∨ (f_mny (Int32.toNatClampNeg p1)).toInt ≤ (p2).toInt)))) (fun (_ : Unit) (t : State) => va_P (dC, dI) cls [(h_mm, .inr (8, (mo101 v_mm (.int x_mm_clauses) (.ref h_mny)))), (h_mny, .inl (cy_mny, 32, .inl f_mny))] t.heap ∧ va_D (va_A [(h_mm, .inr (8, (mo101 v_mm (.int x_mm_clauses) (.ref h_mny)))), (h_mny, .inl (cy_mny, 32, .inl f_mny))] sz) [(h_mm, .inr (8, (mo101 v_mm (.int x_mm_clauses) (.ref h_mny)))), (h_mny, .inl (cy_mny, 32, .inl f_mny))]) (va_A [(h_mm, .inr (8, (mo101 v_mm (.int x_mm_clauses) (.ref h_mny)))), (h_mny, .inl (cy_mny, 32, .inl f_mny))] sz)) 0 0 (va_A [(h_mm, .inr (8, (mo101 v_mm (.int x_mm_clauses) (.ref h_mny)))), (h_mny, .inl (cy_mny, 32, .inl f_mny))] sz) := by
  refine Met.ofW (cc := cX11_isLiteral) (maxL := 3) (ret := (some .boolean)) (by decide) rfl ?_
  intro p e s m args below meth c s₁ B hml hv
  obtain ⟨rfl, hsz, hP, hK, hD0, hN⟩ := hv
  have hx := B.exec
  have hb := B.bytes
  have hr := B.returns
  have hts := atoms_spec (ws := Ws yX11_isLiteral cX11_isLiteral 3 (some .boolean)) B.pre
  have hT : ∀ w ∈ WALL, w ∈ Ws yX11_isLiteral cX11_isLiteral 3 (some .boolean) := fun w h => List.mem_cons_of_mem _ h
  have hw := fun w (h : w ∈ WALL) => hts w (hT w h)
  have hown : s.vm.findClass RX11 = some m.cls := findClass_of_methodNamed B.named
  have hlocks := B.notSynchronized
  subst hsz
  have hD := hD0.self (sz := s.heap.size)
  generalize hAe : va_A [(h_mm, .inr (8, (mo101 v_mm (.int x_mm_clauses) (.ref h_mny)))), (h_mny, .inl (cy_mny, 32, .inl f_mny))] s.heap.size = A at hD ⊢
  have hA : ∀ q : Nat, s.heap.size ≤ q → A q := fun q h => by rw [← hAe]; exact Or.inr h
  have hS : va_S A s.heap s.heap [] := va_S.rf
  have hl := lv_entry ([.ref h_mm, .int p1, .int p2]) (n := 3) (Nat.le_of_ble_eq_true rfl)
  rw [lg_entry_eq]
  generalize (lg_sl ([.ref h_mm, .int p1, .int p2]) ++ List.replicate (3 - (lg_sl ([.ref h_mm, .int p1, .int p2])).length) Slot.unset).toArray = ls at hl ⊢
  have hl : lv_has ls 3 [(0, .ref h_mm), (1, .int p1), (2, .int p2)] := hl
  refine lv_aload_n hx hb dX11_isLiteral_0 rfl (lv_at hl 0 rfl) ?_
  refine lv_iload_n hx hb dX11_isLiteral_1 rfl (lv_at hl 1 rfl) ?_
  obtain ⟨vq1, evq1⟩ := mq101_100 v_mm (.ref h_mny)
  replace hP : va_P (dC, dI) cls [(h_mm, .inr (8, (mo100 vq1 (.int x_mm_clauses)))), (h_mny, .inl (cy_mny, 32, .inl f_mny))] s.heap := by rw [evq1]; exact hP
  replace hD : va_D A [(h_mm, .inr (8, (mo100 vq1 (.int x_mm_clauses)))), (h_mny, .inl (cy_mny, 32, .inl f_mny))] := by rw [evq1]; exact hD
  have hPc := hP.sub (ws' := [(h_mm, .inr (8, (mo100 vq1 (.int x_mm_clauses))))]) [0] rfl
  have hDc := hD.sub (ws' := [(h_mm, .inr (8, (mo100 vq1 (.int x_mm_clauses))))]) [0] (by decide) rfl
  have hKc := hK.sub (tys' := []) [] rfl
  have hFc := va_free (wc := [(h_mm, .inr (8, (mo100 vq1 (.int x_mm_clauses))))]) hD hS hA [0] rfl
  refine va_calli (va_runV (As := [.int p1]) (rest := []) ⟨hx, hb, hml, hown, hts⟩ (c_X11_isClause l dC dI s.heap.size h_mm vq1 x_mm_clauses p1 (by first | exact hx_mm_clauses | omega)) (cwV 1 hts (gv hT w_m_X11_174 w_instanceMethod_X11_isClause ws_sel_X11_isClause w_ini_X11 w_code_X11_isClause) rfl rfl rfl (by decide +kernel) ⟨(Nat.le_of_ble_eq_true rfl), (Nat.le_of_ble_eq_true rfl)⟩) ⟨pre_blind, va_recv hK hP (ci := 8) (q0 := 0) rfl rfl, pre_of hPc hKc hDc hN⟩ rfl rfl hl.1 rfl (lv_room (Nat.le_of_ble_eq_true rfl)) dX11_isLiteral_2 ⟨(Nat.le_of_ble_eq_true rfl), (Nat.le_of_ble_eq_true rfl)⟩) hS (fun q _ h => hFc q h) hFc (fun r2 u t H locs ht hvm hq hB hz1 hk1 hS9 => ?_)
  obtain ⟨hP1, hD1⟩ := hB
  rw [ht] at hP1
  obtain ⟨hP9, hD9⟩ := va_join (wr := [(h_mny, .inl (cy_mny, 32, .inl f_mny))]) (w1 := [(h_mm, .inr (8, (mo100 vq1 (.int x_mm_clauses))))]) hP hD [0] [1] rfl rfl (by decide) (by decide) hk1 hFc hP1 hD1
  clear hP hD hS hPc hDc hKc hFc hP1 hD1 hk1 hz1 ht hvm
  have hP : va_P (dC, dI) cls [(h_mny, .inl (cy_mny, 32, .inl f_mny)), (h_mm, .inr (8, (mo100 vq1 (.int x_mm_clauses))))] H := hP9
  have hD : va_D A [(h_mny, .inl (cy_mny, 32, .inl f_mny)), (h_mm, .inr (8, (mo100 vq1 (.int x_mm_clauses))))] := hD9
  have hS := hS9
  clear hP9 hD9 hS9
  rw [evq1] at hP hD
  replace hP : va_P (dC, dI) cls [(h_mny, .inl (cy_mny, 32, .inl f_mny)), (h_mm, .inr (8, (mo101 v_mm (.int x_mm_clauses) (.ref h_mny))))] H := hP
  replace hD : va_D A [(h_mny, .inl (cy_mny, 32, .inl f_mny)), (h_mm, .inr (8, (mo101 v_mm (.int x_mm_clauses) (.ref h_mny))))] := hD
  clear evq1 
  rcases hq with ⟨rfl, hq⟩ | ⟨rfl, hq⟩
  · replace hq : (0 ≤ ((p1)).toInt) ∧ (((p1)).toInt < ((x_mm_clauses)).toInt) := hq
    refine lv_if_eq (tgt := 31) hx hb dX11_isLiteral_5 (by decide) (fun c9 => absurd c9 (by decide)) (fun _ => ?_)
    refine lv_aload_n hx hb dX11_isLiteral_8 rfl (lv_at hl 0 rfl) ?_
    refine lv_iload_n hx hb dX11_isLiteral_9 rfl (lv_at hl 2 rfl) ?_
    refine lv_i2l hx hb dX11_isLiteral_10 rfl ?_
    refine lv_topl (fun z3 ez3 => ?_)
    have tz3 : (z3).toInt = (p2).toInt := by rw [ez3]; exact Int32.toInt_toInt64 _
    have bz3 := i_bd p2
    refine lv_lconst (v := 0) hx hb dX11_isLiteral_11 (by decide) ?_
    refine lv_aload_n hx hb dX11_isLiteral_12 rfl (lv_at hl 0 rfl) ?_
    refine va_get (D := (dC, dI)) (ci := 8) (v := .ref h_mny) (C := RX11) (T := TX11) (N := 71) hx hb hw iwX11 hown hK hP 1 rfl rfl 8 (by decide) (hw _ w_f_X11_142) (fun _ h9 => h9) rfl dX11_isLiteral_13 ?_
    refine lv_iload_n hx hb dX11_isLiteral_16 rfl (lv_at hl 1 rfl) ?_
    refine va_iald hx hb hK hP 0 0 rfl rfl (i := p1) (vp_in_iff.mpr (by omega)) dX11_isLiteral_17 ?_
    refine lv_topi (fun z4 ez4 => ?_)
    have rz4 : 0 ≤ (z4).toInt ∧ (z4).toInt ≤ 6 := by rw [ez4]; exact hf_mny _
    have mqz4 : (f_mny (Int32.toNatClampNeg p1)).toInt = (z4).toInt := by rw [ez4]
    refine lv_i2l hx hb dX11_isLiteral_18 rfl ?_
    refine lv_topl (fun z5 ez5 => ?_)
    have tz5 : (z5).toInt = (z4).toInt := by rw [ez5]; exact Int32.toInt_toInt64 _
    have bz5 := i_bd z4
    refine lv_lconst (v := 1) hx hb dX11_isLiteral_19 (by decide) ?_
    refine lv_lsub hx hb dX11_isLiteral_20 ?_
    refine lv_topl (fun z6 ez6 => ?_)
    have tz6 : (z6).toInt = (z5).toInt - 1 := by rw [ez6]; exact l_sub rfl (by decide) (by omega)
    have : (0 : Int64).toInt = 0 := by decide
    have hPc := hP.sub (ws' := []) [] rfl
    have hDc := hD.sub (ws' := []) [] (by decide) rfl
    have hKc := hK.sub (tys' := []) [] rfl
    have hFc := va_free (wc := []) hD hS hA [] rfl
    refine va_calli (va_runV (As := [.long z3, .long 0, .long z6]) (rest := []) ⟨hx, hb, hml, hown, hts⟩ (c_X11_isIn l dC dI H.size h_mm z3 0 z6) (cwV 3 hts (gv hT w_m_X11_49 w_instanceMethod_X11_isIn ws_sel_X11_isIn w_ini_X11 w_code_X11_isIn) rfl rfl rfl (by decide +kernel) ⟨(Nat.le_of_ble_eq_true rfl), (Nat.le_of_ble_eq_true rfl)⟩) ⟨pre_blind, va_recv hK hP (ci := 8) (q0 := 1) rfl rfl, pre_of hPc hKc hDc hN⟩ rfl rfl hl.1 rfl (lv_room (Nat.le_of_ble_eq_true rfl)) dX11_isLiteral_21 ⟨(Nat.le_of_ble_eq_true rfl), (Nat.le_of_ble_eq_true rfl)⟩) hS (fun q _ h => hFc q h) hFc (fun r7 u t H locs ht hvm hq hB hz1 hk1 hS9 => ?_)
    obtain ⟨hP1, hD1⟩ := hB
    rw [ht] at hP1
    obtain ⟨hP9, hD9⟩ := va_join (wr := [(h_mny, .inl (cy_mny, 32, .inl f_mny)), (h_mm, .inr (8, (mo101 v_mm (.int x_mm_clauses) (.ref h_mny))))]) (w1 := []) hP hD [] [0, 1] rfl rfl (by decide) (by decide) hk1 hFc hP1 hD1
    clear hP hD hS hPc hDc hKc hFc hP1 hD1 hk1 hz1 ht hvm
    have hP : va_P (dC, dI) cls [(h_mny, .inl (cy_mny, 32, .inl f_mny)), (h_mm, .inr (8, (mo101 v_mm (.int x_mm_clauses) (.ref h_mny))))] H := hP9
    have hD : va_D A [(h_mny, .inl (cy_mny, 32, .inl f_mny)), (h_mm, .inr (8, (mo101 v_mm (.int x_mm_clauses) (.ref h_mny))))] := hD9
    have hS := hS9
    clear hP9 hD9 hS9
    rcases hq with ⟨rfl, hq⟩ | ⟨rfl, hq⟩
    · replace hq : (((0 : Int64)).toInt ≤ ((z3)).toInt) ∧ (((z3)).toInt ≤ ((z6)).toInt) := hq
      refine lv_if_eq (tgt := 31) hx hb dX11_isLiteral_24 (by decide) (fun c9 => absurd c9 (by decide)) (fun _ => ?_)
      refine lv_iconst (v := 1) hx hb dX11_isLiteral_27 (by decide) ?_
      refine lv_goto (tgt := 32) hx hb dX11_isLiteral_28 (by decide) ?_
      replace hP : va_P (dC, dI) cls [(h_mm, .inr (8, (mo101 v_mm (.int x_mm_clauses) (.ref h_mny)))), (h_mny, .inl (cy_mny, 32, .inl f_mny))] H := hP.sub [1, 0] rfl
      replace hD : va_D A [(h_mm, .inr (8, (mo101 v_mm (.int x_mm_clauses) (.ref h_mny)))), (h_mny, .inl (cy_mny, 32, .inl f_mny))] := hD.sub [1, 0] (by decide) rfl
      refine W.widen (k := 0) (n := 0) (Nat.le_of_ble_eq_true rfl) (Nat.le_of_ble_eq_true rfl) ?_
      have cst1 : (1 : Int32).toInt = 1 := by decide
      have : 0 ≤ (p1).toInt := by omega
      have : (p1).toInt < (x_mm_clauses).toInt := by omega
      have : 0 ≤ (p2).toInt := by omega
      have : (p2).toInt ≤ 5 := by omega
      have : (p2).toInt < (f_mny (Int32.toNatClampNeg p1)).toInt := by omega
      exact W.zret (v := 1) (ty := .boolean) hx hb hr (by decide) (fun t ht hW => ⟨⟨1, (), rfl, (Or.inl (⟨rfl, by assumption, by assumption, by assumption, by assumption, by assumption⟩)), by rw [ht]; exact hP, hD⟩, hS.F ht⟩) hS.2.2 dX11_isLiteral_32
    · replace hq : (((z3)).toInt < ((0 : Int64)).toInt ∨ ((z6)).toInt < ((z3)).toInt) := hq
      refine lv_if_eq (tgt := 31) hx hb dX11_isLiteral_24 (by decide) (fun _ => ?_) (fun c9 => absurd c9 (by decide))
      refine lv_iconst (v := 0) hx hb dX11_isLiteral_31 (by decide) ?_
      replace hP : va_P (dC, dI) cls [(h_mm, .inr (8, (mo101 v_mm (.int x_mm_clauses) (.ref h_mny)))), (h_mny, .inl (cy_mny, 32, .inl f_mny))] H := hP.sub [1, 0] rfl
      replace hD : va_D A [(h_mm, .inr (8, (mo101 v_mm (.int x_mm_clauses) (.ref h_mny)))), (h_mny, .inl (cy_mny, 32, .inl f_mny))] := hD.sub [1, 0] (by decide) rfl
      refine W.widen (k := 0) (n := 0) (Nat.le_of_ble_eq_true rfl) (Nat.le_of_ble_eq_true rfl) ?_
      have cst0 : (0 : Int32).toInt = 0 := by decide
      have : (p1).toInt < 0 ∨ (x_mm_clauses).toInt ≤ (p1).toInt ∨ (p2).toInt < 0 ∨ (f_mny (Int32.toNatClampNeg p1)).toInt ≤ (p2).toInt := by omega
      exact W.zret (v := 0) (ty := .boolean) hx hb hr (by decide) (fun t ht hW => ⟨⟨0, (), rfl, (Or.inr (⟨rfl, by assumption⟩)), by rw [ht]; exact hP, hD⟩, hS.F ht⟩) hS.2.2 dX11_isLiteral_32
  · replace hq : (((p1)).toInt < 0 ∨ ((x_mm_clauses)).toInt ≤ ((p1)).toInt) := hq
    refine lv_if_eq (tgt := 31) hx hb dX11_isLiteral_5 (by decide) (fun _ => ?_) (fun c9 => absurd c9 (by decide))
    refine lv_iconst (v := 0) hx hb dX11_isLiteral_31 (by decide) ?_
    replace hP : va_P (dC, dI) cls [(h_mm, .inr (8, (mo101 v_mm (.int x_mm_clauses) (.ref h_mny)))), (h_mny, .inl (cy_mny, 32, .inl f_mny))] H := hP.sub [1, 0] rfl
    replace hD : va_D A [(h_mm, .inr (8, (mo101 v_mm (.int x_mm_clauses) (.ref h_mny)))), (h_mny, .inl (cy_mny, 32, .inl f_mny))] := hD.sub [1, 0] (by decide) rfl
    refine W.widen (k := 0) (n := 0) (Nat.le_of_ble_eq_true rfl) (Nat.le_of_ble_eq_true rfl) ?_
    have cst0 : (0 : Int32).toInt = 0 := by decide
    have : (p1).toInt < 0 ∨ (x_mm_clauses).toInt ≤ (p1).toInt ∨ (p2).toInt < 0 ∨ (f_mny (Int32.toNatClampNeg p1)).toInt ≤ (p2).toInt := by omega
    exact W.zret (v := 0) (ty := .boolean) hx hb hr (by decide) (fun t ht hW => ⟨⟨0, (), rfl, (Or.inr (⟨rfl, by assumption⟩)), by rw [ht]; exact hP, hD⟩, hS.F ht⟩) hS.2.2 dX11_isLiteral_32

set_option maxHeartbeats 8000000 in
set_option maxRecDepth 100000 in
theorem c_X11_meets (l : Launch) (dC : Nat → ClassId) (dI : Nat → Nat → Nat) (sz : Nat) (h_mm : Nat) (h_nv : Nat) (h_na : Nat) (h_nb : Nat) (h_nc : Nat) (h_bto : Nat) (h_bin : Nat) (h_nn : Nat) (h_tra : Nat) (h_mny : Nat) (h_isn : Nat) (h_tem : Nat) (v_mm : Nat → Value) (x_mm_clauses : Int32) (x_mm_trailed : Int32) (x_mm_goneTo : Int32) (x_mm_goneIn : Int32) (cy_nv : ClassId) (f_nv : Nat → Int32) (cy_na : ClassId) (f_na : Nat → Int32) (cy_nb : ClassId) (f_nb : Nat → Int32) (cy_nc : ClassId) (f_nc : Nat → Int32) (cy_bto : ClassId) (f_bto : Nat → Int32) (cy_bin : ClassId) (f_bin : Nat → Int32) (cy_nn : ClassId) (f_nn : Nat → Int64) (cy_tra : ClassId) (f_tra : Nat → Int32) (cy_mny : ClassId) (f_mny : Nat → Int32) (cy_isn : ClassId) (f_isn : Nat → Int32) (cy_tem : ClassId) (f_tem : Nat → Int32) (p1 : Int32) (p2 : Int32) (p3 : Int32) (p4 : Int32) (N : Int) (hz : Nat → Nat) (mf : MFT) (hx_mm_clauses : 0 ≤ (x_mm_clauses).toInt ∧ (x_mm_clauses).toInt ≤ 16) (hx_mm_trailed : 0 ≤ (x_mm_trailed).toInt ∧ (x_mm_trailed).toInt ≤ 256) (hx_mm_goneTo : 0 ≤ (x_mm_goneTo).toInt ∧ (x_mm_goneTo).toInt ≤ 7999) (hx_mm_goneIn : 0 ≤ (x_mm_goneIn).toInt ∧ (x_mm_goneIn).toInt ≤ 31) (hf_nv : Rg (-1) 7 f_nv) (hf_na : Rg (-1) 7999 f_na) (hf_nb : Rg (-1) 7999 f_nb) (hf_nc : Rg (-1) 7999 f_nc) (hf_bto : Rg (-1) 7999 f_bto) (hf_bin : Rg 0 31 f_bin) (hf_tra : Rg 0 255 f_tra) (hf_mny : Rg 0 6 f_mny) (hf_isn : Rg 0 1 f_isn) (hf_tem : Rg 0 7999 f_tem) (q0 : N ≤ 8000) (hn_nds : ND 0 N hz f_na f_nb f_nc) (hn_tms : TM 0 N hz 0 (x_mm_clauses).toInt f_mny f_tem) (hn_fre : FRE f_bto) (hn_trl : TRL (x_mm_trailed).toInt f_tra f_bto) (hn_mfr : MFN (RGW f_nn f_nv f_na f_nb f_nc) (mlC f_mny) (ndC f_tem) (sgR f_isn) 240000 248000 (x_mm_clauses).toInt mf) : Met l yX11_meets (Ws yX11_meets cX11_meets 5 (some .int)) (({ frames := 1549, cells := 0, slots := 0, locals := 44902 } : Room)) (PRE (dC, dI) cls [(cy_nv, .int), (cy_na, .int), (cy_nb, .int), (cy_nc, .int), (cy_bto, .int), (cy_bin, .int), (cy_nn, .long), (cy_tra, .int), (cy_mny, .int), (cy_isn, .boolean), (cy_tem, .int)] [(h_mm, .inr (8, (mo142 v_mm (.ref h_nv) (.ref h_nn) (.ref h_na) (.ref h_nb) (.ref h_nc) (.int x_mm_clauses) (.ref h_mny) (.ref h_isn) (.ref h_tem) (.ref h_bto) (.ref h_bin) (.ref h_tra) (.int x_mm_trailed) (.int x_mm_goneTo) (.int x_mm_goneIn)))), (h_nv, .inl (cy_nv, 8000, .inl f_nv)), (h_na, .inl (cy_na, 8000, .inl f_na)), (h_nb, .inl (cy_nb, 8000, .inl f_nb)), (h_nc, .inl (cy_nc, 8000, .inl f_nc)), (h_bto, .inl (cy_bto, 256, .inl f_bto)), (h_bin, .inl (cy_bin, 256, .inl f_bin)), (h_nn, .inl (cy_nn, 8000, .inr (.inl f_nn))), (h_tra, .inl (cy_tra, 256, .inl f_tra)), (h_mny, .inl (cy_mny, 32, .inl f_mny)), (h_isn, .inl (cy_isn, 192, .inl f_isn)), (h_tem, .inl (cy_tem, 192, .inl f_tem))] sz [.ref h_mm, .int p1, .int p2, .int p3, .int p4]) (va_Qi (fun (r : Int32) (u : (Int32) × (Int32) × (Int32) × (Int32) × (Nat → Int32) × (Nat → Int32) × (Nat → Int32)) => (0 ≤ (u.2.1).toInt ∧ (u.2.1).toInt ≤ 256) ∧ (0 ≤ (u.2.2.1).toInt ∧ (u.2.2.1).toInt ≤ 7999) ∧ (0 ≤ (u.2.2.2.1).toInt ∧ (u.2.2.2.1).toInt ≤ 31) ∧ (Rg (-1) 7999 u.2.2.2.2.1) ∧ (Rg 0 31 u.2.2.2.2.2.1) ∧ (Rg 0 255 u.2.2.2.2.2.2) ∧ ((u.2.1).toInt = (x_mm_trailed).toInt) ∧ (SAM f_bto f_bin u.2.2.2.2.1 u.2.2.2.2.2.1) ∧ (TRL (u.2.1).toInt u.2.2.2.2.2.2 u.2.2.2.2.1) ∧ (MTV (mlC f_mny) (x_mm_clauses).toInt mf (p1).toInt (p2).toInt (p3).toInt (p4).toInt (r).toInt)) (fun (u : (Int32) × (Int32) × (Int32) × (Int32) × (Nat → Int32) × (Nat → Int32) × (Nat → Int32)) (t : State) => va_P (dC, dI) cls [(h_mm, .inr (8, (mo143 v_mm (.int u.1) (.ref h_nv) (.ref h_nn) (.ref h_na) (.ref h_nb) (.ref h_nc) (.int x_mm_clauses) (.ref h_mny) (.ref h_isn) (.ref h_tem) (.ref h_bto) (.ref h_bin) (.ref h_tra) (.int u.2.1) (.int u.2.2.1) (.int u.2.2.2.1)))), (h_nv, .inl (cy_nv, 8000, .inl f_nv)), (h_na, .inl (cy_na, 8000, .inl f_na)), (h_nb, .inl (cy_nb, 8000, .inl f_nb)), (h_nc, .inl (cy_nc, 8000, .inl f_nc)), (h_bto, .inl (cy_bto, 256, .inl u.2.2.2.2.1)), (h_bin, .inl (cy_bin, 256, .inl u.2.2.2.2.2.1)), (h_nn, .inl (cy_nn, 8000, .inr (.inl f_nn))), (h_tra, .inl (cy_tra, 256, .inl u.2.2.2.2.2.2)), (h_mny, .inl (cy_mny, 32, .inl f_mny)), (h_isn, .inl (cy_isn, 192, .inl f_isn)), (h_tem, .inl (cy_tem, 192, .inl f_tem))] t.heap ∧ va_D (va_A [(h_mm, .inr (8, (mo142 v_mm (.ref h_nv) (.ref h_nn) (.ref h_na) (.ref h_nb) (.ref h_nc) (.int x_mm_clauses) (.ref h_mny) (.ref h_isn) (.ref h_tem) (.ref h_bto) (.ref h_bin) (.ref h_tra) (.int x_mm_trailed) (.int x_mm_goneTo) (.int x_mm_goneIn)))), (h_nv, .inl (cy_nv, 8000, .inl f_nv)), (h_na, .inl (cy_na, 8000, .inl f_na)), (h_nb, .inl (cy_nb, 8000, .inl f_nb)), (h_nc, .inl (cy_nc, 8000, .inl f_nc)), (h_bto, .inl (cy_bto, 256, .inl f_bto)), (h_bin, .inl (cy_bin, 256, .inl f_bin)), (h_nn, .inl (cy_nn, 8000, .inr (.inl f_nn))), (h_tra, .inl (cy_tra, 256, .inl f_tra)), (h_mny, .inl (cy_mny, 32, .inl f_mny)), (h_isn, .inl (cy_isn, 192, .inl f_isn)), (h_tem, .inl (cy_tem, 192, .inl f_tem))] sz) [(h_mm, .inr (8, (mo143 v_mm (.int u.1) (.ref h_nv) (.ref h_nn) (.ref h_na) (.ref h_nb) (.ref h_nc) (.int x_mm_clauses) (.ref h_mny) (.ref h_isn) (.ref h_tem) (.ref h_bto) (.ref h_bin) (.ref h_tra) (.int u.2.1) (.int u.2.2.1) (.int u.2.2.2.1)))), (h_nv, .inl (cy_nv, 8000, .inl f_nv)), (h_na, .inl (cy_na, 8000, .inl f_na)), (h_nb, .inl (cy_nb, 8000, .inl f_nb)), (h_nc, .inl (cy_nc, 8000, .inl f_nc)), (h_bto, .inl (cy_bto, 256, .inl u.2.2.2.2.1)), (h_bin, .inl (cy_bin, 256, .inl u.2.2.2.2.2.1)), (h_nn, .inl (cy_nn, 8000, .inr (.inl f_nn))), (h_tra, .inl (cy_tra, 256, .inl u.2.2.2.2.2.2)), (h_mny, .inl (cy_mny, 32, .inl f_mny)), (h_isn, .inl (cy_isn, 192, .inl f_isn)), (h_tem, .inl (cy_tem, 192, .inl f_tem))]) (va_A [(h_mm, .inr (8, (mo142 v_mm (.ref h_nv) (.ref h_nn) (.ref h_na) (.ref h_nb) (.ref h_nc) (.int x_mm_clauses) (.ref h_mny) (.ref h_isn) (.ref h_tem) (.ref h_bto) (.ref h_bin) (.ref h_tra) (.int x_mm_trailed) (.int x_mm_goneTo) (.int x_mm_goneIn)))), (h_nv, .inl (cy_nv, 8000, .inl f_nv)), (h_na, .inl (cy_na, 8000, .inl f_na)), (h_nb, .inl (cy_nb, 8000, .inl f_nb)), (h_nc, .inl (cy_nc, 8000, .inl f_nc)), (h_bto, .inl (cy_bto, 256, .inl f_bto)), (h_bin, .inl (cy_bin, 256, .inl f_bin)), (h_nn, .inl (cy_nn, 8000, .inr (.inl f_nn))), (h_tra, .inl (cy_tra, 256, .inl f_tra)), (h_mny, .inl (cy_mny, 32, .inl f_mny)), (h_isn, .inl (cy_isn, 192, .inl f_isn)), (h_tem, .inl (cy_tem, 192, .inl f_tem))] sz)) 0 0 (va_A [(h_mm, .inr (8, (mo142 v_mm (.ref h_nv) (.ref h_nn) (.ref h_na) (.ref h_nb) (.ref h_nc) (.int x_mm_clauses) (.ref h_mny) (.ref h_isn) (.ref h_tem) (.ref h_bto) (.ref h_bin) (.ref h_tra) (.int x_mm_trailed) (.int x_mm_goneTo) (.int x_mm_goneIn)))), (h_nv, .inl (cy_nv, 8000, .inl f_nv)), (h_na, .inl (cy_na, 8000, .inl f_na)), (h_nb, .inl (cy_nb, 8000, .inl f_nb)), (h_nc, .inl (cy_nc, 8000, .inl f_nc)), (h_bto, .inl (cy_bto, 256, .inl f_bto)), (h_bin, .inl (cy_bin, 256, .inl f_bin)), (h_nn, .inl (cy_nn, 8000, .inr (.inl f_nn))), (h_tra, .inl (cy_tra, 256, .inl f_tra)), (h_mny, .inl (cy_mny, 32, .inl f_mny)), (h_isn, .inl (cy_isn, 192, .inl f_isn)), (h_tem, .inl (cy_tem, 192, .inl f_tem))] sz) := by
  refine Met.ofW (cc := cX11_meets) (maxL := 5) (ret := (some .int)) (by decide) rfl ?_
  intro p e s m args below meth c s₁ B hml hv
  obtain ⟨rfl, hsz, hP, hK, hD0, hN⟩ := hv
  have hx := B.exec
  have hb := B.bytes
  have hr := B.returns
  have hts := atoms_spec (ws := Ws yX11_meets cX11_meets 5 (some .int)) B.pre
  have hT : ∀ w ∈ WALL, w ∈ Ws yX11_meets cX11_meets 5 (some .int) := fun w h => List.mem_cons_of_mem _ h
  have hw := fun w (h : w ∈ WALL) => hts w (hT w h)
  have hown : s.vm.findClass RX11 = some m.cls := findClass_of_methodNamed B.named
  have hlocks := B.notSynchronized
  subst hsz
  have hD := hD0.self (sz := s.heap.size)
  generalize hAe : va_A [(h_mm, .inr (8, (mo142 v_mm (.ref h_nv) (.ref h_nn) (.ref h_na) (.ref h_nb) (.ref h_nc) (.int x_mm_clauses) (.ref h_mny) (.ref h_isn) (.ref h_tem) (.ref h_bto) (.ref h_bin) (.ref h_tra) (.int x_mm_trailed) (.int x_mm_goneTo) (.int x_mm_goneIn)))), (h_nv, .inl (cy_nv, 8000, .inl f_nv)), (h_na, .inl (cy_na, 8000, .inl f_na)), (h_nb, .inl (cy_nb, 8000, .inl f_nb)), (h_nc, .inl (cy_nc, 8000, .inl f_nc)), (h_bto, .inl (cy_bto, 256, .inl f_bto)), (h_bin, .inl (cy_bin, 256, .inl f_bin)), (h_nn, .inl (cy_nn, 8000, .inr (.inl f_nn))), (h_tra, .inl (cy_tra, 256, .inl f_tra)), (h_mny, .inl (cy_mny, 32, .inl f_mny)), (h_isn, .inl (cy_isn, 192, .inl f_isn)), (h_tem, .inl (cy_tem, 192, .inl f_tem))] s.heap.size = A at hD ⊢
  have hA : ∀ q : Nat, s.heap.size ≤ q → A q := fun q h => by rw [← hAe]; exact Or.inr h
  have hS : va_S A s.heap s.heap [] := va_S.rf
  have hl := lv_entry ([.ref h_mm, .int p1, .int p2, .int p3, .int p4]) (n := 5) (Nat.le_of_ble_eq_true rfl)
  rw [lg_entry_eq]
  generalize (lg_sl ([.ref h_mm, .int p1, .int p2, .int p3, .int p4]) ++ List.replicate (5 - (lg_sl ([.ref h_mm, .int p1, .int p2, .int p3, .int p4])).length) Slot.unset).toArray = ls at hl ⊢
  have hl : lv_has ls 5 [(0, .ref h_mm), (1, .int p1), (2, .int p2), (3, .int p3), (4, .int p4)] := hl
  have sam0 : SAM f_bto f_bin f_bto f_bin := sam_refl
  refine lv_aload_n hx hb dX11_meets_0 rfl (lv_at hl 0 rfl) ?_
  refine lv_iconst (v := 0) hx hb dX11_meets_1 (by decide) ?_
  refine va_put (D := (dC, dI)) (ci := 8) (v := .int 0) (ty := tyX11 0) (C := RX11) (T := TX11) (N := 71) hx hb hw iwX11 tyX11 tyX11_ok nmX11 hown hK hP hD hS 0 rfl rfl 0 (by decide) (hw _ w_f_X11_1) (fun _ h9 => h9) rfl (tyX11_ok 0 (by decide)) rfl rfl (Nat.le_of_ble_eq_true rfl) dX11_meets_2 (fun H locs hP9 hD9 hS9 => ?_)
  clear hP hD hS
  have hP : va_P (dC, dI) cls [(h_mm, .inr (8, (mo143 v_mm (.int 0) (.ref h_nv) (.ref h_nn) (.ref h_na) (.ref h_nb) (.ref h_nc) (.int x_mm_clauses) (.ref h_mny) (.ref h_isn) (.ref h_tem) (.ref h_bto) (.ref h_bin) (.ref h_tra) (.int x_mm_trailed) (.int x_mm_goneTo) (.int x_mm_goneIn)))), (h_nv, .inl (cy_nv, 8000, .inl f_nv)), (h_na, .inl (cy_na, 8000, .inl f_na)), (h_nb, .inl (cy_nb, 8000, .inl f_nb)), (h_nc, .inl (cy_nc, 8000, .inl f_nc)), (h_bto, .inl (cy_bto, 256, .inl f_bto)), (h_bin, .inl (cy_bin, 256, .inl f_bin)), (h_nn, .inl (cy_nn, 8000, .inr (.inl f_nn))), (h_tra, .inl (cy_tra, 256, .inl f_tra)), (h_mny, .inl (cy_mny, 32, .inl f_mny)), (h_isn, .inl (cy_isn, 192, .inl f_isn)), (h_tem, .inl (cy_tem, 192, .inl f_tem))] H := hP9
  have hD : va_D A [(h_mm, .inr (8, (mo143 v_mm (.int 0) (.ref h_nv) (.ref h_nn) (.ref h_na) (.ref h_nb) (.ref h_nc) (.int x_mm_clauses) (.ref h_mny) (.ref h_isn) (.ref h_tem) (.ref h_bto) (.ref h_bin) (.ref h_tra) (.int x_mm_trailed) (.int x_mm_goneTo) (.int x_mm_goneIn)))), (h_nv, .inl (cy_nv, 8000, .inl f_nv)), (h_na, .inl (cy_na, 8000, .inl f_na)), (h_nb, .inl (cy_nb, 8000, .inl f_nb)), (h_nc, .inl (cy_nc, 8000, .inl f_nc)), (h_bto, .inl (cy_bto, 256, .inl f_bto)), (h_bin, .inl (cy_bin, 256, .inl f_bin)), (h_nn, .inl (cy_nn, 8000, .inr (.inl f_nn))), (h_tra, .inl (cy_tra, 256, .inl f_tra)), (h_mny, .inl (cy_mny, 32, .inl f_mny)), (h_isn, .inl (cy_isn, 192, .inl f_isn)), (h_tem, .inl (cy_tem, 192, .inl f_tem))] := hD9
  have hS := hS9
  clear hP9 hD9 hS9
  refine lv_aload_n hx hb dX11_meets_5 rfl (lv_at hl 0 rfl) ?_
  refine lv_iload_n hx hb dX11_meets_6 rfl (lv_at hl 1 rfl) ?_
  refine lv_iload_n hx hb dX11_meets_7 rfl (lv_at hl 2 rfl) ?_
  obtain ⟨vq1, evq1⟩ := mq143_101 v_mm (.int 0) (.ref h_nv) (.ref h_nn) (.ref h_na) (.ref h_nb) (.ref h_nc) (.ref h_isn) (.ref h_tem) (.ref h_bto) (.ref h_bin) (.ref h_tra) (.int x_mm_trailed) (.int x_mm_goneTo) (.int x_mm_goneIn)
  replace hP : va_P (dC, dI) cls [(h_mm, .inr (8, (mo101 vq1 (.int x_mm_clauses) (.ref h_mny)))), (h_nv, .inl (cy_nv, 8000, .inl f_nv)), (h_na, .inl (cy_na, 8000, .inl f_na)), (h_nb, .inl (cy_nb, 8000, .inl f_nb)), (h_nc, .inl (cy_nc, 8000, .inl f_nc)), (h_bto, .inl (cy_bto, 256, .inl f_bto)), (h_bin, .inl (cy_bin, 256, .inl f_bin)), (h_nn, .inl (cy_nn, 8000, .inr (.inl f_nn))), (h_tra, .inl (cy_tra, 256, .inl f_tra)), (h_mny, .inl (cy_mny, 32, .inl f_mny)), (h_isn, .inl (cy_isn, 192, .inl f_isn)), (h_tem, .inl (cy_tem, 192, .inl f_tem))] H := by rw [evq1]; exact hP
  replace hD : va_D A [(h_mm, .inr (8, (mo101 vq1 (.int x_mm_clauses) (.ref h_mny)))), (h_nv, .inl (cy_nv, 8000, .inl f_nv)), (h_na, .inl (cy_na, 8000, .inl f_na)), (h_nb, .inl (cy_nb, 8000, .inl f_nb)), (h_nc, .inl (cy_nc, 8000, .inl f_nc)), (h_bto, .inl (cy_bto, 256, .inl f_bto)), (h_bin, .inl (cy_bin, 256, .inl f_bin)), (h_nn, .inl (cy_nn, 8000, .inr (.inl f_nn))), (h_tra, .inl (cy_tra, 256, .inl f_tra)), (h_mny, .inl (cy_mny, 32, .inl f_mny)), (h_isn, .inl (cy_isn, 192, .inl f_isn)), (h_tem, .inl (cy_tem, 192, .inl f_tem))] := by rw [evq1]; exact hD
  have hPc := hP.sub (ws' := [(h_mm, .inr (8, (mo101 vq1 (.int x_mm_clauses) (.ref h_mny)))), (h_mny, .inl (cy_mny, 32, .inl f_mny))]) [0, 9] rfl
  have hDc := hD.sub (ws' := [(h_mm, .inr (8, (mo101 vq1 (.int x_mm_clauses) (.ref h_mny)))), (h_mny, .inl (cy_mny, 32, .inl f_mny))]) [0, 9] (by decide) rfl
  have hKc := hK.sub (tys' := [(cy_mny, .int)]) [8] rfl
  have hFc := va_free (wc := [(h_mm, .inr (8, (mo101 vq1 (.int x_mm_clauses) (.ref h_mny)))), (h_mny, .inl (cy_mny, 32, .inl f_mny))]) hD hS hA [0, 9] rfl
  refine va_calli (va_runV (As := [.int p1, .int p2]) (rest := []) ⟨hx, hb, hml, hown, hts⟩ (c_X11_isLiteral_g l dC dI H.size h_mm h_mny vq1 x_mm_clauses cy_mny f_mny p1 p2 (by first | exact hx_mm_clauses | omega) hf_mny) (cwV 2 hts (gv hT w_m_X11_300 w_instanceMethod_X11_isLiteral ws_sel_X11_isLiteral w_ini_X11 w_code_X11_isLiteral) rfl rfl rfl (by decide +kernel) ⟨(Nat.le_of_ble_eq_true rfl), (Nat.le_of_ble_eq_true rfl)⟩) ⟨pre_blind, va_recv hK hP (ci := 8) (q0 := 0) rfl rfl, pre_of hPc hKc hDc hN⟩ rfl rfl hl.1 rfl (lv_room (Nat.le_of_ble_eq_true rfl)) dX11_meets_8 ⟨(Nat.le_of_ble_eq_true rfl), (Nat.le_of_ble_eq_true rfl)⟩) hS (fun q _ h => hFc q h) hFc (fun r2 u t H locs ht hvm hq hB hz1 hk1 hS9 => ?_)
  obtain ⟨hP1, hD1⟩ := hB
  rw [ht] at hP1
  obtain ⟨hP9, hD9⟩ := va_join (wr := [(h_nv, .inl (cy_nv, 8000, .inl f_nv)), (h_na, .inl (cy_na, 8000, .inl f_na)), (h_nb, .inl (cy_nb, 8000, .inl f_nb)), (h_nc, .inl (cy_nc, 8000, .inl f_nc)), (h_bto, .inl (cy_bto, 256, .inl f_bto)), (h_bin, .inl (cy_bin, 256, .inl f_bin)), (h_nn, .inl (cy_nn, 8000, .inr (.inl f_nn))), (h_tra, .inl (cy_tra, 256, .inl f_tra)), (h_isn, .inl (cy_isn, 192, .inl f_isn)), (h_tem, .inl (cy_tem, 192, .inl f_tem))]) (w1 := [(h_mm, .inr (8, (mo101 vq1 (.int x_mm_clauses) (.ref h_mny)))), (h_mny, .inl (cy_mny, 32, .inl f_mny))]) hP hD [0, 9] [1, 2, 3, 4, 5, 6, 7, 8, 10, 11] rfl rfl (by decide) (by decide) hk1 hFc hP1 hD1
  clear hP hD hS hPc hDc hKc hFc hP1 hD1 hk1 hz1 ht hvm
  have hP : va_P (dC, dI) cls [(h_nv, .inl (cy_nv, 8000, .inl f_nv)), (h_na, .inl (cy_na, 8000, .inl f_na)), (h_nb, .inl (cy_nb, 8000, .inl f_nb)), (h_nc, .inl (cy_nc, 8000, .inl f_nc)), (h_bto, .inl (cy_bto, 256, .inl f_bto)), (h_bin, .inl (cy_bin, 256, .inl f_bin)), (h_nn, .inl (cy_nn, 8000, .inr (.inl f_nn))), (h_tra, .inl (cy_tra, 256, .inl f_tra)), (h_isn, .inl (cy_isn, 192, .inl f_isn)), (h_tem, .inl (cy_tem, 192, .inl f_tem)), (h_mm, .inr (8, (mo101 vq1 (.int x_mm_clauses) (.ref h_mny)))), (h_mny, .inl (cy_mny, 32, .inl f_mny))] H := hP9
  have hD : va_D A [(h_nv, .inl (cy_nv, 8000, .inl f_nv)), (h_na, .inl (cy_na, 8000, .inl f_na)), (h_nb, .inl (cy_nb, 8000, .inl f_nb)), (h_nc, .inl (cy_nc, 8000, .inl f_nc)), (h_bto, .inl (cy_bto, 256, .inl f_bto)), (h_bin, .inl (cy_bin, 256, .inl f_bin)), (h_nn, .inl (cy_nn, 8000, .inr (.inl f_nn))), (h_tra, .inl (cy_tra, 256, .inl f_tra)), (h_isn, .inl (cy_isn, 192, .inl f_isn)), (h_tem, .inl (cy_tem, 192, .inl f_tem)), (h_mm, .inr (8, (mo101 vq1 (.int x_mm_clauses) (.ref h_mny)))), (h_mny, .inl (cy_mny, 32, .inl f_mny))] := hD9
  have hS := hS9
  clear hP9 hD9 hS9
  rw [evq1] at hP hD
  replace hP : va_P (dC, dI) cls [(h_nv, .inl (cy_nv, 8000, .inl f_nv)), (h_na, .inl (cy_na, 8000, .inl f_na)), (h_nb, .inl (cy_nb, 8000, .inl f_nb)), (h_nc, .inl (cy_nc, 8000, .inl f_nc)), (h_bto, .inl (cy_bto, 256, .inl f_bto)), (h_bin, .inl (cy_bin, 256, .inl f_bin)), (h_nn, .inl (cy_nn, 8000, .inr (.inl f_nn))), (h_tra, .inl (cy_tra, 256, .inl f_tra)), (h_isn, .inl (cy_isn, 192, .inl f_isn)), (h_tem, .inl (cy_tem, 192, .inl f_tem)), (h_mm, .inr (8, (mo143 v_mm (.int 0) (.ref h_nv) (.ref h_nn) (.ref h_na) (.ref h_nb) (.ref h_nc) (.int x_mm_clauses) (.ref h_mny) (.ref h_isn) (.ref h_tem) (.ref h_bto) (.ref h_bin) (.ref h_tra) (.int x_mm_trailed) (.int x_mm_goneTo) (.int x_mm_goneIn)))), (h_mny, .inl (cy_mny, 32, .inl f_mny))] H := hP
  replace hD : va_D A [(h_nv, .inl (cy_nv, 8000, .inl f_nv)), (h_na, .inl (cy_na, 8000, .inl f_na)), (h_nb, .inl (cy_nb, 8000, .inl f_nb)), (h_nc, .inl (cy_nc, 8000, .inl f_nc)), (h_bto, .inl (cy_bto, 256, .inl f_bto)), (h_bin, .inl (cy_bin, 256, .inl f_bin)), (h_nn, .inl (cy_nn, 8000, .inr (.inl f_nn))), (h_tra, .inl (cy_tra, 256, .inl f_tra)), (h_isn, .inl (cy_isn, 192, .inl f_isn)), (h_tem, .inl (cy_tem, 192, .inl f_tem)), (h_mm, .inr (8, (mo143 v_mm (.int 0) (.ref h_nv) (.ref h_nn) (.ref h_na) (.ref h_nb) (.ref h_nc) (.int x_mm_clauses) (.ref h_mny) (.ref h_isn) (.ref h_tem) (.ref h_bto) (.ref h_bin) (.ref h_tra) (.int x_mm_trailed) (.int x_mm_goneTo) (.int x_mm_goneIn)))), (h_mny, .inl (cy_mny, 32, .inl f_mny))] := hD
  clear evq1 
  rcases hq with ⟨rfl, hq⟩ | ⟨rfl, hq⟩
  · replace hq : (0 ≤ ((p1)).toInt) ∧ (((p1)).toInt < ((x_mm_clauses)).toInt) ∧ (0 ≤ ((p2)).toInt) ∧ (((p2)).toInt ≤ 5) ∧ (((p2)).toInt < (f_mny (Int32.toNatClampNeg (p1))).toInt) := hq
    refine lv_if_eq (tgt := 44) hx hb dX11_meets_11 (by decide) (fun c9 => absurd c9 (by decide)) (fun _ => ?_)
    refine lv_aload_n hx hb dX11_meets_14 rfl (lv_at hl 0 rfl) ?_
    refine lv_iload_n hx hb dX11_meets_15 rfl (lv_at hl 3 rfl) ?_
    refine lv_iload hx hb dX11_meets_16 (lv_at hl 4 rfl) ?_
    obtain ⟨vq3, evq3⟩ := mq143_101 v_mm (.int 0) (.ref h_nv) (.ref h_nn) (.ref h_na) (.ref h_nb) (.ref h_nc) (.ref h_isn) (.ref h_tem) (.ref h_bto) (.ref h_bin) (.ref h_tra) (.int x_mm_trailed) (.int x_mm_goneTo) (.int x_mm_goneIn)
    replace hP : va_P (dC, dI) cls [(h_nv, .inl (cy_nv, 8000, .inl f_nv)), (h_na, .inl (cy_na, 8000, .inl f_na)), (h_nb, .inl (cy_nb, 8000, .inl f_nb)), (h_nc, .inl (cy_nc, 8000, .inl f_nc)), (h_bto, .inl (cy_bto, 256, .inl f_bto)), (h_bin, .inl (cy_bin, 256, .inl f_bin)), (h_nn, .inl (cy_nn, 8000, .inr (.inl f_nn))), (h_tra, .inl (cy_tra, 256, .inl f_tra)), (h_isn, .inl (cy_isn, 192, .inl f_isn)), (h_tem, .inl (cy_tem, 192, .inl f_tem)), (h_mm, .inr (8, (mo101 vq3 (.int x_mm_clauses) (.ref h_mny)))), (h_mny, .inl (cy_mny, 32, .inl f_mny))] H := by rw [evq3]; exact hP
    replace hD : va_D A [(h_nv, .inl (cy_nv, 8000, .inl f_nv)), (h_na, .inl (cy_na, 8000, .inl f_na)), (h_nb, .inl (cy_nb, 8000, .inl f_nb)), (h_nc, .inl (cy_nc, 8000, .inl f_nc)), (h_bto, .inl (cy_bto, 256, .inl f_bto)), (h_bin, .inl (cy_bin, 256, .inl f_bin)), (h_nn, .inl (cy_nn, 8000, .inr (.inl f_nn))), (h_tra, .inl (cy_tra, 256, .inl f_tra)), (h_isn, .inl (cy_isn, 192, .inl f_isn)), (h_tem, .inl (cy_tem, 192, .inl f_tem)), (h_mm, .inr (8, (mo101 vq3 (.int x_mm_clauses) (.ref h_mny)))), (h_mny, .inl (cy_mny, 32, .inl f_mny))] := by rw [evq3]; exact hD
    have hPc := hP.sub (ws' := [(h_mm, .inr (8, (mo101 vq3 (.int x_mm_clauses) (.ref h_mny)))), (h_mny, .inl (cy_mny, 32, .inl f_mny))]) [10, 11] rfl
    have hDc := hD.sub (ws' := [(h_mm, .inr (8, (mo101 vq3 (.int x_mm_clauses) (.ref h_mny)))), (h_mny, .inl (cy_mny, 32, .inl f_mny))]) [10, 11] (by decide) rfl
    have hKc := hK.sub (tys' := [(cy_mny, .int)]) [8] rfl
    have hFc := va_free (wc := [(h_mm, .inr (8, (mo101 vq3 (.int x_mm_clauses) (.ref h_mny)))), (h_mny, .inl (cy_mny, 32, .inl f_mny))]) hD hS hA [10, 11] rfl
    refine va_calli (va_runV (As := [.int p3, .int p4]) (rest := []) ⟨hx, hb, hml, hown, hts⟩ (c_X11_isLiteral_g l dC dI H.size h_mm h_mny vq3 x_mm_clauses cy_mny f_mny p3 p4 (by first | exact hx_mm_clauses | omega) hf_mny) (cwV 2 hts (gv hT w_m_X11_300 w_instanceMethod_X11_isLiteral ws_sel_X11_isLiteral w_ini_X11 w_code_X11_isLiteral) rfl rfl rfl (by decide +kernel) ⟨(Nat.le_of_ble_eq_true rfl), (Nat.le_of_ble_eq_true rfl)⟩) ⟨pre_blind, va_recv hK hP (ci := 8) (q0 := 10) rfl rfl, pre_of hPc hKc hDc hN⟩ rfl rfl hl.1 rfl (lv_room (Nat.le_of_ble_eq_true rfl)) dX11_meets_18 ⟨(Nat.le_of_ble_eq_true rfl), (Nat.le_of_ble_eq_true rfl)⟩) hS (fun q _ h => hFc q h) hFc (fun r4 u t H locs ht hvm hq hB hz1 hk1 hS9 => ?_)
    obtain ⟨hP1, hD1⟩ := hB
    rw [ht] at hP1
    obtain ⟨hP9, hD9⟩ := va_join (wr := [(h_nv, .inl (cy_nv, 8000, .inl f_nv)), (h_na, .inl (cy_na, 8000, .inl f_na)), (h_nb, .inl (cy_nb, 8000, .inl f_nb)), (h_nc, .inl (cy_nc, 8000, .inl f_nc)), (h_bto, .inl (cy_bto, 256, .inl f_bto)), (h_bin, .inl (cy_bin, 256, .inl f_bin)), (h_nn, .inl (cy_nn, 8000, .inr (.inl f_nn))), (h_tra, .inl (cy_tra, 256, .inl f_tra)), (h_isn, .inl (cy_isn, 192, .inl f_isn)), (h_tem, .inl (cy_tem, 192, .inl f_tem))]) (w1 := [(h_mm, .inr (8, (mo101 vq3 (.int x_mm_clauses) (.ref h_mny)))), (h_mny, .inl (cy_mny, 32, .inl f_mny))]) hP hD [10, 11] [0, 1, 2, 3, 4, 5, 6, 7, 8, 9] rfl rfl (by decide) (by decide) hk1 hFc hP1 hD1
    clear hP hD hS hPc hDc hKc hFc hP1 hD1 hk1 hz1 ht hvm
    have hP : va_P (dC, dI) cls [(h_nv, .inl (cy_nv, 8000, .inl f_nv)), (h_na, .inl (cy_na, 8000, .inl f_na)), (h_nb, .inl (cy_nb, 8000, .inl f_nb)), (h_nc, .inl (cy_nc, 8000, .inl f_nc)), (h_bto, .inl (cy_bto, 256, .inl f_bto)), (h_bin, .inl (cy_bin, 256, .inl f_bin)), (h_nn, .inl (cy_nn, 8000, .inr (.inl f_nn))), (h_tra, .inl (cy_tra, 256, .inl f_tra)), (h_isn, .inl (cy_isn, 192, .inl f_isn)), (h_tem, .inl (cy_tem, 192, .inl f_tem)), (h_mm, .inr (8, (mo101 vq3 (.int x_mm_clauses) (.ref h_mny)))), (h_mny, .inl (cy_mny, 32, .inl f_mny))] H := hP9
    have hD : va_D A [(h_nv, .inl (cy_nv, 8000, .inl f_nv)), (h_na, .inl (cy_na, 8000, .inl f_na)), (h_nb, .inl (cy_nb, 8000, .inl f_nb)), (h_nc, .inl (cy_nc, 8000, .inl f_nc)), (h_bto, .inl (cy_bto, 256, .inl f_bto)), (h_bin, .inl (cy_bin, 256, .inl f_bin)), (h_nn, .inl (cy_nn, 8000, .inr (.inl f_nn))), (h_tra, .inl (cy_tra, 256, .inl f_tra)), (h_isn, .inl (cy_isn, 192, .inl f_isn)), (h_tem, .inl (cy_tem, 192, .inl f_tem)), (h_mm, .inr (8, (mo101 vq3 (.int x_mm_clauses) (.ref h_mny)))), (h_mny, .inl (cy_mny, 32, .inl f_mny))] := hD9
    have hS := hS9
    clear hP9 hD9 hS9
    rw [evq3] at hP hD
    replace hP : va_P (dC, dI) cls [(h_nv, .inl (cy_nv, 8000, .inl f_nv)), (h_na, .inl (cy_na, 8000, .inl f_na)), (h_nb, .inl (cy_nb, 8000, .inl f_nb)), (h_nc, .inl (cy_nc, 8000, .inl f_nc)), (h_bto, .inl (cy_bto, 256, .inl f_bto)), (h_bin, .inl (cy_bin, 256, .inl f_bin)), (h_nn, .inl (cy_nn, 8000, .inr (.inl f_nn))), (h_tra, .inl (cy_tra, 256, .inl f_tra)), (h_isn, .inl (cy_isn, 192, .inl f_isn)), (h_tem, .inl (cy_tem, 192, .inl f_tem)), (h_mm, .inr (8, (mo143 v_mm (.int 0) (.ref h_nv) (.ref h_nn) (.ref h_na) (.ref h_nb) (.ref h_nc) (.int x_mm_clauses) (.ref h_mny) (.ref h_isn) (.ref h_tem) (.ref h_bto) (.ref h_bin) (.ref h_tra) (.int x_mm_trailed) (.int x_mm_goneTo) (.int x_mm_goneIn)))), (h_mny, .inl (cy_mny, 32, .inl f_mny))] H := hP
    replace hD : va_D A [(h_nv, .inl (cy_nv, 8000, .inl f_nv)), (h_na, .inl (cy_na, 8000, .inl f_na)), (h_nb, .inl (cy_nb, 8000, .inl f_nb)), (h_nc, .inl (cy_nc, 8000, .inl f_nc)), (h_bto, .inl (cy_bto, 256, .inl f_bto)), (h_bin, .inl (cy_bin, 256, .inl f_bin)), (h_nn, .inl (cy_nn, 8000, .inr (.inl f_nn))), (h_tra, .inl (cy_tra, 256, .inl f_tra)), (h_isn, .inl (cy_isn, 192, .inl f_isn)), (h_tem, .inl (cy_tem, 192, .inl f_tem)), (h_mm, .inr (8, (mo143 v_mm (.int 0) (.ref h_nv) (.ref h_nn) (.ref h_na) (.ref h_nb) (.ref h_nc) (.int x_mm_clauses) (.ref h_mny) (.ref h_isn) (.ref h_tem) (.ref h_bto) (.ref h_bin) (.ref h_tra) (.int x_mm_trailed) (.int x_mm_goneTo) (.int x_mm_goneIn)))), (h_mny, .inl (cy_mny, 32, .inl f_mny))] := hD
    clear evq3 
    rcases hq with ⟨rfl, hq⟩ | ⟨rfl, hq⟩
    · replace hq : (0 ≤ ((p3)).toInt) ∧ (((p3)).toInt < ((x_mm_clauses)).toInt) ∧ (0 ≤ ((p4)).toInt) ∧ (((p4)).toInt ≤ 5) ∧ (((p4)).toInt < (f_mny (Int32.toNatClampNeg (p3))).toInt) := hq
      refine lv_if_eq (tgt := 44) hx hb dX11_meets_21 (by decide) (fun c9 => absurd c9 (by decide)) (fun _ => ?_)
      have cla := (congrArg (fun i => (f_mny i).toInt) (clamp_nat (i := p1) (by omega)) : (f_mny (Int32.toNatClampNeg p1)).toInt = (f_mny (p1).toInt.toNat).toInt)
      have clb := (congrArg (fun i => (f_mny i).toInt) (clamp_nat (i := p3) (by omega)) : (f_mny (Int32.toNatClampNeg p3)).toInt = (f_mny (p3).toInt.toNat).toInt)
      refine lv_aload_n hx hb dX11_meets_24 rfl (lv_at hl 0 rfl) ?_
      refine lv_iload_n hx hb dX11_meets_25 rfl (lv_at hl 1 rfl) ?_
      refine lv_iload_n hx hb dX11_meets_26 rfl (lv_at hl 2 rfl) ?_
      refine lv_iload_n hx hb dX11_meets_27 rfl (lv_at hl 3 rfl) ?_
      refine lv_iload hx hb dX11_meets_28 (lv_at hl 4 rfl) ?_
      obtain ⟨vq5, evq5⟩ := mq143_141 v_mm (.int 0) (.int x_mm_clauses)
      replace hP : va_P (dC, dI) cls [(h_nv, .inl (cy_nv, 8000, .inl f_nv)), (h_na, .inl (cy_na, 8000, .inl f_na)), (h_nb, .inl (cy_nb, 8000, .inl f_nb)), (h_nc, .inl (cy_nc, 8000, .inl f_nc)), (h_bto, .inl (cy_bto, 256, .inl f_bto)), (h_bin, .inl (cy_bin, 256, .inl f_bin)), (h_nn, .inl (cy_nn, 8000, .inr (.inl f_nn))), (h_tra, .inl (cy_tra, 256, .inl f_tra)), (h_isn, .inl (cy_isn, 192, .inl f_isn)), (h_tem, .inl (cy_tem, 192, .inl f_tem)), (h_mm, .inr (8, (mo141 vq5 (.ref h_nv) (.ref h_nn) (.ref h_na) (.ref h_nb) (.ref h_nc) (.ref h_mny) (.ref h_isn) (.ref h_tem) (.ref h_bto) (.ref h_bin) (.ref h_tra) (.int x_mm_trailed) (.int x_mm_goneTo) (.int x_mm_goneIn)))), (h_mny, .inl (cy_mny, 32, .inl f_mny))] H := by rw [evq5]; exact hP
      replace hD : va_D A [(h_nv, .inl (cy_nv, 8000, .inl f_nv)), (h_na, .inl (cy_na, 8000, .inl f_na)), (h_nb, .inl (cy_nb, 8000, .inl f_nb)), (h_nc, .inl (cy_nc, 8000, .inl f_nc)), (h_bto, .inl (cy_bto, 256, .inl f_bto)), (h_bin, .inl (cy_bin, 256, .inl f_bin)), (h_nn, .inl (cy_nn, 8000, .inr (.inl f_nn))), (h_tra, .inl (cy_tra, 256, .inl f_tra)), (h_isn, .inl (cy_isn, 192, .inl f_isn)), (h_tem, .inl (cy_tem, 192, .inl f_tem)), (h_mm, .inr (8, (mo141 vq5 (.ref h_nv) (.ref h_nn) (.ref h_na) (.ref h_nb) (.ref h_nc) (.ref h_mny) (.ref h_isn) (.ref h_tem) (.ref h_bto) (.ref h_bin) (.ref h_tra) (.int x_mm_trailed) (.int x_mm_goneTo) (.int x_mm_goneIn)))), (h_mny, .inl (cy_mny, 32, .inl f_mny))] := by rw [evq5]; exact hD
      have hPc := hP.sub (ws' := [(h_mm, .inr (8, (mo141 vq5 (.ref h_nv) (.ref h_nn) (.ref h_na) (.ref h_nb) (.ref h_nc) (.ref h_mny) (.ref h_isn) (.ref h_tem) (.ref h_bto) (.ref h_bin) (.ref h_tra) (.int x_mm_trailed) (.int x_mm_goneTo) (.int x_mm_goneIn)))), (h_nv, .inl (cy_nv, 8000, .inl f_nv)), (h_na, .inl (cy_na, 8000, .inl f_na)), (h_nb, .inl (cy_nb, 8000, .inl f_nb)), (h_nc, .inl (cy_nc, 8000, .inl f_nc)), (h_bto, .inl (cy_bto, 256, .inl f_bto)), (h_bin, .inl (cy_bin, 256, .inl f_bin)), (h_nn, .inl (cy_nn, 8000, .inr (.inl f_nn))), (h_tra, .inl (cy_tra, 256, .inl f_tra)), (h_mny, .inl (cy_mny, 32, .inl f_mny)), (h_isn, .inl (cy_isn, 192, .inl f_isn)), (h_tem, .inl (cy_tem, 192, .inl f_tem))]) [10, 0, 1, 2, 3, 4, 5, 6, 7, 11, 8, 9] rfl
      have hDc := hD.sub (ws' := [(h_mm, .inr (8, (mo141 vq5 (.ref h_nv) (.ref h_nn) (.ref h_na) (.ref h_nb) (.ref h_nc) (.ref h_mny) (.ref h_isn) (.ref h_tem) (.ref h_bto) (.ref h_bin) (.ref h_tra) (.int x_mm_trailed) (.int x_mm_goneTo) (.int x_mm_goneIn)))), (h_nv, .inl (cy_nv, 8000, .inl f_nv)), (h_na, .inl (cy_na, 8000, .inl f_na)), (h_nb, .inl (cy_nb, 8000, .inl f_nb)), (h_nc, .inl (cy_nc, 8000, .inl f_nc)), (h_bto, .inl (cy_bto, 256, .inl f_bto)), (h_bin, .inl (cy_bin, 256, .inl f_bin)), (h_nn, .inl (cy_nn, 8000, .inr (.inl f_nn))), (h_tra, .inl (cy_tra, 256, .inl f_tra)), (h_mny, .inl (cy_mny, 32, .inl f_mny)), (h_isn, .inl (cy_isn, 192, .inl f_isn)), (h_tem, .inl (cy_tem, 192, .inl f_tem))]) [10, 0, 1, 2, 3, 4, 5, 6, 7, 11, 8, 9] (by decide) rfl
      have hKc := hK.sub (tys' := [(cy_nv, .int), (cy_na, .int), (cy_nb, .int), (cy_nc, .int), (cy_bto, .int), (cy_bin, .int), (cy_nn, .long), (cy_tra, .int), (cy_mny, .int), (cy_isn, .boolean), (cy_tem, .int)]) [0, 1, 2, 3, 4, 5, 6, 7, 8, 9, 10] rfl
      have hFc := va_free (wc := [(h_mm, .inr (8, (mo141 vq5 (.ref h_nv) (.ref h_nn) (.ref h_na) (.ref h_nb) (.ref h_nc) (.ref h_mny) (.ref h_isn) (.ref h_tem) (.ref h_bto) (.ref h_bin) (.ref h_tra) (.int x_mm_trailed) (.int x_mm_goneTo) (.int x_mm_goneIn)))), (h_nv, .inl (cy_nv, 8000, .inl f_nv)), (h_na, .inl (cy_na, 8000, .inl f_na)), (h_nb, .inl (cy_nb, 8000, .inl f_nb)), (h_nc, .inl (cy_nc, 8000, .inl f_nc)), (h_bto, .inl (cy_bto, 256, .inl f_bto)), (h_bin, .inl (cy_bin, 256, .inl f_bin)), (h_nn, .inl (cy_nn, 8000, .inr (.inl f_nn))), (h_tra, .inl (cy_tra, 256, .inl f_tra)), (h_mny, .inl (cy_mny, 32, .inl f_mny)), (h_isn, .inl (cy_isn, 192, .inl f_isn)), (h_tem, .inl (cy_tem, 192, .inl f_tem))]) hD hS hA [10, 0, 1, 2, 3, 4, 5, 6, 7, 11, 8, 9] rfl
      refine va_calli (va_runV (As := [.int p1, .int p2, .int p3, .int p4]) (rest := []) ⟨hx, hb, hml, hown, hts⟩ (c_X11_doMeet l dC dI H.size h_mm h_nv h_na h_nb h_nc h_bto h_bin h_nn h_tra h_mny h_isn h_tem vq5 x_mm_trailed x_mm_goneTo x_mm_goneIn cy_nv f_nv cy_na f_na cy_nb f_nb cy_nc f_nc cy_bto f_bto cy_bin f_bin cy_nn f_nn cy_tra f_tra cy_mny f_mny cy_isn f_isn cy_tem f_tem p1 p2 p3 p4 N hz (x_mm_clauses).toInt mf (by first | exact hx_mm_trailed | omega) (by first | exact hx_mm_goneTo | omega) (by first | exact hx_mm_goneIn | omega) hf_nv hf_na hf_nb hf_nc hf_bto hf_bin hf_tra hf_mny hf_isn hf_tem (by omega) (by omega) (by omega) (by omega) (by omega) (by first | exact q0 | omega) (by omega) (by omega) hn_nds hn_tms (sam_free sam0 hn_fre) (trl_cast hn_trl (by omega)) hn_mfr) (cwV 4 hts (gv hT w_m_X11_304 w_instanceMethod_X11_doMeet ws_sel_X11_doMeet w_ini_X11 w_code_X11_doMeet) rfl rfl rfl (by decide +kernel) ⟨(Nat.le_of_ble_eq_true rfl), (Nat.le_of_ble_eq_true rfl)⟩) ⟨pre_blind, va_recv hK hP (ci := 8) (q0 := 10) rfl rfl, pre_of hPc hKc hDc hN⟩ rfl rfl hl.1 rfl (lv_room (Nat.le_of_ble_eq_true rfl)) dX11_meets_30 ⟨(Nat.le_of_ble_eq_true rfl), (Nat.le_of_ble_eq_true rfl)⟩) hS (fun q _ h => hFc q h) hFc (fun r6 u t H locs ht hvm hq hB hz1 hk1 hS9 => ?_)
      obtain ⟨z7, z8, z9, f10, f11, f12⟩ := u
      obtain ⟨hP1, hD1⟩ := hB
      rw [ht] at hP1
      obtain ⟨hP9, hD9⟩ := va_join (wr := []) (w1 := [(h_mm, .inr (8, (mo141 vq5 (.ref h_nv) (.ref h_nn) (.ref h_na) (.ref h_nb) (.ref h_nc) (.ref h_mny) (.ref h_isn) (.ref h_tem) (.ref h_bto) (.ref h_bin) (.ref h_tra) (.int z7) (.int z8) (.int z9)))), (h_nv, .inl (cy_nv, 8000, .inl f_nv)), (h_na, .inl (cy_na, 8000, .inl f_na)), (h_nb, .inl (cy_nb, 8000, .inl f_nb)), (h_nc, .inl (cy_nc, 8000, .inl f_nc)), (h_bto, .inl (cy_bto, 256, .inl f10)), (h_bin, .inl (cy_bin, 256, .inl f11)), (h_nn, .inl (cy_nn, 8000, .inr (.inl f_nn))), (h_tra, .inl (cy_tra, 256, .inl f12)), (h_mny, .inl (cy_mny, 32, .inl f_mny)), (h_isn, .inl (cy_isn, 192, .inl f_isn)), (h_tem, .inl (cy_tem, 192, .inl f_tem))]) hP hD [10, 0, 1, 2, 3, 4, 5, 6, 7, 11, 8, 9] [] rfl rfl (by decide) (by decide) hk1 hFc hP1 hD1
      clear hP hD hS hPc hDc hKc hFc hP1 hD1 hk1 hz1 ht hvm
      have hP : va_P (dC, dI) cls [(h_mm, .inr (8, (mo141 vq5 (.ref h_nv) (.ref h_nn) (.ref h_na) (.ref h_nb) (.ref h_nc) (.ref h_mny) (.ref h_isn) (.ref h_tem) (.ref h_bto) (.ref h_bin) (.ref h_tra) (.int z7) (.int z8) (.int z9)))), (h_nv, .inl (cy_nv, 8000, .inl f_nv)), (h_na, .inl (cy_na, 8000, .inl f_na)), (h_nb, .inl (cy_nb, 8000, .inl f_nb)), (h_nc, .inl (cy_nc, 8000, .inl f_nc)), (h_bto, .inl (cy_bto, 256, .inl f10)), (h_bin, .inl (cy_bin, 256, .inl f11)), (h_nn, .inl (cy_nn, 8000, .inr (.inl f_nn))), (h_tra, .inl (cy_tra, 256, .inl f12)), (h_mny, .inl (cy_mny, 32, .inl f_mny)), (h_isn, .inl (cy_isn, 192, .inl f_isn)), (h_tem, .inl (cy_tem, 192, .inl f_tem))] H := hP9
      have hD : va_D A [(h_mm, .inr (8, (mo141 vq5 (.ref h_nv) (.ref h_nn) (.ref h_na) (.ref h_nb) (.ref h_nc) (.ref h_mny) (.ref h_isn) (.ref h_tem) (.ref h_bto) (.ref h_bin) (.ref h_tra) (.int z7) (.int z8) (.int z9)))), (h_nv, .inl (cy_nv, 8000, .inl f_nv)), (h_na, .inl (cy_na, 8000, .inl f_na)), (h_nb, .inl (cy_nb, 8000, .inl f_nb)), (h_nc, .inl (cy_nc, 8000, .inl f_nc)), (h_bto, .inl (cy_bto, 256, .inl f10)), (h_bin, .inl (cy_bin, 256, .inl f11)), (h_nn, .inl (cy_nn, 8000, .inr (.inl f_nn))), (h_tra, .inl (cy_tra, 256, .inl f12)), (h_mny, .inl (cy_mny, 32, .inl f_mny)), (h_isn, .inl (cy_isn, 192, .inl f_isn)), (h_tem, .inl (cy_tem, 192, .inl f_tem))] := hD9
      have hS := hS9
      clear hP9 hD9 hS9
      rw [evq5] at hP hD
      replace hP : va_P (dC, dI) cls [(h_mm, .inr (8, (mo143 v_mm (.int 0) (.ref h_nv) (.ref h_nn) (.ref h_na) (.ref h_nb) (.ref h_nc) (.int x_mm_clauses) (.ref h_mny) (.ref h_isn) (.ref h_tem) (.ref h_bto) (.ref h_bin) (.ref h_tra) (.int z7) (.int z8) (.int z9)))), (h_nv, .inl (cy_nv, 8000, .inl f_nv)), (h_na, .inl (cy_na, 8000, .inl f_na)), (h_nb, .inl (cy_nb, 8000, .inl f_nb)), (h_nc, .inl (cy_nc, 8000, .inl f_nc)), (h_bto, .inl (cy_bto, 256, .inl f10)), (h_bin, .inl (cy_bin, 256, .inl f11)), (h_nn, .inl (cy_nn, 8000, .inr (.inl f_nn))), (h_tra, .inl (cy_tra, 256, .inl f12)), (h_mny, .inl (cy_mny, 32, .inl f_mny)), (h_isn, .inl (cy_isn, 192, .inl f_isn)), (h_tem, .inl (cy_tem, 192, .inl f_tem))] H := hP
      replace hD : va_D A [(h_mm, .inr (8, (mo143 v_mm (.int 0) (.ref h_nv) (.ref h_nn) (.ref h_na) (.ref h_nb) (.ref h_nc) (.int x_mm_clauses) (.ref h_mny) (.ref h_isn) (.ref h_tem) (.ref h_bto) (.ref h_bin) (.ref h_tra) (.int z7) (.int z8) (.int z9)))), (h_nv, .inl (cy_nv, 8000, .inl f_nv)), (h_na, .inl (cy_na, 8000, .inl f_na)), (h_nb, .inl (cy_nb, 8000, .inl f_nb)), (h_nc, .inl (cy_nc, 8000, .inl f_nc)), (h_bto, .inl (cy_bto, 256, .inl f10)), (h_bin, .inl (cy_bin, 256, .inl f11)), (h_nn, .inl (cy_nn, 8000, .inr (.inl f_nn))), (h_tra, .inl (cy_tra, 256, .inl f12)), (h_mny, .inl (cy_mny, 32, .inl f_mny)), (h_isn, .inl (cy_isn, 192, .inl f_isn)), (h_tem, .inl (cy_tem, 192, .inl f_tem))] := hD
      clear evq5 
      obtain ⟨k13, k14, k15, hf10, hf11, hf12, k16, k17, k18, k19, k20⟩ := hq
      replace k13 : 0 ≤ ((z7)).toInt ∧ ((z7)).toInt ≤ 256 := k13
      replace k14 : 0 ≤ ((z8)).toInt ∧ ((z8)).toInt ≤ 7999 := k14
      replace k15 : 0 ≤ ((z9)).toInt ∧ ((z9)).toInt ≤ 31 := k15
      replace hf10 : Rg (-1) 7999 (f10) := hf10
      replace hf11 : Rg 0 31 (f11) := hf11
      replace hf12 : Rg 0 255 (f12) := hf12
      replace k16 : 0 ≤ (r6).toInt ∧ (r6).toInt ≤ 1 := k16
      replace k17 : ((z7)).toInt = ((x_mm_trailed)).toInt := k17
      replace k18 : ((r6)).toInt = (mf) ((p1)).toInt.toNat ((p2)).toInt.toNat ((p3)).toInt.toNat ((p4)).toInt.toNat := k18
      replace k19 : SAM f_bto f_bin (f10) (f11) := k19
      replace k20 : TRL ((z7)).toInt (f12) (f10) := k20
      have sm21 : SAM f_bto f_bin f10 f11 := sam_trans sam0 k19
      refine lv_if_eq (tgt := 40) hx hb dX11_meets_33 (by decide) (fun c22 => ?_) (fun c22 => ?_)
      · have kc22 := (cv_eq (rfl : (r6).toInt = (r6).toInt) (by decide : (0 : Int32).toInt = 0)).mp c22
        refine lv_iconst (v := 0) hx hb dX11_meets_40 (by decide) ?_
        refine lv_goto (tgt := 45) hx hb dX11_meets_41 (by decide) ?_
        have cst0 : (0 : Int32).toInt = 0 := by decide
        refine W.widen (k := 0) (n := 0) (Nat.le_of_ble_eq_true rfl) (Nat.le_of_ble_eq_true rfl) ?_
        have cst0 : (0 : Int32).toInt = 0 := by decide
        have w23 : 0 ≤ ((z7)).toInt ∧ ((z7)).toInt ≤ 256 := by first | exact k13 | omega
        have w24 : 0 ≤ ((z8)).toInt ∧ ((z8)).toInt ≤ 7999 := by first | exact k14 | omega
        have w25 : 0 ≤ ((z9)).toInt ∧ ((z9)).toInt ≤ 31 := by first | exact k15 | omega
        have w26 : ((z7)).toInt = (x_mm_trailed).toInt := by first | exact k17 | omega
        have w27 : SAM f_bto f_bin (f10) (f11) := sm21
        have w28 : TRL ((z7)).toInt (f12) (f10) := (trl_cast k20 (by omega))
        have w29 : MTV (mlC f_mny) (x_mm_clauses).toInt mf (p1).toInt (p2).toInt (p3).toInt (p4).toInt ((0 : Int32)).toInt := (Or.inl ⟨⟨by omega, by omega, by omega, show (p2).toInt < (f_mny (p1).toInt.toNat).toInt by omega, by omega, by omega, by omega, show (p4).toInt < (f_mny (p3).toInt.toNat).toInt by omega⟩, by omega⟩)
        exact W.iret (v := 0) hx hb hr (fun t ht hW => ⟨⟨0, (0, z7, z8, z9, f10, f11, f12), rfl, ⟨w23, w24, w25, hf10, hf11, hf12, w26, w27, w28, w29⟩, by rw [ht]; exact hP, hD⟩, hS.F ht⟩) hS.2.2 dX11_meets_45
      · have kc22 := (not_congr (cv_eq (rfl : (r6).toInt = (r6).toInt) (by decide : (0 : Int32).toInt = 0))).mp c22
        refine lv_iconst (v := 1) hx hb dX11_meets_36 (by decide) ?_
        refine lv_goto (tgt := 45) hx hb dX11_meets_37 (by decide) ?_
        have cst1 : (1 : Int32).toInt = 1 := by decide
        refine W.widen (k := 0) (n := 0) (Nat.le_of_ble_eq_true rfl) (Nat.le_of_ble_eq_true rfl) ?_
        have cst1 : (1 : Int32).toInt = 1 := by decide
        have cst0 : (0 : Int32).toInt = 0 := by decide
        have w30 : 0 ≤ ((z7)).toInt ∧ ((z7)).toInt ≤ 256 := by first | exact k13 | omega
        have w31 : 0 ≤ ((z8)).toInt ∧ ((z8)).toInt ≤ 7999 := by first | exact k14 | omega
        have w32 : 0 ≤ ((z9)).toInt ∧ ((z9)).toInt ≤ 31 := by first | exact k15 | omega
        have w33 : ((z7)).toInt = (x_mm_trailed).toInt := by first | exact k17 | omega
        have w34 : SAM f_bto f_bin (f10) (f11) := sm21
        have w35 : TRL ((z7)).toInt (f12) (f10) := (trl_cast k20 (by omega))
        have w36 : MTV (mlC f_mny) (x_mm_clauses).toInt mf (p1).toInt (p2).toInt (p3).toInt (p4).toInt ((1 : Int32)).toInt := (Or.inl ⟨⟨by omega, by omega, by omega, show (p2).toInt < (f_mny (p1).toInt.toNat).toInt by omega, by omega, by omega, by omega, show (p4).toInt < (f_mny (p3).toInt.toNat).toInt by omega⟩, by omega⟩)
        exact W.iret (v := 1) hx hb hr (fun t ht hW => ⟨⟨1, (0, z7, z8, z9, f10, f11, f12), rfl, ⟨w30, w31, w32, hf10, hf11, hf12, w33, w34, w35, w36⟩, by rw [ht]; exact hP, hD⟩, hS.F ht⟩) hS.2.2 dX11_meets_45
    · replace hq : (((p3)).toInt < 0 ∨ ((x_mm_clauses)).toInt ≤ ((p3)).toInt ∨ ((p4)).toInt < 0 ∨ (f_mny (Int32.toNatClampNeg (p3))).toInt ≤ ((p4)).toInt) := hq
      refine lv_if_eq (tgt := 44) hx hb dX11_meets_21 (by decide) (fun _ => ?_) (fun c9 => absurd c9 (by decide))
      refine lv_iconst (v := (-1)) hx hb dX11_meets_44 (by decide) ?_
      replace hP : va_P (dC, dI) cls [(h_mm, .inr (8, (mo143 v_mm (.int 0) (.ref h_nv) (.ref h_nn) (.ref h_na) (.ref h_nb) (.ref h_nc) (.int x_mm_clauses) (.ref h_mny) (.ref h_isn) (.ref h_tem) (.ref h_bto) (.ref h_bin) (.ref h_tra) (.int x_mm_trailed) (.int x_mm_goneTo) (.int x_mm_goneIn)))), (h_nv, .inl (cy_nv, 8000, .inl f_nv)), (h_na, .inl (cy_na, 8000, .inl f_na)), (h_nb, .inl (cy_nb, 8000, .inl f_nb)), (h_nc, .inl (cy_nc, 8000, .inl f_nc)), (h_bto, .inl (cy_bto, 256, .inl f_bto)), (h_bin, .inl (cy_bin, 256, .inl f_bin)), (h_nn, .inl (cy_nn, 8000, .inr (.inl f_nn))), (h_tra, .inl (cy_tra, 256, .inl f_tra)), (h_mny, .inl (cy_mny, 32, .inl f_mny)), (h_isn, .inl (cy_isn, 192, .inl f_isn)), (h_tem, .inl (cy_tem, 192, .inl f_tem))] H := hP.sub [10, 0, 1, 2, 3, 4, 5, 6, 7, 11, 8, 9] rfl
      replace hD : va_D A [(h_mm, .inr (8, (mo143 v_mm (.int 0) (.ref h_nv) (.ref h_nn) (.ref h_na) (.ref h_nb) (.ref h_nc) (.int x_mm_clauses) (.ref h_mny) (.ref h_isn) (.ref h_tem) (.ref h_bto) (.ref h_bin) (.ref h_tra) (.int x_mm_trailed) (.int x_mm_goneTo) (.int x_mm_goneIn)))), (h_nv, .inl (cy_nv, 8000, .inl f_nv)), (h_na, .inl (cy_na, 8000, .inl f_na)), (h_nb, .inl (cy_nb, 8000, .inl f_nb)), (h_nc, .inl (cy_nc, 8000, .inl f_nc)), (h_bto, .inl (cy_bto, 256, .inl f_bto)), (h_bin, .inl (cy_bin, 256, .inl f_bin)), (h_nn, .inl (cy_nn, 8000, .inr (.inl f_nn))), (h_tra, .inl (cy_tra, 256, .inl f_tra)), (h_mny, .inl (cy_mny, 32, .inl f_mny)), (h_isn, .inl (cy_isn, 192, .inl f_isn)), (h_tem, .inl (cy_tem, 192, .inl f_tem))] := hD.sub [10, 0, 1, 2, 3, 4, 5, 6, 7, 11, 8, 9] (by decide) rfl
      refine W.widen (k := 0) (n := 0) (Nat.le_of_ble_eq_true rfl) (Nat.le_of_ble_eq_true rfl) ?_
      have cstm1 : ((-1) : Int32).toInt = -1 := by decide
      have cst0 : (0 : Int32).toInt = 0 := by decide
      have w37 : 0 ≤ ((x_mm_trailed)).toInt ∧ ((x_mm_trailed)).toInt ≤ 256 := by first | exact hx_mm_trailed | omega
      have w38 : 0 ≤ ((x_mm_goneTo)).toInt ∧ ((x_mm_goneTo)).toInt ≤ 7999 := by first | exact hx_mm_goneTo | omega
      have w39 : 0 ≤ ((x_mm_goneIn)).toInt ∧ ((x_mm_goneIn)).toInt ≤ 31 := by first | exact hx_mm_goneIn | omega
      have w40 : ((x_mm_trailed)).toInt = (x_mm_trailed).toInt := by omega
      have w41 : SAM f_bto f_bin (f_bto) (f_bin) := sam0
      have w42 : TRL ((x_mm_trailed)).toInt (f_tra) (f_bto) := (trl_cast hn_trl (by omega))
      have w43 : MTV (mlC f_mny) (x_mm_clauses).toInt mf (p1).toInt (p2).toInt (p3).toInt (p4).toInt (((-1) : Int32)).toInt := (Or.inr ⟨fun q9 => by have q1 := q9.2.2.2.2.1; have q2 := q9.2.2.2.2.2.1; have q3 := q9.2.2.2.2.2.2.1; have q4 : (p4).toInt < (f_mny (p3).toInt.toNat).toInt := q9.2.2.2.2.2.2.2; have cl9 := (congrArg (fun i => (f_mny i).toInt) (clamp_nat (i := p3) (by omega)) : (f_mny (Int32.toNatClampNeg p3)).toInt = (f_mny (p3).toInt.toNat).toInt); omega, by decide⟩)
      exact W.iret (v := (-1)) hx hb hr (fun t ht hW => ⟨⟨(-1), (0, x_mm_trailed, x_mm_goneTo, x_mm_goneIn, f_bto, f_bin, f_tra), rfl, ⟨w37, w38, w39, hf_bto, hf_bin, hf_tra, w40, w41, w42, w43⟩, by rw [ht]; exact hP, hD⟩, hS.F ht⟩) hS.2.2 dX11_meets_45
  · replace hq : (((p1)).toInt < 0 ∨ ((x_mm_clauses)).toInt ≤ ((p1)).toInt ∨ ((p2)).toInt < 0 ∨ (f_mny (Int32.toNatClampNeg (p1))).toInt ≤ ((p2)).toInt) := hq
    refine lv_if_eq (tgt := 44) hx hb dX11_meets_11 (by decide) (fun _ => ?_) (fun c9 => absurd c9 (by decide))
    refine lv_iconst (v := (-1)) hx hb dX11_meets_44 (by decide) ?_
    replace hP : va_P (dC, dI) cls [(h_mm, .inr (8, (mo143 v_mm (.int 0) (.ref h_nv) (.ref h_nn) (.ref h_na) (.ref h_nb) (.ref h_nc) (.int x_mm_clauses) (.ref h_mny) (.ref h_isn) (.ref h_tem) (.ref h_bto) (.ref h_bin) (.ref h_tra) (.int x_mm_trailed) (.int x_mm_goneTo) (.int x_mm_goneIn)))), (h_nv, .inl (cy_nv, 8000, .inl f_nv)), (h_na, .inl (cy_na, 8000, .inl f_na)), (h_nb, .inl (cy_nb, 8000, .inl f_nb)), (h_nc, .inl (cy_nc, 8000, .inl f_nc)), (h_bto, .inl (cy_bto, 256, .inl f_bto)), (h_bin, .inl (cy_bin, 256, .inl f_bin)), (h_nn, .inl (cy_nn, 8000, .inr (.inl f_nn))), (h_tra, .inl (cy_tra, 256, .inl f_tra)), (h_mny, .inl (cy_mny, 32, .inl f_mny)), (h_isn, .inl (cy_isn, 192, .inl f_isn)), (h_tem, .inl (cy_tem, 192, .inl f_tem))] H := hP.sub [10, 0, 1, 2, 3, 4, 5, 6, 7, 11, 8, 9] rfl
    replace hD : va_D A [(h_mm, .inr (8, (mo143 v_mm (.int 0) (.ref h_nv) (.ref h_nn) (.ref h_na) (.ref h_nb) (.ref h_nc) (.int x_mm_clauses) (.ref h_mny) (.ref h_isn) (.ref h_tem) (.ref h_bto) (.ref h_bin) (.ref h_tra) (.int x_mm_trailed) (.int x_mm_goneTo) (.int x_mm_goneIn)))), (h_nv, .inl (cy_nv, 8000, .inl f_nv)), (h_na, .inl (cy_na, 8000, .inl f_na)), (h_nb, .inl (cy_nb, 8000, .inl f_nb)), (h_nc, .inl (cy_nc, 8000, .inl f_nc)), (h_bto, .inl (cy_bto, 256, .inl f_bto)), (h_bin, .inl (cy_bin, 256, .inl f_bin)), (h_nn, .inl (cy_nn, 8000, .inr (.inl f_nn))), (h_tra, .inl (cy_tra, 256, .inl f_tra)), (h_mny, .inl (cy_mny, 32, .inl f_mny)), (h_isn, .inl (cy_isn, 192, .inl f_isn)), (h_tem, .inl (cy_tem, 192, .inl f_tem))] := hD.sub [10, 0, 1, 2, 3, 4, 5, 6, 7, 11, 8, 9] (by decide) rfl
    refine W.widen (k := 0) (n := 0) (Nat.le_of_ble_eq_true rfl) (Nat.le_of_ble_eq_true rfl) ?_
    have cstm1 : ((-1) : Int32).toInt = -1 := by decide
    have cst0 : (0 : Int32).toInt = 0 := by decide
    have w44 : 0 ≤ ((x_mm_trailed)).toInt ∧ ((x_mm_trailed)).toInt ≤ 256 := by first | exact hx_mm_trailed | omega
    have w45 : 0 ≤ ((x_mm_goneTo)).toInt ∧ ((x_mm_goneTo)).toInt ≤ 7999 := by first | exact hx_mm_goneTo | omega
    have w46 : 0 ≤ ((x_mm_goneIn)).toInt ∧ ((x_mm_goneIn)).toInt ≤ 31 := by first | exact hx_mm_goneIn | omega
    have w47 : ((x_mm_trailed)).toInt = (x_mm_trailed).toInt := by omega
    have w48 : SAM f_bto f_bin (f_bto) (f_bin) := sam0
    have w49 : TRL ((x_mm_trailed)).toInt (f_tra) (f_bto) := (trl_cast hn_trl (by omega))
    have w50 : MTV (mlC f_mny) (x_mm_clauses).toInt mf (p1).toInt (p2).toInt (p3).toInt (p4).toInt (((-1) : Int32)).toInt := (Or.inr ⟨fun q9 => by have q1 := q9.1; have q2 := q9.2.1; have q3 := q9.2.2.1; have q4 : (p2).toInt < (f_mny (p1).toInt.toNat).toInt := q9.2.2.2.1; have cl9 := (congrArg (fun i => (f_mny i).toInt) (clamp_nat (i := p1) (by omega)) : (f_mny (Int32.toNatClampNeg p1)).toInt = (f_mny (p1).toInt.toNat).toInt); omega, by decide⟩)
    exact W.iret (v := (-1)) hx hb hr (fun t ht hW => ⟨⟨(-1), (0, x_mm_trailed, x_mm_goneTo, x_mm_goneIn, f_bto, f_bin, f_tra), rfl, ⟨w44, w45, w46, hf_bto, hf_bin, hf_tra, w47, w48, w49, w50⟩, by rw [ht]; exact hP, hD⟩, hS.F ht⟩) hS.2.2 dX11_meets_45

set_option maxHeartbeats 8000000 in
set_option maxRecDepth 100000 in
theorem c_X11_partnersIn (l : Launch) (dC : Nat → ClassId) (dI : Nat → Nat → Nat) (sz : Nat) (h_mm : Nat) (h_nv : Nat) (h_na : Nat) (h_nb : Nat) (h_nc : Nat) (h_bto : Nat) (h_bin : Nat) (h_nn : Nat) (h_tra : Nat) (h_mny : Nat) (h_isn : Nat) (h_tem : Nat) (v_mm : Nat → Value) (x_mm_clauses : Int32) (x_mm_trailed : Int32) (x_mm_goneTo : Int32) (x_mm_goneIn : Int32) (cy_nv : ClassId) (f_nv : Nat → Int32) (cy_na : ClassId) (f_na : Nat → Int32) (cy_nb : ClassId) (f_nb : Nat → Int32) (cy_nc : ClassId) (f_nc : Nat → Int32) (cy_bto : ClassId) (f_bto : Nat → Int32) (cy_bin : ClassId) (f_bin : Nat → Int32) (cy_nn : ClassId) (f_nn : Nat → Int64) (cy_tra : ClassId) (f_tra : Nat → Int32) (cy_mny : ClassId) (f_mny : Nat → Int32) (cy_isn : ClassId) (f_isn : Nat → Int32) (cy_tem : ClassId) (f_tem : Nat → Int32) (p1 : Int32) (p2 : Int32) (p3 : Int32) (N : Int) (hz : Nat → Nat) (mf : MFT) (hx_mm_clauses : 0 ≤ (x_mm_clauses).toInt ∧ (x_mm_clauses).toInt ≤ 16) (hx_mm_trailed : 0 ≤ (x_mm_trailed).toInt ∧ (x_mm_trailed).toInt ≤ 256) (hx_mm_goneTo : 0 ≤ (x_mm_goneTo).toInt ∧ (x_mm_goneTo).toInt ≤ 7999) (hx_mm_goneIn : 0 ≤ (x_mm_goneIn).toInt ∧ (x_mm_goneIn).toInt ≤ 31) (hf_nv : Rg (-1) 7 f_nv) (hf_na : Rg (-1) 7999 f_na) (hf_nb : Rg (-1) 7999 f_nb) (hf_nc : Rg (-1) 7999 f_nc) (hf_bto : Rg (-1) 7999 f_bto) (hf_bin : Rg 0 31 f_bin) (hf_tra : Rg 0 255 f_tra) (hf_mny : Rg 0 6 f_mny) (hf_isn : Rg 0 1 f_isn) (hf_tem : Rg 0 7999 f_tem) (q0 : 0 ≤ (p1).toInt ∧ (p1).toInt < (x_mm_clauses).toInt) (q1 : 0 ≤ (p2).toInt ∧ (p2).toInt < (f_mny (p1).toInt.toNat).toInt) (q2 : 0 ≤ (p2).toInt ∧ (p2).toInt ≤ 5) (q3 : N ≤ 8000) (hn_nds : ND 0 N hz f_na f_nb f_nc) (hn_tms : TM 0 N hz 0 (x_mm_clauses).toInt f_mny f_tem) (hn_fre : FRE f_bto) (hn_trl : TRL (x_mm_trailed).toInt f_tra f_bto) (hn_mfr : MFN (RGW f_nn f_nv f_na f_nb f_nc) (mlC f_mny) (ndC f_tem) (sgR f_isn) 240000 248000 (x_mm_clauses).toInt mf) : Met l yX11_partnersIn (Ws yX11_partnersIn cX11_partnersIn 7 (some .int)) (({ frames := 1549, cells := 0, slots := 0, locals := 44902 } : Room)) (PRE (dC, dI) cls [(cy_nv, .int), (cy_na, .int), (cy_nb, .int), (cy_nc, .int), (cy_bto, .int), (cy_bin, .int), (cy_nn, .long), (cy_tra, .int), (cy_mny, .int), (cy_isn, .boolean), (cy_tem, .int)] [(h_mm, .inr (8, (mo142 v_mm (.ref h_nv) (.ref h_nn) (.ref h_na) (.ref h_nb) (.ref h_nc) (.int x_mm_clauses) (.ref h_mny) (.ref h_isn) (.ref h_tem) (.ref h_bto) (.ref h_bin) (.ref h_tra) (.int x_mm_trailed) (.int x_mm_goneTo) (.int x_mm_goneIn)))), (h_nv, .inl (cy_nv, 8000, .inl f_nv)), (h_na, .inl (cy_na, 8000, .inl f_na)), (h_nb, .inl (cy_nb, 8000, .inl f_nb)), (h_nc, .inl (cy_nc, 8000, .inl f_nc)), (h_bto, .inl (cy_bto, 256, .inl f_bto)), (h_bin, .inl (cy_bin, 256, .inl f_bin)), (h_nn, .inl (cy_nn, 8000, .inr (.inl f_nn))), (h_tra, .inl (cy_tra, 256, .inl f_tra)), (h_mny, .inl (cy_mny, 32, .inl f_mny)), (h_isn, .inl (cy_isn, 192, .inl f_isn)), (h_tem, .inl (cy_tem, 192, .inl f_tem))] sz [.ref h_mm, .int p1, .int p2, .int p3]) (va_Qi (fun (r : Int32) (u : (Int32) × (Int32) × (Int32) × (Nat → Int32) × (Nat → Int32) × (Nat → Int32)) => (0 ≤ (u.1).toInt ∧ (u.1).toInt ≤ 256) ∧ (0 ≤ (u.2.1).toInt ∧ (u.2.1).toInt ≤ 7999) ∧ (0 ≤ (u.2.2.1).toInt ∧ (u.2.2.1).toInt ≤ 31) ∧ (Rg (-1) 7999 u.2.2.2.1) ∧ (Rg 0 31 u.2.2.2.2.1) ∧ (Rg 0 255 u.2.2.2.2.2) ∧ ((u.1).toInt = (x_mm_trailed).toInt) ∧ ((r).toInt = prT (mf (p1).toInt.toNat (p2).toInt.toNat) (mlC f_mny) (GB p3) (x_mm_clauses).toInt.toNat) ∧ (SAM f_bto f_bin u.2.2.2.1 u.2.2.2.2.1) ∧ (TRL (u.1).toInt u.2.2.2.2.2 u.2.2.2.1)) (fun (u : (Int32) × (Int32) × (Int32) × (Nat → Int32) × (Nat → Int32) × (Nat → Int32)) (t : State) => va_P (dC, dI) cls [(h_mm, .inr (8, (mo142 v_mm (.ref h_nv) (.ref h_nn) (.ref h_na) (.ref h_nb) (.ref h_nc) (.int x_mm_clauses) (.ref h_mny) (.ref h_isn) (.ref h_tem) (.ref h_bto) (.ref h_bin) (.ref h_tra) (.int u.1) (.int u.2.1) (.int u.2.2.1)))), (h_nv, .inl (cy_nv, 8000, .inl f_nv)), (h_na, .inl (cy_na, 8000, .inl f_na)), (h_nb, .inl (cy_nb, 8000, .inl f_nb)), (h_nc, .inl (cy_nc, 8000, .inl f_nc)), (h_bto, .inl (cy_bto, 256, .inl u.2.2.2.1)), (h_bin, .inl (cy_bin, 256, .inl u.2.2.2.2.1)), (h_nn, .inl (cy_nn, 8000, .inr (.inl f_nn))), (h_tra, .inl (cy_tra, 256, .inl u.2.2.2.2.2)), (h_mny, .inl (cy_mny, 32, .inl f_mny)), (h_isn, .inl (cy_isn, 192, .inl f_isn)), (h_tem, .inl (cy_tem, 192, .inl f_tem))] t.heap ∧ va_D (va_A [(h_mm, .inr (8, (mo142 v_mm (.ref h_nv) (.ref h_nn) (.ref h_na) (.ref h_nb) (.ref h_nc) (.int x_mm_clauses) (.ref h_mny) (.ref h_isn) (.ref h_tem) (.ref h_bto) (.ref h_bin) (.ref h_tra) (.int x_mm_trailed) (.int x_mm_goneTo) (.int x_mm_goneIn)))), (h_nv, .inl (cy_nv, 8000, .inl f_nv)), (h_na, .inl (cy_na, 8000, .inl f_na)), (h_nb, .inl (cy_nb, 8000, .inl f_nb)), (h_nc, .inl (cy_nc, 8000, .inl f_nc)), (h_bto, .inl (cy_bto, 256, .inl f_bto)), (h_bin, .inl (cy_bin, 256, .inl f_bin)), (h_nn, .inl (cy_nn, 8000, .inr (.inl f_nn))), (h_tra, .inl (cy_tra, 256, .inl f_tra)), (h_mny, .inl (cy_mny, 32, .inl f_mny)), (h_isn, .inl (cy_isn, 192, .inl f_isn)), (h_tem, .inl (cy_tem, 192, .inl f_tem))] sz) [(h_mm, .inr (8, (mo142 v_mm (.ref h_nv) (.ref h_nn) (.ref h_na) (.ref h_nb) (.ref h_nc) (.int x_mm_clauses) (.ref h_mny) (.ref h_isn) (.ref h_tem) (.ref h_bto) (.ref h_bin) (.ref h_tra) (.int u.1) (.int u.2.1) (.int u.2.2.1)))), (h_nv, .inl (cy_nv, 8000, .inl f_nv)), (h_na, .inl (cy_na, 8000, .inl f_na)), (h_nb, .inl (cy_nb, 8000, .inl f_nb)), (h_nc, .inl (cy_nc, 8000, .inl f_nc)), (h_bto, .inl (cy_bto, 256, .inl u.2.2.2.1)), (h_bin, .inl (cy_bin, 256, .inl u.2.2.2.2.1)), (h_nn, .inl (cy_nn, 8000, .inr (.inl f_nn))), (h_tra, .inl (cy_tra, 256, .inl u.2.2.2.2.2)), (h_mny, .inl (cy_mny, 32, .inl f_mny)), (h_isn, .inl (cy_isn, 192, .inl f_isn)), (h_tem, .inl (cy_tem, 192, .inl f_tem))]) (va_A [(h_mm, .inr (8, (mo142 v_mm (.ref h_nv) (.ref h_nn) (.ref h_na) (.ref h_nb) (.ref h_nc) (.int x_mm_clauses) (.ref h_mny) (.ref h_isn) (.ref h_tem) (.ref h_bto) (.ref h_bin) (.ref h_tra) (.int x_mm_trailed) (.int x_mm_goneTo) (.int x_mm_goneIn)))), (h_nv, .inl (cy_nv, 8000, .inl f_nv)), (h_na, .inl (cy_na, 8000, .inl f_na)), (h_nb, .inl (cy_nb, 8000, .inl f_nb)), (h_nc, .inl (cy_nc, 8000, .inl f_nc)), (h_bto, .inl (cy_bto, 256, .inl f_bto)), (h_bin, .inl (cy_bin, 256, .inl f_bin)), (h_nn, .inl (cy_nn, 8000, .inr (.inl f_nn))), (h_tra, .inl (cy_tra, 256, .inl f_tra)), (h_mny, .inl (cy_mny, 32, .inl f_mny)), (h_isn, .inl (cy_isn, 192, .inl f_isn)), (h_tem, .inl (cy_tem, 192, .inl f_tem))] sz)) 0 0 (va_A [(h_mm, .inr (8, (mo142 v_mm (.ref h_nv) (.ref h_nn) (.ref h_na) (.ref h_nb) (.ref h_nc) (.int x_mm_clauses) (.ref h_mny) (.ref h_isn) (.ref h_tem) (.ref h_bto) (.ref h_bin) (.ref h_tra) (.int x_mm_trailed) (.int x_mm_goneTo) (.int x_mm_goneIn)))), (h_nv, .inl (cy_nv, 8000, .inl f_nv)), (h_na, .inl (cy_na, 8000, .inl f_na)), (h_nb, .inl (cy_nb, 8000, .inl f_nb)), (h_nc, .inl (cy_nc, 8000, .inl f_nc)), (h_bto, .inl (cy_bto, 256, .inl f_bto)), (h_bin, .inl (cy_bin, 256, .inl f_bin)), (h_nn, .inl (cy_nn, 8000, .inr (.inl f_nn))), (h_tra, .inl (cy_tra, 256, .inl f_tra)), (h_mny, .inl (cy_mny, 32, .inl f_mny)), (h_isn, .inl (cy_isn, 192, .inl f_isn)), (h_tem, .inl (cy_tem, 192, .inl f_tem))] sz) := by
  refine Met.ofW (cc := cX11_partnersIn) (maxL := 7) (ret := (some .int)) (by decide) rfl ?_
  intro p e s m args below meth c s₁ B hml hv
  obtain ⟨rfl, hsz, hP, hK, hD0, hN⟩ := hv
  have hx := B.exec
  have hb := B.bytes
  have hr := B.returns
  have hts := atoms_spec (ws := Ws yX11_partnersIn cX11_partnersIn 7 (some .int)) B.pre
  have hT : ∀ w ∈ WALL, w ∈ Ws yX11_partnersIn cX11_partnersIn 7 (some .int) := fun w h => List.mem_cons_of_mem _ h
  have hw := fun w (h : w ∈ WALL) => hts w (hT w h)
  have hown : s.vm.findClass RX11 = some m.cls := findClass_of_methodNamed B.named
  have hlocks := B.notSynchronized
  subst hsz
  have hD := hD0.self (sz := s.heap.size)
  generalize hAe : va_A [(h_mm, .inr (8, (mo142 v_mm (.ref h_nv) (.ref h_nn) (.ref h_na) (.ref h_nb) (.ref h_nc) (.int x_mm_clauses) (.ref h_mny) (.ref h_isn) (.ref h_tem) (.ref h_bto) (.ref h_bin) (.ref h_tra) (.int x_mm_trailed) (.int x_mm_goneTo) (.int x_mm_goneIn)))), (h_nv, .inl (cy_nv, 8000, .inl f_nv)), (h_na, .inl (cy_na, 8000, .inl f_na)), (h_nb, .inl (cy_nb, 8000, .inl f_nb)), (h_nc, .inl (cy_nc, 8000, .inl f_nc)), (h_bto, .inl (cy_bto, 256, .inl f_bto)), (h_bin, .inl (cy_bin, 256, .inl f_bin)), (h_nn, .inl (cy_nn, 8000, .inr (.inl f_nn))), (h_tra, .inl (cy_tra, 256, .inl f_tra)), (h_mny, .inl (cy_mny, 32, .inl f_mny)), (h_isn, .inl (cy_isn, 192, .inl f_isn)), (h_tem, .inl (cy_tem, 192, .inl f_tem))] s.heap.size = A at hD ⊢
  have hA : ∀ q : Nat, s.heap.size ≤ q → A q := fun q h => by rw [← hAe]; exact Or.inr h
  have hS : va_S A s.heap s.heap [] := va_S.rf
  have hl := lv_entry ([.ref h_mm, .int p1, .int p2, .int p3]) (n := 7) (Nat.le_of_ble_eq_true rfl)
  rw [lg_entry_eq]
  generalize (lg_sl ([.ref h_mm, .int p1, .int p2, .int p3]) ++ List.replicate (7 - (lg_sl ([.ref h_mm, .int p1, .int p2, .int p3])).length) Slot.unset).toArray = ls at hl ⊢
  have hl : lv_has ls 7 [(0, .ref h_mm), (1, .int p1), (2, .int p2), (3, .int p3)] := hl
  have sam0 : SAM f_bto f_bin f_bto f_bin := sam_refl
  refine lv_iconst (v := 0) hx hb dX11_partnersIn_0 (by decide) ?_
  refine lv_istore (lv' := [(4, .int 0), (0, .ref h_mm), (1, .int p1), (2, .int p2), (3, .int p3)]) hx hb dX11_partnersIn_1 hl (by decide) rfl (fun ls hl => ?_)
  refine lv_iconst (v := 0) hx hb dX11_partnersIn_3 (by decide) ?_
  refine lv_istore (lv' := [(5, .int 0), (4, .int 0), (0, .ref h_mm), (1, .int p1), (2, .int p2), (3, .int p3)]) hx hb dX11_partnersIn_4 hl (by decide) rfl (fun ls hl => ?_)
  have pt0 : prT (mf (p1).toInt.toNat (p2).toInt.toNat) (mlC f_mny) (GB p3) (Int.toNat (((0 : Int32)).toInt)) = 0 := rfl
  have lp9 : ∀ (n : Nat) (x1 : Int32) (x2 : Int32) (x3 : Int32) (x4 : Int32) (x5 : Int32) (f6 : Nat → Int32) (f7 : Nat → Int32) (f8 : Nat → Int32) (H : Heap) (locs : List Loc) (ls : Array Slot), (0 ≤ (x1).toInt ∧ (x1).toInt ≤ 96) → (0 ≤ (x2).toInt ∧ (x2).toInt ≤ 16) → (0 ≤ (x3).toInt ∧ (x3).toInt ≤ 256) → (0 ≤ (x4).toInt ∧ (x4).toInt ≤ 7999) → (0 ≤ (x5).toInt ∧ (x5).toInt ≤ 31) → (Rg (-1) 7999 f6) → (Rg 0 31 f7) → (Rg 0 255 f8) → ((x1).toInt = prT (mf (p1).toInt.toNat (p2).toInt.toNat) (mlC f_mny) (GB p3) (Int.toNat ((x2).toInt))) → (0 ≤ (x1).toInt ∧ (x1).toInt ≤ 6 * (x2).toInt) → ((x2).toInt ≤ (x_mm_clauses).toInt) → ((x3).toInt = (x_mm_trailed).toInt) → (SAM f_bto f_bin f6 f7) → (TRL (x3).toInt f8 f6) → (16 - (x2).toInt).toNat + 1 ≤ n → va_P (dC, dI) cls [(h_mm, .inr (8, (mo142 v_mm (.ref h_nv) (.ref h_nn) (.ref h_na) (.ref h_nb) (.ref h_nc) (.int x_mm_clauses) (.ref h_mny) (.ref h_isn) (.ref h_tem) (.ref h_bto) (.ref h_bin) (.ref h_tra) (.int x3) (.int x4) (.int x5)))), (h_nv, .inl (cy_nv, 8000, .inl f_nv)), (h_na, .inl (cy_na, 8000, .inl f_na)), (h_nb, .inl (cy_nb, 8000, .inl f_nb)), (h_nc, .inl (cy_nc, 8000, .inl f_nc)), (h_bto, .inl (cy_bto, 256, .inl f6)), (h_bin, .inl (cy_bin, 256, .inl f7)), (h_nn, .inl (cy_nn, 8000, .inr (.inl f_nn))), (h_tra, .inl (cy_tra, 256, .inl f8)), (h_mny, .inl (cy_mny, 32, .inl f_mny)), (h_isn, .inl (cy_isn, 192, .inl f_isn)), (h_tem, .inl (cy_tem, 192, .inl f_tem))] H → va_D A [(h_mm, .inr (8, (mo142 v_mm (.ref h_nv) (.ref h_nn) (.ref h_na) (.ref h_nb) (.ref h_nc) (.int x_mm_clauses) (.ref h_mny) (.ref h_isn) (.ref h_tem) (.ref h_bto) (.ref h_bin) (.ref h_tra) (.int x3) (.int x4) (.int x5)))), (h_nv, .inl (cy_nv, 8000, .inl f_nv)), (h_na, .inl (cy_na, 8000, .inl f_na)), (h_nb, .inl (cy_nb, 8000, .inl f_nb)), (h_nc, .inl (cy_nc, 8000, .inl f_nc)), (h_bto, .inl (cy_bto, 256, .inl f6)), (h_bin, .inl (cy_bin, 256, .inl f7)), (h_nn, .inl (cy_nn, 8000, .inr (.inl f_nn))), (h_tra, .inl (cy_tra, 256, .inl f8)), (h_mny, .inl (cy_mny, 32, .inl f_mny)), (h_isn, .inl (cy_isn, 192, .inl f_isn)), (h_tem, .inl (cy_tem, 192, .inl f_tem))] → va_S A s.heap H locs → lv_has ls 7 [(0, .ref h_mm), (1, .int p1), (2, .int p2), (3, .int p3), (4, .int x1), (5, .int x2)] → W p l e ({ frames := 1549, cells := 0, slots := 0, locals := 44902 } : Room) s m ([.ref h_mm, .int p1, .int p2, .int p3] : List Value).toArray below meth c H locs 0 0 (MQ below (va_Qi (fun (r : Int32) (u : (Int32) × (Int32) × (Int32) × (Nat → Int32) × (Nat → Int32) × (Nat → Int32)) => (0 ≤ (u.1).toInt ∧ (u.1).toInt ≤ 256) ∧ (0 ≤ (u.2.1).toInt ∧ (u.2.1).toInt ≤ 7999) ∧ (0 ≤ (u.2.2.1).toInt ∧ (u.2.2.1).toInt ≤ 31) ∧ (Rg (-1) 7999 u.2.2.2.1) ∧ (Rg 0 31 u.2.2.2.2.1) ∧ (Rg 0 255 u.2.2.2.2.2) ∧ ((u.1).toInt = (x_mm_trailed).toInt) ∧ ((r).toInt = prT (mf (p1).toInt.toNat (p2).toInt.toNat) (mlC f_mny) (GB p3) (x_mm_clauses).toInt.toNat) ∧ (SAM f_bto f_bin u.2.2.2.1 u.2.2.2.2.1) ∧ (TRL (u.1).toInt u.2.2.2.2.2 u.2.2.2.1)) (fun (u : (Int32) × (Int32) × (Int32) × (Nat → Int32) × (Nat → Int32) × (Nat → Int32)) (t : State) => va_P (dC, dI) cls [(h_mm, .inr (8, (mo142 v_mm (.ref h_nv) (.ref h_nn) (.ref h_na) (.ref h_nb) (.ref h_nc) (.int x_mm_clauses) (.ref h_mny) (.ref h_isn) (.ref h_tem) (.ref h_bto) (.ref h_bin) (.ref h_tra) (.int u.1) (.int u.2.1) (.int u.2.2.1)))), (h_nv, .inl (cy_nv, 8000, .inl f_nv)), (h_na, .inl (cy_na, 8000, .inl f_na)), (h_nb, .inl (cy_nb, 8000, .inl f_nb)), (h_nc, .inl (cy_nc, 8000, .inl f_nc)), (h_bto, .inl (cy_bto, 256, .inl u.2.2.2.1)), (h_bin, .inl (cy_bin, 256, .inl u.2.2.2.2.1)), (h_nn, .inl (cy_nn, 8000, .inr (.inl f_nn))), (h_tra, .inl (cy_tra, 256, .inl u.2.2.2.2.2)), (h_mny, .inl (cy_mny, 32, .inl f_mny)), (h_isn, .inl (cy_isn, 192, .inl f_isn)), (h_tem, .inl (cy_tem, 192, .inl f_tem))] t.heap ∧ va_D A [(h_mm, .inr (8, (mo142 v_mm (.ref h_nv) (.ref h_nn) (.ref h_na) (.ref h_nb) (.ref h_nc) (.int x_mm_clauses) (.ref h_mny) (.ref h_isn) (.ref h_tem) (.ref h_bto) (.ref h_bin) (.ref h_tra) (.int u.1) (.int u.2.1) (.int u.2.2.1)))), (h_nv, .inl (cy_nv, 8000, .inl f_nv)), (h_na, .inl (cy_na, 8000, .inl f_na)), (h_nb, .inl (cy_nb, 8000, .inl f_nb)), (h_nc, .inl (cy_nc, 8000, .inl f_nc)), (h_bto, .inl (cy_bto, 256, .inl u.2.2.2.1)), (h_bin, .inl (cy_bin, 256, .inl u.2.2.2.2.1)), (h_nn, .inl (cy_nn, 8000, .inr (.inl f_nn))), (h_tra, .inl (cy_tra, 256, .inl u.2.2.2.2.2)), (h_mny, .inl (cy_mny, 32, .inl f_mny)), (h_isn, .inl (cy_isn, 192, .inl f_isn)), (h_tem, .inl (cy_tem, 192, .inl f_tem))]) A) ([.ref h_mm, .int p1, .int p2, .int p3] : List Value).toArray s 0 0 A) (F0 m 6 ls []) := by
    clear hP hD hS hl
    intro n
    induction n with
    | zero => intro x1 x2 x3 x4 x5 f6 f7 f8 H locs ls klp9_0 klp9_1 klp9_2 klp9_3 klp9_4 hf6 hf7 hf8 klp9_8 klp9_9 klp9_10 klp9_11 klp9_12 klp9_13 hm hP hD hS hl; exact False.elim (by omega)
    | succ n ih => 
      intro x1 x2 x3 x4 x5 f6 f7 f8 H locs ls klp9_0 klp9_1 klp9_2 klp9_3 klp9_4 hf6 hf7 hf8 klp9_8 klp9_9 klp9_10 klp9_11 klp9_12 klp9_13 hm hP hD hS hl
      have ih10 := ih
      clear ih
      refine lv_iload hx hb dX11_partnersIn_6 (lv_at hl 5 rfl) ?_
      have px9 : (x2).toInt = (x_mm_clauses).toInt → prT (mf (p1).toInt.toNat (p2).toInt.toNat) (mlC f_mny) (GB p3) (Int.toNat ((x2).toInt)) = prT (mf (p1).toInt.toNat (p2).toInt.toNat) (mlC f_mny) (GB p3) (x_mm_clauses).toInt.toNat := fun h9 => by rw [h9]
      refine lv_aload_n hx hb dX11_partnersIn_8 rfl (lv_at hl 0 rfl) ?_
      refine va_get (D := (dC, dI)) (ci := 8) (v := .int x_mm_clauses) (C := RX11) (T := TX11) (N := 71) hx hb hw iwX11 hown hK hP 0 rfl rfl 7 (by decide) (hw _ w_f_X11_164) (fun _ h9 => h9) rfl dX11_partnersIn_9 ?_
      refine lv_icmp_ge (tgt := 71) hx hb dX11_partnersIn_12 (by decide) (fun c11 => ?_) (fun c11 => ?_)
      · have kc11 := (cv_le (rfl : (x_mm_clauses).toInt = (x_mm_clauses).toInt) (rfl : (x2).toInt = (x2).toInt)).mp c11
        refine lv_iload hx hb dX11_partnersIn_71 (lv_at hl 4 rfl) ?_
        refine W.widen (k := 0) (n := 0) (Nat.le_of_ble_eq_true rfl) (Nat.le_of_ble_eq_true rfl) ?_
        have w12 : 0 ≤ ((x3)).toInt ∧ ((x3)).toInt ≤ 256 := by first | exact klp9_2 | omega
        have w13 : 0 ≤ ((x4)).toInt ∧ ((x4)).toInt ≤ 7999 := by first | exact klp9_3 | omega
        have w14 : 0 ≤ ((x5)).toInt ∧ ((x5)).toInt ≤ 31 := by first | exact klp9_4 | omega
        have w15 : ((x3)).toInt = (x_mm_trailed).toInt := by first | exact klp9_11 | omega
        have w16 : ((x1 : Int32)).toInt = prT (mf (p1).toInt.toNat (p2).toInt.toNat) (mlC f_mny) (GB p3) (x_mm_clauses).toInt.toNat := by omega
        have w17 : SAM f_bto f_bin (f6) (f7) := klp9_12
        have w18 : TRL ((x3)).toInt (f8) (f6) := (trl_cast klp9_13 (by omega))
        exact W.iret (v := x1) hx hb hr (fun t ht hW => ⟨⟨x1, (x3, x4, x5, f6, f7, f8), rfl, ⟨w12, w13, w14, hf6, hf7, hf8, w15, w16, w17, w18⟩, by rw [ht]; exact hP, hD⟩, hS.F ht⟩) hS.2.2 dX11_partnersIn_73
      · have kc11 := (not_congr (cv_le (rfl : (x_mm_clauses).toInt = (x_mm_clauses).toInt) (rfl : (x2).toInt = (x2).toInt))).mp c11
        refine lv_iconst (v := 0) hx hb dX11_partnersIn_15 (by decide) ?_
        refine lv_istore (lv' := [(6, .int 0), (0, .ref h_mm), (1, .int p1), (2, .int p2), (3, .int p3), (4, .int x1), (5, .int x2)]) hx hb dX11_partnersIn_16 hl (by decide) rfl (fun ls hl => ?_)
        have ps0 : prS ((mf (p1).toInt.toNat (p2).toInt.toNat) (Int.toNat ((x2).toInt))) (Int.toNat (((0 : Int32)).toInt)) = 0 := rfl
        have hl9 := hf_mny (Int.toNat ((x2).toInt))
        have lp27 : ∀ (n : Nat) (x19 : Int32) (x20 : Int32) (x21 : Int32) (x22 : Int32) (x23 : Int32) (f24 : Nat → Int32) (f25 : Nat → Int32) (f26 : Nat → Int32) (H : Heap) (locs : List Loc) (ls : Array Slot), (0 ≤ (x19).toInt ∧ (x19).toInt ≤ 102) → (0 ≤ (x20).toInt ∧ (x20).toInt ≤ 6) → (0 ≤ (x21).toInt ∧ (x21).toInt ≤ 256) → (0 ≤ (x22).toInt ∧ (x22).toInt ≤ 7999) → (0 ≤ (x23).toInt ∧ (x23).toInt ≤ 31) → (Rg (-1) 7999 f24) → (Rg 0 31 f25) → (Rg 0 255 f26) → ((x19).toInt = prT (mf (p1).toInt.toNat (p2).toInt.toNat) (mlC f_mny) (GB p3) (Int.toNat ((x2).toInt)) + prS ((mf (p1).toInt.toNat (p2).toInt.toNat) (Int.toNat ((x2).toInt))) (Int.toNat ((x20).toInt))) → (0 ≤ (x19).toInt ∧ (x19).toInt ≤ 6 * (x2).toInt + (x20).toInt) → (GB p3 (Int.toNat ((x2).toInt)) = 0 ∨ (x20).toInt = 0) → ((x20).toInt ≤ (f_mny (Int.toNat ((x2).toInt))).toInt) → ((x2).toInt < (x_mm_clauses).toInt) → ((x21).toInt = (x_mm_trailed).toInt) → (SAM f_bto f_bin f24 f25) → (TRL (x21).toInt f26 f24) → (6 - (x20).toInt).toNat + 1 ≤ n → va_P (dC, dI) cls [(h_mm, .inr (8, (mo142 v_mm (.ref h_nv) (.ref h_nn) (.ref h_na) (.ref h_nb) (.ref h_nc) (.int x_mm_clauses) (.ref h_mny) (.ref h_isn) (.ref h_tem) (.ref h_bto) (.ref h_bin) (.ref h_tra) (.int x21) (.int x22) (.int x23)))), (h_nv, .inl (cy_nv, 8000, .inl f_nv)), (h_na, .inl (cy_na, 8000, .inl f_na)), (h_nb, .inl (cy_nb, 8000, .inl f_nb)), (h_nc, .inl (cy_nc, 8000, .inl f_nc)), (h_bto, .inl (cy_bto, 256, .inl f24)), (h_bin, .inl (cy_bin, 256, .inl f25)), (h_nn, .inl (cy_nn, 8000, .inr (.inl f_nn))), (h_tra, .inl (cy_tra, 256, .inl f26)), (h_mny, .inl (cy_mny, 32, .inl f_mny)), (h_isn, .inl (cy_isn, 192, .inl f_isn)), (h_tem, .inl (cy_tem, 192, .inl f_tem))] H → va_D A [(h_mm, .inr (8, (mo142 v_mm (.ref h_nv) (.ref h_nn) (.ref h_na) (.ref h_nb) (.ref h_nc) (.int x_mm_clauses) (.ref h_mny) (.ref h_isn) (.ref h_tem) (.ref h_bto) (.ref h_bin) (.ref h_tra) (.int x21) (.int x22) (.int x23)))), (h_nv, .inl (cy_nv, 8000, .inl f_nv)), (h_na, .inl (cy_na, 8000, .inl f_na)), (h_nb, .inl (cy_nb, 8000, .inl f_nb)), (h_nc, .inl (cy_nc, 8000, .inl f_nc)), (h_bto, .inl (cy_bto, 256, .inl f24)), (h_bin, .inl (cy_bin, 256, .inl f25)), (h_nn, .inl (cy_nn, 8000, .inr (.inl f_nn))), (h_tra, .inl (cy_tra, 256, .inl f26)), (h_mny, .inl (cy_mny, 32, .inl f_mny)), (h_isn, .inl (cy_isn, 192, .inl f_isn)), (h_tem, .inl (cy_tem, 192, .inl f_tem))] → va_S A s.heap H locs → lv_has ls 7 [(0, .ref h_mm), (1, .int p1), (2, .int p2), (3, .int p3), (4, .int x19), (5, .int x2), (6, .int x20)] → W p l e ({ frames := 1549, cells := 0, slots := 0, locals := 44902 } : Room) s m ([.ref h_mm, .int p1, .int p2, .int p3] : List Value).toArray below meth c H locs 0 0 (MQ below (va_Qi (fun (r : Int32) (u : (Int32) × (Int32) × (Int32) × (Nat → Int32) × (Nat → Int32) × (Nat → Int32)) => (0 ≤ (u.1).toInt ∧ (u.1).toInt ≤ 256) ∧ (0 ≤ (u.2.1).toInt ∧ (u.2.1).toInt ≤ 7999) ∧ (0 ≤ (u.2.2.1).toInt ∧ (u.2.2.1).toInt ≤ 31) ∧ (Rg (-1) 7999 u.2.2.2.1) ∧ (Rg 0 31 u.2.2.2.2.1) ∧ (Rg 0 255 u.2.2.2.2.2) ∧ ((u.1).toInt = (x_mm_trailed).toInt) ∧ ((r).toInt = prT (mf (p1).toInt.toNat (p2).toInt.toNat) (mlC f_mny) (GB p3) (x_mm_clauses).toInt.toNat) ∧ (SAM f_bto f_bin u.2.2.2.1 u.2.2.2.2.1) ∧ (TRL (u.1).toInt u.2.2.2.2.2 u.2.2.2.1)) (fun (u : (Int32) × (Int32) × (Int32) × (Nat → Int32) × (Nat → Int32) × (Nat → Int32)) (t : State) => va_P (dC, dI) cls [(h_mm, .inr (8, (mo142 v_mm (.ref h_nv) (.ref h_nn) (.ref h_na) (.ref h_nb) (.ref h_nc) (.int x_mm_clauses) (.ref h_mny) (.ref h_isn) (.ref h_tem) (.ref h_bto) (.ref h_bin) (.ref h_tra) (.int u.1) (.int u.2.1) (.int u.2.2.1)))), (h_nv, .inl (cy_nv, 8000, .inl f_nv)), (h_na, .inl (cy_na, 8000, .inl f_na)), (h_nb, .inl (cy_nb, 8000, .inl f_nb)), (h_nc, .inl (cy_nc, 8000, .inl f_nc)), (h_bto, .inl (cy_bto, 256, .inl u.2.2.2.1)), (h_bin, .inl (cy_bin, 256, .inl u.2.2.2.2.1)), (h_nn, .inl (cy_nn, 8000, .inr (.inl f_nn))), (h_tra, .inl (cy_tra, 256, .inl u.2.2.2.2.2)), (h_mny, .inl (cy_mny, 32, .inl f_mny)), (h_isn, .inl (cy_isn, 192, .inl f_isn)), (h_tem, .inl (cy_tem, 192, .inl f_tem))] t.heap ∧ va_D A [(h_mm, .inr (8, (mo142 v_mm (.ref h_nv) (.ref h_nn) (.ref h_na) (.ref h_nb) (.ref h_nc) (.int x_mm_clauses) (.ref h_mny) (.ref h_isn) (.ref h_tem) (.ref h_bto) (.ref h_bin) (.ref h_tra) (.int u.1) (.int u.2.1) (.int u.2.2.1)))), (h_nv, .inl (cy_nv, 8000, .inl f_nv)), (h_na, .inl (cy_na, 8000, .inl f_na)), (h_nb, .inl (cy_nb, 8000, .inl f_nb)), (h_nc, .inl (cy_nc, 8000, .inl f_nc)), (h_bto, .inl (cy_bto, 256, .inl u.2.2.2.1)), (h_bin, .inl (cy_bin, 256, .inl u.2.2.2.2.1)), (h_nn, .inl (cy_nn, 8000, .inr (.inl f_nn))), (h_tra, .inl (cy_tra, 256, .inl u.2.2.2.2.2)), (h_mny, .inl (cy_mny, 32, .inl f_mny)), (h_isn, .inl (cy_isn, 192, .inl f_isn)), (h_tem, .inl (cy_tem, 192, .inl f_tem))]) A) ([.ref h_mm, .int p1, .int p2, .int p3] : List Value).toArray s 0 0 A) (F0 m 18 ls []) := by
          clear hP hD hS hl
          intro n
          induction n with
          | zero => intro x19 x20 x21 x22 x23 f24 f25 f26 H locs ls klp27_0 klp27_1 klp27_2 klp27_3 klp27_4 hf24 hf25 hf26 klp27_8 klp27_9 klp27_10 klp27_11 klp27_12 klp27_13 klp27_14 klp27_15 hm hP hD hS hl; exact False.elim (by omega)
          | succ n ih => 
            intro x19 x20 x21 x22 x23 f24 f25 f26 H locs ls klp27_0 klp27_1 klp27_2 klp27_3 klp27_4 hf24 hf25 hf26 klp27_8 klp27_9 klp27_10 klp27_11 klp27_12 klp27_13 klp27_14 klp27_15 hm hP hD hS hl
            have ih28 := ih
            clear ih
            refine lv_iload hx hb dX11_partnersIn_18 (lv_at hl 6 rfl) ?_
            refine lv_aload_n hx hb dX11_partnersIn_20 rfl (lv_at hl 0 rfl) ?_
            refine va_get (D := (dC, dI)) (ci := 8) (v := .ref h_mny) (C := RX11) (T := TX11) (N := 71) hx hb hw iwX11 hown hK hP 0 rfl rfl 8 (by decide) (hw _ w_f_X11_142) (fun _ h9 => h9) rfl dX11_partnersIn_21 ?_
            refine lv_iload hx hb dX11_partnersIn_24 (lv_at hl 5 rfl) ?_
            refine va_iald hx hb hK hP 9 8 rfl rfl (i := x2) (vp_in_iff.mpr (by omega)) dX11_partnersIn_26 ?_
            refine lv_topi (fun z29 ez29 => ?_)
            have rz29 : 0 ≤ (z29).toInt ∧ (z29).toInt ≤ 6 := by rw [ez29]; exact hf_mny _
            have my9 : (f_mny (x2).toInt.toNat).toInt = (z29).toInt := by rw [ez29, clamp_nat (i := x2) (by omega)]
            have ml9 := hf_mny (x2).toInt.toNat
            refine lv_icmp_ge (tgt := 65) hx hb dX11_partnersIn_27 (by decide) (fun c30 => ?_) (fun c30 => ?_)
            · have kc30 := (cv_le (rfl : (z29).toInt = (z29).toInt) (rfl : (x20).toInt = (x20).toInt)).mp c30
              have pt9 : prT (mf (p1).toInt.toNat (p2).toInt.toNat) (mlC f_mny) (GB p3) (Int.toNat ((x2).toInt + 1)) = prT (mf (p1).toInt.toNat (p2).toInt.toNat) (mlC f_mny) (GB p3) (Int.toNat ((x2).toInt)) + prS ((mf (p1).toInt.toNat (p2).toInt.toNat) (Int.toNat ((x2).toInt))) (Int.toNat ((x20).toInt)) := by
                rw [show Int.toNat ((x2).toInt + 1) = Int.toNat ((x2).toInt) + 1 by omega, prT_s]
                by_cases g9 : GB p3 (Int.toNat ((x2).toInt)) = 0
                · rw [if_pos g9, show ((mlC f_mny) (Int.toNat ((x2).toInt))).toNat = Int.toNat ((x20).toInt) by show ((f_mny (Int.toNat ((x2).toInt))).toInt).toNat = _; omega]
                · rw [if_neg g9, show Int.toNat ((x20).toInt) = 0 by omega]; rfl
              obtain ⟨z31, ez31⟩ : ∃ y : Int32, y = x2 + 1 := ⟨_, rfl⟩
              have tz31 : (z31).toInt = (x2).toInt + 1 := by rw [ez31]; exact i_add rfl (by decide) (by omega)
              refine lv_iinc (v := z31) (lv' := [(5, .int z31), (0, .ref h_mm), (1, .int p1), (2, .int p2), (3, .int p3), (4, .int x19), (6, .int x20)]) hx hb dX11_partnersIn_65 hl (k := 5) rfl (by rw [ez31]; rfl) (by decide) rfl (fun ls hl => ?_)
              refine lv_goto (tgt := 6) hx hb dX11_partnersIn_68 (by decide) ?_
              rw [← tz31] at pt9
              exact ih10 (x19) (z31) (x21) (x22) (x23) (f24) (f25) (f26) _ _ _ (by omega) (by omega) (by first | exact klp27_2 | omega) (by first | exact klp27_3 | omega) (by first | exact klp27_4 | omega) hf24 hf25 hf26 (by omega) (by omega) (by omega) (by first | exact klp27_13 | omega) klp27_14 (trl_cast klp27_15 (by omega)) (by omega) hP hD hS (lv_sub hl [1, 2, 3, 4, 5, 0] rfl)
            · have kc30 := (not_congr (cv_le (rfl : (z29).toInt = (z29).toInt) (rfl : (x20).toInt = (x20).toInt))).mp c30
              refine lv_aload_n hx hb dX11_partnersIn_30 rfl (lv_at hl 0 rfl) ?_
              refine lv_iload_n hx hb dX11_partnersIn_31 rfl (lv_at hl 3 rfl) ?_
              refine lv_iload hx hb dX11_partnersIn_32 (lv_at hl 5 rfl) ?_
              have hPc := hP.sub (ws' := []) [] rfl
              have hDc := hD.sub (ws' := []) [] (by decide) rfl
              have hKc := hK.sub (tys' := []) [] rfl
              have hFc := va_free (wc := []) hD hS hA [] rfl
              refine va_calli (va_runV (As := [.int p3, .int x2]) (rest := []) ⟨hx, hb, hml, hown, hts⟩ (c_X11_has_e l dC dI H.size h_mm p3 x2) (cwV 2 hts (gv hT w_m_X11_307 w_instanceMethod_X11_has ws_sel_X11_has w_ini_X11 w_code_X11_has) rfl rfl rfl (by decide +kernel) ⟨(Nat.le_of_ble_eq_true rfl), (Nat.le_of_ble_eq_true rfl)⟩) ⟨pre_blind, va_recv hK hP (ci := 8) (q0 := 0) rfl rfl, pre_of hPc hKc hDc hN⟩ rfl rfl hl.1 rfl (lv_room (Nat.le_of_ble_eq_true rfl)) dX11_partnersIn_34 ⟨(Nat.le_of_ble_eq_true rfl), (Nat.le_of_ble_eq_true rfl)⟩) hS (fun q _ h => hFc q h) hFc (fun r32 u t H locs ht hvm hq hB hz1 hk1 hS9 => ?_)
              obtain ⟨hP1, hD1⟩ := hB
              rw [ht] at hP1
              obtain ⟨hP9, hD9⟩ := va_join (wr := [(h_mm, .inr (8, (mo142 v_mm (.ref h_nv) (.ref h_nn) (.ref h_na) (.ref h_nb) (.ref h_nc) (.int x_mm_clauses) (.ref h_mny) (.ref h_isn) (.ref h_tem) (.ref h_bto) (.ref h_bin) (.ref h_tra) (.int x21) (.int x22) (.int x23)))), (h_nv, .inl (cy_nv, 8000, .inl f_nv)), (h_na, .inl (cy_na, 8000, .inl f_na)), (h_nb, .inl (cy_nb, 8000, .inl f_nb)), (h_nc, .inl (cy_nc, 8000, .inl f_nc)), (h_bto, .inl (cy_bto, 256, .inl f24)), (h_bin, .inl (cy_bin, 256, .inl f25)), (h_nn, .inl (cy_nn, 8000, .inr (.inl f_nn))), (h_tra, .inl (cy_tra, 256, .inl f26)), (h_mny, .inl (cy_mny, 32, .inl f_mny)), (h_isn, .inl (cy_isn, 192, .inl f_isn)), (h_tem, .inl (cy_tem, 192, .inl f_tem))]) (w1 := []) hP hD [] [0, 1, 2, 3, 4, 5, 6, 7, 8, 9, 10, 11] rfl rfl (by decide) (by decide) hk1 hFc hP1 hD1
              clear hP hD hS hPc hDc hKc hFc hP1 hD1 hk1 hz1 ht hvm
              have hP : va_P (dC, dI) cls [(h_mm, .inr (8, (mo142 v_mm (.ref h_nv) (.ref h_nn) (.ref h_na) (.ref h_nb) (.ref h_nc) (.int x_mm_clauses) (.ref h_mny) (.ref h_isn) (.ref h_tem) (.ref h_bto) (.ref h_bin) (.ref h_tra) (.int x21) (.int x22) (.int x23)))), (h_nv, .inl (cy_nv, 8000, .inl f_nv)), (h_na, .inl (cy_na, 8000, .inl f_na)), (h_nb, .inl (cy_nb, 8000, .inl f_nb)), (h_nc, .inl (cy_nc, 8000, .inl f_nc)), (h_bto, .inl (cy_bto, 256, .inl f24)), (h_bin, .inl (cy_bin, 256, .inl f25)), (h_nn, .inl (cy_nn, 8000, .inr (.inl f_nn))), (h_tra, .inl (cy_tra, 256, .inl f26)), (h_mny, .inl (cy_mny, 32, .inl f_mny)), (h_isn, .inl (cy_isn, 192, .inl f_isn)), (h_tem, .inl (cy_tem, 192, .inl f_tem))] H := hP9
              have hD : va_D A [(h_mm, .inr (8, (mo142 v_mm (.ref h_nv) (.ref h_nn) (.ref h_na) (.ref h_nb) (.ref h_nc) (.int x_mm_clauses) (.ref h_mny) (.ref h_isn) (.ref h_tem) (.ref h_bto) (.ref h_bin) (.ref h_tra) (.int x21) (.int x22) (.int x23)))), (h_nv, .inl (cy_nv, 8000, .inl f_nv)), (h_na, .inl (cy_na, 8000, .inl f_na)), (h_nb, .inl (cy_nb, 8000, .inl f_nb)), (h_nc, .inl (cy_nc, 8000, .inl f_nc)), (h_bto, .inl (cy_bto, 256, .inl f24)), (h_bin, .inl (cy_bin, 256, .inl f25)), (h_nn, .inl (cy_nn, 8000, .inr (.inl f_nn))), (h_tra, .inl (cy_tra, 256, .inl f26)), (h_mny, .inl (cy_mny, 32, .inl f_mny)), (h_isn, .inl (cy_isn, 192, .inl f_isn)), (h_tem, .inl (cy_tem, 192, .inl f_tem))] := hD9
              have hS := hS9
              clear hP9 hD9 hS9
              obtain ⟨k33, k34⟩ := hq
              replace k33 : 0 ≤ (r32).toInt ∧ (r32).toInt ≤ 1 := k33
              replace k34 : ((r32)).toInt = bt (p3) (x2) := k34
              have gb9 : GB p3 (x2).toInt.toNat = (r32).toInt := by rw [← gb_bt (by omega)]; exact k34.symm
              refine lv_if_ne (tgt := 65) hx hb dX11_partnersIn_37 (by decide) (fun c35 => ?_) (fun c35 => ?_)
              · have kc35 := (not_congr (cv_eq (rfl : (r32).toInt = (r32).toInt) (by decide : (0 : Int32).toInt = 0))).mp c35
                have pt9 : prT (mf (p1).toInt.toNat (p2).toInt.toNat) (mlC f_mny) (GB p3) (Int.toNat ((x2).toInt + 1)) = prT (mf (p1).toInt.toNat (p2).toInt.toNat) (mlC f_mny) (GB p3) (Int.toNat ((x2).toInt)) + prS ((mf (p1).toInt.toNat (p2).toInt.toNat) (Int.toNat ((x2).toInt))) (Int.toNat ((x20).toInt)) := by
                  rw [show Int.toNat ((x2).toInt + 1) = Int.toNat ((x2).toInt) + 1 by omega, prT_s]
                  by_cases g9 : GB p3 (Int.toNat ((x2).toInt)) = 0
                  · rw [if_pos g9, show ((mlC f_mny) (Int.toNat ((x2).toInt))).toNat = Int.toNat ((x20).toInt) by show ((f_mny (Int.toNat ((x2).toInt))).toInt).toNat = _; omega]
                  · rw [if_neg g9, show Int.toNat ((x20).toInt) = 0 by omega]; rfl
                obtain ⟨z36, ez36⟩ : ∃ y : Int32, y = x2 + 1 := ⟨_, rfl⟩
                have tz36 : (z36).toInt = (x2).toInt + 1 := by rw [ez36]; exact i_add rfl (by decide) (by omega)
                refine lv_iinc (v := z36) (lv' := [(5, .int z36), (0, .ref h_mm), (1, .int p1), (2, .int p2), (3, .int p3), (4, .int x19), (6, .int x20)]) hx hb dX11_partnersIn_65 hl (k := 5) rfl (by rw [ez36]; rfl) (by decide) rfl (fun ls hl => ?_)
                refine lv_goto (tgt := 6) hx hb dX11_partnersIn_68 (by decide) ?_
                rw [← tz36] at pt9
                exact ih10 (x19) (z36) (x21) (x22) (x23) (f24) (f25) (f26) _ _ _ (by omega) (by omega) (by first | exact klp27_2 | omega) (by first | exact klp27_3 | omega) (by first | exact klp27_4 | omega) hf24 hf25 hf26 (by omega) (by omega) (by omega) (by first | exact klp27_13 | omega) klp27_14 (trl_cast klp27_15 (by omega)) (by omega) hP hD hS (lv_sub hl [1, 2, 3, 4, 5, 0] rfl)
              · have kc35 := (cv_eq (rfl : (r32).toInt = (r32).toInt) (by decide : (0 : Int32).toInt = 0)).mp c35
                refine lv_aload_n hx hb dX11_partnersIn_40 rfl (lv_at hl 0 rfl) ?_
                refine lv_iload_n hx hb dX11_partnersIn_41 rfl (lv_at hl 1 rfl) ?_
                refine lv_iload_n hx hb dX11_partnersIn_42 rfl (lv_at hl 2 rfl) ?_
                refine lv_iload hx hb dX11_partnersIn_43 (lv_at hl 5 rfl) ?_
                refine lv_iload hx hb dX11_partnersIn_45 (lv_at hl 6 rfl) ?_
                have mqz29 : (f_mny (x2).toInt.toNat).toInt = (z29).toInt := by rw [ez29, (clamp_nat (i := x2) (by omega))]
                obtain ⟨vq37, evq37⟩ := mq142_141 v_mm (.int x_mm_clauses)
                replace hP : va_P (dC, dI) cls [(h_mm, .inr (8, (mo141 vq37 (.ref h_nv) (.ref h_nn) (.ref h_na) (.ref h_nb) (.ref h_nc) (.ref h_mny) (.ref h_isn) (.ref h_tem) (.ref h_bto) (.ref h_bin) (.ref h_tra) (.int x21) (.int x22) (.int x23)))), (h_nv, .inl (cy_nv, 8000, .inl f_nv)), (h_na, .inl (cy_na, 8000, .inl f_na)), (h_nb, .inl (cy_nb, 8000, .inl f_nb)), (h_nc, .inl (cy_nc, 8000, .inl f_nc)), (h_bto, .inl (cy_bto, 256, .inl f24)), (h_bin, .inl (cy_bin, 256, .inl f25)), (h_nn, .inl (cy_nn, 8000, .inr (.inl f_nn))), (h_tra, .inl (cy_tra, 256, .inl f26)), (h_mny, .inl (cy_mny, 32, .inl f_mny)), (h_isn, .inl (cy_isn, 192, .inl f_isn)), (h_tem, .inl (cy_tem, 192, .inl f_tem))] H := by rw [evq37]; exact hP
                replace hD : va_D A [(h_mm, .inr (8, (mo141 vq37 (.ref h_nv) (.ref h_nn) (.ref h_na) (.ref h_nb) (.ref h_nc) (.ref h_mny) (.ref h_isn) (.ref h_tem) (.ref h_bto) (.ref h_bin) (.ref h_tra) (.int x21) (.int x22) (.int x23)))), (h_nv, .inl (cy_nv, 8000, .inl f_nv)), (h_na, .inl (cy_na, 8000, .inl f_na)), (h_nb, .inl (cy_nb, 8000, .inl f_nb)), (h_nc, .inl (cy_nc, 8000, .inl f_nc)), (h_bto, .inl (cy_bto, 256, .inl f24)), (h_bin, .inl (cy_bin, 256, .inl f25)), (h_nn, .inl (cy_nn, 8000, .inr (.inl f_nn))), (h_tra, .inl (cy_tra, 256, .inl f26)), (h_mny, .inl (cy_mny, 32, .inl f_mny)), (h_isn, .inl (cy_isn, 192, .inl f_isn)), (h_tem, .inl (cy_tem, 192, .inl f_tem))] := by rw [evq37]; exact hD
                have hPc := hP.sub (ws' := [(h_mm, .inr (8, (mo141 vq37 (.ref h_nv) (.ref h_nn) (.ref h_na) (.ref h_nb) (.ref h_nc) (.ref h_mny) (.ref h_isn) (.ref h_tem) (.ref h_bto) (.ref h_bin) (.ref h_tra) (.int x21) (.int x22) (.int x23)))), (h_nv, .inl (cy_nv, 8000, .inl f_nv)), (h_na, .inl (cy_na, 8000, .inl f_na)), (h_nb, .inl (cy_nb, 8000, .inl f_nb)), (h_nc, .inl (cy_nc, 8000, .inl f_nc)), (h_bto, .inl (cy_bto, 256, .inl f24)), (h_bin, .inl (cy_bin, 256, .inl f25)), (h_nn, .inl (cy_nn, 8000, .inr (.inl f_nn))), (h_tra, .inl (cy_tra, 256, .inl f26)), (h_mny, .inl (cy_mny, 32, .inl f_mny)), (h_isn, .inl (cy_isn, 192, .inl f_isn)), (h_tem, .inl (cy_tem, 192, .inl f_tem))]) [0, 1, 2, 3, 4, 5, 6, 7, 8, 9, 10, 11] rfl
                have hDc := hD.sub (ws' := [(h_mm, .inr (8, (mo141 vq37 (.ref h_nv) (.ref h_nn) (.ref h_na) (.ref h_nb) (.ref h_nc) (.ref h_mny) (.ref h_isn) (.ref h_tem) (.ref h_bto) (.ref h_bin) (.ref h_tra) (.int x21) (.int x22) (.int x23)))), (h_nv, .inl (cy_nv, 8000, .inl f_nv)), (h_na, .inl (cy_na, 8000, .inl f_na)), (h_nb, .inl (cy_nb, 8000, .inl f_nb)), (h_nc, .inl (cy_nc, 8000, .inl f_nc)), (h_bto, .inl (cy_bto, 256, .inl f24)), (h_bin, .inl (cy_bin, 256, .inl f25)), (h_nn, .inl (cy_nn, 8000, .inr (.inl f_nn))), (h_tra, .inl (cy_tra, 256, .inl f26)), (h_mny, .inl (cy_mny, 32, .inl f_mny)), (h_isn, .inl (cy_isn, 192, .inl f_isn)), (h_tem, .inl (cy_tem, 192, .inl f_tem))]) [0, 1, 2, 3, 4, 5, 6, 7, 8, 9, 10, 11] (by decide) rfl
                have hKc := hK.sub (tys' := [(cy_nv, .int), (cy_na, .int), (cy_nb, .int), (cy_nc, .int), (cy_bto, .int), (cy_bin, .int), (cy_nn, .long), (cy_tra, .int), (cy_mny, .int), (cy_isn, .boolean), (cy_tem, .int)]) [0, 1, 2, 3, 4, 5, 6, 7, 8, 9, 10] rfl
                have hFc := va_free (wc := [(h_mm, .inr (8, (mo141 vq37 (.ref h_nv) (.ref h_nn) (.ref h_na) (.ref h_nb) (.ref h_nc) (.ref h_mny) (.ref h_isn) (.ref h_tem) (.ref h_bto) (.ref h_bin) (.ref h_tra) (.int x21) (.int x22) (.int x23)))), (h_nv, .inl (cy_nv, 8000, .inl f_nv)), (h_na, .inl (cy_na, 8000, .inl f_na)), (h_nb, .inl (cy_nb, 8000, .inl f_nb)), (h_nc, .inl (cy_nc, 8000, .inl f_nc)), (h_bto, .inl (cy_bto, 256, .inl f24)), (h_bin, .inl (cy_bin, 256, .inl f25)), (h_nn, .inl (cy_nn, 8000, .inr (.inl f_nn))), (h_tra, .inl (cy_tra, 256, .inl f26)), (h_mny, .inl (cy_mny, 32, .inl f_mny)), (h_isn, .inl (cy_isn, 192, .inl f_isn)), (h_tem, .inl (cy_tem, 192, .inl f_tem))]) hD hS hA [0, 1, 2, 3, 4, 5, 6, 7, 8, 9, 10, 11] rfl
                refine va_calli (va_runV (As := [.int p1, .int p2, .int x2, .int x20]) (rest := []) ⟨hx, hb, hml, hown, hts⟩ (c_X11_doMeet l dC dI H.size h_mm h_nv h_na h_nb h_nc h_bto h_bin h_nn h_tra h_mny h_isn h_tem vq37 x21 x22 x23 cy_nv f_nv cy_na f_na cy_nb f_nb cy_nc f_nc cy_bto f24 cy_bin f25 cy_nn f_nn cy_tra f26 cy_mny f_mny cy_isn f_isn cy_tem f_tem p1 p2 x2 x20 N hz (x_mm_clauses).toInt mf (by first | exact klp27_2 | omega) (by first | exact klp27_3 | omega) (by first | exact klp27_4 | omega) hf_nv hf_na hf_nb hf_nc hf24 hf25 hf26 hf_mny hf_isn hf_tem (by first | exact q0 | omega) (by first | exact q1 | omega) (by omega) (by omega) (by omega) (by first | exact q3 | omega) (by first | exact q2 | omega) (by omega) hn_nds hn_tms (sam_free klp27_14 hn_fre) (trl_cast klp27_15 (by omega)) hn_mfr) (cwV 4 hts (gv hT w_m_X11_304 w_instanceMethod_X11_doMeet ws_sel_X11_doMeet w_ini_X11 w_code_X11_doMeet) rfl rfl rfl (by decide +kernel) ⟨(Nat.le_of_ble_eq_true rfl), (Nat.le_of_ble_eq_true rfl)⟩) ⟨pre_blind, va_recv hK hP (ci := 8) (q0 := 0) rfl rfl, pre_of hPc hKc hDc hN⟩ rfl rfl hl.1 rfl (lv_room (Nat.le_of_ble_eq_true rfl)) dX11_partnersIn_47 ⟨(Nat.le_of_ble_eq_true rfl), (Nat.le_of_ble_eq_true rfl)⟩) hS (fun q _ h => hFc q h) hFc (fun r38 u t H locs ht hvm hq hB hz1 hk1 hS9 => ?_)
                obtain ⟨z39, z40, z41, f42, f43, f44⟩ := u
                obtain ⟨hP1, hD1⟩ := hB
                rw [ht] at hP1
                obtain ⟨hP9, hD9⟩ := va_join (wr := []) (w1 := [(h_mm, .inr (8, (mo141 vq37 (.ref h_nv) (.ref h_nn) (.ref h_na) (.ref h_nb) (.ref h_nc) (.ref h_mny) (.ref h_isn) (.ref h_tem) (.ref h_bto) (.ref h_bin) (.ref h_tra) (.int z39) (.int z40) (.int z41)))), (h_nv, .inl (cy_nv, 8000, .inl f_nv)), (h_na, .inl (cy_na, 8000, .inl f_na)), (h_nb, .inl (cy_nb, 8000, .inl f_nb)), (h_nc, .inl (cy_nc, 8000, .inl f_nc)), (h_bto, .inl (cy_bto, 256, .inl f42)), (h_bin, .inl (cy_bin, 256, .inl f43)), (h_nn, .inl (cy_nn, 8000, .inr (.inl f_nn))), (h_tra, .inl (cy_tra, 256, .inl f44)), (h_mny, .inl (cy_mny, 32, .inl f_mny)), (h_isn, .inl (cy_isn, 192, .inl f_isn)), (h_tem, .inl (cy_tem, 192, .inl f_tem))]) hP hD [0, 1, 2, 3, 4, 5, 6, 7, 8, 9, 10, 11] [] rfl rfl (by decide) (by decide) hk1 hFc hP1 hD1
                clear hP hD hS hPc hDc hKc hFc hP1 hD1 hk1 hz1 ht hvm
                have hP : va_P (dC, dI) cls [(h_mm, .inr (8, (mo141 vq37 (.ref h_nv) (.ref h_nn) (.ref h_na) (.ref h_nb) (.ref h_nc) (.ref h_mny) (.ref h_isn) (.ref h_tem) (.ref h_bto) (.ref h_bin) (.ref h_tra) (.int z39) (.int z40) (.int z41)))), (h_nv, .inl (cy_nv, 8000, .inl f_nv)), (h_na, .inl (cy_na, 8000, .inl f_na)), (h_nb, .inl (cy_nb, 8000, .inl f_nb)), (h_nc, .inl (cy_nc, 8000, .inl f_nc)), (h_bto, .inl (cy_bto, 256, .inl f42)), (h_bin, .inl (cy_bin, 256, .inl f43)), (h_nn, .inl (cy_nn, 8000, .inr (.inl f_nn))), (h_tra, .inl (cy_tra, 256, .inl f44)), (h_mny, .inl (cy_mny, 32, .inl f_mny)), (h_isn, .inl (cy_isn, 192, .inl f_isn)), (h_tem, .inl (cy_tem, 192, .inl f_tem))] H := hP9
                have hD : va_D A [(h_mm, .inr (8, (mo141 vq37 (.ref h_nv) (.ref h_nn) (.ref h_na) (.ref h_nb) (.ref h_nc) (.ref h_mny) (.ref h_isn) (.ref h_tem) (.ref h_bto) (.ref h_bin) (.ref h_tra) (.int z39) (.int z40) (.int z41)))), (h_nv, .inl (cy_nv, 8000, .inl f_nv)), (h_na, .inl (cy_na, 8000, .inl f_na)), (h_nb, .inl (cy_nb, 8000, .inl f_nb)), (h_nc, .inl (cy_nc, 8000, .inl f_nc)), (h_bto, .inl (cy_bto, 256, .inl f42)), (h_bin, .inl (cy_bin, 256, .inl f43)), (h_nn, .inl (cy_nn, 8000, .inr (.inl f_nn))), (h_tra, .inl (cy_tra, 256, .inl f44)), (h_mny, .inl (cy_mny, 32, .inl f_mny)), (h_isn, .inl (cy_isn, 192, .inl f_isn)), (h_tem, .inl (cy_tem, 192, .inl f_tem))] := hD9
                have hS := hS9
                clear hP9 hD9 hS9
                rw [evq37] at hP hD
                replace hP : va_P (dC, dI) cls [(h_mm, .inr (8, (mo142 v_mm (.ref h_nv) (.ref h_nn) (.ref h_na) (.ref h_nb) (.ref h_nc) (.int x_mm_clauses) (.ref h_mny) (.ref h_isn) (.ref h_tem) (.ref h_bto) (.ref h_bin) (.ref h_tra) (.int z39) (.int z40) (.int z41)))), (h_nv, .inl (cy_nv, 8000, .inl f_nv)), (h_na, .inl (cy_na, 8000, .inl f_na)), (h_nb, .inl (cy_nb, 8000, .inl f_nb)), (h_nc, .inl (cy_nc, 8000, .inl f_nc)), (h_bto, .inl (cy_bto, 256, .inl f42)), (h_bin, .inl (cy_bin, 256, .inl f43)), (h_nn, .inl (cy_nn, 8000, .inr (.inl f_nn))), (h_tra, .inl (cy_tra, 256, .inl f44)), (h_mny, .inl (cy_mny, 32, .inl f_mny)), (h_isn, .inl (cy_isn, 192, .inl f_isn)), (h_tem, .inl (cy_tem, 192, .inl f_tem))] H := hP
                replace hD : va_D A [(h_mm, .inr (8, (mo142 v_mm (.ref h_nv) (.ref h_nn) (.ref h_na) (.ref h_nb) (.ref h_nc) (.int x_mm_clauses) (.ref h_mny) (.ref h_isn) (.ref h_tem) (.ref h_bto) (.ref h_bin) (.ref h_tra) (.int z39) (.int z40) (.int z41)))), (h_nv, .inl (cy_nv, 8000, .inl f_nv)), (h_na, .inl (cy_na, 8000, .inl f_na)), (h_nb, .inl (cy_nb, 8000, .inl f_nb)), (h_nc, .inl (cy_nc, 8000, .inl f_nc)), (h_bto, .inl (cy_bto, 256, .inl f42)), (h_bin, .inl (cy_bin, 256, .inl f43)), (h_nn, .inl (cy_nn, 8000, .inr (.inl f_nn))), (h_tra, .inl (cy_tra, 256, .inl f44)), (h_mny, .inl (cy_mny, 32, .inl f_mny)), (h_isn, .inl (cy_isn, 192, .inl f_isn)), (h_tem, .inl (cy_tem, 192, .inl f_tem))] := hD
                clear evq37 
                obtain ⟨k45, k46, k47, hf42, hf43, hf44, k48, k49, k50, k51, k52⟩ := hq
                replace k45 : 0 ≤ ((z39)).toInt ∧ ((z39)).toInt ≤ 256 := k45
                replace k46 : 0 ≤ ((z40)).toInt ∧ ((z40)).toInt ≤ 7999 := k46
                replace k47 : 0 ≤ ((z41)).toInt ∧ ((z41)).toInt ≤ 31 := k47
                replace hf42 : Rg (-1) 7999 (f42) := hf42
                replace hf43 : Rg 0 31 (f43) := hf43
                replace hf44 : Rg 0 255 (f44) := hf44
                replace k48 : 0 ≤ (r38).toInt ∧ (r38).toInt ≤ 1 := k48
                replace k49 : ((z39)).toInt = ((x21)).toInt := k49
                replace k50 : ((r38)).toInt = (mf) ((p1)).toInt.toNat ((p2)).toInt.toNat ((x2)).toInt.toNat ((x20)).toInt.toNat := k50
                replace k51 : SAM (f24) (f25) (f42) (f43) := k51
                replace k52 : TRL ((z39)).toInt (f44) (f42) := k52
                have sm53 : SAM f_bto f_bin f42 f43 := sam_trans klp27_14 k51
                refine lv_if_eq (tgt := 59) hx hb dX11_partnersIn_50 (by decide) (fun c54 => ?_) (fun c54 => ?_)
                · have kc54 := (cv_eq (rfl : (r38).toInt = (r38).toInt) (by decide : (0 : Int32).toInt = 0)).mp c54
                  have ps9 : prS ((mf (p1).toInt.toNat (p2).toInt.toNat) (Int.toNat ((x2).toInt))) (Int.toNat ((x20).toInt + 1)) = prS ((mf (p1).toInt.toNat (p2).toInt.toNat) (Int.toNat ((x2).toInt))) (Int.toNat ((x20).toInt)) + (mf (p1).toInt.toNat (p2).toInt.toNat) (Int.toNat ((x2).toInt)) (Int.toNat ((x20).toInt)) := by rw [show Int.toNat ((x20).toInt + 1) = Int.toNat ((x20).toInt) + 1 by omega]; rfl
                  obtain ⟨z55, ez55⟩ : ∃ y : Int32, y = x20 + 1 := ⟨_, rfl⟩
                  have tz55 : (z55).toInt = (x20).toInt + 1 := by rw [ez55]; exact i_add rfl (by decide) (by omega)
                  refine lv_iinc (v := z55) (lv' := [(6, .int z55), (0, .ref h_mm), (1, .int p1), (2, .int p2), (3, .int p3), (4, .int x19), (5, .int x2)]) hx hb dX11_partnersIn_59 hl (k := 6) rfl (by rw [ez55]; rfl) (by decide) rfl (fun ls hl => ?_)
                  refine lv_goto (tgt := 18) hx hb dX11_partnersIn_62 (by decide) ?_
                  rw [← tz55] at ps9
                  exact ih28 (x19) (z55) (z39) (z40) (z41) (f42) (f43) (f44) _ _ _ (by first | exact klp27_0 | omega) (by omega) (by first | exact k45 | omega) (by first | exact k46 | omega) (by first | exact k47 | omega) hf42 hf43 hf44 (by omega) (by omega) (by omega) (by omega) (by first | exact klp27_12 | omega) (by omega) sm53 (trl_cast k52 (by omega)) (by omega) hP hD hS (lv_sub hl [1, 2, 3, 4, 5, 6, 0] rfl)
                · have kc54 := (not_congr (cv_eq (rfl : (r38).toInt = (r38).toInt) (by decide : (0 : Int32).toInt = 0))).mp c54
                  refine lv_iload hx hb dX11_partnersIn_53 (lv_at hl 4 rfl) ?_
                  refine lv_iconst (v := 1) hx hb dX11_partnersIn_55 (by decide) ?_
                  refine lv_iadd hx hb dX11_partnersIn_56 ?_
                  refine lv_topi (fun z56 ez56 => ?_)
                  have tz56 : (z56).toInt = (x19).toInt + 1 := by rw [ez56]; exact i_add rfl (by decide) (by omega)
                  refine lv_istore (lv' := [(4, .int z56), (0, .ref h_mm), (1, .int p1), (2, .int p2), (3, .int p3), (5, .int x2), (6, .int x20)]) hx hb dX11_partnersIn_57 hl (by decide) rfl (fun ls hl => ?_)
                  have ps9 : prS ((mf (p1).toInt.toNat (p2).toInt.toNat) (Int.toNat ((x2).toInt))) (Int.toNat ((x20).toInt + 1)) = prS ((mf (p1).toInt.toNat (p2).toInt.toNat) (Int.toNat ((x2).toInt))) (Int.toNat ((x20).toInt)) + (mf (p1).toInt.toNat (p2).toInt.toNat) (Int.toNat ((x2).toInt)) (Int.toNat ((x20).toInt)) := by rw [show Int.toNat ((x20).toInt + 1) = Int.toNat ((x20).toInt) + 1 by omega]; rfl
                  obtain ⟨z57, ez57⟩ : ∃ y : Int32, y = x20 + 1 := ⟨_, rfl⟩
                  have tz57 : (z57).toInt = (x20).toInt + 1 := by rw [ez57]; exact i_add rfl (by decide) (by omega)
                  refine lv_iinc (v := z57) (lv' := [(6, .int z57), (4, .int z56), (0, .ref h_mm), (1, .int p1), (2, .int p2), (3, .int p3), (5, .int x2)]) hx hb dX11_partnersIn_59 hl (k := 6) rfl (by rw [ez57]; rfl) (by decide) rfl (fun ls hl => ?_)
                  refine lv_goto (tgt := 18) hx hb dX11_partnersIn_62 (by decide) ?_
                  rw [← tz57] at ps9
                  exact ih28 (z56) (z57) (z39) (z40) (z41) (f42) (f43) (f44) _ _ _ (by omega) (by omega) (by first | exact k45 | omega) (by first | exact k46 | omega) (by first | exact k47 | omega) hf42 hf43 hf44 (by omega) (by omega) (by omega) (by omega) (by first | exact klp27_12 | omega) (by omega) sm53 (trl_cast k52 (by omega)) (by omega) hP hD hS (lv_sub hl [2, 3, 4, 5, 1, 6, 0] rfl)
        have cst0 : (0 : Int32).toInt = 0 := by decide
        exact lp27 _ (x1) (0) (x3) (x4) (x5) (f6) (f7) (f8) _ _ _ (by omega) (by decide) (by first | exact klp9_2 | omega) (by first | exact klp9_3 | omega) (by first | exact klp9_4 | omega) hf6 hf7 hf8 (by omega) (by omega) (by omega) (by omega) (by omega) (by first | exact klp9_11 | omega) klp9_12 (trl_cast klp9_13 (by omega)) (Nat.le_refl _) hP hD hS (lv_sub hl [1, 2, 3, 4, 5, 6, 0] rfl)
  have cst0 : (0 : Int32).toInt = 0 := by decide
  exact lp9 _ (0) (0) (x_mm_trailed) (x_mm_goneTo) (x_mm_goneIn) (f_bto) (f_bin) (f_tra) _ _ _ (by decide) (by decide) (by first | exact hx_mm_trailed | omega) (by first | exact hx_mm_goneTo | omega) (by first | exact hx_mm_goneIn | omega) hf_bto hf_bin hf_tra (by omega) (by omega) (by omega) (by omega) sam0 (trl_cast hn_trl (by omega)) (Nat.le_refl _) hP hD hS (lv_sub hl [2, 3, 4, 5, 1, 0] rfl)

set_option maxHeartbeats 8000000 in
set_option maxRecDepth 100000 in
theorem c_X11_partners (l : Launch) (dC : Nat → ClassId) (dI : Nat → Nat → Nat) (sz : Nat) (h_mm : Nat) (h_nv : Nat) (h_na : Nat) (h_nb : Nat) (h_nc : Nat) (h_bto : Nat) (h_bin : Nat) (h_nn : Nat) (h_tra : Nat) (h_mny : Nat) (h_isn : Nat) (h_tem : Nat) (v_mm : Nat → Value) (x_mm_clauses : Int32) (x_mm_trailed : Int32) (x_mm_goneTo : Int32) (x_mm_goneIn : Int32) (cy_nv : ClassId) (f_nv : Nat → Int32) (cy_na : ClassId) (f_na : Nat → Int32) (cy_nb : ClassId) (f_nb : Nat → Int32) (cy_nc : ClassId) (f_nc : Nat → Int32) (cy_bto : ClassId) (f_bto : Nat → Int32) (cy_bin : ClassId) (f_bin : Nat → Int32) (cy_nn : ClassId) (f_nn : Nat → Int64) (cy_tra : ClassId) (f_tra : Nat → Int32) (cy_mny : ClassId) (f_mny : Nat → Int32) (cy_isn : ClassId) (f_isn : Nat → Int32) (cy_tem : ClassId) (f_tem : Nat → Int32) (p1 : Int32) (p2 : Int32) (N : Int) (hz : Nat → Nat) (mf : MFT) (hx_mm_clauses : 0 ≤ (x_mm_clauses).toInt ∧ (x_mm_clauses).toInt ≤ 16) (hx_mm_trailed : 0 ≤ (x_mm_trailed).toInt ∧ (x_mm_trailed).toInt ≤ 256) (hx_mm_goneTo : 0 ≤ (x_mm_goneTo).toInt ∧ (x_mm_goneTo).toInt ≤ 7999) (hx_mm_goneIn : 0 ≤ (x_mm_goneIn).toInt ∧ (x_mm_goneIn).toInt ≤ 31) (hf_nv : Rg (-1) 7 f_nv) (hf_na : Rg (-1) 7999 f_na) (hf_nb : Rg (-1) 7999 f_nb) (hf_nc : Rg (-1) 7999 f_nc) (hf_bto : Rg (-1) 7999 f_bto) (hf_bin : Rg 0 31 f_bin) (hf_tra : Rg 0 255 f_tra) (hf_mny : Rg 0 6 f_mny) (hf_isn : Rg 0 1 f_isn) (hf_tem : Rg 0 7999 f_tem) (q0 : N ≤ 8000) (hn_nds : ND 0 N hz f_na f_nb f_nc) (hn_tms : TM 0 N hz 0 (x_mm_clauses).toInt f_mny f_tem) (hn_fre : FRE f_bto) (hn_trl : TRL (x_mm_trailed).toInt f_tra f_bto) (hn_mfr : MFN (RGW f_nn f_nv f_na f_nb f_nc) (mlC f_mny) (ndC f_tem) (sgR f_isn) 240000 248000 (x_mm_clauses).toInt mf) : Met l yX11_partners (Ws yX11_partners cX11_partners 3 (some .int)) (({ frames := 1550, cells := 0, slots := 0, locals := 44928 } : Room)) (PRE (dC, dI) cls [(cy_nv, .int), (cy_na, .int), (cy_nb, .int), (cy_nc, .int), (cy_bto, .int), (cy_bin, .int), (cy_nn, .long), (cy_tra, .int), (cy_mny, .int), (cy_isn, .boolean), (cy_tem, .int)] [(h_mm, .inr (8, (mo142 v_mm (.ref h_nv) (.ref h_nn) (.ref h_na) (.ref h_nb) (.ref h_nc) (.int x_mm_clauses) (.ref h_mny) (.ref h_isn) (.ref h_tem) (.ref h_bto) (.ref h_bin) (.ref h_tra) (.int x_mm_trailed) (.int x_mm_goneTo) (.int x_mm_goneIn)))), (h_nv, .inl (cy_nv, 8000, .inl f_nv)), (h_na, .inl (cy_na, 8000, .inl f_na)), (h_nb, .inl (cy_nb, 8000, .inl f_nb)), (h_nc, .inl (cy_nc, 8000, .inl f_nc)), (h_bto, .inl (cy_bto, 256, .inl f_bto)), (h_bin, .inl (cy_bin, 256, .inl f_bin)), (h_nn, .inl (cy_nn, 8000, .inr (.inl f_nn))), (h_tra, .inl (cy_tra, 256, .inl f_tra)), (h_mny, .inl (cy_mny, 32, .inl f_mny)), (h_isn, .inl (cy_isn, 192, .inl f_isn)), (h_tem, .inl (cy_tem, 192, .inl f_tem))] sz [.ref h_mm, .int p1, .int p2]) (va_Qi (fun (r : Int32) (u : (Int32) × (Int32) × (Int32) × (Int32) × (Nat → Int32) × (Nat → Int32) × (Nat → Int32)) => (0 ≤ (u.2.1).toInt ∧ (u.2.1).toInt ≤ 256) ∧ (0 ≤ (u.2.2.1).toInt ∧ (u.2.2.1).toInt ≤ 7999) ∧ (0 ≤ (u.2.2.2.1).toInt ∧ (u.2.2.2.1).toInt ≤ 31) ∧ (Rg (-1) 7999 u.2.2.2.2.1) ∧ (Rg 0 31 u.2.2.2.2.2.1) ∧ (Rg 0 255 u.2.2.2.2.2.2) ∧ ((u.2.1).toInt = (x_mm_trailed).toInt) ∧ (SAM f_bto f_bin u.2.2.2.2.1 u.2.2.2.2.2.1) ∧ (TRL (u.2.1).toInt u.2.2.2.2.2.2 u.2.2.2.2.1) ∧ (PTV mf (mlC f_mny) (x_mm_clauses).toInt (p1).toInt (p2).toInt (r).toInt)) (fun (u : (Int32) × (Int32) × (Int32) × (Int32) × (Nat → Int32) × (Nat → Int32) × (Nat → Int32)) (t : State) => va_P (dC, dI) cls [(h_mm, .inr (8, (mo143 v_mm (.int u.1) (.ref h_nv) (.ref h_nn) (.ref h_na) (.ref h_nb) (.ref h_nc) (.int x_mm_clauses) (.ref h_mny) (.ref h_isn) (.ref h_tem) (.ref h_bto) (.ref h_bin) (.ref h_tra) (.int u.2.1) (.int u.2.2.1) (.int u.2.2.2.1)))), (h_nv, .inl (cy_nv, 8000, .inl f_nv)), (h_na, .inl (cy_na, 8000, .inl f_na)), (h_nb, .inl (cy_nb, 8000, .inl f_nb)), (h_nc, .inl (cy_nc, 8000, .inl f_nc)), (h_bto, .inl (cy_bto, 256, .inl u.2.2.2.2.1)), (h_bin, .inl (cy_bin, 256, .inl u.2.2.2.2.2.1)), (h_nn, .inl (cy_nn, 8000, .inr (.inl f_nn))), (h_tra, .inl (cy_tra, 256, .inl u.2.2.2.2.2.2)), (h_mny, .inl (cy_mny, 32, .inl f_mny)), (h_isn, .inl (cy_isn, 192, .inl f_isn)), (h_tem, .inl (cy_tem, 192, .inl f_tem))] t.heap ∧ va_D (va_A [(h_mm, .inr (8, (mo142 v_mm (.ref h_nv) (.ref h_nn) (.ref h_na) (.ref h_nb) (.ref h_nc) (.int x_mm_clauses) (.ref h_mny) (.ref h_isn) (.ref h_tem) (.ref h_bto) (.ref h_bin) (.ref h_tra) (.int x_mm_trailed) (.int x_mm_goneTo) (.int x_mm_goneIn)))), (h_nv, .inl (cy_nv, 8000, .inl f_nv)), (h_na, .inl (cy_na, 8000, .inl f_na)), (h_nb, .inl (cy_nb, 8000, .inl f_nb)), (h_nc, .inl (cy_nc, 8000, .inl f_nc)), (h_bto, .inl (cy_bto, 256, .inl f_bto)), (h_bin, .inl (cy_bin, 256, .inl f_bin)), (h_nn, .inl (cy_nn, 8000, .inr (.inl f_nn))), (h_tra, .inl (cy_tra, 256, .inl f_tra)), (h_mny, .inl (cy_mny, 32, .inl f_mny)), (h_isn, .inl (cy_isn, 192, .inl f_isn)), (h_tem, .inl (cy_tem, 192, .inl f_tem))] sz) [(h_mm, .inr (8, (mo143 v_mm (.int u.1) (.ref h_nv) (.ref h_nn) (.ref h_na) (.ref h_nb) (.ref h_nc) (.int x_mm_clauses) (.ref h_mny) (.ref h_isn) (.ref h_tem) (.ref h_bto) (.ref h_bin) (.ref h_tra) (.int u.2.1) (.int u.2.2.1) (.int u.2.2.2.1)))), (h_nv, .inl (cy_nv, 8000, .inl f_nv)), (h_na, .inl (cy_na, 8000, .inl f_na)), (h_nb, .inl (cy_nb, 8000, .inl f_nb)), (h_nc, .inl (cy_nc, 8000, .inl f_nc)), (h_bto, .inl (cy_bto, 256, .inl u.2.2.2.2.1)), (h_bin, .inl (cy_bin, 256, .inl u.2.2.2.2.2.1)), (h_nn, .inl (cy_nn, 8000, .inr (.inl f_nn))), (h_tra, .inl (cy_tra, 256, .inl u.2.2.2.2.2.2)), (h_mny, .inl (cy_mny, 32, .inl f_mny)), (h_isn, .inl (cy_isn, 192, .inl f_isn)), (h_tem, .inl (cy_tem, 192, .inl f_tem))]) (va_A [(h_mm, .inr (8, (mo142 v_mm (.ref h_nv) (.ref h_nn) (.ref h_na) (.ref h_nb) (.ref h_nc) (.int x_mm_clauses) (.ref h_mny) (.ref h_isn) (.ref h_tem) (.ref h_bto) (.ref h_bin) (.ref h_tra) (.int x_mm_trailed) (.int x_mm_goneTo) (.int x_mm_goneIn)))), (h_nv, .inl (cy_nv, 8000, .inl f_nv)), (h_na, .inl (cy_na, 8000, .inl f_na)), (h_nb, .inl (cy_nb, 8000, .inl f_nb)), (h_nc, .inl (cy_nc, 8000, .inl f_nc)), (h_bto, .inl (cy_bto, 256, .inl f_bto)), (h_bin, .inl (cy_bin, 256, .inl f_bin)), (h_nn, .inl (cy_nn, 8000, .inr (.inl f_nn))), (h_tra, .inl (cy_tra, 256, .inl f_tra)), (h_mny, .inl (cy_mny, 32, .inl f_mny)), (h_isn, .inl (cy_isn, 192, .inl f_isn)), (h_tem, .inl (cy_tem, 192, .inl f_tem))] sz)) 0 0 (va_A [(h_mm, .inr (8, (mo142 v_mm (.ref h_nv) (.ref h_nn) (.ref h_na) (.ref h_nb) (.ref h_nc) (.int x_mm_clauses) (.ref h_mny) (.ref h_isn) (.ref h_tem) (.ref h_bto) (.ref h_bin) (.ref h_tra) (.int x_mm_trailed) (.int x_mm_goneTo) (.int x_mm_goneIn)))), (h_nv, .inl (cy_nv, 8000, .inl f_nv)), (h_na, .inl (cy_na, 8000, .inl f_na)), (h_nb, .inl (cy_nb, 8000, .inl f_nb)), (h_nc, .inl (cy_nc, 8000, .inl f_nc)), (h_bto, .inl (cy_bto, 256, .inl f_bto)), (h_bin, .inl (cy_bin, 256, .inl f_bin)), (h_nn, .inl (cy_nn, 8000, .inr (.inl f_nn))), (h_tra, .inl (cy_tra, 256, .inl f_tra)), (h_mny, .inl (cy_mny, 32, .inl f_mny)), (h_isn, .inl (cy_isn, 192, .inl f_isn)), (h_tem, .inl (cy_tem, 192, .inl f_tem))] sz) := by
  refine Met.ofW (cc := cX11_partners) (maxL := 3) (ret := (some .int)) (by decide) rfl ?_
  intro p e s m args below meth c s₁ B hml hv
  obtain ⟨rfl, hsz, hP, hK, hD0, hN⟩ := hv
  have hx := B.exec
  have hb := B.bytes
  have hr := B.returns
  have hts := atoms_spec (ws := Ws yX11_partners cX11_partners 3 (some .int)) B.pre
  have hT : ∀ w ∈ WALL, w ∈ Ws yX11_partners cX11_partners 3 (some .int) := fun w h => List.mem_cons_of_mem _ h
  have hw := fun w (h : w ∈ WALL) => hts w (hT w h)
  have hown : s.vm.findClass RX11 = some m.cls := findClass_of_methodNamed B.named
  have hlocks := B.notSynchronized
  subst hsz
  have hD := hD0.self (sz := s.heap.size)
  generalize hAe : va_A [(h_mm, .inr (8, (mo142 v_mm (.ref h_nv) (.ref h_nn) (.ref h_na) (.ref h_nb) (.ref h_nc) (.int x_mm_clauses) (.ref h_mny) (.ref h_isn) (.ref h_tem) (.ref h_bto) (.ref h_bin) (.ref h_tra) (.int x_mm_trailed) (.int x_mm_goneTo) (.int x_mm_goneIn)))), (h_nv, .inl (cy_nv, 8000, .inl f_nv)), (h_na, .inl (cy_na, 8000, .inl f_na)), (h_nb, .inl (cy_nb, 8000, .inl f_nb)), (h_nc, .inl (cy_nc, 8000, .inl f_nc)), (h_bto, .inl (cy_bto, 256, .inl f_bto)), (h_bin, .inl (cy_bin, 256, .inl f_bin)), (h_nn, .inl (cy_nn, 8000, .inr (.inl f_nn))), (h_tra, .inl (cy_tra, 256, .inl f_tra)), (h_mny, .inl (cy_mny, 32, .inl f_mny)), (h_isn, .inl (cy_isn, 192, .inl f_isn)), (h_tem, .inl (cy_tem, 192, .inl f_tem))] s.heap.size = A at hD ⊢
  have hA : ∀ q : Nat, s.heap.size ≤ q → A q := fun q h => by rw [← hAe]; exact Or.inr h
  have hS : va_S A s.heap s.heap [] := va_S.rf
  have hl := lv_entry ([.ref h_mm, .int p1, .int p2]) (n := 3) (Nat.le_of_ble_eq_true rfl)
  rw [lg_entry_eq]
  generalize (lg_sl ([.ref h_mm, .int p1, .int p2]) ++ List.replicate (3 - (lg_sl ([.ref h_mm, .int p1, .int p2])).length) Slot.unset).toArray = ls at hl ⊢
  have hl : lv_has ls 3 [(0, .ref h_mm), (1, .int p1), (2, .int p2)] := hl
  have sam0 : SAM f_bto f_bin f_bto f_bin := sam_refl
  refine lv_aload_n hx hb dX11_partners_0 rfl (lv_at hl 0 rfl) ?_
  refine lv_iconst (v := 0) hx hb dX11_partners_1 (by decide) ?_
  refine va_put (D := (dC, dI)) (ci := 8) (v := .int 0) (ty := tyX11 0) (C := RX11) (T := TX11) (N := 71) hx hb hw iwX11 tyX11 tyX11_ok nmX11 hown hK hP hD hS 0 rfl rfl 0 (by decide) (hw _ w_f_X11_1) (fun _ h9 => h9) rfl (tyX11_ok 0 (by decide)) rfl rfl (Nat.le_of_ble_eq_true rfl) dX11_partners_2 (fun H locs hP9 hD9 hS9 => ?_)
  clear hP hD hS
  have hP : va_P (dC, dI) cls [(h_mm, .inr (8, (mo143 v_mm (.int 0) (.ref h_nv) (.ref h_nn) (.ref h_na) (.ref h_nb) (.ref h_nc) (.int x_mm_clauses) (.ref h_mny) (.ref h_isn) (.ref h_tem) (.ref h_bto) (.ref h_bin) (.ref h_tra) (.int x_mm_trailed) (.int x_mm_goneTo) (.int x_mm_goneIn)))), (h_nv, .inl (cy_nv, 8000, .inl f_nv)), (h_na, .inl (cy_na, 8000, .inl f_na)), (h_nb, .inl (cy_nb, 8000, .inl f_nb)), (h_nc, .inl (cy_nc, 8000, .inl f_nc)), (h_bto, .inl (cy_bto, 256, .inl f_bto)), (h_bin, .inl (cy_bin, 256, .inl f_bin)), (h_nn, .inl (cy_nn, 8000, .inr (.inl f_nn))), (h_tra, .inl (cy_tra, 256, .inl f_tra)), (h_mny, .inl (cy_mny, 32, .inl f_mny)), (h_isn, .inl (cy_isn, 192, .inl f_isn)), (h_tem, .inl (cy_tem, 192, .inl f_tem))] H := hP9
  have hD : va_D A [(h_mm, .inr (8, (mo143 v_mm (.int 0) (.ref h_nv) (.ref h_nn) (.ref h_na) (.ref h_nb) (.ref h_nc) (.int x_mm_clauses) (.ref h_mny) (.ref h_isn) (.ref h_tem) (.ref h_bto) (.ref h_bin) (.ref h_tra) (.int x_mm_trailed) (.int x_mm_goneTo) (.int x_mm_goneIn)))), (h_nv, .inl (cy_nv, 8000, .inl f_nv)), (h_na, .inl (cy_na, 8000, .inl f_na)), (h_nb, .inl (cy_nb, 8000, .inl f_nb)), (h_nc, .inl (cy_nc, 8000, .inl f_nc)), (h_bto, .inl (cy_bto, 256, .inl f_bto)), (h_bin, .inl (cy_bin, 256, .inl f_bin)), (h_nn, .inl (cy_nn, 8000, .inr (.inl f_nn))), (h_tra, .inl (cy_tra, 256, .inl f_tra)), (h_mny, .inl (cy_mny, 32, .inl f_mny)), (h_isn, .inl (cy_isn, 192, .inl f_isn)), (h_tem, .inl (cy_tem, 192, .inl f_tem))] := hD9
  have hS := hS9
  clear hP9 hD9 hS9
  refine lv_aload_n hx hb dX11_partners_5 rfl (lv_at hl 0 rfl) ?_
  refine lv_iload_n hx hb dX11_partners_6 rfl (lv_at hl 1 rfl) ?_
  refine lv_iload_n hx hb dX11_partners_7 rfl (lv_at hl 2 rfl) ?_
  obtain ⟨vq1, evq1⟩ := mq143_101 v_mm (.int 0) (.ref h_nv) (.ref h_nn) (.ref h_na) (.ref h_nb) (.ref h_nc) (.ref h_isn) (.ref h_tem) (.ref h_bto) (.ref h_bin) (.ref h_tra) (.int x_mm_trailed) (.int x_mm_goneTo) (.int x_mm_goneIn)
  replace hP : va_P (dC, dI) cls [(h_mm, .inr (8, (mo101 vq1 (.int x_mm_clauses) (.ref h_mny)))), (h_nv, .inl (cy_nv, 8000, .inl f_nv)), (h_na, .inl (cy_na, 8000, .inl f_na)), (h_nb, .inl (cy_nb, 8000, .inl f_nb)), (h_nc, .inl (cy_nc, 8000, .inl f_nc)), (h_bto, .inl (cy_bto, 256, .inl f_bto)), (h_bin, .inl (cy_bin, 256, .inl f_bin)), (h_nn, .inl (cy_nn, 8000, .inr (.inl f_nn))), (h_tra, .inl (cy_tra, 256, .inl f_tra)), (h_mny, .inl (cy_mny, 32, .inl f_mny)), (h_isn, .inl (cy_isn, 192, .inl f_isn)), (h_tem, .inl (cy_tem, 192, .inl f_tem))] H := by rw [evq1]; exact hP
  replace hD : va_D A [(h_mm, .inr (8, (mo101 vq1 (.int x_mm_clauses) (.ref h_mny)))), (h_nv, .inl (cy_nv, 8000, .inl f_nv)), (h_na, .inl (cy_na, 8000, .inl f_na)), (h_nb, .inl (cy_nb, 8000, .inl f_nb)), (h_nc, .inl (cy_nc, 8000, .inl f_nc)), (h_bto, .inl (cy_bto, 256, .inl f_bto)), (h_bin, .inl (cy_bin, 256, .inl f_bin)), (h_nn, .inl (cy_nn, 8000, .inr (.inl f_nn))), (h_tra, .inl (cy_tra, 256, .inl f_tra)), (h_mny, .inl (cy_mny, 32, .inl f_mny)), (h_isn, .inl (cy_isn, 192, .inl f_isn)), (h_tem, .inl (cy_tem, 192, .inl f_tem))] := by rw [evq1]; exact hD
  have hPc := hP.sub (ws' := [(h_mm, .inr (8, (mo101 vq1 (.int x_mm_clauses) (.ref h_mny)))), (h_mny, .inl (cy_mny, 32, .inl f_mny))]) [0, 9] rfl
  have hDc := hD.sub (ws' := [(h_mm, .inr (8, (mo101 vq1 (.int x_mm_clauses) (.ref h_mny)))), (h_mny, .inl (cy_mny, 32, .inl f_mny))]) [0, 9] (by decide) rfl
  have hKc := hK.sub (tys' := [(cy_mny, .int)]) [8] rfl
  have hFc := va_free (wc := [(h_mm, .inr (8, (mo101 vq1 (.int x_mm_clauses) (.ref h_mny)))), (h_mny, .inl (cy_mny, 32, .inl f_mny))]) hD hS hA [0, 9] rfl
  refine va_calli (va_runV (As := [.int p1, .int p2]) (rest := []) ⟨hx, hb, hml, hown, hts⟩ (c_X11_isLiteral_g l dC dI H.size h_mm h_mny vq1 x_mm_clauses cy_mny f_mny p1 p2 (by first | exact hx_mm_clauses | omega) hf_mny) (cwV 2 hts (gv hT w_m_X11_300 w_instanceMethod_X11_isLiteral ws_sel_X11_isLiteral w_ini_X11 w_code_X11_isLiteral) rfl rfl rfl (by decide +kernel) ⟨(Nat.le_of_ble_eq_true rfl), (Nat.le_of_ble_eq_true rfl)⟩) ⟨pre_blind, va_recv hK hP (ci := 8) (q0 := 0) rfl rfl, pre_of hPc hKc hDc hN⟩ rfl rfl hl.1 rfl (lv_room (Nat.le_of_ble_eq_true rfl)) dX11_partners_8 ⟨(Nat.le_of_ble_eq_true rfl), (Nat.le_of_ble_eq_true rfl)⟩) hS (fun q _ h => hFc q h) hFc (fun r2 u t H locs ht hvm hq hB hz1 hk1 hS9 => ?_)
  obtain ⟨hP1, hD1⟩ := hB
  rw [ht] at hP1
  obtain ⟨hP9, hD9⟩ := va_join (wr := [(h_nv, .inl (cy_nv, 8000, .inl f_nv)), (h_na, .inl (cy_na, 8000, .inl f_na)), (h_nb, .inl (cy_nb, 8000, .inl f_nb)), (h_nc, .inl (cy_nc, 8000, .inl f_nc)), (h_bto, .inl (cy_bto, 256, .inl f_bto)), (h_bin, .inl (cy_bin, 256, .inl f_bin)), (h_nn, .inl (cy_nn, 8000, .inr (.inl f_nn))), (h_tra, .inl (cy_tra, 256, .inl f_tra)), (h_isn, .inl (cy_isn, 192, .inl f_isn)), (h_tem, .inl (cy_tem, 192, .inl f_tem))]) (w1 := [(h_mm, .inr (8, (mo101 vq1 (.int x_mm_clauses) (.ref h_mny)))), (h_mny, .inl (cy_mny, 32, .inl f_mny))]) hP hD [0, 9] [1, 2, 3, 4, 5, 6, 7, 8, 10, 11] rfl rfl (by decide) (by decide) hk1 hFc hP1 hD1
  clear hP hD hS hPc hDc hKc hFc hP1 hD1 hk1 hz1 ht hvm
  have hP : va_P (dC, dI) cls [(h_nv, .inl (cy_nv, 8000, .inl f_nv)), (h_na, .inl (cy_na, 8000, .inl f_na)), (h_nb, .inl (cy_nb, 8000, .inl f_nb)), (h_nc, .inl (cy_nc, 8000, .inl f_nc)), (h_bto, .inl (cy_bto, 256, .inl f_bto)), (h_bin, .inl (cy_bin, 256, .inl f_bin)), (h_nn, .inl (cy_nn, 8000, .inr (.inl f_nn))), (h_tra, .inl (cy_tra, 256, .inl f_tra)), (h_isn, .inl (cy_isn, 192, .inl f_isn)), (h_tem, .inl (cy_tem, 192, .inl f_tem)), (h_mm, .inr (8, (mo101 vq1 (.int x_mm_clauses) (.ref h_mny)))), (h_mny, .inl (cy_mny, 32, .inl f_mny))] H := hP9
  have hD : va_D A [(h_nv, .inl (cy_nv, 8000, .inl f_nv)), (h_na, .inl (cy_na, 8000, .inl f_na)), (h_nb, .inl (cy_nb, 8000, .inl f_nb)), (h_nc, .inl (cy_nc, 8000, .inl f_nc)), (h_bto, .inl (cy_bto, 256, .inl f_bto)), (h_bin, .inl (cy_bin, 256, .inl f_bin)), (h_nn, .inl (cy_nn, 8000, .inr (.inl f_nn))), (h_tra, .inl (cy_tra, 256, .inl f_tra)), (h_isn, .inl (cy_isn, 192, .inl f_isn)), (h_tem, .inl (cy_tem, 192, .inl f_tem)), (h_mm, .inr (8, (mo101 vq1 (.int x_mm_clauses) (.ref h_mny)))), (h_mny, .inl (cy_mny, 32, .inl f_mny))] := hD9
  have hS := hS9
  clear hP9 hD9 hS9
  rw [evq1] at hP hD
  replace hP : va_P (dC, dI) cls [(h_nv, .inl (cy_nv, 8000, .inl f_nv)), (h_na, .inl (cy_na, 8000, .inl f_na)), (h_nb, .inl (cy_nb, 8000, .inl f_nb)), (h_nc, .inl (cy_nc, 8000, .inl f_nc)), (h_bto, .inl (cy_bto, 256, .inl f_bto)), (h_bin, .inl (cy_bin, 256, .inl f_bin)), (h_nn, .inl (cy_nn, 8000, .inr (.inl f_nn))), (h_tra, .inl (cy_tra, 256, .inl f_tra)), (h_isn, .inl (cy_isn, 192, .inl f_isn)), (h_tem, .inl (cy_tem, 192, .inl f_tem)), (h_mm, .inr (8, (mo143 v_mm (.int 0) (.ref h_nv) (.ref h_nn) (.ref h_na) (.ref h_nb) (.ref h_nc) (.int x_mm_clauses) (.ref h_mny) (.ref h_isn) (.ref h_tem) (.ref h_bto) (.ref h_bin) (.ref h_tra) (.int x_mm_trailed) (.int x_mm_goneTo) (.int x_mm_goneIn)))), (h_mny, .inl (cy_mny, 32, .inl f_mny))] H := hP
  replace hD : va_D A [(h_nv, .inl (cy_nv, 8000, .inl f_nv)), (h_na, .inl (cy_na, 8000, .inl f_na)), (h_nb, .inl (cy_nb, 8000, .inl f_nb)), (h_nc, .inl (cy_nc, 8000, .inl f_nc)), (h_bto, .inl (cy_bto, 256, .inl f_bto)), (h_bin, .inl (cy_bin, 256, .inl f_bin)), (h_nn, .inl (cy_nn, 8000, .inr (.inl f_nn))), (h_tra, .inl (cy_tra, 256, .inl f_tra)), (h_isn, .inl (cy_isn, 192, .inl f_isn)), (h_tem, .inl (cy_tem, 192, .inl f_tem)), (h_mm, .inr (8, (mo143 v_mm (.int 0) (.ref h_nv) (.ref h_nn) (.ref h_na) (.ref h_nb) (.ref h_nc) (.int x_mm_clauses) (.ref h_mny) (.ref h_isn) (.ref h_tem) (.ref h_bto) (.ref h_bin) (.ref h_tra) (.int x_mm_trailed) (.int x_mm_goneTo) (.int x_mm_goneIn)))), (h_mny, .inl (cy_mny, 32, .inl f_mny))] := hD
  clear evq1 
  rcases hq with ⟨rfl, hq⟩ | ⟨rfl, hq⟩
  · replace hq : (0 ≤ ((p1)).toInt) ∧ (((p1)).toInt < ((x_mm_clauses)).toInt) ∧ (0 ≤ ((p2)).toInt) ∧ (((p2)).toInt ≤ 5) ∧ (((p2)).toInt < (f_mny (Int32.toNatClampNeg (p1))).toInt) := hq
    refine lv_if_eq (tgt := 24) hx hb dX11_partners_11 (by decide) (fun c9 => absurd c9 (by decide)) (fun _ => ?_)
    have cla := (congrArg (fun i => (f_mny i).toInt) (clamp_nat (i := p1) (by omega)) : (f_mny (Int32.toNatClampNeg p1)).toInt = (f_mny (p1).toInt.toNat).toInt)
    refine lv_aload_n hx hb dX11_partners_14 rfl (lv_at hl 0 rfl) ?_
    refine lv_iload_n hx hb dX11_partners_15 rfl (lv_at hl 1 rfl) ?_
    refine lv_iload_n hx hb dX11_partners_16 rfl (lv_at hl 2 rfl) ?_
    refine lv_iconst (v := 0) hx hb dX11_partners_17 (by decide) ?_
    obtain ⟨vq3, evq3⟩ := mq143_142 v_mm (.int 0)
    replace hP : va_P (dC, dI) cls [(h_nv, .inl (cy_nv, 8000, .inl f_nv)), (h_na, .inl (cy_na, 8000, .inl f_na)), (h_nb, .inl (cy_nb, 8000, .inl f_nb)), (h_nc, .inl (cy_nc, 8000, .inl f_nc)), (h_bto, .inl (cy_bto, 256, .inl f_bto)), (h_bin, .inl (cy_bin, 256, .inl f_bin)), (h_nn, .inl (cy_nn, 8000, .inr (.inl f_nn))), (h_tra, .inl (cy_tra, 256, .inl f_tra)), (h_isn, .inl (cy_isn, 192, .inl f_isn)), (h_tem, .inl (cy_tem, 192, .inl f_tem)), (h_mm, .inr (8, (mo142 vq3 (.ref h_nv) (.ref h_nn) (.ref h_na) (.ref h_nb) (.ref h_nc) (.int x_mm_clauses) (.ref h_mny) (.ref h_isn) (.ref h_tem) (.ref h_bto) (.ref h_bin) (.ref h_tra) (.int x_mm_trailed) (.int x_mm_goneTo) (.int x_mm_goneIn)))), (h_mny, .inl (cy_mny, 32, .inl f_mny))] H := by rw [evq3]; exact hP
    replace hD : va_D A [(h_nv, .inl (cy_nv, 8000, .inl f_nv)), (h_na, .inl (cy_na, 8000, .inl f_na)), (h_nb, .inl (cy_nb, 8000, .inl f_nb)), (h_nc, .inl (cy_nc, 8000, .inl f_nc)), (h_bto, .inl (cy_bto, 256, .inl f_bto)), (h_bin, .inl (cy_bin, 256, .inl f_bin)), (h_nn, .inl (cy_nn, 8000, .inr (.inl f_nn))), (h_tra, .inl (cy_tra, 256, .inl f_tra)), (h_isn, .inl (cy_isn, 192, .inl f_isn)), (h_tem, .inl (cy_tem, 192, .inl f_tem)), (h_mm, .inr (8, (mo142 vq3 (.ref h_nv) (.ref h_nn) (.ref h_na) (.ref h_nb) (.ref h_nc) (.int x_mm_clauses) (.ref h_mny) (.ref h_isn) (.ref h_tem) (.ref h_bto) (.ref h_bin) (.ref h_tra) (.int x_mm_trailed) (.int x_mm_goneTo) (.int x_mm_goneIn)))), (h_mny, .inl (cy_mny, 32, .inl f_mny))] := by rw [evq3]; exact hD
    have cst0 : (0 : Int32).toInt = 0 := by decide
    have hPc := hP.sub (ws' := [(h_mm, .inr (8, (mo142 vq3 (.ref h_nv) (.ref h_nn) (.ref h_na) (.ref h_nb) (.ref h_nc) (.int x_mm_clauses) (.ref h_mny) (.ref h_isn) (.ref h_tem) (.ref h_bto) (.ref h_bin) (.ref h_tra) (.int x_mm_trailed) (.int x_mm_goneTo) (.int x_mm_goneIn)))), (h_nv, .inl (cy_nv, 8000, .inl f_nv)), (h_na, .inl (cy_na, 8000, .inl f_na)), (h_nb, .inl (cy_nb, 8000, .inl f_nb)), (h_nc, .inl (cy_nc, 8000, .inl f_nc)), (h_bto, .inl (cy_bto, 256, .inl f_bto)), (h_bin, .inl (cy_bin, 256, .inl f_bin)), (h_nn, .inl (cy_nn, 8000, .inr (.inl f_nn))), (h_tra, .inl (cy_tra, 256, .inl f_tra)), (h_mny, .inl (cy_mny, 32, .inl f_mny)), (h_isn, .inl (cy_isn, 192, .inl f_isn)), (h_tem, .inl (cy_tem, 192, .inl f_tem))]) [10, 0, 1, 2, 3, 4, 5, 6, 7, 11, 8, 9] rfl
    have hDc := hD.sub (ws' := [(h_mm, .inr (8, (mo142 vq3 (.ref h_nv) (.ref h_nn) (.ref h_na) (.ref h_nb) (.ref h_nc) (.int x_mm_clauses) (.ref h_mny) (.ref h_isn) (.ref h_tem) (.ref h_bto) (.ref h_bin) (.ref h_tra) (.int x_mm_trailed) (.int x_mm_goneTo) (.int x_mm_goneIn)))), (h_nv, .inl (cy_nv, 8000, .inl f_nv)), (h_na, .inl (cy_na, 8000, .inl f_na)), (h_nb, .inl (cy_nb, 8000, .inl f_nb)), (h_nc, .inl (cy_nc, 8000, .inl f_nc)), (h_bto, .inl (cy_bto, 256, .inl f_bto)), (h_bin, .inl (cy_bin, 256, .inl f_bin)), (h_nn, .inl (cy_nn, 8000, .inr (.inl f_nn))), (h_tra, .inl (cy_tra, 256, .inl f_tra)), (h_mny, .inl (cy_mny, 32, .inl f_mny)), (h_isn, .inl (cy_isn, 192, .inl f_isn)), (h_tem, .inl (cy_tem, 192, .inl f_tem))]) [10, 0, 1, 2, 3, 4, 5, 6, 7, 11, 8, 9] (by decide) rfl
    have hKc := hK.sub (tys' := [(cy_nv, .int), (cy_na, .int), (cy_nb, .int), (cy_nc, .int), (cy_bto, .int), (cy_bin, .int), (cy_nn, .long), (cy_tra, .int), (cy_mny, .int), (cy_isn, .boolean), (cy_tem, .int)]) [0, 1, 2, 3, 4, 5, 6, 7, 8, 9, 10] rfl
    have hFc := va_free (wc := [(h_mm, .inr (8, (mo142 vq3 (.ref h_nv) (.ref h_nn) (.ref h_na) (.ref h_nb) (.ref h_nc) (.int x_mm_clauses) (.ref h_mny) (.ref h_isn) (.ref h_tem) (.ref h_bto) (.ref h_bin) (.ref h_tra) (.int x_mm_trailed) (.int x_mm_goneTo) (.int x_mm_goneIn)))), (h_nv, .inl (cy_nv, 8000, .inl f_nv)), (h_na, .inl (cy_na, 8000, .inl f_na)), (h_nb, .inl (cy_nb, 8000, .inl f_nb)), (h_nc, .inl (cy_nc, 8000, .inl f_nc)), (h_bto, .inl (cy_bto, 256, .inl f_bto)), (h_bin, .inl (cy_bin, 256, .inl f_bin)), (h_nn, .inl (cy_nn, 8000, .inr (.inl f_nn))), (h_tra, .inl (cy_tra, 256, .inl f_tra)), (h_mny, .inl (cy_mny, 32, .inl f_mny)), (h_isn, .inl (cy_isn, 192, .inl f_isn)), (h_tem, .inl (cy_tem, 192, .inl f_tem))]) hD hS hA [10, 0, 1, 2, 3, 4, 5, 6, 7, 11, 8, 9] rfl
    refine va_calli (va_runV (As := [.int p1, .int p2, .int 0]) (rest := []) ⟨hx, hb, hml, hown, hts⟩ (c_X11_partnersIn l dC dI H.size h_mm h_nv h_na h_nb h_nc h_bto h_bin h_nn h_tra h_mny h_isn h_tem vq3 x_mm_clauses x_mm_trailed x_mm_goneTo x_mm_goneIn cy_nv f_nv cy_na f_na cy_nb f_nb cy_nc f_nc cy_bto f_bto cy_bin f_bin cy_nn f_nn cy_tra f_tra cy_mny f_mny cy_isn f_isn cy_tem f_tem p1 p2 0 N hz mf (by first | exact hx_mm_clauses | omega) (by first | exact hx_mm_trailed | omega) (by first | exact hx_mm_goneTo | omega) (by first | exact hx_mm_goneIn | omega) hf_nv hf_na hf_nb hf_nc hf_bto hf_bin hf_tra hf_mny hf_isn hf_tem (by omega) (by omega) (by omega) (by first | exact q0 | omega) hn_nds hn_tms (sam_free sam0 hn_fre) (trl_cast hn_trl (by omega)) hn_mfr) (cwV 3 hts (gv hT w_m_X11_310 w_instanceMethod_X11_partnersIn ws_sel_X11_partnersIn w_ini_X11 w_code_X11_partnersIn) rfl rfl rfl (by decide +kernel) ⟨(Nat.le_of_ble_eq_true rfl), (Nat.le_of_ble_eq_true rfl)⟩) ⟨pre_blind, va_recv hK hP (ci := 8) (q0 := 10) rfl rfl, pre_of hPc hKc hDc hN⟩ rfl rfl hl.1 rfl (lv_room (Nat.le_of_ble_eq_true rfl)) dX11_partners_18 ⟨(Nat.le_of_ble_eq_true rfl), (Nat.le_of_ble_eq_true rfl)⟩) hS (fun q _ h => hFc q h) hFc (fun r4 u t H locs ht hvm hq hB hz1 hk1 hS9 => ?_)
    obtain ⟨z5, z6, z7, f8, f9, f10⟩ := u
    obtain ⟨hP1, hD1⟩ := hB
    rw [ht] at hP1
    obtain ⟨hP9, hD9⟩ := va_join (wr := []) (w1 := [(h_mm, .inr (8, (mo142 vq3 (.ref h_nv) (.ref h_nn) (.ref h_na) (.ref h_nb) (.ref h_nc) (.int x_mm_clauses) (.ref h_mny) (.ref h_isn) (.ref h_tem) (.ref h_bto) (.ref h_bin) (.ref h_tra) (.int z5) (.int z6) (.int z7)))), (h_nv, .inl (cy_nv, 8000, .inl f_nv)), (h_na, .inl (cy_na, 8000, .inl f_na)), (h_nb, .inl (cy_nb, 8000, .inl f_nb)), (h_nc, .inl (cy_nc, 8000, .inl f_nc)), (h_bto, .inl (cy_bto, 256, .inl f8)), (h_bin, .inl (cy_bin, 256, .inl f9)), (h_nn, .inl (cy_nn, 8000, .inr (.inl f_nn))), (h_tra, .inl (cy_tra, 256, .inl f10)), (h_mny, .inl (cy_mny, 32, .inl f_mny)), (h_isn, .inl (cy_isn, 192, .inl f_isn)), (h_tem, .inl (cy_tem, 192, .inl f_tem))]) hP hD [10, 0, 1, 2, 3, 4, 5, 6, 7, 11, 8, 9] [] rfl rfl (by decide) (by decide) hk1 hFc hP1 hD1
    clear hP hD hS hPc hDc hKc hFc hP1 hD1 hk1 hz1 ht hvm
    have hP : va_P (dC, dI) cls [(h_mm, .inr (8, (mo142 vq3 (.ref h_nv) (.ref h_nn) (.ref h_na) (.ref h_nb) (.ref h_nc) (.int x_mm_clauses) (.ref h_mny) (.ref h_isn) (.ref h_tem) (.ref h_bto) (.ref h_bin) (.ref h_tra) (.int z5) (.int z6) (.int z7)))), (h_nv, .inl (cy_nv, 8000, .inl f_nv)), (h_na, .inl (cy_na, 8000, .inl f_na)), (h_nb, .inl (cy_nb, 8000, .inl f_nb)), (h_nc, .inl (cy_nc, 8000, .inl f_nc)), (h_bto, .inl (cy_bto, 256, .inl f8)), (h_bin, .inl (cy_bin, 256, .inl f9)), (h_nn, .inl (cy_nn, 8000, .inr (.inl f_nn))), (h_tra, .inl (cy_tra, 256, .inl f10)), (h_mny, .inl (cy_mny, 32, .inl f_mny)), (h_isn, .inl (cy_isn, 192, .inl f_isn)), (h_tem, .inl (cy_tem, 192, .inl f_tem))] H := hP9
    have hD : va_D A [(h_mm, .inr (8, (mo142 vq3 (.ref h_nv) (.ref h_nn) (.ref h_na) (.ref h_nb) (.ref h_nc) (.int x_mm_clauses) (.ref h_mny) (.ref h_isn) (.ref h_tem) (.ref h_bto) (.ref h_bin) (.ref h_tra) (.int z5) (.int z6) (.int z7)))), (h_nv, .inl (cy_nv, 8000, .inl f_nv)), (h_na, .inl (cy_na, 8000, .inl f_na)), (h_nb, .inl (cy_nb, 8000, .inl f_nb)), (h_nc, .inl (cy_nc, 8000, .inl f_nc)), (h_bto, .inl (cy_bto, 256, .inl f8)), (h_bin, .inl (cy_bin, 256, .inl f9)), (h_nn, .inl (cy_nn, 8000, .inr (.inl f_nn))), (h_tra, .inl (cy_tra, 256, .inl f10)), (h_mny, .inl (cy_mny, 32, .inl f_mny)), (h_isn, .inl (cy_isn, 192, .inl f_isn)), (h_tem, .inl (cy_tem, 192, .inl f_tem))] := hD9
    have hS := hS9
    clear hP9 hD9 hS9
    rw [evq3] at hP hD
    replace hP : va_P (dC, dI) cls [(h_mm, .inr (8, (mo143 v_mm (.int 0) (.ref h_nv) (.ref h_nn) (.ref h_na) (.ref h_nb) (.ref h_nc) (.int x_mm_clauses) (.ref h_mny) (.ref h_isn) (.ref h_tem) (.ref h_bto) (.ref h_bin) (.ref h_tra) (.int z5) (.int z6) (.int z7)))), (h_nv, .inl (cy_nv, 8000, .inl f_nv)), (h_na, .inl (cy_na, 8000, .inl f_na)), (h_nb, .inl (cy_nb, 8000, .inl f_nb)), (h_nc, .inl (cy_nc, 8000, .inl f_nc)), (h_bto, .inl (cy_bto, 256, .inl f8)), (h_bin, .inl (cy_bin, 256, .inl f9)), (h_nn, .inl (cy_nn, 8000, .inr (.inl f_nn))), (h_tra, .inl (cy_tra, 256, .inl f10)), (h_mny, .inl (cy_mny, 32, .inl f_mny)), (h_isn, .inl (cy_isn, 192, .inl f_isn)), (h_tem, .inl (cy_tem, 192, .inl f_tem))] H := hP
    replace hD : va_D A [(h_mm, .inr (8, (mo143 v_mm (.int 0) (.ref h_nv) (.ref h_nn) (.ref h_na) (.ref h_nb) (.ref h_nc) (.int x_mm_clauses) (.ref h_mny) (.ref h_isn) (.ref h_tem) (.ref h_bto) (.ref h_bin) (.ref h_tra) (.int z5) (.int z6) (.int z7)))), (h_nv, .inl (cy_nv, 8000, .inl f_nv)), (h_na, .inl (cy_na, 8000, .inl f_na)), (h_nb, .inl (cy_nb, 8000, .inl f_nb)), (h_nc, .inl (cy_nc, 8000, .inl f_nc)), (h_bto, .inl (cy_bto, 256, .inl f8)), (h_bin, .inl (cy_bin, 256, .inl f9)), (h_nn, .inl (cy_nn, 8000, .inr (.inl f_nn))), (h_tra, .inl (cy_tra, 256, .inl f10)), (h_mny, .inl (cy_mny, 32, .inl f_mny)), (h_isn, .inl (cy_isn, 192, .inl f_isn)), (h_tem, .inl (cy_tem, 192, .inl f_tem))] := hD
    clear evq3 
    obtain ⟨k11, k12, k13, hf8, hf9, hf10, k14, k15, k16, k17⟩ := hq
    replace k11 : 0 ≤ ((z5)).toInt ∧ ((z5)).toInt ≤ 256 := k11
    replace k12 : 0 ≤ ((z6)).toInt ∧ ((z6)).toInt ≤ 7999 := k12
    replace k13 : 0 ≤ ((z7)).toInt ∧ ((z7)).toInt ≤ 31 := k13
    replace hf8 : Rg (-1) 7999 (f8) := hf8
    replace hf9 : Rg 0 31 (f9) := hf9
    replace hf10 : Rg 0 255 (f10) := hf10
    replace k14 : ((z5)).toInt = ((x_mm_trailed)).toInt := k14
    replace k15 : ((r4)).toInt = prT ((mf) ((p1)).toInt.toNat ((p2)).toInt.toNat) (mlC f_mny) (GB (0 : Int32)) ((x_mm_clauses)).toInt.toNat := k15
    replace k16 : SAM f_bto f_bin (f8) (f9) := k16
    replace k17 : TRL ((z5)).toInt (f10) (f8) := k17
    have sm18 : SAM f_bto f_bin f8 f9 := sam_trans sam0 k16
    refine lv_goto (tgt := 25) hx hb dX11_partners_21 (by decide) ?_
    have pv9 : PTV mf (mlC f_mny) (x_mm_clauses).toInt (p1).toInt (p2).toInt (r4).toInt := Or.inl ⟨⟨by omega, by omega, by omega, show (p2).toInt < (f_mny (p1).toInt.toNat).toInt by omega⟩, by rw [← prT_cg (f := (mf (p1).toInt.toNat (p2).toInt.toNat)) (ml := (mlC f_mny)) (G := fun _ => 0) (ml' := (mlC f_mny)) (G' := GB 0) _ (fun d9 _ => ⟨rfl, gb_zero d9⟩)]; omega⟩
    refine W.widen (k := 0) (n := 0) (Nat.le_of_ble_eq_true rfl) (Nat.le_of_ble_eq_true rfl) ?_
    have cst0 : (0 : Int32).toInt = 0 := by decide
    have w19 : 0 ≤ ((z5)).toInt ∧ ((z5)).toInt ≤ 256 := by first | exact k11 | omega
    have w20 : 0 ≤ ((z6)).toInt ∧ ((z6)).toInt ≤ 7999 := by first | exact k12 | omega
    have w21 : 0 ≤ ((z7)).toInt ∧ ((z7)).toInt ≤ 31 := by first | exact k13 | omega
    have w22 : ((z5)).toInt = (x_mm_trailed).toInt := by first | exact k14 | omega
    have w23 : SAM f_bto f_bin (f8) (f9) := sm18
    have w24 : TRL ((z5)).toInt (f10) (f8) := (trl_cast k17 (by omega))
    have w25 : PTV mf (mlC f_mny) (x_mm_clauses).toInt (p1).toInt (p2).toInt ((r4 : Int32)).toInt := pv9
    exact W.iret (v := r4) hx hb hr (fun t ht hW => ⟨⟨r4, (0, z5, z6, z7, f8, f9, f10), rfl, ⟨w19, w20, w21, hf8, hf9, hf10, w22, w23, w24, w25⟩, by rw [ht]; exact hP, hD⟩, hS.F ht⟩) hS.2.2 dX11_partners_25
  · replace hq : (((p1)).toInt < 0 ∨ ((x_mm_clauses)).toInt ≤ ((p1)).toInt ∨ ((p2)).toInt < 0 ∨ (f_mny (Int32.toNatClampNeg (p1))).toInt ≤ ((p2)).toInt) := hq
    refine lv_if_eq (tgt := 24) hx hb dX11_partners_11 (by decide) (fun _ => ?_) (fun c9 => absurd c9 (by decide))
    refine lv_iconst (v := (-1)) hx hb dX11_partners_24 (by decide) ?_
    replace hP : va_P (dC, dI) cls [(h_mm, .inr (8, (mo143 v_mm (.int 0) (.ref h_nv) (.ref h_nn) (.ref h_na) (.ref h_nb) (.ref h_nc) (.int x_mm_clauses) (.ref h_mny) (.ref h_isn) (.ref h_tem) (.ref h_bto) (.ref h_bin) (.ref h_tra) (.int x_mm_trailed) (.int x_mm_goneTo) (.int x_mm_goneIn)))), (h_nv, .inl (cy_nv, 8000, .inl f_nv)), (h_na, .inl (cy_na, 8000, .inl f_na)), (h_nb, .inl (cy_nb, 8000, .inl f_nb)), (h_nc, .inl (cy_nc, 8000, .inl f_nc)), (h_bto, .inl (cy_bto, 256, .inl f_bto)), (h_bin, .inl (cy_bin, 256, .inl f_bin)), (h_nn, .inl (cy_nn, 8000, .inr (.inl f_nn))), (h_tra, .inl (cy_tra, 256, .inl f_tra)), (h_mny, .inl (cy_mny, 32, .inl f_mny)), (h_isn, .inl (cy_isn, 192, .inl f_isn)), (h_tem, .inl (cy_tem, 192, .inl f_tem))] H := hP.sub [10, 0, 1, 2, 3, 4, 5, 6, 7, 11, 8, 9] rfl
    replace hD : va_D A [(h_mm, .inr (8, (mo143 v_mm (.int 0) (.ref h_nv) (.ref h_nn) (.ref h_na) (.ref h_nb) (.ref h_nc) (.int x_mm_clauses) (.ref h_mny) (.ref h_isn) (.ref h_tem) (.ref h_bto) (.ref h_bin) (.ref h_tra) (.int x_mm_trailed) (.int x_mm_goneTo) (.int x_mm_goneIn)))), (h_nv, .inl (cy_nv, 8000, .inl f_nv)), (h_na, .inl (cy_na, 8000, .inl f_na)), (h_nb, .inl (cy_nb, 8000, .inl f_nb)), (h_nc, .inl (cy_nc, 8000, .inl f_nc)), (h_bto, .inl (cy_bto, 256, .inl f_bto)), (h_bin, .inl (cy_bin, 256, .inl f_bin)), (h_nn, .inl (cy_nn, 8000, .inr (.inl f_nn))), (h_tra, .inl (cy_tra, 256, .inl f_tra)), (h_mny, .inl (cy_mny, 32, .inl f_mny)), (h_isn, .inl (cy_isn, 192, .inl f_isn)), (h_tem, .inl (cy_tem, 192, .inl f_tem))] := hD.sub [10, 0, 1, 2, 3, 4, 5, 6, 7, 11, 8, 9] (by decide) rfl
    refine W.widen (k := 0) (n := 0) (Nat.le_of_ble_eq_true rfl) (Nat.le_of_ble_eq_true rfl) ?_
    have cstm1 : ((-1) : Int32).toInt = -1 := by decide
    have cst0 : (0 : Int32).toInt = 0 := by decide
    have w26 : 0 ≤ ((x_mm_trailed)).toInt ∧ ((x_mm_trailed)).toInt ≤ 256 := by first | exact hx_mm_trailed | omega
    have w27 : 0 ≤ ((x_mm_goneTo)).toInt ∧ ((x_mm_goneTo)).toInt ≤ 7999 := by first | exact hx_mm_goneTo | omega
    have w28 : 0 ≤ ((x_mm_goneIn)).toInt ∧ ((x_mm_goneIn)).toInt ≤ 31 := by first | exact hx_mm_goneIn | omega
    have w29 : ((x_mm_trailed)).toInt = (x_mm_trailed).toInt := by omega
    have w30 : SAM f_bto f_bin (f_bto) (f_bin) := sam0
    have w31 : TRL ((x_mm_trailed)).toInt (f_tra) (f_bto) := (trl_cast hn_trl (by omega))
    have w32 : PTV mf (mlC f_mny) (x_mm_clauses).toInt (p1).toInt (p2).toInt (((-1) : Int32)).toInt := (Or.inr ⟨fun q9 => by have q1 := q9.1; have q2 := q9.2.1; have q3 := q9.2.2.1; have q4 : (p2).toInt < (f_mny (p1).toInt.toNat).toInt := q9.2.2.2; have cl9 := (congrArg (fun i => (f_mny i).toInt) (clamp_nat (i := p1) (by omega)) : (f_mny (Int32.toNatClampNeg p1)).toInt = (f_mny (p1).toInt.toNat).toInt); omega, by decide⟩)
    exact W.iret (v := (-1)) hx hb hr (fun t ht hW => ⟨⟨(-1), (0, x_mm_trailed, x_mm_goneTo, x_mm_goneIn, f_bto, f_bin, f_tra), rfl, ⟨w26, w27, w28, hf_bto, hf_bin, hf_tra, w29, w30, w31, w32⟩, by rw [ht]; exact hP, hD⟩, hS.F ht⟩) hS.2.2 dX11_partners_25

set_option maxHeartbeats 8000000 in
set_option maxRecDepth 100000 in
theorem c_X11_isPure (l : Launch) (dC : Nat → ClassId) (dI : Nat → Nat → Nat) (sz : Nat) (h_mm : Nat) (h_nv : Nat) (h_na : Nat) (h_nb : Nat) (h_nc : Nat) (h_bto : Nat) (h_bin : Nat) (h_nn : Nat) (h_tra : Nat) (h_mny : Nat) (h_isn : Nat) (h_tem : Nat) (v_mm : Nat → Value) (x_mm_clauses : Int32) (x_mm_trailed : Int32) (x_mm_goneTo : Int32) (x_mm_goneIn : Int32) (cy_nv : ClassId) (f_nv : Nat → Int32) (cy_na : ClassId) (f_na : Nat → Int32) (cy_nb : ClassId) (f_nb : Nat → Int32) (cy_nc : ClassId) (f_nc : Nat → Int32) (cy_bto : ClassId) (f_bto : Nat → Int32) (cy_bin : ClassId) (f_bin : Nat → Int32) (cy_nn : ClassId) (f_nn : Nat → Int64) (cy_tra : ClassId) (f_tra : Nat → Int32) (cy_mny : ClassId) (f_mny : Nat → Int32) (cy_isn : ClassId) (f_isn : Nat → Int32) (cy_tem : ClassId) (f_tem : Nat → Int32) (p1 : Int32) (p2 : Int32) (N : Int) (hz : Nat → Nat) (mf : MFT) (hx_mm_clauses : 0 ≤ (x_mm_clauses).toInt ∧ (x_mm_clauses).toInt ≤ 16) (hx_mm_trailed : 0 ≤ (x_mm_trailed).toInt ∧ (x_mm_trailed).toInt ≤ 256) (hx_mm_goneTo : 0 ≤ (x_mm_goneTo).toInt ∧ (x_mm_goneTo).toInt ≤ 7999) (hx_mm_goneIn : 0 ≤ (x_mm_goneIn).toInt ∧ (x_mm_goneIn).toInt ≤ 31) (hf_nv : Rg (-1) 7 f_nv) (hf_na : Rg (-1) 7999 f_na) (hf_nb : Rg (-1) 7999 f_nb) (hf_nc : Rg (-1) 7999 f_nc) (hf_bto : Rg (-1) 7999 f_bto) (hf_bin : Rg 0 31 f_bin) (hf_tra : Rg 0 255 f_tra) (hf_mny : Rg 0 6 f_mny) (hf_isn : Rg 0 1 f_isn) (hf_tem : Rg 0 7999 f_tem) (q0 : 0 ≤ (p1).toInt ∧ (p1).toInt < (x_mm_clauses).toInt) (q1 : N ≤ 8000) (hn_nds : ND 0 N hz f_na f_nb f_nc) (hn_tms : TM 0 N hz 0 (x_mm_clauses).toInt f_mny f_tem) (hn_fre : FRE f_bto) (hn_trl : TRL (x_mm_trailed).toInt f_tra f_bto) (hn_mfr : MFN (RGW f_nn f_nv f_na f_nb f_nc) (mlC f_mny) (ndC f_tem) (sgR f_isn) 240000 248000 (x_mm_clauses).toInt mf) : Met l yX11_isPure (Ws yX11_isPure cX11_isPure 4 (some .boolean)) (({ frames := 1550, cells := 0, slots := 0, locals := 44928 } : Room)) (PRE (dC, dI) cls [(cy_nv, .int), (cy_na, .int), (cy_nb, .int), (cy_nc, .int), (cy_bto, .int), (cy_bin, .int), (cy_nn, .long), (cy_tra, .int), (cy_mny, .int), (cy_isn, .boolean), (cy_tem, .int)] [(h_mm, .inr (8, (mo142 v_mm (.ref h_nv) (.ref h_nn) (.ref h_na) (.ref h_nb) (.ref h_nc) (.int x_mm_clauses) (.ref h_mny) (.ref h_isn) (.ref h_tem) (.ref h_bto) (.ref h_bin) (.ref h_tra) (.int x_mm_trailed) (.int x_mm_goneTo) (.int x_mm_goneIn)))), (h_nv, .inl (cy_nv, 8000, .inl f_nv)), (h_na, .inl (cy_na, 8000, .inl f_na)), (h_nb, .inl (cy_nb, 8000, .inl f_nb)), (h_nc, .inl (cy_nc, 8000, .inl f_nc)), (h_bto, .inl (cy_bto, 256, .inl f_bto)), (h_bin, .inl (cy_bin, 256, .inl f_bin)), (h_nn, .inl (cy_nn, 8000, .inr (.inl f_nn))), (h_tra, .inl (cy_tra, 256, .inl f_tra)), (h_mny, .inl (cy_mny, 32, .inl f_mny)), (h_isn, .inl (cy_isn, 192, .inl f_isn)), (h_tem, .inl (cy_tem, 192, .inl f_tem))] sz [.ref h_mm, .int p1, .int p2]) (va_Qi (fun (r : Int32) (u : (Int32) × (Int32) × (Int32) × (Nat → Int32) × (Nat → Int32) × (Nat → Int32)) => (0 ≤ (u.1).toInt ∧ (u.1).toInt ≤ 256) ∧ (0 ≤ (u.2.1).toInt ∧ (u.2.1).toInt ≤ 7999) ∧ (0 ≤ (u.2.2.1).toInt ∧ (u.2.2.1).toInt ≤ 31) ∧ (Rg (-1) 7999 u.2.2.2.1) ∧ (Rg 0 31 u.2.2.2.2.1) ∧ (Rg 0 255 u.2.2.2.2.2) ∧ (0 ≤ r.toInt ∧ r.toInt ≤ 1) ∧ ((u.1).toInt = (x_mm_trailed).toInt) ∧ (SAM f_bto f_bin u.2.2.2.1 u.2.2.2.2.1) ∧ (TRL (u.1).toInt u.2.2.2.2.2 u.2.2.2.1) ∧ (LOR mf (mlC f_mny) (GB p2) (x_mm_clauses).toInt (p1).toInt.toNat (r).toInt)) (fun (u : (Int32) × (Int32) × (Int32) × (Nat → Int32) × (Nat → Int32) × (Nat → Int32)) (t : State) => va_P (dC, dI) cls [(h_mm, .inr (8, (mo142 v_mm (.ref h_nv) (.ref h_nn) (.ref h_na) (.ref h_nb) (.ref h_nc) (.int x_mm_clauses) (.ref h_mny) (.ref h_isn) (.ref h_tem) (.ref h_bto) (.ref h_bin) (.ref h_tra) (.int u.1) (.int u.2.1) (.int u.2.2.1)))), (h_nv, .inl (cy_nv, 8000, .inl f_nv)), (h_na, .inl (cy_na, 8000, .inl f_na)), (h_nb, .inl (cy_nb, 8000, .inl f_nb)), (h_nc, .inl (cy_nc, 8000, .inl f_nc)), (h_bto, .inl (cy_bto, 256, .inl u.2.2.2.1)), (h_bin, .inl (cy_bin, 256, .inl u.2.2.2.2.1)), (h_nn, .inl (cy_nn, 8000, .inr (.inl f_nn))), (h_tra, .inl (cy_tra, 256, .inl u.2.2.2.2.2)), (h_mny, .inl (cy_mny, 32, .inl f_mny)), (h_isn, .inl (cy_isn, 192, .inl f_isn)), (h_tem, .inl (cy_tem, 192, .inl f_tem))] t.heap ∧ va_D (va_A [(h_mm, .inr (8, (mo142 v_mm (.ref h_nv) (.ref h_nn) (.ref h_na) (.ref h_nb) (.ref h_nc) (.int x_mm_clauses) (.ref h_mny) (.ref h_isn) (.ref h_tem) (.ref h_bto) (.ref h_bin) (.ref h_tra) (.int x_mm_trailed) (.int x_mm_goneTo) (.int x_mm_goneIn)))), (h_nv, .inl (cy_nv, 8000, .inl f_nv)), (h_na, .inl (cy_na, 8000, .inl f_na)), (h_nb, .inl (cy_nb, 8000, .inl f_nb)), (h_nc, .inl (cy_nc, 8000, .inl f_nc)), (h_bto, .inl (cy_bto, 256, .inl f_bto)), (h_bin, .inl (cy_bin, 256, .inl f_bin)), (h_nn, .inl (cy_nn, 8000, .inr (.inl f_nn))), (h_tra, .inl (cy_tra, 256, .inl f_tra)), (h_mny, .inl (cy_mny, 32, .inl f_mny)), (h_isn, .inl (cy_isn, 192, .inl f_isn)), (h_tem, .inl (cy_tem, 192, .inl f_tem))] sz) [(h_mm, .inr (8, (mo142 v_mm (.ref h_nv) (.ref h_nn) (.ref h_na) (.ref h_nb) (.ref h_nc) (.int x_mm_clauses) (.ref h_mny) (.ref h_isn) (.ref h_tem) (.ref h_bto) (.ref h_bin) (.ref h_tra) (.int u.1) (.int u.2.1) (.int u.2.2.1)))), (h_nv, .inl (cy_nv, 8000, .inl f_nv)), (h_na, .inl (cy_na, 8000, .inl f_na)), (h_nb, .inl (cy_nb, 8000, .inl f_nb)), (h_nc, .inl (cy_nc, 8000, .inl f_nc)), (h_bto, .inl (cy_bto, 256, .inl u.2.2.2.1)), (h_bin, .inl (cy_bin, 256, .inl u.2.2.2.2.1)), (h_nn, .inl (cy_nn, 8000, .inr (.inl f_nn))), (h_tra, .inl (cy_tra, 256, .inl u.2.2.2.2.2)), (h_mny, .inl (cy_mny, 32, .inl f_mny)), (h_isn, .inl (cy_isn, 192, .inl f_isn)), (h_tem, .inl (cy_tem, 192, .inl f_tem))]) (va_A [(h_mm, .inr (8, (mo142 v_mm (.ref h_nv) (.ref h_nn) (.ref h_na) (.ref h_nb) (.ref h_nc) (.int x_mm_clauses) (.ref h_mny) (.ref h_isn) (.ref h_tem) (.ref h_bto) (.ref h_bin) (.ref h_tra) (.int x_mm_trailed) (.int x_mm_goneTo) (.int x_mm_goneIn)))), (h_nv, .inl (cy_nv, 8000, .inl f_nv)), (h_na, .inl (cy_na, 8000, .inl f_na)), (h_nb, .inl (cy_nb, 8000, .inl f_nb)), (h_nc, .inl (cy_nc, 8000, .inl f_nc)), (h_bto, .inl (cy_bto, 256, .inl f_bto)), (h_bin, .inl (cy_bin, 256, .inl f_bin)), (h_nn, .inl (cy_nn, 8000, .inr (.inl f_nn))), (h_tra, .inl (cy_tra, 256, .inl f_tra)), (h_mny, .inl (cy_mny, 32, .inl f_mny)), (h_isn, .inl (cy_isn, 192, .inl f_isn)), (h_tem, .inl (cy_tem, 192, .inl f_tem))] sz)) 0 0 (va_A [(h_mm, .inr (8, (mo142 v_mm (.ref h_nv) (.ref h_nn) (.ref h_na) (.ref h_nb) (.ref h_nc) (.int x_mm_clauses) (.ref h_mny) (.ref h_isn) (.ref h_tem) (.ref h_bto) (.ref h_bin) (.ref h_tra) (.int x_mm_trailed) (.int x_mm_goneTo) (.int x_mm_goneIn)))), (h_nv, .inl (cy_nv, 8000, .inl f_nv)), (h_na, .inl (cy_na, 8000, .inl f_na)), (h_nb, .inl (cy_nb, 8000, .inl f_nb)), (h_nc, .inl (cy_nc, 8000, .inl f_nc)), (h_bto, .inl (cy_bto, 256, .inl f_bto)), (h_bin, .inl (cy_bin, 256, .inl f_bin)), (h_nn, .inl (cy_nn, 8000, .inr (.inl f_nn))), (h_tra, .inl (cy_tra, 256, .inl f_tra)), (h_mny, .inl (cy_mny, 32, .inl f_mny)), (h_isn, .inl (cy_isn, 192, .inl f_isn)), (h_tem, .inl (cy_tem, 192, .inl f_tem))] sz) := by
  refine Met.ofW (cc := cX11_isPure) (maxL := 4) (ret := (some .boolean)) (by decide) rfl ?_
  intro p e s m args below meth c s₁ B hml hv
  obtain ⟨rfl, hsz, hP, hK, hD0, hN⟩ := hv
  have hx := B.exec
  have hb := B.bytes
  have hr := B.returns
  have hts := atoms_spec (ws := Ws yX11_isPure cX11_isPure 4 (some .boolean)) B.pre
  have hT : ∀ w ∈ WALL, w ∈ Ws yX11_isPure cX11_isPure 4 (some .boolean) := fun w h => List.mem_cons_of_mem _ h
  have hw := fun w (h : w ∈ WALL) => hts w (hT w h)
  have hown : s.vm.findClass RX11 = some m.cls := findClass_of_methodNamed B.named
  have hlocks := B.notSynchronized
  subst hsz
  have hD := hD0.self (sz := s.heap.size)
  generalize hAe : va_A [(h_mm, .inr (8, (mo142 v_mm (.ref h_nv) (.ref h_nn) (.ref h_na) (.ref h_nb) (.ref h_nc) (.int x_mm_clauses) (.ref h_mny) (.ref h_isn) (.ref h_tem) (.ref h_bto) (.ref h_bin) (.ref h_tra) (.int x_mm_trailed) (.int x_mm_goneTo) (.int x_mm_goneIn)))), (h_nv, .inl (cy_nv, 8000, .inl f_nv)), (h_na, .inl (cy_na, 8000, .inl f_na)), (h_nb, .inl (cy_nb, 8000, .inl f_nb)), (h_nc, .inl (cy_nc, 8000, .inl f_nc)), (h_bto, .inl (cy_bto, 256, .inl f_bto)), (h_bin, .inl (cy_bin, 256, .inl f_bin)), (h_nn, .inl (cy_nn, 8000, .inr (.inl f_nn))), (h_tra, .inl (cy_tra, 256, .inl f_tra)), (h_mny, .inl (cy_mny, 32, .inl f_mny)), (h_isn, .inl (cy_isn, 192, .inl f_isn)), (h_tem, .inl (cy_tem, 192, .inl f_tem))] s.heap.size = A at hD ⊢
  have hA : ∀ q : Nat, s.heap.size ≤ q → A q := fun q h => by rw [← hAe]; exact Or.inr h
  have hS : va_S A s.heap s.heap [] := va_S.rf
  have hl := lv_entry ([.ref h_mm, .int p1, .int p2]) (n := 4) (Nat.le_of_ble_eq_true rfl)
  rw [lg_entry_eq]
  generalize (lg_sl ([.ref h_mm, .int p1, .int p2]) ++ List.replicate (4 - (lg_sl ([.ref h_mm, .int p1, .int p2])).length) Slot.unset).toArray = ls at hl ⊢
  have hl : lv_has ls 4 [(0, .ref h_mm), (1, .int p1), (2, .int p2)] := hl
  have sam0 : SAM f_bto f_bin f_bto f_bin := sam_refl
  refine lv_iconst (v := 0) hx hb dX11_isPure_0 (by decide) ?_
  refine lv_istore_n (lv' := [(3, .int 0), (0, .ref h_mm), (1, .int p1), (2, .int p2)]) hx hb dX11_isPure_1 rfl hl (by decide) rfl (fun ls hl => ?_)
  have lp8 : ∀ (n : Nat) (x1 : Int32) (x2 : Int32) (x3 : Int32) (x4 : Int32) (f5 : Nat → Int32) (f6 : Nat → Int32) (f7 : Nat → Int32) (H : Heap) (locs : List Loc) (ls : Array Slot), (0 ≤ (x1).toInt ∧ (x1).toInt ≤ 6) → (0 ≤ (x2).toInt ∧ (x2).toInt ≤ 256) → (0 ≤ (x3).toInt ∧ (x3).toInt ≤ 7999) → (0 ≤ (x4).toInt ∧ (x4).toInt ≤ 31) → (Rg (-1) 7999 f5) → (Rg 0 31 f6) → (Rg 0 255 f7) → ((x2).toInt = (x_mm_trailed).toInt) → (SAM f_bto f_bin f5 f6) → (TRL (x2).toInt f7 f5) → (LNO mf (mlC f_mny) (GB p2) (x_mm_clauses).toInt (p1).toInt.toNat ((x1).toInt)) → (6 - (x1).toInt).toNat + 1 ≤ n → va_P (dC, dI) cls [(h_mm, .inr (8, (mo142 v_mm (.ref h_nv) (.ref h_nn) (.ref h_na) (.ref h_nb) (.ref h_nc) (.int x_mm_clauses) (.ref h_mny) (.ref h_isn) (.ref h_tem) (.ref h_bto) (.ref h_bin) (.ref h_tra) (.int x2) (.int x3) (.int x4)))), (h_nv, .inl (cy_nv, 8000, .inl f_nv)), (h_na, .inl (cy_na, 8000, .inl f_na)), (h_nb, .inl (cy_nb, 8000, .inl f_nb)), (h_nc, .inl (cy_nc, 8000, .inl f_nc)), (h_bto, .inl (cy_bto, 256, .inl f5)), (h_bin, .inl (cy_bin, 256, .inl f6)), (h_nn, .inl (cy_nn, 8000, .inr (.inl f_nn))), (h_tra, .inl (cy_tra, 256, .inl f7)), (h_mny, .inl (cy_mny, 32, .inl f_mny)), (h_isn, .inl (cy_isn, 192, .inl f_isn)), (h_tem, .inl (cy_tem, 192, .inl f_tem))] H → va_D A [(h_mm, .inr (8, (mo142 v_mm (.ref h_nv) (.ref h_nn) (.ref h_na) (.ref h_nb) (.ref h_nc) (.int x_mm_clauses) (.ref h_mny) (.ref h_isn) (.ref h_tem) (.ref h_bto) (.ref h_bin) (.ref h_tra) (.int x2) (.int x3) (.int x4)))), (h_nv, .inl (cy_nv, 8000, .inl f_nv)), (h_na, .inl (cy_na, 8000, .inl f_na)), (h_nb, .inl (cy_nb, 8000, .inl f_nb)), (h_nc, .inl (cy_nc, 8000, .inl f_nc)), (h_bto, .inl (cy_bto, 256, .inl f5)), (h_bin, .inl (cy_bin, 256, .inl f6)), (h_nn, .inl (cy_nn, 8000, .inr (.inl f_nn))), (h_tra, .inl (cy_tra, 256, .inl f7)), (h_mny, .inl (cy_mny, 32, .inl f_mny)), (h_isn, .inl (cy_isn, 192, .inl f_isn)), (h_tem, .inl (cy_tem, 192, .inl f_tem))] → va_S A s.heap H locs → lv_has ls 4 [(0, .ref h_mm), (1, .int p1), (2, .int p2), (3, .int x1)] → W p l e ({ frames := 1550, cells := 0, slots := 0, locals := 44928 } : Room) s m ([.ref h_mm, .int p1, .int p2] : List Value).toArray below meth c H locs 0 0 (MQ below (va_Qi (fun (r : Int32) (u : (Int32) × (Int32) × (Int32) × (Nat → Int32) × (Nat → Int32) × (Nat → Int32)) => (0 ≤ (u.1).toInt ∧ (u.1).toInt ≤ 256) ∧ (0 ≤ (u.2.1).toInt ∧ (u.2.1).toInt ≤ 7999) ∧ (0 ≤ (u.2.2.1).toInt ∧ (u.2.2.1).toInt ≤ 31) ∧ (Rg (-1) 7999 u.2.2.2.1) ∧ (Rg 0 31 u.2.2.2.2.1) ∧ (Rg 0 255 u.2.2.2.2.2) ∧ (0 ≤ r.toInt ∧ r.toInt ≤ 1) ∧ ((u.1).toInt = (x_mm_trailed).toInt) ∧ (SAM f_bto f_bin u.2.2.2.1 u.2.2.2.2.1) ∧ (TRL (u.1).toInt u.2.2.2.2.2 u.2.2.2.1) ∧ (LOR mf (mlC f_mny) (GB p2) (x_mm_clauses).toInt (p1).toInt.toNat (r).toInt)) (fun (u : (Int32) × (Int32) × (Int32) × (Nat → Int32) × (Nat → Int32) × (Nat → Int32)) (t : State) => va_P (dC, dI) cls [(h_mm, .inr (8, (mo142 v_mm (.ref h_nv) (.ref h_nn) (.ref h_na) (.ref h_nb) (.ref h_nc) (.int x_mm_clauses) (.ref h_mny) (.ref h_isn) (.ref h_tem) (.ref h_bto) (.ref h_bin) (.ref h_tra) (.int u.1) (.int u.2.1) (.int u.2.2.1)))), (h_nv, .inl (cy_nv, 8000, .inl f_nv)), (h_na, .inl (cy_na, 8000, .inl f_na)), (h_nb, .inl (cy_nb, 8000, .inl f_nb)), (h_nc, .inl (cy_nc, 8000, .inl f_nc)), (h_bto, .inl (cy_bto, 256, .inl u.2.2.2.1)), (h_bin, .inl (cy_bin, 256, .inl u.2.2.2.2.1)), (h_nn, .inl (cy_nn, 8000, .inr (.inl f_nn))), (h_tra, .inl (cy_tra, 256, .inl u.2.2.2.2.2)), (h_mny, .inl (cy_mny, 32, .inl f_mny)), (h_isn, .inl (cy_isn, 192, .inl f_isn)), (h_tem, .inl (cy_tem, 192, .inl f_tem))] t.heap ∧ va_D A [(h_mm, .inr (8, (mo142 v_mm (.ref h_nv) (.ref h_nn) (.ref h_na) (.ref h_nb) (.ref h_nc) (.int x_mm_clauses) (.ref h_mny) (.ref h_isn) (.ref h_tem) (.ref h_bto) (.ref h_bin) (.ref h_tra) (.int u.1) (.int u.2.1) (.int u.2.2.1)))), (h_nv, .inl (cy_nv, 8000, .inl f_nv)), (h_na, .inl (cy_na, 8000, .inl f_na)), (h_nb, .inl (cy_nb, 8000, .inl f_nb)), (h_nc, .inl (cy_nc, 8000, .inl f_nc)), (h_bto, .inl (cy_bto, 256, .inl u.2.2.2.1)), (h_bin, .inl (cy_bin, 256, .inl u.2.2.2.2.1)), (h_nn, .inl (cy_nn, 8000, .inr (.inl f_nn))), (h_tra, .inl (cy_tra, 256, .inl u.2.2.2.2.2)), (h_mny, .inl (cy_mny, 32, .inl f_mny)), (h_isn, .inl (cy_isn, 192, .inl f_isn)), (h_tem, .inl (cy_tem, 192, .inl f_tem))]) A) ([.ref h_mm, .int p1, .int p2] : List Value).toArray s 0 0 A) (F0 m 2 ls []) := by
    clear hP hD hS hl
    intro n
    induction n with
    | zero => intro x1 x2 x3 x4 f5 f6 f7 H locs ls klp8_0 klp8_1 klp8_2 klp8_3 hf5 hf6 hf7 klp8_7 klp8_8 klp8_9 klp8_10 hm hP hD hS hl; exact False.elim (by omega)
    | succ n ih => 
      intro x1 x2 x3 x4 f5 f6 f7 H locs ls klp8_0 klp8_1 klp8_2 klp8_3 hf5 hf6 hf7 klp8_7 klp8_8 klp8_9 klp8_10 hm hP hD hS hl
      have ih9 := ih
      clear ih
      refine lv_iload_n hx hb dX11_isPure_2 rfl (lv_at hl 3 rfl) ?_
      refine lv_aload_n hx hb dX11_isPure_3 rfl (lv_at hl 0 rfl) ?_
      refine va_get (D := (dC, dI)) (ci := 8) (v := .ref h_mny) (C := RX11) (T := TX11) (N := 71) hx hb hw iwX11 hown hK hP 0 rfl rfl 8 (by decide) (hw _ w_f_X11_142) (fun _ h9 => h9) rfl dX11_isPure_4 ?_
      refine lv_iload_n hx hb dX11_isPure_7 rfl (lv_at hl 1 rfl) ?_
      refine va_iald hx hb hK hP 9 8 rfl rfl (i := p1) (vp_in_iff.mpr (by omega)) dX11_isPure_8 ?_
      refine lv_topi (fun z10 ez10 => ?_)
      have rz10 : 0 ≤ (z10).toInt ∧ (z10).toInt ≤ 6 := by rw [ez10]; exact hf_mny _
      have my9 : (f_mny (p1).toInt.toNat).toInt = (z10).toInt := by rw [ez10, clamp_nat (i := p1) (by omega)]
      have ml9 := hf_mny (p1).toInt.toNat
      refine lv_icmp_ge (tgt := 30) hx hb dX11_isPure_9 (by decide) (fun c11 => ?_) (fun c11 => ?_)
      · have kc11 := (cv_le (rfl : (z10).toInt = (z10).toInt) (rfl : (x1).toInt = (x1).toInt)).mp c11
        refine lv_iconst (v := 0) hx hb dX11_isPure_30 (by decide) ?_
        refine W.widen (k := 0) (n := 0) (Nat.le_of_ble_eq_true rfl) (Nat.le_of_ble_eq_true rfl) ?_
        have cst0 : (0 : Int32).toInt = 0 := by decide
        have w12 : 0 ≤ ((x2)).toInt ∧ ((x2)).toInt ≤ 256 := by first | exact klp8_1 | omega
        have w13 : 0 ≤ ((x3)).toInt ∧ ((x3)).toInt ≤ 7999 := by first | exact klp8_2 | omega
        have w14 : 0 ≤ ((x4)).toInt ∧ ((x4)).toInt ≤ 31 := by first | exact klp8_3 | omega
        have w15 : 0 ≤ (0 : Int32).toInt ∧ (0 : Int32).toInt ≤ 1 := by omega
        have w16 : ((x2)).toInt = (x_mm_trailed).toInt := by first | exact klp8_7 | omega
        have w17 : SAM f_bto f_bin (f5) (f6) := klp8_8
        have w18 : TRL ((x2)).toInt (f7) (f5) := (trl_cast klp8_9 (by omega))
        have w19 : LOR mf (mlC f_mny) (GB p2) (x_mm_clauses).toInt (p1).toInt.toNat ((0 : Int32)).toInt := (Or.inr ⟨by decide, lno_end klp8_10 (show (f_mny (p1).toInt.toNat).toInt ≤ _ by omega)⟩)
        exact W.zret (v := 0) (ty := .boolean) hx hb hr (by decide) (fun t ht hW => ⟨⟨0, (x2, x3, x4, f5, f6, f7), rfl, ⟨w12, w13, w14, hf5, hf6, hf7, w15, w16, w17, w18, w19⟩, by rw [ht]; exact hP, hD⟩, hS.F ht⟩) hS.2.2 dX11_isPure_31
      · have kc11 := (not_congr (cv_le (rfl : (z10).toInt = (z10).toInt) (rfl : (x1).toInt = (x1).toInt))).mp c11
        refine lv_aload_n hx hb dX11_isPure_12 rfl (lv_at hl 0 rfl) ?_
        refine lv_iload_n hx hb dX11_isPure_13 rfl (lv_at hl 1 rfl) ?_
        refine lv_iload_n hx hb dX11_isPure_14 rfl (lv_at hl 3 rfl) ?_
        refine lv_iload_n hx hb dX11_isPure_15 rfl (lv_at hl 2 rfl) ?_
        have mqz10 : (f_mny (p1).toInt.toNat).toInt = (z10).toInt := by rw [ez10, (clamp_nat (i := p1) (by omega))]
        have hPc := hP.sub (ws' := [(h_mm, .inr (8, (mo142 v_mm (.ref h_nv) (.ref h_nn) (.ref h_na) (.ref h_nb) (.ref h_nc) (.int x_mm_clauses) (.ref h_mny) (.ref h_isn) (.ref h_tem) (.ref h_bto) (.ref h_bin) (.ref h_tra) (.int x2) (.int x3) (.int x4)))), (h_nv, .inl (cy_nv, 8000, .inl f_nv)), (h_na, .inl (cy_na, 8000, .inl f_na)), (h_nb, .inl (cy_nb, 8000, .inl f_nb)), (h_nc, .inl (cy_nc, 8000, .inl f_nc)), (h_bto, .inl (cy_bto, 256, .inl f5)), (h_bin, .inl (cy_bin, 256, .inl f6)), (h_nn, .inl (cy_nn, 8000, .inr (.inl f_nn))), (h_tra, .inl (cy_tra, 256, .inl f7)), (h_mny, .inl (cy_mny, 32, .inl f_mny)), (h_isn, .inl (cy_isn, 192, .inl f_isn)), (h_tem, .inl (cy_tem, 192, .inl f_tem))]) [0, 1, 2, 3, 4, 5, 6, 7, 8, 9, 10, 11] rfl
        have hDc := hD.sub (ws' := [(h_mm, .inr (8, (mo142 v_mm (.ref h_nv) (.ref h_nn) (.ref h_na) (.ref h_nb) (.ref h_nc) (.int x_mm_clauses) (.ref h_mny) (.ref h_isn) (.ref h_tem) (.ref h_bto) (.ref h_bin) (.ref h_tra) (.int x2) (.int x3) (.int x4)))), (h_nv, .inl (cy_nv, 8000, .inl f_nv)), (h_na, .inl (cy_na, 8000, .inl f_na)), (h_nb, .inl (cy_nb, 8000, .inl f_nb)), (h_nc, .inl (cy_nc, 8000, .inl f_nc)), (h_bto, .inl (cy_bto, 256, .inl f5)), (h_bin, .inl (cy_bin, 256, .inl f6)), (h_nn, .inl (cy_nn, 8000, .inr (.inl f_nn))), (h_tra, .inl (cy_tra, 256, .inl f7)), (h_mny, .inl (cy_mny, 32, .inl f_mny)), (h_isn, .inl (cy_isn, 192, .inl f_isn)), (h_tem, .inl (cy_tem, 192, .inl f_tem))]) [0, 1, 2, 3, 4, 5, 6, 7, 8, 9, 10, 11] (by decide) rfl
        have hKc := hK.sub (tys' := [(cy_nv, .int), (cy_na, .int), (cy_nb, .int), (cy_nc, .int), (cy_bto, .int), (cy_bin, .int), (cy_nn, .long), (cy_tra, .int), (cy_mny, .int), (cy_isn, .boolean), (cy_tem, .int)]) [0, 1, 2, 3, 4, 5, 6, 7, 8, 9, 10] rfl
        have hFc := va_free (wc := [(h_mm, .inr (8, (mo142 v_mm (.ref h_nv) (.ref h_nn) (.ref h_na) (.ref h_nb) (.ref h_nc) (.int x_mm_clauses) (.ref h_mny) (.ref h_isn) (.ref h_tem) (.ref h_bto) (.ref h_bin) (.ref h_tra) (.int x2) (.int x3) (.int x4)))), (h_nv, .inl (cy_nv, 8000, .inl f_nv)), (h_na, .inl (cy_na, 8000, .inl f_na)), (h_nb, .inl (cy_nb, 8000, .inl f_nb)), (h_nc, .inl (cy_nc, 8000, .inl f_nc)), (h_bto, .inl (cy_bto, 256, .inl f5)), (h_bin, .inl (cy_bin, 256, .inl f6)), (h_nn, .inl (cy_nn, 8000, .inr (.inl f_nn))), (h_tra, .inl (cy_tra, 256, .inl f7)), (h_mny, .inl (cy_mny, 32, .inl f_mny)), (h_isn, .inl (cy_isn, 192, .inl f_isn)), (h_tem, .inl (cy_tem, 192, .inl f_tem))]) hD hS hA [0, 1, 2, 3, 4, 5, 6, 7, 8, 9, 10, 11] rfl
        refine va_calli (va_runV (As := [.int p1, .int x1, .int p2]) (rest := []) ⟨hx, hb, hml, hown, hts⟩ (c_X11_partnersIn l dC dI H.size h_mm h_nv h_na h_nb h_nc h_bto h_bin h_nn h_tra h_mny h_isn h_tem v_mm x_mm_clauses x2 x3 x4 cy_nv f_nv cy_na f_na cy_nb f_nb cy_nc f_nc cy_bto f5 cy_bin f6 cy_nn f_nn cy_tra f7 cy_mny f_mny cy_isn f_isn cy_tem f_tem p1 x1 p2 N hz mf (by first | exact hx_mm_clauses | omega) (by first | exact klp8_1 | omega) (by first | exact klp8_2 | omega) (by first | exact klp8_3 | omega) hf_nv hf_na hf_nb hf_nc hf5 hf6 hf7 hf_mny hf_isn hf_tem (by first | exact q0 | omega) (by omega) (by omega) (by first | exact q1 | omega) hn_nds hn_tms (sam_free klp8_8 hn_fre) (trl_cast klp8_9 (by omega)) hn_mfr) (cwV 3 hts (gv hT w_m_X11_310 w_instanceMethod_X11_partnersIn ws_sel_X11_partnersIn w_ini_X11 w_code_X11_partnersIn) rfl rfl rfl (by decide +kernel) ⟨(Nat.le_of_ble_eq_true rfl), (Nat.le_of_ble_eq_true rfl)⟩) ⟨pre_blind, va_recv hK hP (ci := 8) (q0 := 0) rfl rfl, pre_of hPc hKc hDc hN⟩ rfl rfl hl.1 rfl (lv_room (Nat.le_of_ble_eq_true rfl)) dX11_isPure_16 ⟨(Nat.le_of_ble_eq_true rfl), (Nat.le_of_ble_eq_true rfl)⟩) hS (fun q _ h => hFc q h) hFc (fun r20 u t H locs ht hvm hq hB hz1 hk1 hS9 => ?_)
        obtain ⟨z21, z22, z23, f24, f25, f26⟩ := u
        obtain ⟨hP1, hD1⟩ := hB
        rw [ht] at hP1
        obtain ⟨hP9, hD9⟩ := va_join (wr := []) (w1 := [(h_mm, .inr (8, (mo142 v_mm (.ref h_nv) (.ref h_nn) (.ref h_na) (.ref h_nb) (.ref h_nc) (.int x_mm_clauses) (.ref h_mny) (.ref h_isn) (.ref h_tem) (.ref h_bto) (.ref h_bin) (.ref h_tra) (.int z21) (.int z22) (.int z23)))), (h_nv, .inl (cy_nv, 8000, .inl f_nv)), (h_na, .inl (cy_na, 8000, .inl f_na)), (h_nb, .inl (cy_nb, 8000, .inl f_nb)), (h_nc, .inl (cy_nc, 8000, .inl f_nc)), (h_bto, .inl (cy_bto, 256, .inl f24)), (h_bin, .inl (cy_bin, 256, .inl f25)), (h_nn, .inl (cy_nn, 8000, .inr (.inl f_nn))), (h_tra, .inl (cy_tra, 256, .inl f26)), (h_mny, .inl (cy_mny, 32, .inl f_mny)), (h_isn, .inl (cy_isn, 192, .inl f_isn)), (h_tem, .inl (cy_tem, 192, .inl f_tem))]) hP hD [0, 1, 2, 3, 4, 5, 6, 7, 8, 9, 10, 11] [] rfl rfl (by decide) (by decide) hk1 hFc hP1 hD1
        clear hP hD hS hPc hDc hKc hFc hP1 hD1 hk1 hz1 ht hvm
        have hP : va_P (dC, dI) cls [(h_mm, .inr (8, (mo142 v_mm (.ref h_nv) (.ref h_nn) (.ref h_na) (.ref h_nb) (.ref h_nc) (.int x_mm_clauses) (.ref h_mny) (.ref h_isn) (.ref h_tem) (.ref h_bto) (.ref h_bin) (.ref h_tra) (.int z21) (.int z22) (.int z23)))), (h_nv, .inl (cy_nv, 8000, .inl f_nv)), (h_na, .inl (cy_na, 8000, .inl f_na)), (h_nb, .inl (cy_nb, 8000, .inl f_nb)), (h_nc, .inl (cy_nc, 8000, .inl f_nc)), (h_bto, .inl (cy_bto, 256, .inl f24)), (h_bin, .inl (cy_bin, 256, .inl f25)), (h_nn, .inl (cy_nn, 8000, .inr (.inl f_nn))), (h_tra, .inl (cy_tra, 256, .inl f26)), (h_mny, .inl (cy_mny, 32, .inl f_mny)), (h_isn, .inl (cy_isn, 192, .inl f_isn)), (h_tem, .inl (cy_tem, 192, .inl f_tem))] H := hP9
        have hD : va_D A [(h_mm, .inr (8, (mo142 v_mm (.ref h_nv) (.ref h_nn) (.ref h_na) (.ref h_nb) (.ref h_nc) (.int x_mm_clauses) (.ref h_mny) (.ref h_isn) (.ref h_tem) (.ref h_bto) (.ref h_bin) (.ref h_tra) (.int z21) (.int z22) (.int z23)))), (h_nv, .inl (cy_nv, 8000, .inl f_nv)), (h_na, .inl (cy_na, 8000, .inl f_na)), (h_nb, .inl (cy_nb, 8000, .inl f_nb)), (h_nc, .inl (cy_nc, 8000, .inl f_nc)), (h_bto, .inl (cy_bto, 256, .inl f24)), (h_bin, .inl (cy_bin, 256, .inl f25)), (h_nn, .inl (cy_nn, 8000, .inr (.inl f_nn))), (h_tra, .inl (cy_tra, 256, .inl f26)), (h_mny, .inl (cy_mny, 32, .inl f_mny)), (h_isn, .inl (cy_isn, 192, .inl f_isn)), (h_tem, .inl (cy_tem, 192, .inl f_tem))] := hD9
        have hS := hS9
        clear hP9 hD9 hS9
        obtain ⟨k27, k28, k29, hf24, hf25, hf26, k30, k31, k32, k33⟩ := hq
        replace k27 : 0 ≤ ((z21)).toInt ∧ ((z21)).toInt ≤ 256 := k27
        replace k28 : 0 ≤ ((z22)).toInt ∧ ((z22)).toInt ≤ 7999 := k28
        replace k29 : 0 ≤ ((z23)).toInt ∧ ((z23)).toInt ≤ 31 := k29
        replace hf24 : Rg (-1) 7999 (f24) := hf24
        replace hf25 : Rg 0 31 (f25) := hf25
        replace hf26 : Rg 0 255 (f26) := hf26
        replace k30 : ((z21)).toInt = ((x2)).toInt := k30
        replace k31 : ((r20)).toInt = prT ((mf) ((p1)).toInt.toNat ((x1)).toInt.toNat) (mlC f_mny) (GB (p2)) ((x_mm_clauses)).toInt.toNat := k31
        replace k32 : SAM (f5) (f6) (f24) (f25) := k32
        replace k33 : TRL ((z21)).toInt (f26) (f24) := k33
        have sm34 : SAM f_bto f_bin f24 f25 := sam_trans klp8_8 k32
        refine lv_if_ne (tgt := 24) hx hb dX11_isPure_19 (by decide) (fun c35 => ?_) (fun c35 => ?_)
        · have kc35 := (not_congr (cv_eq (rfl : (r20).toInt = (r20).toInt) (by decide : (0 : Int32).toInt = 0))).mp c35
          have ln9 : LNO mf (mlC f_mny) (GB p2) (x_mm_clauses).toInt (p1).toInt.toNat ((x1).toInt + 1) := lno_step klp8_10 (by omega) (by omega) rfl
          obtain ⟨z36, ez36⟩ : ∃ y : Int32, y = x1 + 1 := ⟨_, rfl⟩
          have tz36 : (z36).toInt = (x1).toInt + 1 := by rw [ez36]; exact i_add rfl (by decide) (by omega)
          refine lv_iinc (v := z36) (lv' := [(3, .int z36), (0, .ref h_mm), (1, .int p1), (2, .int p2)]) hx hb dX11_isPure_24 hl (k := 3) rfl (by rw [ez36]; rfl) (by decide) rfl (fun ls hl => ?_)
          refine lv_goto (tgt := 2) hx hb dX11_isPure_27 (by decide) ?_
          rw [← tz36] at ln9
          exact ih9 (z36) (z21) (z22) (z23) (f24) (f25) (f26) _ _ _ (by omega) (by first | exact k27 | omega) (by first | exact k28 | omega) (by first | exact k29 | omega) hf24 hf25 hf26 (by omega) sm34 (trl_cast k33 (by omega)) ln9 (by omega) hP hD hS (lv_sub hl [1, 2, 3, 0] rfl)
        · have kc35 := (cv_eq (rfl : (r20).toInt = (r20).toInt) (by decide : (0 : Int32).toInt = 0)).mp c35
          refine lv_iconst (v := 1) hx hb dX11_isPure_22 (by decide) ?_
          refine W.widen (k := 0) (n := 0) (Nat.le_of_ble_eq_true rfl) (Nat.le_of_ble_eq_true rfl) ?_
          have cst1 : (1 : Int32).toInt = 1 := by decide
          have w37 : 0 ≤ ((z21)).toInt ∧ ((z21)).toInt ≤ 256 := by first | exact k27 | omega
          have w38 : 0 ≤ ((z22)).toInt ∧ ((z22)).toInt ≤ 7999 := by first | exact k28 | omega
          have w39 : 0 ≤ ((z23)).toInt ∧ ((z23)).toInt ≤ 31 := by first | exact k29 | omega
          have w40 : 0 ≤ (1 : Int32).toInt ∧ (1 : Int32).toInt ≤ 1 := by omega
          have w41 : ((z21)).toInt = (x_mm_trailed).toInt := by omega
          have w42 : SAM f_bto f_bin (f24) (f25) := sm34
          have w43 : TRL ((z21)).toInt (f26) (f24) := (trl_cast k33 (by omega))
          have w44 : LOR mf (mlC f_mny) (GB p2) (x_mm_clauses).toInt (p1).toInt.toNat ((1 : Int32)).toInt := (Or.inl ⟨by decide, (Int.toNat ((x1).toInt)), show (_ : Int) < (f_mny (p1).toInt.toNat).toInt by omega, by omega⟩)
          exact W.zret (v := 1) (ty := .boolean) hx hb hr (by decide) (fun t ht hW => ⟨⟨1, (z21, z22, z23, f24, f25, f26), rfl, ⟨w37, w38, w39, hf24, hf25, hf26, w40, w41, w42, w43, w44⟩, by rw [ht]; exact hP, hD⟩, hS.F ht⟩) hS.2.2 dX11_isPure_23
  have cst0 : (0 : Int32).toInt = 0 := by decide
  exact lp8 _ (0) (x_mm_trailed) (x_mm_goneTo) (x_mm_goneIn) (f_bto) (f_bin) (f_tra) _ _ _ (by decide) (by first | exact hx_mm_trailed | omega) (by first | exact hx_mm_goneTo | omega) (by first | exact hx_mm_goneIn | omega) hf_bto hf_bin hf_tra (by omega) sam0 (trl_cast hn_trl (by omega)) (lno_zero (Int.le_refl _)) (Nat.le_refl _) hP hD hS (lv_sub hl [1, 2, 3, 0] rfl)

set_option maxHeartbeats 8000000 in
set_option maxRecDepth 100000 in
theorem c_X11_pure (l : Launch) (dC : Nat → ClassId) (dI : Nat → Nat → Nat) (sz : Nat) (h_mm : Nat) (h_nv : Nat) (h_na : Nat) (h_nb : Nat) (h_nc : Nat) (h_bto : Nat) (h_bin : Nat) (h_nn : Nat) (h_tra : Nat) (h_mny : Nat) (h_isn : Nat) (h_tem : Nat) (v_mm : Nat → Value) (x_mm_clauses : Int32) (x_mm_trailed : Int32) (x_mm_goneTo : Int32) (x_mm_goneIn : Int32) (cy_nv : ClassId) (f_nv : Nat → Int32) (cy_na : ClassId) (f_na : Nat → Int32) (cy_nb : ClassId) (f_nb : Nat → Int32) (cy_nc : ClassId) (f_nc : Nat → Int32) (cy_bto : ClassId) (f_bto : Nat → Int32) (cy_bin : ClassId) (f_bin : Nat → Int32) (cy_nn : ClassId) (f_nn : Nat → Int64) (cy_tra : ClassId) (f_tra : Nat → Int32) (cy_mny : ClassId) (f_mny : Nat → Int32) (cy_isn : ClassId) (f_isn : Nat → Int32) (cy_tem : ClassId) (f_tem : Nat → Int32) (N : Int) (hz : Nat → Nat) (mf : MFT) (hx_mm_clauses : 0 ≤ (x_mm_clauses).toInt ∧ (x_mm_clauses).toInt ≤ 16) (hx_mm_trailed : 0 ≤ (x_mm_trailed).toInt ∧ (x_mm_trailed).toInt ≤ 256) (hx_mm_goneTo : 0 ≤ (x_mm_goneTo).toInt ∧ (x_mm_goneTo).toInt ≤ 7999) (hx_mm_goneIn : 0 ≤ (x_mm_goneIn).toInt ∧ (x_mm_goneIn).toInt ≤ 31) (hf_nv : Rg (-1) 7 f_nv) (hf_na : Rg (-1) 7999 f_na) (hf_nb : Rg (-1) 7999 f_nb) (hf_nc : Rg (-1) 7999 f_nc) (hf_bto : Rg (-1) 7999 f_bto) (hf_bin : Rg 0 31 f_bin) (hf_tra : Rg 0 255 f_tra) (hf_mny : Rg 0 6 f_mny) (hf_isn : Rg 0 1 f_isn) (hf_tem : Rg 0 7999 f_tem) (q0 : N ≤ 8000) (hn_nds : ND 0 N hz f_na f_nb f_nc) (hn_tms : TM 0 N hz 0 (x_mm_clauses).toInt f_mny f_tem) (hn_fre : FRE f_bto) (hn_trl : TRL (x_mm_trailed).toInt f_tra f_bto) (hn_mfr : MFN (RGW f_nn f_nv f_na f_nb f_nc) (mlC f_mny) (ndC f_tem) (sgR f_isn) 240000 248000 (x_mm_clauses).toInt mf) : Met l yX11_pure (Ws yX11_pure cX11_pure 5 (some .int)) (({ frames := 1551, cells := 0, slots := 0, locals := 44951 } : Room)) (PRE (dC, dI) cls [(cy_nv, .int), (cy_na, .int), (cy_nb, .int), (cy_nc, .int), (cy_bto, .int), (cy_bin, .int), (cy_nn, .long), (cy_tra, .int), (cy_mny, .int), (cy_isn, .boolean), (cy_tem, .int)] [(h_mm, .inr (8, (mo142 v_mm (.ref h_nv) (.ref h_nn) (.ref h_na) (.ref h_nb) (.ref h_nc) (.int x_mm_clauses) (.ref h_mny) (.ref h_isn) (.ref h_tem) (.ref h_bto) (.ref h_bin) (.ref h_tra) (.int x_mm_trailed) (.int x_mm_goneTo) (.int x_mm_goneIn)))), (h_nv, .inl (cy_nv, 8000, .inl f_nv)), (h_na, .inl (cy_na, 8000, .inl f_na)), (h_nb, .inl (cy_nb, 8000, .inl f_nb)), (h_nc, .inl (cy_nc, 8000, .inl f_nc)), (h_bto, .inl (cy_bto, 256, .inl f_bto)), (h_bin, .inl (cy_bin, 256, .inl f_bin)), (h_nn, .inl (cy_nn, 8000, .inr (.inl f_nn))), (h_tra, .inl (cy_tra, 256, .inl f_tra)), (h_mny, .inl (cy_mny, 32, .inl f_mny)), (h_isn, .inl (cy_isn, 192, .inl f_isn)), (h_tem, .inl (cy_tem, 192, .inl f_tem))] sz [.ref h_mm]) (va_Qi (fun (r : Int32) (u : (Int32) × (Int32) × (Int32) × (Int32) × (Nat → Int32) × (Nat → Int32) × (Nat → Int32)) => (0 ≤ (u.2.1).toInt ∧ (u.2.1).toInt ≤ 256) ∧ (0 ≤ (u.2.2.1).toInt ∧ (u.2.2.1).toInt ≤ 7999) ∧ (0 ≤ (u.2.2.2.1).toInt ∧ (u.2.2.2.1).toInt ≤ 31) ∧ (Rg (-1) 7999 u.2.2.2.2.1) ∧ (Rg 0 31 u.2.2.2.2.2.1) ∧ (Rg 0 255 u.2.2.2.2.2.2) ∧ ((u.2.1).toInt = (x_mm_trailed).toInt) ∧ (SAM f_bto f_bin u.2.2.2.2.1 u.2.2.2.2.2.1) ∧ (TRL (u.2.1).toInt u.2.2.2.2.2.2 u.2.2.2.2.1) ∧ (PUR mf (mlC f_mny) (x_mm_clauses).toInt r)) (fun (u : (Int32) × (Int32) × (Int32) × (Int32) × (Nat → Int32) × (Nat → Int32) × (Nat → Int32)) (t : State) => va_P (dC, dI) cls [(h_mm, .inr (8, (mo143 v_mm (.int u.1) (.ref h_nv) (.ref h_nn) (.ref h_na) (.ref h_nb) (.ref h_nc) (.int x_mm_clauses) (.ref h_mny) (.ref h_isn) (.ref h_tem) (.ref h_bto) (.ref h_bin) (.ref h_tra) (.int u.2.1) (.int u.2.2.1) (.int u.2.2.2.1)))), (h_nv, .inl (cy_nv, 8000, .inl f_nv)), (h_na, .inl (cy_na, 8000, .inl f_na)), (h_nb, .inl (cy_nb, 8000, .inl f_nb)), (h_nc, .inl (cy_nc, 8000, .inl f_nc)), (h_bto, .inl (cy_bto, 256, .inl u.2.2.2.2.1)), (h_bin, .inl (cy_bin, 256, .inl u.2.2.2.2.2.1)), (h_nn, .inl (cy_nn, 8000, .inr (.inl f_nn))), (h_tra, .inl (cy_tra, 256, .inl u.2.2.2.2.2.2)), (h_mny, .inl (cy_mny, 32, .inl f_mny)), (h_isn, .inl (cy_isn, 192, .inl f_isn)), (h_tem, .inl (cy_tem, 192, .inl f_tem))] t.heap ∧ va_D (va_A [(h_mm, .inr (8, (mo142 v_mm (.ref h_nv) (.ref h_nn) (.ref h_na) (.ref h_nb) (.ref h_nc) (.int x_mm_clauses) (.ref h_mny) (.ref h_isn) (.ref h_tem) (.ref h_bto) (.ref h_bin) (.ref h_tra) (.int x_mm_trailed) (.int x_mm_goneTo) (.int x_mm_goneIn)))), (h_nv, .inl (cy_nv, 8000, .inl f_nv)), (h_na, .inl (cy_na, 8000, .inl f_na)), (h_nb, .inl (cy_nb, 8000, .inl f_nb)), (h_nc, .inl (cy_nc, 8000, .inl f_nc)), (h_bto, .inl (cy_bto, 256, .inl f_bto)), (h_bin, .inl (cy_bin, 256, .inl f_bin)), (h_nn, .inl (cy_nn, 8000, .inr (.inl f_nn))), (h_tra, .inl (cy_tra, 256, .inl f_tra)), (h_mny, .inl (cy_mny, 32, .inl f_mny)), (h_isn, .inl (cy_isn, 192, .inl f_isn)), (h_tem, .inl (cy_tem, 192, .inl f_tem))] sz) [(h_mm, .inr (8, (mo143 v_mm (.int u.1) (.ref h_nv) (.ref h_nn) (.ref h_na) (.ref h_nb) (.ref h_nc) (.int x_mm_clauses) (.ref h_mny) (.ref h_isn) (.ref h_tem) (.ref h_bto) (.ref h_bin) (.ref h_tra) (.int u.2.1) (.int u.2.2.1) (.int u.2.2.2.1)))), (h_nv, .inl (cy_nv, 8000, .inl f_nv)), (h_na, .inl (cy_na, 8000, .inl f_na)), (h_nb, .inl (cy_nb, 8000, .inl f_nb)), (h_nc, .inl (cy_nc, 8000, .inl f_nc)), (h_bto, .inl (cy_bto, 256, .inl u.2.2.2.2.1)), (h_bin, .inl (cy_bin, 256, .inl u.2.2.2.2.2.1)), (h_nn, .inl (cy_nn, 8000, .inr (.inl f_nn))), (h_tra, .inl (cy_tra, 256, .inl u.2.2.2.2.2.2)), (h_mny, .inl (cy_mny, 32, .inl f_mny)), (h_isn, .inl (cy_isn, 192, .inl f_isn)), (h_tem, .inl (cy_tem, 192, .inl f_tem))]) (va_A [(h_mm, .inr (8, (mo142 v_mm (.ref h_nv) (.ref h_nn) (.ref h_na) (.ref h_nb) (.ref h_nc) (.int x_mm_clauses) (.ref h_mny) (.ref h_isn) (.ref h_tem) (.ref h_bto) (.ref h_bin) (.ref h_tra) (.int x_mm_trailed) (.int x_mm_goneTo) (.int x_mm_goneIn)))), (h_nv, .inl (cy_nv, 8000, .inl f_nv)), (h_na, .inl (cy_na, 8000, .inl f_na)), (h_nb, .inl (cy_nb, 8000, .inl f_nb)), (h_nc, .inl (cy_nc, 8000, .inl f_nc)), (h_bto, .inl (cy_bto, 256, .inl f_bto)), (h_bin, .inl (cy_bin, 256, .inl f_bin)), (h_nn, .inl (cy_nn, 8000, .inr (.inl f_nn))), (h_tra, .inl (cy_tra, 256, .inl f_tra)), (h_mny, .inl (cy_mny, 32, .inl f_mny)), (h_isn, .inl (cy_isn, 192, .inl f_isn)), (h_tem, .inl (cy_tem, 192, .inl f_tem))] sz)) 0 0 (va_A [(h_mm, .inr (8, (mo142 v_mm (.ref h_nv) (.ref h_nn) (.ref h_na) (.ref h_nb) (.ref h_nc) (.int x_mm_clauses) (.ref h_mny) (.ref h_isn) (.ref h_tem) (.ref h_bto) (.ref h_bin) (.ref h_tra) (.int x_mm_trailed) (.int x_mm_goneTo) (.int x_mm_goneIn)))), (h_nv, .inl (cy_nv, 8000, .inl f_nv)), (h_na, .inl (cy_na, 8000, .inl f_na)), (h_nb, .inl (cy_nb, 8000, .inl f_nb)), (h_nc, .inl (cy_nc, 8000, .inl f_nc)), (h_bto, .inl (cy_bto, 256, .inl f_bto)), (h_bin, .inl (cy_bin, 256, .inl f_bin)), (h_nn, .inl (cy_nn, 8000, .inr (.inl f_nn))), (h_tra, .inl (cy_tra, 256, .inl f_tra)), (h_mny, .inl (cy_mny, 32, .inl f_mny)), (h_isn, .inl (cy_isn, 192, .inl f_isn)), (h_tem, .inl (cy_tem, 192, .inl f_tem))] sz) := by
  refine Met.ofW (cc := cX11_pure) (maxL := 5) (ret := (some .int)) (by decide) rfl ?_
  intro p e s m args below meth c s₁ B hml hv
  obtain ⟨rfl, hsz, hP, hK, hD0, hN⟩ := hv
  have hx := B.exec
  have hb := B.bytes
  have hr := B.returns
  have hts := atoms_spec (ws := Ws yX11_pure cX11_pure 5 (some .int)) B.pre
  have hT : ∀ w ∈ WALL, w ∈ Ws yX11_pure cX11_pure 5 (some .int) := fun w h => List.mem_cons_of_mem _ h
  have hw := fun w (h : w ∈ WALL) => hts w (hT w h)
  have hown : s.vm.findClass RX11 = some m.cls := findClass_of_methodNamed B.named
  have hlocks := B.notSynchronized
  subst hsz
  have hD := hD0.self (sz := s.heap.size)
  generalize hAe : va_A [(h_mm, .inr (8, (mo142 v_mm (.ref h_nv) (.ref h_nn) (.ref h_na) (.ref h_nb) (.ref h_nc) (.int x_mm_clauses) (.ref h_mny) (.ref h_isn) (.ref h_tem) (.ref h_bto) (.ref h_bin) (.ref h_tra) (.int x_mm_trailed) (.int x_mm_goneTo) (.int x_mm_goneIn)))), (h_nv, .inl (cy_nv, 8000, .inl f_nv)), (h_na, .inl (cy_na, 8000, .inl f_na)), (h_nb, .inl (cy_nb, 8000, .inl f_nb)), (h_nc, .inl (cy_nc, 8000, .inl f_nc)), (h_bto, .inl (cy_bto, 256, .inl f_bto)), (h_bin, .inl (cy_bin, 256, .inl f_bin)), (h_nn, .inl (cy_nn, 8000, .inr (.inl f_nn))), (h_tra, .inl (cy_tra, 256, .inl f_tra)), (h_mny, .inl (cy_mny, 32, .inl f_mny)), (h_isn, .inl (cy_isn, 192, .inl f_isn)), (h_tem, .inl (cy_tem, 192, .inl f_tem))] s.heap.size = A at hD ⊢
  have hA : ∀ q : Nat, s.heap.size ≤ q → A q := fun q h => by rw [← hAe]; exact Or.inr h
  have hS : va_S A s.heap s.heap [] := va_S.rf
  have hl := lv_entry ([.ref h_mm]) (n := 5) (Nat.le_of_ble_eq_true rfl)
  rw [lg_entry_eq]
  generalize (lg_sl ([.ref h_mm]) ++ List.replicate (5 - (lg_sl ([.ref h_mm])).length) Slot.unset).toArray = ls at hl ⊢
  have hl : lv_has ls 5 [(0, .ref h_mm)] := hl
  have sam0 : SAM f_bto f_bin f_bto f_bin := sam_refl
  refine lv_aload_n hx hb dX11_pure_0 rfl (lv_at hl 0 rfl) ?_
  refine lv_iconst (v := 0) hx hb dX11_pure_1 (by decide) ?_
  refine va_put (D := (dC, dI)) (ci := 8) (v := .int 0) (ty := tyX11 0) (C := RX11) (T := TX11) (N := 71) hx hb hw iwX11 tyX11 tyX11_ok nmX11 hown hK hP hD hS 0 rfl rfl 0 (by decide) (hw _ w_f_X11_1) (fun _ h9 => h9) rfl (tyX11_ok 0 (by decide)) rfl rfl (Nat.le_of_ble_eq_true rfl) dX11_pure_2 (fun H locs hP9 hD9 hS9 => ?_)
  clear hP hD hS
  have hP : va_P (dC, dI) cls [(h_mm, .inr (8, (mo143 v_mm (.int 0) (.ref h_nv) (.ref h_nn) (.ref h_na) (.ref h_nb) (.ref h_nc) (.int x_mm_clauses) (.ref h_mny) (.ref h_isn) (.ref h_tem) (.ref h_bto) (.ref h_bin) (.ref h_tra) (.int x_mm_trailed) (.int x_mm_goneTo) (.int x_mm_goneIn)))), (h_nv, .inl (cy_nv, 8000, .inl f_nv)), (h_na, .inl (cy_na, 8000, .inl f_na)), (h_nb, .inl (cy_nb, 8000, .inl f_nb)), (h_nc, .inl (cy_nc, 8000, .inl f_nc)), (h_bto, .inl (cy_bto, 256, .inl f_bto)), (h_bin, .inl (cy_bin, 256, .inl f_bin)), (h_nn, .inl (cy_nn, 8000, .inr (.inl f_nn))), (h_tra, .inl (cy_tra, 256, .inl f_tra)), (h_mny, .inl (cy_mny, 32, .inl f_mny)), (h_isn, .inl (cy_isn, 192, .inl f_isn)), (h_tem, .inl (cy_tem, 192, .inl f_tem))] H := hP9
  have hD : va_D A [(h_mm, .inr (8, (mo143 v_mm (.int 0) (.ref h_nv) (.ref h_nn) (.ref h_na) (.ref h_nb) (.ref h_nc) (.int x_mm_clauses) (.ref h_mny) (.ref h_isn) (.ref h_tem) (.ref h_bto) (.ref h_bin) (.ref h_tra) (.int x_mm_trailed) (.int x_mm_goneTo) (.int x_mm_goneIn)))), (h_nv, .inl (cy_nv, 8000, .inl f_nv)), (h_na, .inl (cy_na, 8000, .inl f_na)), (h_nb, .inl (cy_nb, 8000, .inl f_nb)), (h_nc, .inl (cy_nc, 8000, .inl f_nc)), (h_bto, .inl (cy_bto, 256, .inl f_bto)), (h_bin, .inl (cy_bin, 256, .inl f_bin)), (h_nn, .inl (cy_nn, 8000, .inr (.inl f_nn))), (h_tra, .inl (cy_tra, 256, .inl f_tra)), (h_mny, .inl (cy_mny, 32, .inl f_mny)), (h_isn, .inl (cy_isn, 192, .inl f_isn)), (h_tem, .inl (cy_tem, 192, .inl f_tem))] := hD9
  have hS := hS9
  clear hP9 hD9 hS9
  refine lv_iconst (v := 0) hx hb dX11_pure_5 (by decide) ?_
  refine lv_istore_n (lv' := [(1, .int 0), (0, .ref h_mm)]) hx hb dX11_pure_6 rfl hl (by decide) rfl (fun ls hl => ?_)
  refine lv_iconst (v := 1) hx hb dX11_pure_7 (by decide) ?_
  refine lv_istore_n (lv' := [(2, .int 1), (1, .int 0), (0, .ref h_mm)]) hx hb dX11_pure_8 rfl hl (by decide) rfl (fun ls hl => ?_)
  have lp9 : ∀ (n : Nat) (x1 : Int32) (x2 : Int32) (x3 : Int32) (x4 : Int32) (x5 : Int32) (f6 : Nat → Int32) (f7 : Nat → Int32) (f8 : Nat → Int32) (H : Heap) (locs : List Loc) (ls : Array Slot), (0 ≤ (x1).toInt ∧ (x1).toInt ≤ 65535) → (0 ≤ (x2).toInt ∧ (x2).toInt ≤ 1) → (0 ≤ (x3).toInt ∧ (x3).toInt ≤ 256) → (0 ≤ (x4).toInt ∧ (x4).toInt ≤ 7999) → (0 ≤ (x5).toInt ∧ (x5).toInt ≤ 31) → (Rg (-1) 7999 f6) → (Rg 0 31 f7) → (Rg 0 255 f8) → ((x3).toInt = (x_mm_trailed).toInt) → (SAM f_bto f_bin f6 f7) → (TRL (x3).toInt f8 f6) → (PST mf (mlC f_mny) (x_mm_clauses).toInt x1 ((x2).toInt)) → (∀ d9 : Nat, (x_mm_clauses).toInt ≤ (d9 : Int) → d9 < 32 → GB x1 d9 = 0) → (2 * (65535 - (x1).toInt) + (x2).toInt).toNat + 1 ≤ n → va_P (dC, dI) cls [(h_mm, .inr (8, (mo143 v_mm (.int 0) (.ref h_nv) (.ref h_nn) (.ref h_na) (.ref h_nb) (.ref h_nc) (.int x_mm_clauses) (.ref h_mny) (.ref h_isn) (.ref h_tem) (.ref h_bto) (.ref h_bin) (.ref h_tra) (.int x3) (.int x4) (.int x5)))), (h_nv, .inl (cy_nv, 8000, .inl f_nv)), (h_na, .inl (cy_na, 8000, .inl f_na)), (h_nb, .inl (cy_nb, 8000, .inl f_nb)), (h_nc, .inl (cy_nc, 8000, .inl f_nc)), (h_bto, .inl (cy_bto, 256, .inl f6)), (h_bin, .inl (cy_bin, 256, .inl f7)), (h_nn, .inl (cy_nn, 8000, .inr (.inl f_nn))), (h_tra, .inl (cy_tra, 256, .inl f8)), (h_mny, .inl (cy_mny, 32, .inl f_mny)), (h_isn, .inl (cy_isn, 192, .inl f_isn)), (h_tem, .inl (cy_tem, 192, .inl f_tem))] H → va_D A [(h_mm, .inr (8, (mo143 v_mm (.int 0) (.ref h_nv) (.ref h_nn) (.ref h_na) (.ref h_nb) (.ref h_nc) (.int x_mm_clauses) (.ref h_mny) (.ref h_isn) (.ref h_tem) (.ref h_bto) (.ref h_bin) (.ref h_tra) (.int x3) (.int x4) (.int x5)))), (h_nv, .inl (cy_nv, 8000, .inl f_nv)), (h_na, .inl (cy_na, 8000, .inl f_na)), (h_nb, .inl (cy_nb, 8000, .inl f_nb)), (h_nc, .inl (cy_nc, 8000, .inl f_nc)), (h_bto, .inl (cy_bto, 256, .inl f6)), (h_bin, .inl (cy_bin, 256, .inl f7)), (h_nn, .inl (cy_nn, 8000, .inr (.inl f_nn))), (h_tra, .inl (cy_tra, 256, .inl f8)), (h_mny, .inl (cy_mny, 32, .inl f_mny)), (h_isn, .inl (cy_isn, 192, .inl f_isn)), (h_tem, .inl (cy_tem, 192, .inl f_tem))] → va_S A s.heap H locs → lv_has ls 5 [(0, .ref h_mm), (1, .int x1), (2, .int x2)] → W p l e ({ frames := 1551, cells := 0, slots := 0, locals := 44951 } : Room) s m ([.ref h_mm] : List Value).toArray below meth c H locs 0 0 (MQ below (va_Qi (fun (r : Int32) (u : (Int32) × (Int32) × (Int32) × (Int32) × (Nat → Int32) × (Nat → Int32) × (Nat → Int32)) => (0 ≤ (u.2.1).toInt ∧ (u.2.1).toInt ≤ 256) ∧ (0 ≤ (u.2.2.1).toInt ∧ (u.2.2.1).toInt ≤ 7999) ∧ (0 ≤ (u.2.2.2.1).toInt ∧ (u.2.2.2.1).toInt ≤ 31) ∧ (Rg (-1) 7999 u.2.2.2.2.1) ∧ (Rg 0 31 u.2.2.2.2.2.1) ∧ (Rg 0 255 u.2.2.2.2.2.2) ∧ ((u.2.1).toInt = (x_mm_trailed).toInt) ∧ (SAM f_bto f_bin u.2.2.2.2.1 u.2.2.2.2.2.1) ∧ (TRL (u.2.1).toInt u.2.2.2.2.2.2 u.2.2.2.2.1) ∧ (PUR mf (mlC f_mny) (x_mm_clauses).toInt r)) (fun (u : (Int32) × (Int32) × (Int32) × (Int32) × (Nat → Int32) × (Nat → Int32) × (Nat → Int32)) (t : State) => va_P (dC, dI) cls [(h_mm, .inr (8, (mo143 v_mm (.int u.1) (.ref h_nv) (.ref h_nn) (.ref h_na) (.ref h_nb) (.ref h_nc) (.int x_mm_clauses) (.ref h_mny) (.ref h_isn) (.ref h_tem) (.ref h_bto) (.ref h_bin) (.ref h_tra) (.int u.2.1) (.int u.2.2.1) (.int u.2.2.2.1)))), (h_nv, .inl (cy_nv, 8000, .inl f_nv)), (h_na, .inl (cy_na, 8000, .inl f_na)), (h_nb, .inl (cy_nb, 8000, .inl f_nb)), (h_nc, .inl (cy_nc, 8000, .inl f_nc)), (h_bto, .inl (cy_bto, 256, .inl u.2.2.2.2.1)), (h_bin, .inl (cy_bin, 256, .inl u.2.2.2.2.2.1)), (h_nn, .inl (cy_nn, 8000, .inr (.inl f_nn))), (h_tra, .inl (cy_tra, 256, .inl u.2.2.2.2.2.2)), (h_mny, .inl (cy_mny, 32, .inl f_mny)), (h_isn, .inl (cy_isn, 192, .inl f_isn)), (h_tem, .inl (cy_tem, 192, .inl f_tem))] t.heap ∧ va_D A [(h_mm, .inr (8, (mo143 v_mm (.int u.1) (.ref h_nv) (.ref h_nn) (.ref h_na) (.ref h_nb) (.ref h_nc) (.int x_mm_clauses) (.ref h_mny) (.ref h_isn) (.ref h_tem) (.ref h_bto) (.ref h_bin) (.ref h_tra) (.int u.2.1) (.int u.2.2.1) (.int u.2.2.2.1)))), (h_nv, .inl (cy_nv, 8000, .inl f_nv)), (h_na, .inl (cy_na, 8000, .inl f_na)), (h_nb, .inl (cy_nb, 8000, .inl f_nb)), (h_nc, .inl (cy_nc, 8000, .inl f_nc)), (h_bto, .inl (cy_bto, 256, .inl u.2.2.2.2.1)), (h_bin, .inl (cy_bin, 256, .inl u.2.2.2.2.2.1)), (h_nn, .inl (cy_nn, 8000, .inr (.inl f_nn))), (h_tra, .inl (cy_tra, 256, .inl u.2.2.2.2.2.2)), (h_mny, .inl (cy_mny, 32, .inl f_mny)), (h_isn, .inl (cy_isn, 192, .inl f_isn)), (h_tem, .inl (cy_tem, 192, .inl f_tem))]) A) ([.ref h_mm] : List Value).toArray s 0 0 A) (F0 m 9 ls []) := by
    clear hP hD hS hl
    intro n
    induction n with
    | zero => intro x1 x2 x3 x4 x5 f6 f7 f8 H locs ls klp9_0 klp9_1 klp9_2 klp9_3 klp9_4 hf6 hf7 hf8 klp9_8 klp9_9 klp9_10 klp9_11 klp9_12 hm hP hD hS hl; exact False.elim (by omega)
    | succ n ih => 
      intro x1 x2 x3 x4 x5 f6 f7 f8 H locs ls klp9_0 klp9_1 klp9_2 klp9_3 klp9_4 hf6 hf7 hf8 klp9_8 klp9_9 klp9_10 klp9_11 klp9_12 hm hP hD hS hl
      have ih10 := ih
      clear ih
      refine lv_iload_n hx hb dX11_pure_9 rfl (lv_at hl 2 rfl) ?_
      refine lv_if_eq (tgt := 76) hx hb dX11_pure_10 (by decide) (fun c11 => ?_) (fun c11 => ?_)
      · have kc11 := (cv_eq (rfl : (x2).toInt = (x2).toInt) (by decide : (0 : Int32).toInt = 0)).mp c11
        refine lv_iload_n hx hb dX11_pure_76 rfl (lv_at hl 1 rfl) ?_
        refine W.widen (k := 0) (n := 0) (Nat.le_of_ble_eq_true rfl) (Nat.le_of_ble_eq_true rfl) ?_
        have cst0 : (0 : Int32).toInt = 0 := by decide
        have w12 : 0 ≤ ((x3)).toInt ∧ ((x3)).toInt ≤ 256 := by first | exact klp9_2 | omega
        have w13 : 0 ≤ ((x4)).toInt ∧ ((x4)).toInt ≤ 7999 := by first | exact klp9_3 | omega
        have w14 : 0 ≤ ((x5)).toInt ∧ ((x5)).toInt ≤ 31 := by first | exact klp9_4 | omega
        have w15 : ((x3)).toInt = (x_mm_trailed).toInt := by first | exact klp9_8 | omega
        have w16 : SAM f_bto f_bin (f6) (f7) := klp9_9
        have w17 : TRL ((x3)).toInt (f8) (f6) := (trl_cast klp9_10 (by omega))
        have w18 : PUR mf (mlC f_mny) (x_mm_clauses).toInt (x1 : Int32) := ⟨(klp9_11).2 (by omega), klp9_12⟩
        exact W.iret (v := x1) hx hb hr (fun t ht hW => ⟨⟨x1, (0, x3, x4, x5, f6, f7, f8), rfl, ⟨w12, w13, w14, hf6, hf7, hf8, w15, w16, w17, w18⟩, by rw [ht]; exact hP, hD⟩, hS.F ht⟩) hS.2.2 dX11_pure_77
      · have kc11 := (not_congr (cv_eq (rfl : (x2).toInt = (x2).toInt) (by decide : (0 : Int32).toInt = 0))).mp c11
        refine lv_iload_n hx hb dX11_pure_13 rfl (lv_at hl 1 rfl) ?_
        refine lv_istore_n (lv' := [(3, .int x1), (0, .ref h_mm), (1, .int x1), (2, .int x2)]) hx hb dX11_pure_14 rfl hl (by decide) rfl (fun ls hl => ?_)
        refine lv_iconst (v := 0) hx hb dX11_pure_15 (by decide) ?_
        refine lv_istore (lv' := [(4, .int 0), (3, .int x1), (0, .ref h_mm), (1, .int x1), (2, .int x2)]) hx hb dX11_pure_16 hl (by decide) rfl (fun ls hl => ?_)
        have lp27 : ∀ (n : Nat) (x19 : Int32) (x20 : Int32) (x21 : Int32) (x22 : Int32) (x23 : Int32) (f24 : Nat → Int32) (f25 : Nat → Int32) (f26 : Nat → Int32) (H : Heap) (locs : List Loc) (ls : Array Slot), (0 ≤ (x19).toInt ∧ (x19).toInt ≤ 65535) → (0 ≤ (x20).toInt ∧ (x20).toInt ≤ 16) → (0 ≤ (x21).toInt ∧ (x21).toInt ≤ 256) → (0 ≤ (x22).toInt ∧ (x22).toInt ≤ 7999) → (0 ≤ (x23).toInt ∧ (x23).toInt ≤ 31) → (Rg (-1) 7999 f24) → (Rg 0 31 f25) → (Rg 0 255 f26) → ((x21).toInt = (x_mm_trailed).toInt) → ((x1).toInt ≤ (x19).toInt) → (¬ (x2).toInt = 0) → ((x20).toInt ≤ (x_mm_clauses).toInt) → (SAM f_bto f_bin f24 f25) → (TRL (x21).toInt f26 f24) → (PST mf (mlC f_mny) (x_mm_clauses).toInt x1 ((x2).toInt)) → (∀ d9 : Nat, (x_mm_clauses).toInt ≤ (d9 : Int) → d9 < 32 → GB x1 d9 = 0) → (GTH mf (mlC f_mny) (x_mm_clauses).toInt (GB x1) x19 ((x20).toInt)) → (16 - (x20).toInt).toNat + 1 ≤ n → va_P (dC, dI) cls [(h_mm, .inr (8, (mo143 v_mm (.int 0) (.ref h_nv) (.ref h_nn) (.ref h_na) (.ref h_nb) (.ref h_nc) (.int x_mm_clauses) (.ref h_mny) (.ref h_isn) (.ref h_tem) (.ref h_bto) (.ref h_bin) (.ref h_tra) (.int x21) (.int x22) (.int x23)))), (h_nv, .inl (cy_nv, 8000, .inl f_nv)), (h_na, .inl (cy_na, 8000, .inl f_na)), (h_nb, .inl (cy_nb, 8000, .inl f_nb)), (h_nc, .inl (cy_nc, 8000, .inl f_nc)), (h_bto, .inl (cy_bto, 256, .inl f24)), (h_bin, .inl (cy_bin, 256, .inl f25)), (h_nn, .inl (cy_nn, 8000, .inr (.inl f_nn))), (h_tra, .inl (cy_tra, 256, .inl f26)), (h_mny, .inl (cy_mny, 32, .inl f_mny)), (h_isn, .inl (cy_isn, 192, .inl f_isn)), (h_tem, .inl (cy_tem, 192, .inl f_tem))] H → va_D A [(h_mm, .inr (8, (mo143 v_mm (.int 0) (.ref h_nv) (.ref h_nn) (.ref h_na) (.ref h_nb) (.ref h_nc) (.int x_mm_clauses) (.ref h_mny) (.ref h_isn) (.ref h_tem) (.ref h_bto) (.ref h_bin) (.ref h_tra) (.int x21) (.int x22) (.int x23)))), (h_nv, .inl (cy_nv, 8000, .inl f_nv)), (h_na, .inl (cy_na, 8000, .inl f_na)), (h_nb, .inl (cy_nb, 8000, .inl f_nb)), (h_nc, .inl (cy_nc, 8000, .inl f_nc)), (h_bto, .inl (cy_bto, 256, .inl f24)), (h_bin, .inl (cy_bin, 256, .inl f25)), (h_nn, .inl (cy_nn, 8000, .inr (.inl f_nn))), (h_tra, .inl (cy_tra, 256, .inl f26)), (h_mny, .inl (cy_mny, 32, .inl f_mny)), (h_isn, .inl (cy_isn, 192, .inl f_isn)), (h_tem, .inl (cy_tem, 192, .inl f_tem))] → va_S A s.heap H locs → lv_has ls 5 [(0, .ref h_mm), (1, .int x1), (2, .int x2), (3, .int x19), (4, .int x20)] → W p l e ({ frames := 1551, cells := 0, slots := 0, locals := 44951 } : Room) s m ([.ref h_mm] : List Value).toArray below meth c H locs 0 0 (MQ below (va_Qi (fun (r : Int32) (u : (Int32) × (Int32) × (Int32) × (Int32) × (Nat → Int32) × (Nat → Int32) × (Nat → Int32)) => (0 ≤ (u.2.1).toInt ∧ (u.2.1).toInt ≤ 256) ∧ (0 ≤ (u.2.2.1).toInt ∧ (u.2.2.1).toInt ≤ 7999) ∧ (0 ≤ (u.2.2.2.1).toInt ∧ (u.2.2.2.1).toInt ≤ 31) ∧ (Rg (-1) 7999 u.2.2.2.2.1) ∧ (Rg 0 31 u.2.2.2.2.2.1) ∧ (Rg 0 255 u.2.2.2.2.2.2) ∧ ((u.2.1).toInt = (x_mm_trailed).toInt) ∧ (SAM f_bto f_bin u.2.2.2.2.1 u.2.2.2.2.2.1) ∧ (TRL (u.2.1).toInt u.2.2.2.2.2.2 u.2.2.2.2.1) ∧ (PUR mf (mlC f_mny) (x_mm_clauses).toInt r)) (fun (u : (Int32) × (Int32) × (Int32) × (Int32) × (Nat → Int32) × (Nat → Int32) × (Nat → Int32)) (t : State) => va_P (dC, dI) cls [(h_mm, .inr (8, (mo143 v_mm (.int u.1) (.ref h_nv) (.ref h_nn) (.ref h_na) (.ref h_nb) (.ref h_nc) (.int x_mm_clauses) (.ref h_mny) (.ref h_isn) (.ref h_tem) (.ref h_bto) (.ref h_bin) (.ref h_tra) (.int u.2.1) (.int u.2.2.1) (.int u.2.2.2.1)))), (h_nv, .inl (cy_nv, 8000, .inl f_nv)), (h_na, .inl (cy_na, 8000, .inl f_na)), (h_nb, .inl (cy_nb, 8000, .inl f_nb)), (h_nc, .inl (cy_nc, 8000, .inl f_nc)), (h_bto, .inl (cy_bto, 256, .inl u.2.2.2.2.1)), (h_bin, .inl (cy_bin, 256, .inl u.2.2.2.2.2.1)), (h_nn, .inl (cy_nn, 8000, .inr (.inl f_nn))), (h_tra, .inl (cy_tra, 256, .inl u.2.2.2.2.2.2)), (h_mny, .inl (cy_mny, 32, .inl f_mny)), (h_isn, .inl (cy_isn, 192, .inl f_isn)), (h_tem, .inl (cy_tem, 192, .inl f_tem))] t.heap ∧ va_D A [(h_mm, .inr (8, (mo143 v_mm (.int u.1) (.ref h_nv) (.ref h_nn) (.ref h_na) (.ref h_nb) (.ref h_nc) (.int x_mm_clauses) (.ref h_mny) (.ref h_isn) (.ref h_tem) (.ref h_bto) (.ref h_bin) (.ref h_tra) (.int u.2.1) (.int u.2.2.1) (.int u.2.2.2.1)))), (h_nv, .inl (cy_nv, 8000, .inl f_nv)), (h_na, .inl (cy_na, 8000, .inl f_na)), (h_nb, .inl (cy_nb, 8000, .inl f_nb)), (h_nc, .inl (cy_nc, 8000, .inl f_nc)), (h_bto, .inl (cy_bto, 256, .inl u.2.2.2.2.1)), (h_bin, .inl (cy_bin, 256, .inl u.2.2.2.2.2.1)), (h_nn, .inl (cy_nn, 8000, .inr (.inl f_nn))), (h_tra, .inl (cy_tra, 256, .inl u.2.2.2.2.2.2)), (h_mny, .inl (cy_mny, 32, .inl f_mny)), (h_isn, .inl (cy_isn, 192, .inl f_isn)), (h_tem, .inl (cy_tem, 192, .inl f_tem))]) A) ([.ref h_mm] : List Value).toArray s 0 0 A) (F0 m 18 ls []) := by
          clear hP hD hS hl
          intro n
          induction n with
          | zero => intro x19 x20 x21 x22 x23 f24 f25 f26 H locs ls klp27_0 klp27_1 klp27_2 klp27_3 klp27_4 hf24 hf25 hf26 klp27_8 klp27_9 klp27_10 klp27_11 klp27_12 klp27_13 klp27_14 klp27_15 klp27_16 hm hP hD hS hl; exact False.elim (by omega)
          | succ n ih => 
            intro x19 x20 x21 x22 x23 f24 f25 f26 H locs ls klp27_0 klp27_1 klp27_2 klp27_3 klp27_4 hf24 hf25 hf26 klp27_8 klp27_9 klp27_10 klp27_11 klp27_12 klp27_13 klp27_14 klp27_15 klp27_16 hm hP hD hS hl
            have ih28 := ih
            clear ih
            refine lv_iload hx hb dX11_pure_18 (lv_at hl 4 rfl) ?_
            refine lv_aload_n hx hb dX11_pure_20 rfl (lv_at hl 0 rfl) ?_
            refine va_get (D := (dC, dI)) (ci := 8) (v := .int x_mm_clauses) (C := RX11) (T := TX11) (N := 71) hx hb hw iwX11 hown hK hP 0 rfl rfl 7 (by decide) (hw _ w_f_X11_164) (fun _ h9 => h9) rfl dX11_pure_21 ?_
            refine lv_icmp_ge (tgt := 60) hx hb dX11_pure_24 (by decide) (fun c29 => ?_) (fun c29 => ?_)
            · have kc29 := (cv_le (rfl : (x_mm_clauses).toInt = (x_mm_clauses).toInt) (rfl : (x20).toInt = (x20).toInt)).mp c29
              have gn9 : GTH mf (mlC f_mny) (x_mm_clauses).toInt (GB x1) x19 (x_mm_clauses).toInt := gth_cast klp27_16 (by omega)
              have fa9 := gth_far gn9 klp27_15
              have nx9 := gth_next gn9 (by omega)
              refine lv_iload_n hx hb dX11_pure_60 rfl (lv_at hl 3 rfl) ?_
              refine lv_iload_n hx hb dX11_pure_61 rfl (lv_at hl 1 rfl) ?_
              refine lv_icmp_eq (tgt := 69) hx hb dX11_pure_62 (by decide) (fun c30 => ?_) (fun c30 => ?_)
              · have kc30 := (cv_eq (rfl : (x19).toInt = (x19).toInt) (rfl : (x1).toInt = (x1).toInt)).mp c30
                refine lv_iconst (v := 0) hx hb dX11_pure_69 (by decide) ?_
                refine lv_istore_n (lv' := [(2, .int 0), (0, .ref h_mm), (1, .int x1), (3, .int x19), (4, .int x20)]) hx hb dX11_pure_70 rfl hl (by decide) rfl (fun ls hl => ?_)
                refine lv_iload_n hx hb dX11_pure_71 rfl (lv_at hl 3 rfl) ?_
                refine lv_istore_n (lv' := [(1, .int x19), (2, .int 0), (0, .ref h_mm), (3, .int x19), (4, .int x20)]) hx hb dX11_pure_72 rfl hl (by decide) rfl (fun ls hl => ?_)
                refine lv_goto (tgt := 9) hx hb dX11_pure_73 (by decide) ?_
                have cst0 : (0 : Int32).toInt = 0 := by decide
                exact ih10 (x19) (0) (x21) (x22) (x23) (f24) (f25) (f26) _ _ _ (by first | exact klp27_0 | omega) (by decide) (by first | exact klp27_2 | omega) (by first | exact klp27_3 | omega) (by first | exact klp27_4 | omega) hf24 hf25 hf26 (by first | exact klp27_8 | omega) klp27_12 (trl_cast klp27_13 (by omega)) (pst_end klp27_14 (by omega) nx9 (by omega) (by decide)) fa9 (by omega) hP hD hS (lv_sub hl [2, 0, 1] rfl)
              · have kc30 := (not_congr (cv_eq (rfl : (x19).toInt = (x19).toInt) (rfl : (x1).toInt = (x1).toInt))).mp c30
                refine lv_iconst (v := 1) hx hb dX11_pure_65 (by decide) ?_
                refine lv_goto (tgt := 70) hx hb dX11_pure_66 (by decide) ?_
                refine lv_istore_n (lv' := [(2, .int 1), (0, .ref h_mm), (1, .int x1), (3, .int x19), (4, .int x20)]) hx hb dX11_pure_70 rfl hl (by decide) rfl (fun ls hl => ?_)
                refine lv_iload_n hx hb dX11_pure_71 rfl (lv_at hl 3 rfl) ?_
                refine lv_istore_n (lv' := [(1, .int x19), (2, .int 1), (0, .ref h_mm), (3, .int x19), (4, .int x20)]) hx hb dX11_pure_72 rfl hl (by decide) rfl (fun ls hl => ?_)
                refine lv_goto (tgt := 9) hx hb dX11_pure_73 (by decide) ?_
                have cst1 : (1 : Int32).toInt = 1 := by decide
                exact ih10 (x19) (1) (x21) (x22) (x23) (f24) (f25) (f26) _ _ _ (by first | exact klp27_0 | omega) (by decide) (by first | exact klp27_2 | omega) (by first | exact klp27_3 | omega) (by first | exact klp27_4 | omega) hf24 hf25 hf26 (by first | exact klp27_8 | omega) klp27_12 (trl_cast klp27_13 (by omega)) (pst_more klp27_14 (by omega) nx9 (by decide)) fa9 (by omega) hP hD hS (lv_sub hl [2, 0, 1] rfl)
            · have kc29 := (not_congr (cv_le (rfl : (x_mm_clauses).toInt = (x_mm_clauses).toInt) (rfl : (x20).toInt = (x20).toInt))).mp c29
              refine lv_aload_n hx hb dX11_pure_27 rfl (lv_at hl 0 rfl) ?_
              refine lv_iload_n hx hb dX11_pure_28 rfl (lv_at hl 1 rfl) ?_
              refine lv_iload hx hb dX11_pure_29 (lv_at hl 4 rfl) ?_
              have hPc := hP.sub (ws' := []) [] rfl
              have hDc := hD.sub (ws' := []) [] (by decide) rfl
              have hKc := hK.sub (tys' := []) [] rfl
              have hFc := va_free (wc := []) hD hS hA [] rfl
              refine va_calli (va_runV (As := [.int x1, .int x20]) (rest := []) ⟨hx, hb, hml, hown, hts⟩ (c_X11_has_e l dC dI H.size h_mm x1 x20) (cwV 2 hts (gv hT w_m_X11_307 w_instanceMethod_X11_has ws_sel_X11_has w_ini_X11 w_code_X11_has) rfl rfl rfl (by decide +kernel) ⟨(Nat.le_of_ble_eq_true rfl), (Nat.le_of_ble_eq_true rfl)⟩) ⟨pre_blind, va_recv hK hP (ci := 8) (q0 := 0) rfl rfl, pre_of hPc hKc hDc hN⟩ rfl rfl hl.1 rfl (lv_room (Nat.le_of_ble_eq_true rfl)) dX11_pure_31 ⟨(Nat.le_of_ble_eq_true rfl), (Nat.le_of_ble_eq_true rfl)⟩) hS (fun q _ h => hFc q h) hFc (fun r31 u t H locs ht hvm hq hB hz1 hk1 hS9 => ?_)
              obtain ⟨hP1, hD1⟩ := hB
              rw [ht] at hP1
              obtain ⟨hP9, hD9⟩ := va_join (wr := [(h_mm, .inr (8, (mo143 v_mm (.int 0) (.ref h_nv) (.ref h_nn) (.ref h_na) (.ref h_nb) (.ref h_nc) (.int x_mm_clauses) (.ref h_mny) (.ref h_isn) (.ref h_tem) (.ref h_bto) (.ref h_bin) (.ref h_tra) (.int x21) (.int x22) (.int x23)))), (h_nv, .inl (cy_nv, 8000, .inl f_nv)), (h_na, .inl (cy_na, 8000, .inl f_na)), (h_nb, .inl (cy_nb, 8000, .inl f_nb)), (h_nc, .inl (cy_nc, 8000, .inl f_nc)), (h_bto, .inl (cy_bto, 256, .inl f24)), (h_bin, .inl (cy_bin, 256, .inl f25)), (h_nn, .inl (cy_nn, 8000, .inr (.inl f_nn))), (h_tra, .inl (cy_tra, 256, .inl f26)), (h_mny, .inl (cy_mny, 32, .inl f_mny)), (h_isn, .inl (cy_isn, 192, .inl f_isn)), (h_tem, .inl (cy_tem, 192, .inl f_tem))]) (w1 := []) hP hD [] [0, 1, 2, 3, 4, 5, 6, 7, 8, 9, 10, 11] rfl rfl (by decide) (by decide) hk1 hFc hP1 hD1
              clear hP hD hS hPc hDc hKc hFc hP1 hD1 hk1 hz1 ht hvm
              have hP : va_P (dC, dI) cls [(h_mm, .inr (8, (mo143 v_mm (.int 0) (.ref h_nv) (.ref h_nn) (.ref h_na) (.ref h_nb) (.ref h_nc) (.int x_mm_clauses) (.ref h_mny) (.ref h_isn) (.ref h_tem) (.ref h_bto) (.ref h_bin) (.ref h_tra) (.int x21) (.int x22) (.int x23)))), (h_nv, .inl (cy_nv, 8000, .inl f_nv)), (h_na, .inl (cy_na, 8000, .inl f_na)), (h_nb, .inl (cy_nb, 8000, .inl f_nb)), (h_nc, .inl (cy_nc, 8000, .inl f_nc)), (h_bto, .inl (cy_bto, 256, .inl f24)), (h_bin, .inl (cy_bin, 256, .inl f25)), (h_nn, .inl (cy_nn, 8000, .inr (.inl f_nn))), (h_tra, .inl (cy_tra, 256, .inl f26)), (h_mny, .inl (cy_mny, 32, .inl f_mny)), (h_isn, .inl (cy_isn, 192, .inl f_isn)), (h_tem, .inl (cy_tem, 192, .inl f_tem))] H := hP9
              have hD : va_D A [(h_mm, .inr (8, (mo143 v_mm (.int 0) (.ref h_nv) (.ref h_nn) (.ref h_na) (.ref h_nb) (.ref h_nc) (.int x_mm_clauses) (.ref h_mny) (.ref h_isn) (.ref h_tem) (.ref h_bto) (.ref h_bin) (.ref h_tra) (.int x21) (.int x22) (.int x23)))), (h_nv, .inl (cy_nv, 8000, .inl f_nv)), (h_na, .inl (cy_na, 8000, .inl f_na)), (h_nb, .inl (cy_nb, 8000, .inl f_nb)), (h_nc, .inl (cy_nc, 8000, .inl f_nc)), (h_bto, .inl (cy_bto, 256, .inl f24)), (h_bin, .inl (cy_bin, 256, .inl f25)), (h_nn, .inl (cy_nn, 8000, .inr (.inl f_nn))), (h_tra, .inl (cy_tra, 256, .inl f26)), (h_mny, .inl (cy_mny, 32, .inl f_mny)), (h_isn, .inl (cy_isn, 192, .inl f_isn)), (h_tem, .inl (cy_tem, 192, .inl f_tem))] := hD9
              have hS := hS9
              clear hP9 hD9 hS9
              obtain ⟨k32, k33⟩ := hq
              replace k32 : 0 ≤ (r31).toInt ∧ (r31).toInt ≤ 1 := k32
              replace k33 : ((r31)).toInt = bt (x1) (x20) := k33
              have gb9 : GB x1 (x20).toInt.toNat = (r31).toInt := by rw [← gb_bt (by omega)]; exact k33.symm
              refine lv_if_ne (tgt := 54) hx hb dX11_pure_34 (by decide) (fun c34 => ?_) (fun c34 => ?_)
              · have kc34 := (not_congr (cv_eq (rfl : (r31).toInt = (r31).toInt) (by decide : (0 : Int32).toInt = 0))).mp c34
                have gg9 : GTH mf (mlC f_mny) (x_mm_clauses).toInt (GB x1) x19 ((x20).toInt + 1) := gth_no klp27_16 (by omega) rfl (Or.inl (by omega))
                obtain ⟨z35, ez35⟩ : ∃ y : Int32, y = x20 + 1 := ⟨_, rfl⟩
                have tz35 : (z35).toInt = (x20).toInt + 1 := by rw [ez35]; exact i_add rfl (by decide) (by omega)
                refine lv_iinc (v := z35) (lv' := [(4, .int z35), (0, .ref h_mm), (1, .int x1), (2, .int x2), (3, .int x19)]) hx hb dX11_pure_54 hl (k := 4) rfl (by rw [ez35]; rfl) (by decide) rfl (fun ls hl => ?_)
                refine lv_goto (tgt := 18) hx hb dX11_pure_57 (by decide) ?_
                rw [← tz35] at gg9
                exact ih28 (x19) (z35) (x21) (x22) (x23) (f24) (f25) (f26) _ _ _ (by first | exact klp27_0 | omega) (by omega) (by first | exact klp27_2 | omega) (by first | exact klp27_3 | omega) (by first | exact klp27_4 | omega) hf24 hf25 hf26 (by first | exact klp27_8 | omega) (by first | exact klp27_9 | omega) (by first | exact klp27_10 | omega) (by omega) klp27_12 (trl_cast klp27_13 (by omega)) klp27_14 klp27_15 gg9 (by omega) hP hD hS (lv_sub hl [1, 2, 3, 4, 0] rfl)
              · have kc34 := (cv_eq (rfl : (r31).toInt = (r31).toInt) (by decide : (0 : Int32).toInt = 0)).mp c34
                refine lv_aload_n hx hb dX11_pure_37 rfl (lv_at hl 0 rfl) ?_
                refine lv_iload hx hb dX11_pure_38 (lv_at hl 4 rfl) ?_
                refine lv_iload_n hx hb dX11_pure_40 rfl (lv_at hl 1 rfl) ?_
                obtain ⟨vq36, evq36⟩ := mq143_142 v_mm (.int 0)
                replace hP : va_P (dC, dI) cls [(h_mm, .inr (8, (mo142 vq36 (.ref h_nv) (.ref h_nn) (.ref h_na) (.ref h_nb) (.ref h_nc) (.int x_mm_clauses) (.ref h_mny) (.ref h_isn) (.ref h_tem) (.ref h_bto) (.ref h_bin) (.ref h_tra) (.int x21) (.int x22) (.int x23)))), (h_nv, .inl (cy_nv, 8000, .inl f_nv)), (h_na, .inl (cy_na, 8000, .inl f_na)), (h_nb, .inl (cy_nb, 8000, .inl f_nb)), (h_nc, .inl (cy_nc, 8000, .inl f_nc)), (h_bto, .inl (cy_bto, 256, .inl f24)), (h_bin, .inl (cy_bin, 256, .inl f25)), (h_nn, .inl (cy_nn, 8000, .inr (.inl f_nn))), (h_tra, .inl (cy_tra, 256, .inl f26)), (h_mny, .inl (cy_mny, 32, .inl f_mny)), (h_isn, .inl (cy_isn, 192, .inl f_isn)), (h_tem, .inl (cy_tem, 192, .inl f_tem))] H := by rw [evq36]; exact hP
                replace hD : va_D A [(h_mm, .inr (8, (mo142 vq36 (.ref h_nv) (.ref h_nn) (.ref h_na) (.ref h_nb) (.ref h_nc) (.int x_mm_clauses) (.ref h_mny) (.ref h_isn) (.ref h_tem) (.ref h_bto) (.ref h_bin) (.ref h_tra) (.int x21) (.int x22) (.int x23)))), (h_nv, .inl (cy_nv, 8000, .inl f_nv)), (h_na, .inl (cy_na, 8000, .inl f_na)), (h_nb, .inl (cy_nb, 8000, .inl f_nb)), (h_nc, .inl (cy_nc, 8000, .inl f_nc)), (h_bto, .inl (cy_bto, 256, .inl f24)), (h_bin, .inl (cy_bin, 256, .inl f25)), (h_nn, .inl (cy_nn, 8000, .inr (.inl f_nn))), (h_tra, .inl (cy_tra, 256, .inl f26)), (h_mny, .inl (cy_mny, 32, .inl f_mny)), (h_isn, .inl (cy_isn, 192, .inl f_isn)), (h_tem, .inl (cy_tem, 192, .inl f_tem))] := by rw [evq36]; exact hD
                have hPc := hP.sub (ws' := [(h_mm, .inr (8, (mo142 vq36 (.ref h_nv) (.ref h_nn) (.ref h_na) (.ref h_nb) (.ref h_nc) (.int x_mm_clauses) (.ref h_mny) (.ref h_isn) (.ref h_tem) (.ref h_bto) (.ref h_bin) (.ref h_tra) (.int x21) (.int x22) (.int x23)))), (h_nv, .inl (cy_nv, 8000, .inl f_nv)), (h_na, .inl (cy_na, 8000, .inl f_na)), (h_nb, .inl (cy_nb, 8000, .inl f_nb)), (h_nc, .inl (cy_nc, 8000, .inl f_nc)), (h_bto, .inl (cy_bto, 256, .inl f24)), (h_bin, .inl (cy_bin, 256, .inl f25)), (h_nn, .inl (cy_nn, 8000, .inr (.inl f_nn))), (h_tra, .inl (cy_tra, 256, .inl f26)), (h_mny, .inl (cy_mny, 32, .inl f_mny)), (h_isn, .inl (cy_isn, 192, .inl f_isn)), (h_tem, .inl (cy_tem, 192, .inl f_tem))]) [0, 1, 2, 3, 4, 5, 6, 7, 8, 9, 10, 11] rfl
                have hDc := hD.sub (ws' := [(h_mm, .inr (8, (mo142 vq36 (.ref h_nv) (.ref h_nn) (.ref h_na) (.ref h_nb) (.ref h_nc) (.int x_mm_clauses) (.ref h_mny) (.ref h_isn) (.ref h_tem) (.ref h_bto) (.ref h_bin) (.ref h_tra) (.int x21) (.int x22) (.int x23)))), (h_nv, .inl (cy_nv, 8000, .inl f_nv)), (h_na, .inl (cy_na, 8000, .inl f_na)), (h_nb, .inl (cy_nb, 8000, .inl f_nb)), (h_nc, .inl (cy_nc, 8000, .inl f_nc)), (h_bto, .inl (cy_bto, 256, .inl f24)), (h_bin, .inl (cy_bin, 256, .inl f25)), (h_nn, .inl (cy_nn, 8000, .inr (.inl f_nn))), (h_tra, .inl (cy_tra, 256, .inl f26)), (h_mny, .inl (cy_mny, 32, .inl f_mny)), (h_isn, .inl (cy_isn, 192, .inl f_isn)), (h_tem, .inl (cy_tem, 192, .inl f_tem))]) [0, 1, 2, 3, 4, 5, 6, 7, 8, 9, 10, 11] (by decide) rfl
                have hKc := hK.sub (tys' := [(cy_nv, .int), (cy_na, .int), (cy_nb, .int), (cy_nc, .int), (cy_bto, .int), (cy_bin, .int), (cy_nn, .long), (cy_tra, .int), (cy_mny, .int), (cy_isn, .boolean), (cy_tem, .int)]) [0, 1, 2, 3, 4, 5, 6, 7, 8, 9, 10] rfl
                have hFc := va_free (wc := [(h_mm, .inr (8, (mo142 vq36 (.ref h_nv) (.ref h_nn) (.ref h_na) (.ref h_nb) (.ref h_nc) (.int x_mm_clauses) (.ref h_mny) (.ref h_isn) (.ref h_tem) (.ref h_bto) (.ref h_bin) (.ref h_tra) (.int x21) (.int x22) (.int x23)))), (h_nv, .inl (cy_nv, 8000, .inl f_nv)), (h_na, .inl (cy_na, 8000, .inl f_na)), (h_nb, .inl (cy_nb, 8000, .inl f_nb)), (h_nc, .inl (cy_nc, 8000, .inl f_nc)), (h_bto, .inl (cy_bto, 256, .inl f24)), (h_bin, .inl (cy_bin, 256, .inl f25)), (h_nn, .inl (cy_nn, 8000, .inr (.inl f_nn))), (h_tra, .inl (cy_tra, 256, .inl f26)), (h_mny, .inl (cy_mny, 32, .inl f_mny)), (h_isn, .inl (cy_isn, 192, .inl f_isn)), (h_tem, .inl (cy_tem, 192, .inl f_tem))]) hD hS hA [0, 1, 2, 3, 4, 5, 6, 7, 8, 9, 10, 11] rfl
                refine va_calli (va_runV (As := [.int x20, .int x1]) (rest := []) ⟨hx, hb, hml, hown, hts⟩ (c_X11_isPure l dC dI H.size h_mm h_nv h_na h_nb h_nc h_bto h_bin h_nn h_tra h_mny h_isn h_tem vq36 x_mm_clauses x21 x22 x23 cy_nv f_nv cy_na f_na cy_nb f_nb cy_nc f_nc cy_bto f24 cy_bin f25 cy_nn f_nn cy_tra f26 cy_mny f_mny cy_isn f_isn cy_tem f_tem x20 x1 N hz mf (by first | exact hx_mm_clauses | omega) (by first | exact klp27_2 | omega) (by first | exact klp27_3 | omega) (by first | exact klp27_4 | omega) hf_nv hf_na hf_nb hf_nc hf24 hf25 hf26 hf_mny hf_isn hf_tem (by omega) (by first | exact q0 | omega) hn_nds hn_tms (sam_free klp27_12 hn_fre) (trl_cast klp27_13 (by omega)) hn_mfr) (cwV 2 hts (gv hT w_m_X11_314 w_instanceMethod_X11_isPure ws_sel_X11_isPure w_ini_X11 w_code_X11_isPure) rfl rfl rfl (by decide +kernel) ⟨(Nat.le_of_ble_eq_true rfl), (Nat.le_of_ble_eq_true rfl)⟩) ⟨pre_blind, va_recv hK hP (ci := 8) (q0 := 0) rfl rfl, pre_of hPc hKc hDc hN⟩ rfl rfl hl.1 rfl (lv_room (Nat.le_of_ble_eq_true rfl)) dX11_pure_41 ⟨(Nat.le_of_ble_eq_true rfl), (Nat.le_of_ble_eq_true rfl)⟩) hS (fun q _ h => hFc q h) hFc (fun r37 u t H locs ht hvm hq hB hz1 hk1 hS9 => ?_)
                obtain ⟨z38, z39, z40, f41, f42, f43⟩ := u
                obtain ⟨hP1, hD1⟩ := hB
                rw [ht] at hP1
                obtain ⟨hP9, hD9⟩ := va_join (wr := []) (w1 := [(h_mm, .inr (8, (mo142 vq36 (.ref h_nv) (.ref h_nn) (.ref h_na) (.ref h_nb) (.ref h_nc) (.int x_mm_clauses) (.ref h_mny) (.ref h_isn) (.ref h_tem) (.ref h_bto) (.ref h_bin) (.ref h_tra) (.int z38) (.int z39) (.int z40)))), (h_nv, .inl (cy_nv, 8000, .inl f_nv)), (h_na, .inl (cy_na, 8000, .inl f_na)), (h_nb, .inl (cy_nb, 8000, .inl f_nb)), (h_nc, .inl (cy_nc, 8000, .inl f_nc)), (h_bto, .inl (cy_bto, 256, .inl f41)), (h_bin, .inl (cy_bin, 256, .inl f42)), (h_nn, .inl (cy_nn, 8000, .inr (.inl f_nn))), (h_tra, .inl (cy_tra, 256, .inl f43)), (h_mny, .inl (cy_mny, 32, .inl f_mny)), (h_isn, .inl (cy_isn, 192, .inl f_isn)), (h_tem, .inl (cy_tem, 192, .inl f_tem))]) hP hD [0, 1, 2, 3, 4, 5, 6, 7, 8, 9, 10, 11] [] rfl rfl (by decide) (by decide) hk1 hFc hP1 hD1
                clear hP hD hS hPc hDc hKc hFc hP1 hD1 hk1 hz1 ht hvm
                have hP : va_P (dC, dI) cls [(h_mm, .inr (8, (mo142 vq36 (.ref h_nv) (.ref h_nn) (.ref h_na) (.ref h_nb) (.ref h_nc) (.int x_mm_clauses) (.ref h_mny) (.ref h_isn) (.ref h_tem) (.ref h_bto) (.ref h_bin) (.ref h_tra) (.int z38) (.int z39) (.int z40)))), (h_nv, .inl (cy_nv, 8000, .inl f_nv)), (h_na, .inl (cy_na, 8000, .inl f_na)), (h_nb, .inl (cy_nb, 8000, .inl f_nb)), (h_nc, .inl (cy_nc, 8000, .inl f_nc)), (h_bto, .inl (cy_bto, 256, .inl f41)), (h_bin, .inl (cy_bin, 256, .inl f42)), (h_nn, .inl (cy_nn, 8000, .inr (.inl f_nn))), (h_tra, .inl (cy_tra, 256, .inl f43)), (h_mny, .inl (cy_mny, 32, .inl f_mny)), (h_isn, .inl (cy_isn, 192, .inl f_isn)), (h_tem, .inl (cy_tem, 192, .inl f_tem))] H := hP9
                have hD : va_D A [(h_mm, .inr (8, (mo142 vq36 (.ref h_nv) (.ref h_nn) (.ref h_na) (.ref h_nb) (.ref h_nc) (.int x_mm_clauses) (.ref h_mny) (.ref h_isn) (.ref h_tem) (.ref h_bto) (.ref h_bin) (.ref h_tra) (.int z38) (.int z39) (.int z40)))), (h_nv, .inl (cy_nv, 8000, .inl f_nv)), (h_na, .inl (cy_na, 8000, .inl f_na)), (h_nb, .inl (cy_nb, 8000, .inl f_nb)), (h_nc, .inl (cy_nc, 8000, .inl f_nc)), (h_bto, .inl (cy_bto, 256, .inl f41)), (h_bin, .inl (cy_bin, 256, .inl f42)), (h_nn, .inl (cy_nn, 8000, .inr (.inl f_nn))), (h_tra, .inl (cy_tra, 256, .inl f43)), (h_mny, .inl (cy_mny, 32, .inl f_mny)), (h_isn, .inl (cy_isn, 192, .inl f_isn)), (h_tem, .inl (cy_tem, 192, .inl f_tem))] := hD9
                have hS := hS9
                clear hP9 hD9 hS9
                rw [evq36] at hP hD
                replace hP : va_P (dC, dI) cls [(h_mm, .inr (8, (mo143 v_mm (.int 0) (.ref h_nv) (.ref h_nn) (.ref h_na) (.ref h_nb) (.ref h_nc) (.int x_mm_clauses) (.ref h_mny) (.ref h_isn) (.ref h_tem) (.ref h_bto) (.ref h_bin) (.ref h_tra) (.int z38) (.int z39) (.int z40)))), (h_nv, .inl (cy_nv, 8000, .inl f_nv)), (h_na, .inl (cy_na, 8000, .inl f_na)), (h_nb, .inl (cy_nb, 8000, .inl f_nb)), (h_nc, .inl (cy_nc, 8000, .inl f_nc)), (h_bto, .inl (cy_bto, 256, .inl f41)), (h_bin, .inl (cy_bin, 256, .inl f42)), (h_nn, .inl (cy_nn, 8000, .inr (.inl f_nn))), (h_tra, .inl (cy_tra, 256, .inl f43)), (h_mny, .inl (cy_mny, 32, .inl f_mny)), (h_isn, .inl (cy_isn, 192, .inl f_isn)), (h_tem, .inl (cy_tem, 192, .inl f_tem))] H := hP
                replace hD : va_D A [(h_mm, .inr (8, (mo143 v_mm (.int 0) (.ref h_nv) (.ref h_nn) (.ref h_na) (.ref h_nb) (.ref h_nc) (.int x_mm_clauses) (.ref h_mny) (.ref h_isn) (.ref h_tem) (.ref h_bto) (.ref h_bin) (.ref h_tra) (.int z38) (.int z39) (.int z40)))), (h_nv, .inl (cy_nv, 8000, .inl f_nv)), (h_na, .inl (cy_na, 8000, .inl f_na)), (h_nb, .inl (cy_nb, 8000, .inl f_nb)), (h_nc, .inl (cy_nc, 8000, .inl f_nc)), (h_bto, .inl (cy_bto, 256, .inl f41)), (h_bin, .inl (cy_bin, 256, .inl f42)), (h_nn, .inl (cy_nn, 8000, .inr (.inl f_nn))), (h_tra, .inl (cy_tra, 256, .inl f43)), (h_mny, .inl (cy_mny, 32, .inl f_mny)), (h_isn, .inl (cy_isn, 192, .inl f_isn)), (h_tem, .inl (cy_tem, 192, .inl f_tem))] := hD
                clear evq36 
                obtain ⟨k44, k45, k46, hf41, hf42, hf43, k47, k48, k49, k50, k51⟩ := hq
                replace k44 : 0 ≤ ((z38)).toInt ∧ ((z38)).toInt ≤ 256 := k44
                replace k45 : 0 ≤ ((z39)).toInt ∧ ((z39)).toInt ≤ 7999 := k45
                replace k46 : 0 ≤ ((z40)).toInt ∧ ((z40)).toInt ≤ 31 := k46
                replace hf41 : Rg (-1) 7999 (f41) := hf41
                replace hf42 : Rg 0 31 (f42) := hf42
                replace hf43 : Rg 0 255 (f43) := hf43
                replace k47 : 0 ≤ (r37).toInt ∧ (r37).toInt ≤ 1 := k47
                replace k48 : ((z38)).toInt = ((x21)).toInt := k48
                replace k49 : SAM (f24) (f25) (f41) (f42) := k49
                replace k50 : TRL ((z38)).toInt (f43) (f41) := k50
                replace k51 : LOR (mf) (mlC f_mny) (GB (x1)) ((x_mm_clauses)).toInt ((x20)).toInt.toNat ((r37)).toInt := k51
                have sm52 : SAM f_bto f_bin f41 f42 := sam_trans klp27_12 k49
                refine lv_if_eq (tgt := 54) hx hb dX11_pure_44 (by decide) (fun c53 => ?_) (fun c53 => ?_)
                · have kc53 := (cv_eq (rfl : (r37).toInt = (r37).toInt) (by decide : (0 : Int32).toInt = 0)).mp c53
                  have gg9 : GTH mf (mlC f_mny) (x_mm_clauses).toInt (GB x1) x19 ((x20).toInt + 1) := gth_no klp27_16 (by omega) rfl (Or.inr (lor_no k51 (by omega)))
                  obtain ⟨z54, ez54⟩ : ∃ y : Int32, y = x20 + 1 := ⟨_, rfl⟩
                  have tz54 : (z54).toInt = (x20).toInt + 1 := by rw [ez54]; exact i_add rfl (by decide) (by omega)
                  refine lv_iinc (v := z54) (lv' := [(4, .int z54), (0, .ref h_mm), (1, .int x1), (2, .int x2), (3, .int x19)]) hx hb dX11_pure_54 hl (k := 4) rfl (by rw [ez54]; rfl) (by decide) rfl (fun ls hl => ?_)
                  refine lv_goto (tgt := 18) hx hb dX11_pure_57 (by decide) ?_
                  rw [← tz54] at gg9
                  exact ih28 (x19) (z54) (z38) (z39) (z40) (f41) (f42) (f43) _ _ _ (by first | exact klp27_0 | omega) (by omega) (by first | exact k44 | omega) (by first | exact k45 | omega) (by first | exact k46 | omega) hf41 hf42 hf43 (by omega) (by first | exact klp27_9 | omega) (by first | exact klp27_10 | omega) (by omega) sm52 (trl_cast k50 (by omega)) klp27_14 klp27_15 gg9 (by omega) hP hD hS (lv_sub hl [1, 2, 3, 4, 0] rfl)
                · have kc53 := (not_congr (cv_eq (rfl : (r37).toInt = (r37).toInt) (by decide : (0 : Int32).toInt = 0))).mp c53
                  refine lv_iload_n hx hb dX11_pure_47 rfl (lv_at hl 3 rfl) ?_
                  refine lv_iconst (v := 1) hx hb dX11_pure_48 (by decide) ?_
                  refine lv_iload hx hb dX11_pure_49 (lv_at hl 4 rfl) ?_
                  refine lv_ishl hx hb dX11_pure_51 ?_
                  refine lv_topi (fun z55 ez55 => ?_)
                  refine lv_ior hx hb dX11_pure_52 ?_
                  refine lv_topi (fun z56 ez56 => ?_)
                  have or9 := or_bit (x := x19) (k := x20) (by omega) (by omega)
                  rw [← ez55, ← ez56] at or9
                  refine lv_istore_n (lv' := [(3, .int z56), (0, .ref h_mm), (1, .int x1), (2, .int x2), (4, .int x20)]) hx hb dX11_pure_53 rfl hl (by decide) rfl (fun ls hl => ?_)
                  have gg9 : GTH mf (mlC f_mny) (x_mm_clauses).toInt (GB x1) z56 ((x20).toInt + 1) := gth_yes (c := x20) klp27_16 (by omega) rfl rfl (by rw [ez56, ez55]) (lor_yes k51 (by omega))
                  obtain ⟨z57, ez57⟩ : ∃ y : Int32, y = x20 + 1 := ⟨_, rfl⟩
                  have tz57 : (z57).toInt = (x20).toInt + 1 := by rw [ez57]; exact i_add rfl (by decide) (by omega)
                  refine lv_iinc (v := z57) (lv' := [(4, .int z57), (3, .int z56), (0, .ref h_mm), (1, .int x1), (2, .int x2)]) hx hb dX11_pure_54 hl (k := 4) rfl (by rw [ez57]; rfl) (by decide) rfl (fun ls hl => ?_)
                  refine lv_goto (tgt := 18) hx hb dX11_pure_57 (by decide) ?_
                  rw [← tz57] at gg9
                  exact ih28 (z56) (z57) (z38) (z39) (z40) (f41) (f42) (f43) _ _ _ (by omega) (by omega) (by first | exact k44 | omega) (by first | exact k45 | omega) (by first | exact k46 | omega) hf41 hf42 hf43 (by omega) (by omega) (by first | exact klp27_10 | omega) (by omega) sm52 (trl_cast k50 (by omega)) klp27_14 klp27_15 gg9 (by omega) hP hD hS (lv_sub hl [2, 3, 4, 1, 0] rfl)
        have cst0 : (0 : Int32).toInt = 0 := by decide
        exact lp27 _ (x1) (0) (x3) (x4) (x5) (f6) (f7) (f8) _ _ _ (by first | exact klp9_0 | omega) (by decide) (by first | exact klp9_2 | omega) (by first | exact klp9_3 | omega) (by first | exact klp9_4 | omega) hf6 hf7 hf8 (by first | exact klp9_8 | omega) (by omega) (by omega) (by omega) klp9_9 (trl_cast klp9_10 (by omega)) klp9_11 klp9_12 (gth_zero (Int.le_refl _)) (Nat.le_refl _) hP hD hS (lv_sub hl [2, 3, 4, 1, 0] rfl)
  have cst0 : (0 : Int32).toInt = 0 := by decide
  have cst1 : (1 : Int32).toInt = 1 := by decide
  exact lp9 _ (0) (1) (x_mm_trailed) (x_mm_goneTo) (x_mm_goneIn) (f_bto) (f_bin) (f_tra) _ _ _ (by decide) (by decide) (by first | exact hx_mm_trailed | omega) (by first | exact hx_mm_goneTo | omega) (by first | exact hx_mm_goneIn | omega) hf_bto hf_bin hf_tra (by omega) sam0 (trl_cast hn_trl (by omega)) (pst_zero (by decide) (by decide)) (far_zero (by decide)) (Nat.le_refl _) hP hD hS (lv_sub hl [2, 1, 0] rfl)

