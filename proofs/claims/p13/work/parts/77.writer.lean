theorem w_cl_X9_84 : Cond.constantLong "OppositePairs$Writer" 84 (31 : Int64) ∈ WALL := wall_t (tb_3 62 (by decide +kernel)) rfl
theorem w_code_X0_remove : Cond.code yX0_remove prog_2_method_3_code 3 none ∈ WALL := wall_t (tb_4 127 (by decide +kernel)) rfl
theorem w_code_X9_push : Cond.code yX9_push prog_11_method_4_code 2 none ∈ WALL := wall_t (tb_3 66 (by decide +kernel)) rfl
theorem w_code_X9_put : Cond.code yX9_put prog_11_method_3_code 2 none ∈ WALL := wall_t (tb_3 47 (by decide +kernel)) rfl
theorem w_code_X9_putInstance : Cond.code yX9_putInstance prog_11_method_6_code 2 none ∈ WALL := wall_t (tb_3 57 (by decide +kernel)) rfl
theorem w_code_X9_putName : Cond.code yX9_putName prog_11_method_7_code 5 none ∈ WALL := wall_t (tb_3 61 (by decide +kernel)) rfl
theorem w_code_X9_putPart : Cond.code yX9_putPart prog_11_method_5_code 5 none ∈ WALL := wall_t (tb_3 53 (by decide +kernel)) rfl
theorem w_f_X0_15 : Cond.fieldLink "OppositePairs$Answers" 15 "OppositePairs$Answers" "depth" "[I" ∈ WALL := wall_t (tb_2 98 (by decide +kernel)) rfl
theorem w_f_X0_18 : Cond.fieldLink "OppositePairs$Answers" 18 "OppositePairs$Answers" "options" "[I" ∈ WALL := wall_t (tb_2 100 (by decide +kernel)) rfl
theorem w_f_X0_21 : Cond.fieldLink "OppositePairs$Answers" 21 "OppositePairs$Answers" "found" "[I" ∈ WALL := wall_t (tb_2 102 (by decide +kernel)) rfl
theorem w_f_X0_24 : Cond.fieldLink "OppositePairs$Answers" 24 "OppositePairs$Answers" "count" "I" ∈ WALL := wall_t (tb_2 104 (by decide +kernel)) rfl
theorem w_f_X0_28 : Cond.fieldLink "OppositePairs$Answers" 28 "OppositePairs$Answers" "again" "I" ∈ WALL := wall_t (tb_2 106 (by decide +kernel)) rfl
theorem w_f_X0_9 : Cond.fieldLink "OppositePairs$Answers" 9 "OppositePairs$Answers" "start" "[I" ∈ WALL := wall_t (tb_2 96 (by decide +kernel)) rfl
theorem w_f_X9_15 : Cond.fieldLink "OppositePairs$Writer" 15 "OppositePairs$Writer" "draft" "[I" ∈ WALL := wall_t (tb_1 188 (by decide +kernel)) rfl
theorem w_f_X9_18 : Cond.fieldLink "OppositePairs$Writer" 18 "OppositePairs$Writer" "hold" "[I" ∈ WALL := wall_t (tb_1 190 (by decide +kernel)) rfl
theorem w_f_X9_21 : Cond.fieldLink "OppositePairs$Writer" 21 "OppositePairs$Writer" "told" "LOppositePairs$Told;" ∈ WALL := wall_t (tb_1 182 (by decide +kernel)) rfl
theorem w_f_X9_25 : Cond.fieldLink "OppositePairs$Writer" 25 "OppositePairs$Writer" "bonds" "LOppositePairs$Bonds;" ∈ WALL := wall_t (tb_1 183 (by decide +kernel)) rfl
theorem w_f_X9_29 : Cond.fieldLink "OppositePairs$Writer" 29 "OppositePairs$Writer" "drafted" "I" ∈ WALL := wall_t (tb_1 189 (by decide +kernel)) rfl
theorem w_f_X9_37 : Cond.fieldLink "OppositePairs$Writer" 37 "OppositePairs$Writer" "held" "I" ∈ WALL := wall_t (tb_1 191 (by decide +kernel)) rfl
theorem w_f_X9_56 : Cond.fieldLink "OppositePairs$Writer" 56 "OppositePairs$Writer" "length" "I" ∈ WALL := wall_t (tb_1 186 (by decide +kernel)) rfl
theorem w_f_X9_9 : Cond.fieldLink "OppositePairs$Writer" 9 "OppositePairs$Writer" "bytes" "[I" ∈ WALL := wall_t (tb_1 184 (by decide +kernel)) rfl
theorem w_ini_X0 : Cond.initialized "OppositePairs$Answers" ∈ WALL := wall_t (tb_1 8 (by decide +kernel)) rfl
theorem w_ini_X9 : Cond.initialized "OppositePairs$Writer" ∈ WALL := wall_t (tb_1 5 (by decide +kernel)) rfl
theorem w_instanceMethod_X0_remove : Cond.instanceMethod yX0_remove ∈ WALL := wall_t (tb_4 126 (by decide +kernel)) rfl
theorem w_instanceMethod_X9_push : Cond.instanceMethod yX9_push ∈ WALL := wall_t (tb_3 65 (by decide +kernel)) rfl
theorem w_instanceMethod_X9_put : Cond.instanceMethod yX9_put ∈ WALL := wall_t (tb_3 46 (by decide +kernel)) rfl
theorem w_instanceMethod_X9_putInstance : Cond.instanceMethod yX9_putInstance ∈ WALL := wall_t (tb_3 56 (by decide +kernel)) rfl
theorem w_instanceMethod_X9_putName : Cond.instanceMethod yX9_putName ∈ WALL := wall_t (tb_3 60 (by decide +kernel)) rfl
theorem w_instanceMethod_X9_putPart : Cond.instanceMethod yX9_putPart ∈ WALL := wall_t (tb_3 52 (by decide +kernel)) rfl
theorem w_k_X9_40 : Cond.constant "OppositePairs$Writer" 40 (1000000 : Int32) ∈ WALL := wall_t (tb_3 48 (by decide +kernel)) rfl
theorem w_m_X0_31 : Cond.methodLink "OppositePairs$Answers" 31 yX0_remove ∈ WALL := wall_t (tb_4 124 (by decide +kernel)) rfl
theorem w_m_X9_33 : Cond.methodLink "OppositePairs$Writer" 33 yX9_put ∈ WALL := wall_t (tb_3 44 (by decide +kernel)) rfl
theorem w_m_X9_47 : Cond.methodLink "OppositePairs$Writer" 47 yX9_putPart ∈ WALL := wall_t (tb_3 50 (by decide +kernel)) rfl
theorem w_m_X9_50 : Cond.methodLink "OppositePairs$Writer" 50 arraycopyName ∈ WALL := wall_t (tb_3 67 (by decide +kernel)) rfl
theorem w_m_X9_68 : Cond.methodLink "OppositePairs$Writer" 68 yX9_putInstance ∈ WALL := wall_t (tb_3 54 (by decide +kernel)) rfl
theorem w_m_X9_71 : Cond.methodLink "OppositePairs$Writer" 71 yX9_putName ∈ WALL := wall_t (tb_3 58 (by decide +kernel)) rfl
theorem w_m_X9_78 : Cond.methodLink "OppositePairs$Writer" 78 yX9_push ∈ WALL := wall_t (tb_3 63 (by decide +kernel)) rfl
theorem ws_sel_X0_remove : Cond.selects "OppositePairs$Answers" yX0_remove yX0_remove ∈ WALL := wall_s 69 (by decide +kernel) rfl
theorem ws_sel_X9_push : Cond.selects "OppositePairs$Writer" yX9_push yX9_push ∈ WALL := wall_s 28 (by decide +kernel) rfl
theorem ws_sel_X9_put : Cond.selects "OppositePairs$Writer" yX9_put yX9_put ∈ WALL := wall_s 24 (by decide +kernel) rfl
theorem ws_sel_X9_putInstance : Cond.selects "OppositePairs$Writer" yX9_putInstance yX9_putInstance ∈ WALL := wall_s 26 (by decide +kernel) rfl
theorem ws_sel_X9_putName : Cond.selects "OppositePairs$Writer" yX9_putName yX9_putName ∈ WALL := wall_s 27 (by decide +kernel) rfl
theorem ws_sel_X9_putPart : Cond.selects "OppositePairs$Writer" yX9_putPart yX9_putPart ∈ WALL := wall_s 25 (by decide +kernel) rfl
theorem n_f_X9_59 : Cond.fieldLinkNest "OppositePairs$Writer" 59 "OppositePairs$Told" "variable" "[I" "OppositePairs" ∈ NWL := nwl_t (tb_1 79 (by decide +kernel)) rfl
theorem n_f_X9_64 : Cond.fieldLinkNest "OppositePairs$Writer" 64 "OppositePairs$Told" "name" "[J" "OppositePairs" ∈ NWL := nwl_t (tb_1 75 (by decide +kernel)) rfl
theorem n_f_X9_75 : Cond.fieldLinkNest "OppositePairs$Writer" 75 "OppositePairs$Told" "terms" "[I" "OppositePairs" ∈ NWL := nwl_t (tb_1 81 (by decide +kernel)) rfl
theorem n_f_X9_81 : Cond.fieldLinkNest "OppositePairs$Writer" 81 "OppositePairs$Told" "term" "[I" "OppositePairs" ∈ NWL := nwl_t (tb_1 86 (by decide +kernel)) rfl
theorem n_m_X9_41 : Cond.methodLinkNest "OppositePairs$Writer" 41 yX1_bare "OppositePairs" ∈ NWL := nwl_t (tb_3 49 (by decide +kernel)) rfl
theorem dX0_put_0 : decode cX0_put 0 = .ok (.iconst 0, 1) := by decide +kernel
theorem dX0_put_1 : decode cX0_put 1 = .ok (.istore 5, 2) := by decide +kernel
theorem dX0_put_100 : decode cX0_put 100 = .ok (.iastore, 1) := by decide +kernel
theorem dX0_put_101 : decode cX0_put 101 = .ok (.aload_n 0, 1) := by decide +kernel
theorem dX0_put_102 : decode cX0_put 102 = .ok (.getfield 18, 3) := by decide +kernel
theorem dX0_put_105 : decode cX0_put 105 = .ok (.aload_n 0, 1) := by decide +kernel
theorem dX0_put_106 : decode cX0_put 106 = .ok (.getfield 24, 3) := by decide +kernel
theorem dX0_put_109 : decode cX0_put 109 = .ok (.iload_n 3, 1) := by decide +kernel
theorem dX0_put_110 : decode cX0_put 110 = .ok (.iastore, 1) := by decide +kernel
theorem dX0_put_111 : decode cX0_put 111 = .ok (.aload_n 0, 1) := by decide +kernel
theorem dX0_put_112 : decode cX0_put 112 = .ok (.getfield 21, 3) := by decide +kernel
theorem dX0_put_115 : decode cX0_put 115 = .ok (.aload_n 0, 1) := by decide +kernel
theorem dX0_put_116 : decode cX0_put 116 = .ok (.getfield 24, 3) := by decide +kernel
theorem dX0_put_119 : decode cX0_put 119 = .ok (.iload 4, 2) := by decide +kernel
theorem dX0_put_12 : decode cX0_put 12 = .ok (.aload_n 0, 1) := by decide +kernel
theorem dX0_put_121 : decode cX0_put 121 = .ok (.iastore, 1) := by decide +kernel
theorem dX0_put_122 : decode cX0_put 122 = .ok (.aload_n 0, 1) := by decide +kernel
theorem dX0_put_123 : decode cX0_put 123 = .ok (.dup, 1) := by decide +kernel
theorem dX0_put_124 : decode cX0_put 124 = .ok (.getfield 24, 3) := by decide +kernel
theorem dX0_put_127 : decode cX0_put 127 = .ok (.iconst 1, 1) := by decide +kernel
theorem dX0_put_128 : decode cX0_put 128 = .ok (.iadd, 1) := by decide +kernel
theorem dX0_put_129 : decode cX0_put 129 = .ok (.putfield 24, 3) := by decide +kernel
theorem dX0_put_13 : decode cX0_put 13 = .ok (.getfield 9, 3) := by decide +kernel
theorem dX0_put_132 : decode cX0_put 132 = .ok (.return_, 1) := by decide +kernel
theorem dX0_put_16 : decode cX0_put 16 = .ok (.iload 5, 2) := by decide +kernel
theorem dX0_put_18 : decode cX0_put 18 = .ok (.iaload, 1) := by decide +kernel
theorem dX0_put_19 : decode cX0_put 19 = .ok (.iload_n 1, 1) := by decide +kernel
theorem dX0_put_20 : decode cX0_put 20 = .ok (.if_icmp .ne 41, 3) := by decide +kernel
theorem dX0_put_23 : decode cX0_put 23 = .ok (.aload_n 0, 1) := by decide +kernel
theorem dX0_put_24 : decode cX0_put 24 = .ok (.getfield 15, 3) := by decide +kernel
theorem dX0_put_27 : decode cX0_put 27 = .ok (.iload 5, 2) := by decide +kernel
theorem dX0_put_29 : decode cX0_put 29 = .ok (.iaload, 1) := by decide +kernel
theorem dX0_put_3 : decode cX0_put 3 = .ok (.iload 5, 2) := by decide +kernel
theorem dX0_put_30 : decode cX0_put 30 = .ok (.iload_n 2, 1) := by decide +kernel
theorem dX0_put_31 : decode cX0_put 31 = .ok (.if_icmp .ne 30, 3) := by decide +kernel
theorem dX0_put_34 : decode cX0_put 34 = .ok (.aload_n 0, 1) := by decide +kernel
theorem dX0_put_35 : decode cX0_put 35 = .ok (.getfield 18, 3) := by decide +kernel
theorem dX0_put_38 : decode cX0_put 38 = .ok (.iload 5, 2) := by decide +kernel
theorem dX0_put_40 : decode cX0_put 40 = .ok (.iaload, 1) := by decide +kernel
theorem dX0_put_41 : decode cX0_put 41 = .ok (.iload_n 3, 1) := by decide +kernel
theorem dX0_put_42 : decode cX0_put 42 = .ok (.if_icmp .ne 19, 3) := by decide +kernel
theorem dX0_put_45 : decode cX0_put 45 = .ok (.aload_n 0, 1) := by decide +kernel
theorem dX0_put_46 : decode cX0_put 46 = .ok (.dup, 1) := by decide +kernel
theorem dX0_put_47 : decode cX0_put 47 = .ok (.getfield 28, 3) := by decide +kernel
theorem dX0_put_5 : decode cX0_put 5 = .ok (.aload_n 0, 1) := by decide +kernel
theorem dX0_put_50 : decode cX0_put 50 = .ok (.iconst 1, 1) := by decide +kernel
theorem dX0_put_51 : decode cX0_put 51 = .ok (.iadd, 1) := by decide +kernel
theorem dX0_put_52 : decode cX0_put 52 = .ok (.putfield 28, 3) := by decide +kernel
theorem dX0_put_55 : decode cX0_put 55 = .ok (.aload_n 0, 1) := by decide +kernel
theorem dX0_put_56 : decode cX0_put 56 = .ok (.iload 5, 2) := by decide +kernel
theorem dX0_put_58 : decode cX0_put 58 = .ok (.invokevirtual 31, 3) := by decide +kernel
theorem dX0_put_6 : decode cX0_put 6 = .ok (.getfield 24, 3) := by decide +kernel
theorem dX0_put_61 : decode cX0_put 61 = .ok (.iinc 5 1, 3) := by decide +kernel
theorem dX0_put_64 : decode cX0_put 64 = .ok (.goto (-61), 3) := by decide +kernel
theorem dX0_put_67 : decode cX0_put 67 = .ok (.aload_n 0, 1) := by decide +kernel
theorem dX0_put_68 : decode cX0_put 68 = .ok (.getfield 24, 3) := by decide +kernel
theorem dX0_put_71 : decode cX0_put 71 = .ok (.bipush 8, 2) := by decide +kernel
theorem dX0_put_73 : decode cX0_put 73 = .ok (.if_icmp .ne 8, 3) := by decide +kernel
theorem dX0_put_76 : decode cX0_put 76 = .ok (.aload_n 0, 1) := by decide +kernel
theorem dX0_put_77 : decode cX0_put 77 = .ok (.iconst 0, 1) := by decide +kernel
theorem dX0_put_78 : decode cX0_put 78 = .ok (.invokevirtual 31, 3) := by decide +kernel
theorem dX0_put_81 : decode cX0_put 81 = .ok (.aload_n 0, 1) := by decide +kernel
theorem dX0_put_82 : decode cX0_put 82 = .ok (.getfield 9, 3) := by decide +kernel
theorem dX0_put_85 : decode cX0_put 85 = .ok (.aload_n 0, 1) := by decide +kernel
theorem dX0_put_86 : decode cX0_put 86 = .ok (.getfield 24, 3) := by decide +kernel
theorem dX0_put_89 : decode cX0_put 89 = .ok (.iload_n 1, 1) := by decide +kernel
theorem dX0_put_9 : decode cX0_put 9 = .ok (.if_icmp .ge 58, 3) := by decide +kernel
theorem dX0_put_90 : decode cX0_put 90 = .ok (.iastore, 1) := by decide +kernel
theorem dX0_put_91 : decode cX0_put 91 = .ok (.aload_n 0, 1) := by decide +kernel
theorem dX0_put_92 : decode cX0_put 92 = .ok (.getfield 15, 3) := by decide +kernel
theorem dX0_put_95 : decode cX0_put 95 = .ok (.aload_n 0, 1) := by decide +kernel
theorem dX0_put_96 : decode cX0_put 96 = .ok (.getfield 24, 3) := by decide +kernel
theorem dX0_put_99 : decode cX0_put 99 = .ok (.iload_n 2, 1) := by decide +kernel
theorem dX0_remove_0 : decode cX0_remove 0 = .ok (.iload_n 1, 1) := by decide +kernel
theorem dX0_remove_1 : decode cX0_remove 1 = .ok (.istore_n 2, 1) := by decide +kernel
theorem dX0_remove_12 : decode cX0_remove 12 = .ok (.aload_n 0, 1) := by decide +kernel
theorem dX0_remove_13 : decode cX0_remove 13 = .ok (.getfield 9, 3) := by decide +kernel
theorem dX0_remove_16 : decode cX0_remove 16 = .ok (.iload_n 2, 1) := by decide +kernel
theorem dX0_remove_17 : decode cX0_remove 17 = .ok (.aload_n 0, 1) := by decide +kernel
theorem dX0_remove_18 : decode cX0_remove 18 = .ok (.getfield 9, 3) := by decide +kernel
theorem dX0_remove_2 : decode cX0_remove 2 = .ok (.iload_n 2, 1) := by decide +kernel
theorem dX0_remove_21 : decode cX0_remove 21 = .ok (.iload_n 2, 1) := by decide +kernel
theorem dX0_remove_22 : decode cX0_remove 22 = .ok (.iconst 1, 1) := by decide +kernel
theorem dX0_remove_23 : decode cX0_remove 23 = .ok (.iadd, 1) := by decide +kernel
theorem dX0_remove_24 : decode cX0_remove 24 = .ok (.iaload, 1) := by decide +kernel
theorem dX0_remove_25 : decode cX0_remove 25 = .ok (.iastore, 1) := by decide +kernel
theorem dX0_remove_26 : decode cX0_remove 26 = .ok (.aload_n 0, 1) := by decide +kernel
theorem dX0_remove_27 : decode cX0_remove 27 = .ok (.getfield 15, 3) := by decide +kernel
theorem dX0_remove_3 : decode cX0_remove 3 = .ok (.iconst 1, 1) := by decide +kernel
theorem dX0_remove_30 : decode cX0_remove 30 = .ok (.iload_n 2, 1) := by decide +kernel
theorem dX0_remove_31 : decode cX0_remove 31 = .ok (.aload_n 0, 1) := by decide +kernel
theorem dX0_remove_32 : decode cX0_remove 32 = .ok (.getfield 15, 3) := by decide +kernel
theorem dX0_remove_35 : decode cX0_remove 35 = .ok (.iload_n 2, 1) := by decide +kernel
theorem dX0_remove_36 : decode cX0_remove 36 = .ok (.iconst 1, 1) := by decide +kernel
theorem dX0_remove_37 : decode cX0_remove 37 = .ok (.iadd, 1) := by decide +kernel
theorem dX0_remove_38 : decode cX0_remove 38 = .ok (.iaload, 1) := by decide +kernel
theorem dX0_remove_39 : decode cX0_remove 39 = .ok (.iastore, 1) := by decide +kernel
theorem dX0_remove_4 : decode cX0_remove 4 = .ok (.iadd, 1) := by decide +kernel
theorem dX0_remove_40 : decode cX0_remove 40 = .ok (.aload_n 0, 1) := by decide +kernel
theorem dX0_remove_41 : decode cX0_remove 41 = .ok (.getfield 18, 3) := by decide +kernel
theorem dX0_remove_44 : decode cX0_remove 44 = .ok (.iload_n 2, 1) := by decide +kernel
theorem dX0_remove_45 : decode cX0_remove 45 = .ok (.aload_n 0, 1) := by decide +kernel
theorem dX0_remove_46 : decode cX0_remove 46 = .ok (.getfield 18, 3) := by decide +kernel
theorem dX0_remove_49 : decode cX0_remove 49 = .ok (.iload_n 2, 1) := by decide +kernel
theorem dX0_remove_5 : decode cX0_remove 5 = .ok (.aload_n 0, 1) := by decide +kernel
theorem dX0_remove_50 : decode cX0_remove 50 = .ok (.iconst 1, 1) := by decide +kernel
theorem dX0_remove_51 : decode cX0_remove 51 = .ok (.iadd, 1) := by decide +kernel
theorem dX0_remove_52 : decode cX0_remove 52 = .ok (.iaload, 1) := by decide +kernel
theorem dX0_remove_53 : decode cX0_remove 53 = .ok (.iastore, 1) := by decide +kernel
theorem dX0_remove_54 : decode cX0_remove 54 = .ok (.aload_n 0, 1) := by decide +kernel
theorem dX0_remove_55 : decode cX0_remove 55 = .ok (.getfield 21, 3) := by decide +kernel
theorem dX0_remove_58 : decode cX0_remove 58 = .ok (.iload_n 2, 1) := by decide +kernel
theorem dX0_remove_59 : decode cX0_remove 59 = .ok (.aload_n 0, 1) := by decide +kernel
theorem dX0_remove_6 : decode cX0_remove 6 = .ok (.getfield 24, 3) := by decide +kernel
theorem dX0_remove_60 : decode cX0_remove 60 = .ok (.getfield 21, 3) := by decide +kernel
theorem dX0_remove_63 : decode cX0_remove 63 = .ok (.iload_n 2, 1) := by decide +kernel
theorem dX0_remove_64 : decode cX0_remove 64 = .ok (.iconst 1, 1) := by decide +kernel
theorem dX0_remove_65 : decode cX0_remove 65 = .ok (.iadd, 1) := by decide +kernel
theorem dX0_remove_66 : decode cX0_remove 66 = .ok (.iaload, 1) := by decide +kernel
theorem dX0_remove_67 : decode cX0_remove 67 = .ok (.iastore, 1) := by decide +kernel
theorem dX0_remove_68 : decode cX0_remove 68 = .ok (.iinc 2 1, 3) := by decide +kernel
theorem dX0_remove_71 : decode cX0_remove 71 = .ok (.goto (-69), 3) := by decide +kernel
theorem dX0_remove_74 : decode cX0_remove 74 = .ok (.aload_n 0, 1) := by decide +kernel
theorem dX0_remove_75 : decode cX0_remove 75 = .ok (.dup, 1) := by decide +kernel
theorem dX0_remove_76 : decode cX0_remove 76 = .ok (.getfield 24, 3) := by decide +kernel
theorem dX0_remove_79 : decode cX0_remove 79 = .ok (.iconst 1, 1) := by decide +kernel
theorem dX0_remove_80 : decode cX0_remove 80 = .ok (.isub, 1) := by decide +kernel
theorem dX0_remove_81 : decode cX0_remove 81 = .ok (.putfield 24, 3) := by decide +kernel
theorem dX0_remove_84 : decode cX0_remove 84 = .ok (.return_, 1) := by decide +kernel
theorem dX0_remove_9 : decode cX0_remove 9 = .ok (.if_icmp .ge 65, 3) := by decide +kernel
theorem dX9_push_0 : decode cX9_push 0 = .ok (.aload_n 0, 1) := by decide +kernel
theorem dX9_push_1 : decode cX9_push 1 = .ok (.getfield 37, 3) := by decide +kernel
theorem dX9_push_10 : decode cX9_push 10 = .ok (.aload_n 0, 1) := by decide +kernel
theorem dX9_push_11 : decode cX9_push 11 = .ok (.getfield 18, 3) := by decide +kernel
theorem dX9_push_14 : decode cX9_push 14 = .ok (.aload_n 0, 1) := by decide +kernel
theorem dX9_push_15 : decode cX9_push 15 = .ok (.dup, 1) := by decide +kernel
theorem dX9_push_16 : decode cX9_push 16 = .ok (.getfield 37, 3) := by decide +kernel
theorem dX9_push_19 : decode cX9_push 19 = .ok (.dup_x1, 1) := by decide +kernel
theorem dX9_push_20 : decode cX9_push 20 = .ok (.iconst 1, 1) := by decide +kernel
theorem dX9_push_21 : decode cX9_push 21 = .ok (.iadd, 1) := by decide +kernel
theorem dX9_push_22 : decode cX9_push 22 = .ok (.putfield 37, 3) := by decide +kernel
theorem dX9_push_25 : decode cX9_push 25 = .ok (.iload_n 1, 1) := by decide +kernel
theorem dX9_push_26 : decode cX9_push 26 = .ok (.iastore, 1) := by decide +kernel
theorem dX9_push_27 : decode cX9_push 27 = .ok (.return_, 1) := by decide +kernel
theorem dX9_push_4 : decode cX9_push 4 = .ok (.sipush 2048, 3) := by decide +kernel
theorem dX9_push_7 : decode cX9_push 7 = .ok (.if_icmp .ge 20, 3) := by decide +kernel
theorem dX9_putInstance_0 : decode cX9_putInstance 0 = .ok (.iload_n 1, 1) := by decide +kernel
theorem dX9_putInstance_1 : decode cX9_putInstance 1 = .ok (.bipush 30, 2) := by decide +kernel
theorem dX9_putInstance_10 : decode cX9_putInstance 10 = .ok (.if_icmp .lt 14, 3) := by decide +kernel
theorem dX9_putInstance_13 : decode cX9_putInstance 13 = .ok (.aload_n 0, 1) := by decide +kernel
theorem dX9_putInstance_14 : decode cX9_putInstance 14 = .ok (.bipush 48, 2) := by decide +kernel
theorem dX9_putInstance_16 : decode cX9_putInstance 16 = .ok (.iload_n 1, 1) := by decide +kernel
theorem dX9_putInstance_17 : decode cX9_putInstance 17 = .ok (.bipush 10, 2) := by decide +kernel
theorem dX9_putInstance_19 : decode cX9_putInstance 19 = .ok (.idiv, 1) := by decide +kernel
theorem dX9_putInstance_20 : decode cX9_putInstance 20 = .ok (.iadd, 1) := by decide +kernel
theorem dX9_putInstance_21 : decode cX9_putInstance 21 = .ok (.invokevirtual 33, 3) := by decide +kernel
theorem dX9_putInstance_24 : decode cX9_putInstance 24 = .ok (.aload_n 0, 1) := by decide +kernel
theorem dX9_putInstance_25 : decode cX9_putInstance 25 = .ok (.bipush 48, 2) := by decide +kernel
theorem dX9_putInstance_27 : decode cX9_putInstance 27 = .ok (.iload_n 1, 1) := by decide +kernel
theorem dX9_putInstance_28 : decode cX9_putInstance 28 = .ok (.bipush 10, 2) := by decide +kernel
theorem dX9_putInstance_3 : decode cX9_putInstance 3 = .ok (.if_icmp .lt 4, 3) := by decide +kernel
theorem dX9_putInstance_30 : decode cX9_putInstance 30 = .ok (.irem, 1) := by decide +kernel
theorem dX9_putInstance_31 : decode cX9_putInstance 31 = .ok (.iadd, 1) := by decide +kernel
theorem dX9_putInstance_32 : decode cX9_putInstance 32 = .ok (.invokevirtual 33, 3) := by decide +kernel
theorem dX9_putInstance_35 : decode cX9_putInstance 35 = .ok (.return_, 1) := by decide +kernel
theorem dX9_putInstance_6 : decode cX9_putInstance 6 = .ok (.return_, 1) := by decide +kernel
theorem dX9_putInstance_7 : decode cX9_putInstance 7 = .ok (.iload_n 1, 1) := by decide +kernel
theorem dX9_putInstance_8 : decode cX9_putInstance 8 = .ok (.bipush 10, 2) := by decide +kernel
theorem dX9_putName_0 : decode cX9_putName 0 = .ok (.bipush 35, 2) := by decide +kernel
theorem dX9_putName_10 : decode cX9_putName 10 = .ok (.ldc2_w 84, 3) := by decide +kernel
theorem dX9_putName_13 : decode cX9_putName 13 = .ok (.land, 1) := by decide +kernel
theorem dX9_putName_14 : decode cX9_putName 14 = .ok (.l2i, 1) := by decide +kernel
theorem dX9_putName_15 : decode cX9_putName 15 = .ok (.istore 4, 2) := by decide +kernel
theorem dX9_putName_17 : decode cX9_putName 17 = .ok (.iload 4, 2) := by decide +kernel
theorem dX9_putName_19 : decode cX9_putName 19 = .ok (.ifCond .eq 14, 3) := by decide +kernel
theorem dX9_putName_2 : decode cX9_putName 2 = .ok (.istore_n 3, 1) := by decide +kernel
theorem dX9_putName_22 : decode cX9_putName 22 = .ok (.aload_n 0, 1) := by decide +kernel
theorem dX9_putName_23 : decode cX9_putName 23 = .ok (.bipush 97, 2) := by decide +kernel
theorem dX9_putName_25 : decode cX9_putName 25 = .ok (.iload 4, 2) := by decide +kernel
theorem dX9_putName_27 : decode cX9_putName 27 = .ok (.iadd, 1) := by decide +kernel
theorem dX9_putName_28 : decode cX9_putName 28 = .ok (.iconst 1, 1) := by decide +kernel
theorem dX9_putName_29 : decode cX9_putName 29 = .ok (.isub, 1) := by decide +kernel
theorem dX9_putName_3 : decode cX9_putName 3 = .ok (.iload_n 3, 1) := by decide +kernel
theorem dX9_putName_30 : decode cX9_putName 30 = .ok (.invokevirtual 33, 3) := by decide +kernel
theorem dX9_putName_33 : decode cX9_putName 33 = .ok (.iinc 3 (-5), 3) := by decide +kernel
theorem dX9_putName_36 : decode cX9_putName 36 = .ok (.goto (-33), 3) := by decide +kernel
theorem dX9_putName_39 : decode cX9_putName 39 = .ok (.return_, 1) := by decide +kernel
theorem dX9_putName_4 : decode cX9_putName 4 = .ok (.ifCond .lt 35, 3) := by decide +kernel
theorem dX9_putName_7 : decode cX9_putName 7 = .ok (.lload_n 1, 1) := by decide +kernel
theorem dX9_putName_8 : decode cX9_putName 8 = .ok (.iload_n 3, 1) := by decide +kernel
theorem dX9_putName_9 : decode cX9_putName 9 = .ok (.lshr, 1) := by decide +kernel
theorem dX9_putPart_0 : decode cX9_putPart 0 = .ok (.iload_n 1, 1) := by decide +kernel
theorem dX9_putPart_1 : decode cX9_putPart 1 = .ok (.sipush 300, 3) := by decide +kernel
theorem dX9_putPart_10 : decode cX9_putPart 10 = .ok (.getfield 59, 3) := by decide +kernel
theorem dX9_putPart_100 : decode cX9_putPart 100 = .ok (.getfield 81, 3) := by decide +kernel
theorem dX9_putPart_103 : decode cX9_putPart 103 = .ok (.iload_n 2, 1) := by decide +kernel
theorem dX9_putPart_104 : decode cX9_putPart 104 = .ok (.iconst 3, 1) := by decide +kernel
theorem dX9_putPart_105 : decode cX9_putPart 105 = .ok (.imul, 1) := by decide +kernel
theorem dX9_putPart_106 : decode cX9_putPart 106 = .ok (.iload 4, 2) := by decide +kernel
theorem dX9_putPart_108 : decode cX9_putPart 108 = .ok (.iadd, 1) := by decide +kernel
theorem dX9_putPart_109 : decode cX9_putPart 109 = .ok (.iaload, 1) := by decide +kernel
theorem dX9_putPart_110 : decode cX9_putPart 110 = .ok (.iadd, 1) := by decide +kernel
theorem dX9_putPart_111 : decode cX9_putPart 111 = .ok (.invokevirtual 78, 3) := by decide +kernel
theorem dX9_putPart_114 : decode cX9_putPart 114 = .ok (.iload 4, 2) := by decide +kernel
theorem dX9_putPart_116 : decode cX9_putPart 116 = .ok (.ifCond .le 9, 3) := by decide +kernel
theorem dX9_putPart_119 : decode cX9_putPart 119 = .ok (.aload_n 0, 1) := by decide +kernel
theorem dX9_putPart_120 : decode cX9_putPart 120 = .ok (.bipush (-44), 2) := by decide +kernel
theorem dX9_putPart_122 : decode cX9_putPart 122 = .ok (.invokevirtual 78, 3) := by decide +kernel
theorem dX9_putPart_125 : decode cX9_putPart 125 = .ok (.iinc 4 (-1), 3) := by decide +kernel
theorem dX9_putPart_128 : decode cX9_putPart 128 = .ok (.goto (-41), 3) := by decide +kernel
theorem dX9_putPart_13 : decode cX9_putPart 13 = .ok (.iload_n 2, 1) := by decide +kernel
theorem dX9_putPart_131 : decode cX9_putPart 131 = .ok (.return_, 1) := by decide +kernel
theorem dX9_putPart_14 : decode cX9_putPart 14 = .ok (.iaload, 1) := by decide +kernel
theorem dX9_putPart_15 : decode cX9_putPart 15 = .ok (.iconst (-1), 1) := by decide +kernel
theorem dX9_putPart_16 : decode cX9_putPart 16 = .ok (.if_icmp .eq 27, 3) := by decide +kernel
theorem dX9_putPart_19 : decode cX9_putPart 19 = .ok (.aload_n 0, 1) := by decide +kernel
theorem dX9_putPart_20 : decode cX9_putPart 20 = .ok (.aload_n 0, 1) := by decide +kernel
theorem dX9_putPart_21 : decode cX9_putPart 21 = .ok (.getfield 21, 3) := by decide +kernel
theorem dX9_putPart_24 : decode cX9_putPart 24 = .ok (.getfield 64, 3) := by decide +kernel
theorem dX9_putPart_27 : decode cX9_putPart 27 = .ok (.iload_n 2, 1) := by decide +kernel
theorem dX9_putPart_28 : decode cX9_putPart 28 = .ok (.laload, 1) := by decide +kernel
theorem dX9_putPart_29 : decode cX9_putPart 29 = .ok (.l2i, 1) := by decide +kernel
theorem dX9_putPart_30 : decode cX9_putPart 30 = .ok (.invokevirtual 33, 3) := by decide +kernel
theorem dX9_putPart_33 : decode cX9_putPart 33 = .ok (.aload_n 0, 1) := by decide +kernel
theorem dX9_putPart_34 : decode cX9_putPart 34 = .ok (.iload_n 1, 1) := by decide +kernel
theorem dX9_putPart_35 : decode cX9_putPart 35 = .ok (.sipush 300, 3) := by decide +kernel
theorem dX9_putPart_38 : decode cX9_putPart 38 = .ok (.idiv, 1) := by decide +kernel
theorem dX9_putPart_39 : decode cX9_putPart 39 = .ok (.invokevirtual 68, 3) := by decide +kernel
theorem dX9_putPart_4 : decode cX9_putPart 4 = .ok (.irem, 1) := by decide +kernel
theorem dX9_putPart_42 : decode cX9_putPart 42 = .ok (.return_, 1) := by decide +kernel
theorem dX9_putPart_43 : decode cX9_putPart 43 = .ok (.aload_n 0, 1) := by decide +kernel
theorem dX9_putPart_44 : decode cX9_putPart 44 = .ok (.aload_n 0, 1) := by decide +kernel
theorem dX9_putPart_45 : decode cX9_putPart 45 = .ok (.getfield 21, 3) := by decide +kernel
theorem dX9_putPart_48 : decode cX9_putPart 48 = .ok (.getfield 64, 3) := by decide +kernel
theorem dX9_putPart_5 : decode cX9_putPart 5 = .ok (.istore_n 2, 1) := by decide +kernel
theorem dX9_putPart_51 : decode cX9_putPart 51 = .ok (.iload_n 2, 1) := by decide +kernel
theorem dX9_putPart_52 : decode cX9_putPart 52 = .ok (.laload, 1) := by decide +kernel
theorem dX9_putPart_53 : decode cX9_putPart 53 = .ok (.invokevirtual 71, 3) := by decide +kernel
theorem dX9_putPart_56 : decode cX9_putPart 56 = .ok (.aload_n 0, 1) := by decide +kernel
theorem dX9_putPart_57 : decode cX9_putPart 57 = .ok (.getfield 21, 3) := by decide +kernel
theorem dX9_putPart_6 : decode cX9_putPart 6 = .ok (.aload_n 0, 1) := by decide +kernel
theorem dX9_putPart_60 : decode cX9_putPart 60 = .ok (.getfield 75, 3) := by decide +kernel
theorem dX9_putPart_63 : decode cX9_putPart 63 = .ok (.iload_n 2, 1) := by decide +kernel
theorem dX9_putPart_64 : decode cX9_putPart 64 = .ok (.iaload, 1) := by decide +kernel
theorem dX9_putPart_65 : decode cX9_putPart 65 = .ok (.istore_n 3, 1) := by decide +kernel
theorem dX9_putPart_66 : decode cX9_putPart 66 = .ok (.iload_n 3, 1) := by decide +kernel
theorem dX9_putPart_67 : decode cX9_putPart 67 = .ok (.ifCond .le 15, 3) := by decide +kernel
theorem dX9_putPart_7 : decode cX9_putPart 7 = .ok (.getfield 21, 3) := by decide +kernel
theorem dX9_putPart_70 : decode cX9_putPart 70 = .ok (.aload_n 0, 1) := by decide +kernel
theorem dX9_putPart_71 : decode cX9_putPart 71 = .ok (.bipush 40, 2) := by decide +kernel
theorem dX9_putPart_73 : decode cX9_putPart 73 = .ok (.invokevirtual 33, 3) := by decide +kernel
theorem dX9_putPart_76 : decode cX9_putPart 76 = .ok (.aload_n 0, 1) := by decide +kernel
theorem dX9_putPart_77 : decode cX9_putPart 77 = .ok (.bipush (-41), 2) := by decide +kernel
theorem dX9_putPart_79 : decode cX9_putPart 79 = .ok (.invokevirtual 78, 3) := by decide +kernel
theorem dX9_putPart_82 : decode cX9_putPart 82 = .ok (.iload_n 3, 1) := by decide +kernel
theorem dX9_putPart_83 : decode cX9_putPart 83 = .ok (.iconst 1, 1) := by decide +kernel
theorem dX9_putPart_84 : decode cX9_putPart 84 = .ok (.isub, 1) := by decide +kernel
theorem dX9_putPart_85 : decode cX9_putPart 85 = .ok (.istore 4, 2) := by decide +kernel
theorem dX9_putPart_87 : decode cX9_putPart 87 = .ok (.iload 4, 2) := by decide +kernel
theorem dX9_putPart_89 : decode cX9_putPart 89 = .ok (.ifCond .lt 42, 3) := by decide +kernel
theorem dX9_putPart_92 : decode cX9_putPart 92 = .ok (.aload_n 0, 1) := by decide +kernel
theorem dX9_putPart_93 : decode cX9_putPart 93 = .ok (.iload_n 1, 1) := by decide +kernel
theorem dX9_putPart_94 : decode cX9_putPart 94 = .ok (.iload_n 2, 1) := by decide +kernel
theorem dX9_putPart_95 : decode cX9_putPart 95 = .ok (.isub, 1) := by decide +kernel
theorem dX9_putPart_96 : decode cX9_putPart 96 = .ok (.aload_n 0, 1) := by decide +kernel
theorem dX9_putPart_97 : decode cX9_putPart 97 = .ok (.getfield 21, 3) := by decide +kernel
theorem dX9_put_0 : decode cX9_put 0 = .ok (.aload_n 0, 1) := by decide +kernel
theorem dX9_put_1 : decode cX9_put 1 = .ok (.getfield 29, 3) := by decide +kernel
theorem dX9_put_10 : decode cX9_put 10 = .ok (.aload_n 0, 1) := by decide +kernel
theorem dX9_put_11 : decode cX9_put 11 = .ok (.getfield 15, 3) := by decide +kernel
theorem dX9_put_14 : decode cX9_put 14 = .ok (.aload_n 0, 1) := by decide +kernel
theorem dX9_put_15 : decode cX9_put 15 = .ok (.dup, 1) := by decide +kernel
theorem dX9_put_16 : decode cX9_put 16 = .ok (.getfield 29, 3) := by decide +kernel
theorem dX9_put_19 : decode cX9_put 19 = .ok (.dup_x1, 1) := by decide +kernel
theorem dX9_put_20 : decode cX9_put 20 = .ok (.iconst 1, 1) := by decide +kernel
theorem dX9_put_21 : decode cX9_put 21 = .ok (.iadd, 1) := by decide +kernel
theorem dX9_put_22 : decode cX9_put 22 = .ok (.putfield 29, 3) := by decide +kernel
theorem dX9_put_25 : decode cX9_put 25 = .ok (.iload_n 1, 1) := by decide +kernel
theorem dX9_put_26 : decode cX9_put 26 = .ok (.iastore, 1) := by decide +kernel
theorem dX9_put_27 : decode cX9_put 27 = .ok (.return_, 1) := by decide +kernel
theorem dX9_put_4 : decode cX9_put 4 = .ok (.sipush 616, 3) := by decide +kernel
theorem dX9_put_7 : decode cX9_put 7 = .ok (.if_icmp .ge 20, 3) := by decide +kernel
theorem dX9_write_0 : decode cX9_write 0 = .ok (.aload_n 0, 1) := by decide +kernel
theorem dX9_write_1 : decode cX9_write 1 = .ok (.iconst 0, 1) := by decide +kernel
theorem dX9_write_10 : decode cX9_write 10 = .ok (.bipush 45, 2) := by decide +kernel
theorem dX9_write_100 : decode cX9_write 100 = .ok (.aload_n 0, 1) := by decide +kernel
theorem dX9_write_101 : decode cX9_write 101 = .ok (.getfield 37, 3) := by decide +kernel
theorem dX9_write_104 : decode cX9_write 104 = .ok (.iaload, 1) := by decide +kernel
theorem dX9_write_105 : decode cX9_write 105 = .ok (.invokevirtual 41, 3) := by decide +kernel
theorem dX9_write_108 : decode cX9_write 108 = .ok (.invokevirtual 47, 3) := by decide +kernel
theorem dX9_write_111 : decode cX9_write 111 = .ok (.iinc 4 1, 3) := by decide +kernel
theorem dX9_write_114 : decode cX9_write 114 = .ok (.goto (-84), 3) := by decide +kernel
theorem dX9_write_117 : decode cX9_write 117 = .ok (.aload_n 0, 1) := by decide +kernel
theorem dX9_write_118 : decode cX9_write 118 = .ok (.getfield 37, 3) := by decide +kernel
theorem dX9_write_12 : decode cX9_write 12 = .ok (.invokevirtual 33, 3) := by decide +kernel
theorem dX9_write_121 : decode cX9_write 121 = .ok (.ifCond .gt 21, 3) := by decide +kernel
theorem dX9_write_124 : decode cX9_write 124 = .ok (.aload_n 0, 1) := by decide +kernel
theorem dX9_write_125 : decode cX9_write 125 = .ok (.getfield 29, 3) := by decide +kernel
theorem dX9_write_128 : decode cX9_write 128 = .ok (.iload_n 3, 1) := by decide +kernel
theorem dX9_write_129 : decode cX9_write 129 = .ok (.if_icmp .gt 13, 3) := by decide +kernel
theorem dX9_write_132 : decode cX9_write 132 = .ok (.aload_n 0, 1) := by decide +kernel
theorem dX9_write_133 : decode cX9_write 133 = .ok (.getfield 29, 3) := by decide +kernel
theorem dX9_write_136 : decode cX9_write 136 = .ok (.sipush 600, 3) := by decide +kernel
theorem dX9_write_139 : decode cX9_write 139 = .ok (.if_icmp .le 5, 3) := by decide +kernel
theorem dX9_write_142 : decode cX9_write 142 = .ok (.iconst (-1), 1) := by decide +kernel
theorem dX9_write_143 : decode cX9_write 143 = .ok (.ireturn, 1) := by decide +kernel
theorem dX9_write_144 : decode cX9_write 144 = .ok (.aload_n 0, 1) := by decide +kernel
theorem dX9_write_145 : decode cX9_write 145 = .ok (.getfield 15, 3) := by decide +kernel
theorem dX9_write_148 : decode cX9_write 148 = .ok (.iconst 0, 1) := by decide +kernel
theorem dX9_write_149 : decode cX9_write 149 = .ok (.aload_n 0, 1) := by decide +kernel
theorem dX9_write_15 : decode cX9_write 15 = .ok (.aload_n 0, 1) := by decide +kernel
theorem dX9_write_150 : decode cX9_write 150 = .ok (.getfield 9, 3) := by decide +kernel
theorem dX9_write_153 : decode cX9_write 153 = .ok (.iconst 0, 1) := by decide +kernel
theorem dX9_write_154 : decode cX9_write 154 = .ok (.aload_n 0, 1) := by decide +kernel
theorem dX9_write_155 : decode cX9_write 155 = .ok (.getfield 29, 3) := by decide +kernel
theorem dX9_write_158 : decode cX9_write 158 = .ok (.invokestatic 50, 3) := by decide +kernel
theorem dX9_write_16 : decode cX9_write 16 = .ok (.getfield 18, 3) := by decide +kernel
theorem dX9_write_161 : decode cX9_write 161 = .ok (.aload_n 0, 1) := by decide +kernel
theorem dX9_write_162 : decode cX9_write 162 = .ok (.aload_n 0, 1) := by decide +kernel
theorem dX9_write_163 : decode cX9_write 163 = .ok (.getfield 29, 3) := by decide +kernel
theorem dX9_write_166 : decode cX9_write 166 = .ok (.putfield 56, 3) := by decide +kernel
theorem dX9_write_169 : decode cX9_write 169 = .ok (.aload_n 0, 1) := by decide +kernel
theorem dX9_write_170 : decode cX9_write 170 = .ok (.getfield 56, 3) := by decide +kernel
theorem dX9_write_173 : decode cX9_write 173 = .ok (.ireturn, 1) := by decide +kernel
theorem dX9_write_19 : decode cX9_write 19 = .ok (.iconst 0, 1) := by decide +kernel
theorem dX9_write_2 : decode cX9_write 2 = .ok (.putfield 29, 3) := by decide +kernel
theorem dX9_write_20 : decode cX9_write 20 = .ok (.iload_n 1, 1) := by decide +kernel
theorem dX9_write_21 : decode cX9_write 21 = .ok (.iastore, 1) := by decide +kernel
theorem dX9_write_22 : decode cX9_write 22 = .ok (.aload_n 0, 1) := by decide +kernel
theorem dX9_write_23 : decode cX9_write 23 = .ok (.iconst 1, 1) := by decide +kernel
theorem dX9_write_24 : decode cX9_write 24 = .ok (.putfield 37, 3) := by decide +kernel
theorem dX9_write_27 : decode cX9_write 27 = .ok (.iconst 0, 1) := by decide +kernel
theorem dX9_write_28 : decode cX9_write 28 = .ok (.istore 4, 2) := by decide +kernel
theorem dX9_write_30 : decode cX9_write 30 = .ok (.iload 4, 2) := by decide +kernel
theorem dX9_write_32 : decode cX9_write 32 = .ok (.ldc 40, 2) := by decide +kernel
theorem dX9_write_34 : decode cX9_write 34 = .ok (.if_icmp .ge 83, 3) := by decide +kernel
theorem dX9_write_37 : decode cX9_write 37 = .ok (.aload_n 0, 1) := by decide +kernel
theorem dX9_write_38 : decode cX9_write 38 = .ok (.getfield 37, 3) := by decide +kernel
theorem dX9_write_41 : decode cX9_write 41 = .ok (.ifCond .le 76, 3) := by decide +kernel
theorem dX9_write_44 : decode cX9_write 44 = .ok (.aload_n 0, 1) := by decide +kernel
theorem dX9_write_45 : decode cX9_write 45 = .ok (.getfield 29, 3) := by decide +kernel
theorem dX9_write_48 : decode cX9_write 48 = .ok (.iload_n 3, 1) := by decide +kernel
theorem dX9_write_49 : decode cX9_write 49 = .ok (.if_icmp .gt 68, 3) := by decide +kernel
theorem dX9_write_5 : decode cX9_write 5 = .ok (.iload_n 2, 1) := by decide +kernel
theorem dX9_write_52 : decode cX9_write 52 = .ok (.aload_n 0, 1) := by decide +kernel
theorem dX9_write_53 : decode cX9_write 53 = .ok (.dup, 1) := by decide +kernel
theorem dX9_write_54 : decode cX9_write 54 = .ok (.getfield 37, 3) := by decide +kernel
theorem dX9_write_57 : decode cX9_write 57 = .ok (.iconst 1, 1) := by decide +kernel
theorem dX9_write_58 : decode cX9_write 58 = .ok (.isub, 1) := by decide +kernel
theorem dX9_write_59 : decode cX9_write 59 = .ok (.putfield 37, 3) := by decide +kernel
theorem dX9_write_6 : decode cX9_write 6 = .ok (.ifCond .eq 9, 3) := by decide +kernel
theorem dX9_write_62 : decode cX9_write 62 = .ok (.aload_n 0, 1) := by decide +kernel
theorem dX9_write_63 : decode cX9_write 63 = .ok (.getfield 18, 3) := by decide +kernel
theorem dX9_write_66 : decode cX9_write 66 = .ok (.aload_n 0, 1) := by decide +kernel
theorem dX9_write_67 : decode cX9_write 67 = .ok (.getfield 37, 3) := by decide +kernel
theorem dX9_write_70 : decode cX9_write 70 = .ok (.iaload, 1) := by decide +kernel
theorem dX9_write_71 : decode cX9_write 71 = .ok (.ifCond .ge 20, 3) := by decide +kernel
theorem dX9_write_74 : decode cX9_write 74 = .ok (.aload_n 0, 1) := by decide +kernel
theorem dX9_write_75 : decode cX9_write 75 = .ok (.aload_n 0, 1) := by decide +kernel
theorem dX9_write_76 : decode cX9_write 76 = .ok (.getfield 18, 3) := by decide +kernel
theorem dX9_write_79 : decode cX9_write 79 = .ok (.aload_n 0, 1) := by decide +kernel
theorem dX9_write_80 : decode cX9_write 80 = .ok (.getfield 37, 3) := by decide +kernel
theorem dX9_write_83 : decode cX9_write 83 = .ok (.iaload, 1) := by decide +kernel
theorem dX9_write_84 : decode cX9_write 84 = .ok (.ineg, 1) := by decide +kernel
theorem dX9_write_85 : decode cX9_write 85 = .ok (.invokevirtual 33, 3) := by decide +kernel
theorem dX9_write_88 : decode cX9_write 88 = .ok (.goto 23, 3) := by decide +kernel
theorem dX9_write_9 : decode cX9_write 9 = .ok (.aload_n 0, 1) := by decide +kernel
theorem dX9_write_91 : decode cX9_write 91 = .ok (.aload_n 0, 1) := by decide +kernel
theorem dX9_write_92 : decode cX9_write 92 = .ok (.aload_n 0, 1) := by decide +kernel
theorem dX9_write_93 : decode cX9_write 93 = .ok (.getfield 25, 3) := by decide +kernel
theorem dX9_write_96 : decode cX9_write 96 = .ok (.aload_n 0, 1) := by decide +kernel
theorem dX9_write_97 : decode cX9_write 97 = .ok (.getfield 18, 3) := by decide +kernel
abbrev mo36 (v : Nat → Value) (a4 a5 : Value) : List Value := [(v 0), (v 1), (v 2), (v 3), a4, a5, (v 6), (v 7)]
abbrev mo37 (v : Nat → Value) (a6 a7 : Value) : List Value := [(v 0), (v 1), (v 2), (v 3), (v 4), (v 5), a6, a7]
abbrev mo38 (v : Nat → Value) (a0 a4 a5 a6 a7 : Value) : List Value := [a0, (v 1), (v 2), (v 3), a4, a5, a6, a7]
abbrev mo39 (a0 a1 a2 a3 a4 a5 a6 a7 : Value) : List Value := [a0, a1, a2, a3, a4, a5, a6, a7]
abbrev mo40 (v : Nat → Value) (a0 a1 a2 a3 a4 : Value) : List Value := [a0, a1, a2, a3, a4, (v 5)]
abbrev mo41 (a0 a1 a2 a3 a4 a5 : Value) : List Value := [a0, a1, a2, a3, a4, a5]
set_option maxRecDepth 100000 in
theorem mq38_36 (v : Nat → Value) (b0 b6 b7 : Value) : ∃ w : Nat → Value, ∀ (a4 a5 : Value), mo36 w a4 a5 = (mo38 v b0 a4 a5 b6 b7) := ⟨fun k => List.getD (mo38 v b0 .null .null b6 b7) k .null, fun _ _ => rfl⟩
set_option maxRecDepth 100000 in
theorem mq38_37 (v : Nat → Value) (b0 b4 b5 : Value) : ∃ w : Nat → Value, ∀ (a6 a7 : Value), mo37 w a6 a7 = (mo38 v b0 b4 b5 a6 a7) := ⟨fun k => List.getD (mo38 v b0 b4 b5 .null .null) k .null, fun _ _ => rfl⟩
set_option maxRecDepth 100000 in
theorem mq39_38 (b1 b2 b3 : Value) : ∃ w : Nat → Value, ∀ (a0 a4 a5 a6 a7 : Value), mo38 w a0 a4 a5 a6 a7 = (mo39 a0 b1 b2 b3 a4 a5 a6 a7) := ⟨fun k => List.getD (mo39 .null b1 b2 b3 .null .null .null .null) k .null, fun _ _ _ _ _ => rfl⟩
set_option maxRecDepth 100000 in
theorem mq39_36 (b0 b1 b2 b3 b6 b7 : Value) : ∃ w : Nat → Value, ∀ (a4 a5 : Value), mo36 w a4 a5 = (mo39 b0 b1 b2 b3 a4 a5 b6 b7) := ⟨fun k => List.getD (mo39 b0 b1 b2 b3 .null .null b6 b7) k .null, fun _ _ => rfl⟩
set_option maxRecDepth 100000 in
theorem mq41_40 (b5 : Value) : ∃ w : Nat → Value, ∀ (a0 a1 a2 a3 a4 : Value), mo40 w a0 a1 a2 a3 a4 = (mo41 a0 a1 a2 a3 a4 b5) := ⟨fun k => List.getD (mo41 .null .null .null .null .null b5) k .null, fun _ _ _ _ _ => rfl⟩
set_option maxHeartbeats 8000000 in
set_option maxRecDepth 100000 in
theorem c_X9_put (l : Launch) (dC : Nat → ClassId) (dI : Nat → Nat → Nat) (sz : Nat) (h_wr : Nat) (h_wd : Nat) (v_wr : Nat → Value) (x_wr_drafted : Int32) (cy_wd : ClassId) (f_wd : Nat → Int32) (p1 : Int32) (hx_wr_drafted : 0 ≤ (x_wr_drafted).toInt ∧ (x_wr_drafted).toInt ≤ 616) : Met l yX9_put (Ws yX9_put cX9_put 2 none) (({ frames := 0, cells := 0, slots := 0, locals := 0 } : Room)) (PRE (dC, dI) cls [(cy_wd, .int)] [(h_wr, .inr (6, (mo36 v_wr (.ref h_wd) (.int x_wr_drafted)))), (h_wd, .inl (cy_wd, 616, .inl f_wd))] sz [.ref h_wr, .int p1]) (va_Qv (fun (u : (Int32) × (Nat → Int32)) => (0 ≤ (u.1).toInt ∧ (u.1).toInt ≤ 616) ∧ ((616 ≤ (x_wr_drafted).toInt ∧ (u.1).toInt = (x_wr_drafted).toInt) ∨ ((x_wr_drafted).toInt < 616 ∧ (u.1).toInt = (x_wr_drafted).toInt + 1))) (fun (u : (Int32) × (Nat → Int32)) (t : State) => va_P (dC, dI) cls [(h_wr, .inr (6, (mo36 v_wr (.ref h_wd) (.int u.1)))), (h_wd, .inl (cy_wd, 616, .inl u.2))] t.heap ∧ va_D (va_A [(h_wr, .inr (6, (mo36 v_wr (.ref h_wd) (.int x_wr_drafted)))), (h_wd, .inl (cy_wd, 616, .inl f_wd))] sz) [(h_wr, .inr (6, (mo36 v_wr (.ref h_wd) (.int u.1)))), (h_wd, .inl (cy_wd, 616, .inl u.2))]) (va_A [(h_wr, .inr (6, (mo36 v_wr (.ref h_wd) (.int x_wr_drafted)))), (h_wd, .inl (cy_wd, 616, .inl f_wd))] sz)) 0 0 (va_A [(h_wr, .inr (6, (mo36 v_wr (.ref h_wd) (.int x_wr_drafted)))), (h_wd, .inl (cy_wd, 616, .inl f_wd))] sz) := by
  refine Met.ofW (cc := cX9_put) (maxL := 2) (ret := none) (by decide) rfl ?_
  intro p e s m args below meth c s₁ B hml hv
  obtain ⟨rfl, hsz, hP, hK, hD0, hN⟩ := hv
  have hx := B.exec
  have hb := B.bytes
  have hr := B.returns
  have hts := atoms_spec (ws := Ws yX9_put cX9_put 2 none) B.pre
  have hT : ∀ w ∈ WALL, w ∈ Ws yX9_put cX9_put 2 none := fun w h => List.mem_cons_of_mem _ h
  have hw := fun w (h : w ∈ WALL) => hts w (hT w h)
  have hown : s.vm.findClass RX9 = some m.cls := findClass_of_methodNamed B.named
  have hlocks := B.notSynchronized
  subst hsz
  have hD := hD0.self (sz := s.heap.size)
  generalize hAe : va_A [(h_wr, .inr (6, (mo36 v_wr (.ref h_wd) (.int x_wr_drafted)))), (h_wd, .inl (cy_wd, 616, .inl f_wd))] s.heap.size = A at hD ⊢
  have hA : ∀ q : Nat, s.heap.size ≤ q → A q := fun q h => by rw [← hAe]; exact Or.inr h
  have hS : va_S A s.heap s.heap [] := va_S.rf
  have hl := lv_entry ([.ref h_wr, .int p1]) (n := 2) (Nat.le_of_ble_eq_true rfl)
  rw [lg_entry_eq]
  generalize (lg_sl ([.ref h_wr, .int p1]) ++ List.replicate (2 - (lg_sl ([.ref h_wr, .int p1])).length) Slot.unset).toArray = ls at hl ⊢
  have hl : lv_has ls 2 [(0, .ref h_wr), (1, .int p1)] := hl
  refine lv_aload_n hx hb dX9_put_0 rfl (lv_at hl 0 rfl) ?_
  refine va_get (D := (dC, dI)) (ci := 6) (v := .int x_wr_drafted) (C := RX9) (T := TX9) (N := 8) hx hb hw iwX9 hown hK hP 0 rfl rfl 5 (by decide) (hw _ w_f_X9_29) (fun _ h9 => h9) rfl dX9_put_1 ?_
  refine lv_sipush (v := 616) hx hb dX9_put_4 (by decide) ?_
  refine lv_icmp_ge (tgt := 27) hx hb dX9_put_7 (by decide) (fun c1 => ?_) (fun c1 => ?_)
  · have kc1 := (cv_le (by decide : (616 : Int32).toInt = 616) (rfl : (x_wr_drafted).toInt = (x_wr_drafted).toInt)).mp c1
    refine W.widen (k := 0) (n := 0) (Nat.le_of_ble_eq_true rfl) (Nat.le_of_ble_eq_true rfl) ?_
    have w2 : 0 ≤ ((x_wr_drafted)).toInt ∧ ((x_wr_drafted)).toInt ≤ 616 := by first | exact hx_wr_drafted | omega
    have w3 : (616 ≤ (x_wr_drafted).toInt ∧ ((x_wr_drafted)).toInt = (x_wr_drafted).toInt) ∨ ((x_wr_drafted).toInt < 616 ∧ ((x_wr_drafted)).toInt = (x_wr_drafted).toInt + 1) := by omega
    exact W.vret hx hb hr (fun t ht hW => ⟨⟨(x_wr_drafted, f_wd), rfl, ⟨w2, w3⟩, by rw [ht]; exact hP, hD⟩, hS.F ht⟩) hS.2.2 dX9_put_27
  · have kc1 := (not_congr (cv_le (by decide : (616 : Int32).toInt = 616) (rfl : (x_wr_drafted).toInt = (x_wr_drafted).toInt))).mp c1
    refine lv_aload_n hx hb dX9_put_10 rfl (lv_at hl 0 rfl) ?_
    refine va_get (D := (dC, dI)) (ci := 6) (v := .ref h_wd) (C := RX9) (T := TX9) (N := 8) hx hb hw iwX9 hown hK hP 0 rfl rfl 4 (by decide) (hw _ w_f_X9_15) (fun _ h9 => h9) rfl dX9_put_11 ?_
    refine lv_aload_n hx hb dX9_put_14 rfl (lv_at hl 0 rfl) ?_
    refine lv_dup hx hb dX9_put_15 rfl ?_
    refine va_get (D := (dC, dI)) (ci := 6) (v := .int x_wr_drafted) (C := RX9) (T := TX9) (N := 8) hx hb hw iwX9 hown hK hP 0 rfl rfl 5 (by decide) (hw _ w_f_X9_29) (fun _ h9 => h9) rfl dX9_put_16 ?_
    refine lv_dup_x1 hx hb dX9_put_19 rfl rfl ?_
    refine lv_iconst (v := 1) hx hb dX9_put_20 (by decide) ?_
    refine lv_iadd hx hb dX9_put_21 ?_
    refine lv_topi (fun z4 ez4 => ?_)
    have tz4 : (z4).toInt = (x_wr_drafted).toInt + 1 := by rw [ez4]; exact i_add rfl (by decide) (by omega)
    refine va_put (D := (dC, dI)) (ci := 6) (v := .int z4) (ty := tyX9 5) (C := RX9) (T := TX9) (N := 8) hx hb hw iwX9 tyX9 tyX9_ok nmX9 hown hK hP hD hS 0 rfl rfl 5 (by decide) (hw _ w_f_X9_29) (fun _ h9 => h9) rfl (tyX9_ok 5 (by decide)) rfl rfl (Nat.le_of_ble_eq_true rfl) dX9_put_22 (fun H locs hP9 hD9 hS9 => ?_)
    clear hP hD hS
    have hP : va_P (dC, dI) cls [(h_wr, .inr (6, (mo36 v_wr (.ref h_wd) (.int z4)))), (h_wd, .inl (cy_wd, 616, .inl f_wd))] H := hP9
    have hD : va_D A [(h_wr, .inr (6, (mo36 v_wr (.ref h_wd) (.int z4)))), (h_wd, .inl (cy_wd, 616, .inl f_wd))] := hD9
    have hS := hS9
    clear hP9 hD9 hS9
    refine lv_iload_n hx hb dX9_put_25 rfl (lv_at hl 1 rfl) ?_
    refine va_iast hx hb hK hP hD hS 1 0 rfl rfl (i := x_wr_drafted) (x := p1) (vp_in_iff.mpr (by omega)) dX9_put_26 (fun H locs hP9 hD9 hS9 => ?_)
    obtain ⟨f5, ef5⟩ : ∃ g : Nat → Int32, g = upd f_wd (Int32.toNatClampNeg x_wr_drafted) p1 := ⟨_, rfl⟩
    clear hP hD hS
    have hP : va_P (dC, dI) cls [(h_wr, .inr (6, (mo36 v_wr (.ref h_wd) (.int z4)))), (h_wd, .inl (cy_wd, 616, .inl f5))] H := by rw [ef5]; exact hP9
    have hD : va_D A [(h_wr, .inr (6, (mo36 v_wr (.ref h_wd) (.int z4)))), (h_wd, .inl (cy_wd, 616, .inl f5))] := by rw [ef5]; exact hD9
    have hS := hS9
    clear hP9 hD9 hS9
    clear ef5
    refine W.widen (k := 0) (n := 0) (Nat.le_of_ble_eq_true rfl) (Nat.le_of_ble_eq_true rfl) ?_
    have w6 : 0 ≤ ((z4)).toInt ∧ ((z4)).toInt ≤ 616 := by omega
    have w7 : (616 ≤ (x_wr_drafted).toInt ∧ ((z4)).toInt = (x_wr_drafted).toInt) ∨ ((x_wr_drafted).toInt < 616 ∧ ((z4)).toInt = (x_wr_drafted).toInt + 1) := by omega
    exact W.vret hx hb hr (fun t ht hW => ⟨⟨(z4, f5), rfl, ⟨w6, w7⟩, by rw [ht]; exact hP, hD⟩, hS.F ht⟩) hS.2.2 dX9_put_27

set_option maxHeartbeats 8000000 in
set_option maxRecDepth 100000 in
theorem c_X9_push (l : Launch) (dC : Nat → ClassId) (dI : Nat → Nat → Nat) (sz : Nat) (h_wr : Nat) (h_wh : Nat) (v_wr : Nat → Value) (x_wr_held : Int32) (cy_wh : ClassId) (f_wh : Nat → Int32) (p1 : Int32) (hx_wr_held : 0 ≤ (x_wr_held).toInt ∧ (x_wr_held).toInt ≤ 2048) (hf_wh : Rg (-127) 9599 f_wh) (q0 : -127 ≤ (p1).toInt ∧ (p1).toInt ≤ 9599) : Met l yX9_push (Ws yX9_push cX9_push 2 none) (({ frames := 0, cells := 0, slots := 0, locals := 0 } : Room)) (PRE (dC, dI) cls [(cy_wh, .int)] [(h_wr, .inr (6, (mo37 v_wr (.ref h_wh) (.int x_wr_held)))), (h_wh, .inl (cy_wh, 2048, .inl f_wh))] sz [.ref h_wr, .int p1]) (va_Qv (fun (u : (Int32) × (Nat → Int32)) => (0 ≤ (u.1).toInt ∧ (u.1).toInt ≤ 2048) ∧ (Rg (-127) 9599 u.2) ∧ ((2048 ≤ (x_wr_held).toInt ∧ (u.1).toInt = (x_wr_held).toInt) ∨ ((x_wr_held).toInt < 2048 ∧ (u.1).toInt = (x_wr_held).toInt + 1)) ∧ (PUS f_wh u.2 x_wr_held p1)) (fun (u : (Int32) × (Nat → Int32)) (t : State) => va_P (dC, dI) cls [(h_wr, .inr (6, (mo37 v_wr (.ref h_wh) (.int u.1)))), (h_wh, .inl (cy_wh, 2048, .inl u.2))] t.heap ∧ va_D (va_A [(h_wr, .inr (6, (mo37 v_wr (.ref h_wh) (.int x_wr_held)))), (h_wh, .inl (cy_wh, 2048, .inl f_wh))] sz) [(h_wr, .inr (6, (mo37 v_wr (.ref h_wh) (.int u.1)))), (h_wh, .inl (cy_wh, 2048, .inl u.2))]) (va_A [(h_wr, .inr (6, (mo37 v_wr (.ref h_wh) (.int x_wr_held)))), (h_wh, .inl (cy_wh, 2048, .inl f_wh))] sz)) 0 0 (va_A [(h_wr, .inr (6, (mo37 v_wr (.ref h_wh) (.int x_wr_held)))), (h_wh, .inl (cy_wh, 2048, .inl f_wh))] sz) := by
  refine Met.ofW (cc := cX9_push) (maxL := 2) (ret := none) (by decide) rfl ?_
  intro p e s m args below meth c s₁ B hml hv
  obtain ⟨rfl, hsz, hP, hK, hD0, hN⟩ := hv
  have hx := B.exec
  have hb := B.bytes
  have hr := B.returns
  have hts := atoms_spec (ws := Ws yX9_push cX9_push 2 none) B.pre
  have hT : ∀ w ∈ WALL, w ∈ Ws yX9_push cX9_push 2 none := fun w h => List.mem_cons_of_mem _ h
  have hw := fun w (h : w ∈ WALL) => hts w (hT w h)
  have hown : s.vm.findClass RX9 = some m.cls := findClass_of_methodNamed B.named
  have hlocks := B.notSynchronized
  subst hsz
  have hD := hD0.self (sz := s.heap.size)
  generalize hAe : va_A [(h_wr, .inr (6, (mo37 v_wr (.ref h_wh) (.int x_wr_held)))), (h_wh, .inl (cy_wh, 2048, .inl f_wh))] s.heap.size = A at hD ⊢
  have hA : ∀ q : Nat, s.heap.size ≤ q → A q := fun q h => by rw [← hAe]; exact Or.inr h
  have hS : va_S A s.heap s.heap [] := va_S.rf
  have hl := lv_entry ([.ref h_wr, .int p1]) (n := 2) (Nat.le_of_ble_eq_true rfl)
  rw [lg_entry_eq]
  generalize (lg_sl ([.ref h_wr, .int p1]) ++ List.replicate (2 - (lg_sl ([.ref h_wr, .int p1])).length) Slot.unset).toArray = ls at hl ⊢
  have hl : lv_has ls 2 [(0, .ref h_wr), (1, .int p1)] := hl
  refine lv_aload_n hx hb dX9_push_0 rfl (lv_at hl 0 rfl) ?_
  refine va_get (D := (dC, dI)) (ci := 6) (v := .int x_wr_held) (C := RX9) (T := TX9) (N := 8) hx hb hw iwX9 hown hK hP 0 rfl rfl 7 (by decide) (hw _ w_f_X9_37) (fun _ h9 => h9) rfl dX9_push_1 ?_
  refine lv_sipush (v := 2048) hx hb dX9_push_4 (by decide) ?_
  refine lv_icmp_ge (tgt := 27) hx hb dX9_push_7 (by decide) (fun c1 => ?_) (fun c1 => ?_)
  · have kc1 := (cv_le (by decide : (2048 : Int32).toInt = 2048) (rfl : (x_wr_held).toInt = (x_wr_held).toInt)).mp c1
    refine W.widen (k := 0) (n := 0) (Nat.le_of_ble_eq_true rfl) (Nat.le_of_ble_eq_true rfl) ?_
    have w2 : 0 ≤ ((x_wr_held)).toInt ∧ ((x_wr_held)).toInt ≤ 2048 := by first | exact hx_wr_held | omega
    have w3 : (2048 ≤ (x_wr_held).toInt ∧ ((x_wr_held)).toInt = (x_wr_held).toInt) ∨ ((x_wr_held).toInt < 2048 ∧ ((x_wr_held)).toInt = (x_wr_held).toInt + 1) := by omega
    have w4 : PUS f_wh (f_wh) x_wr_held p1 := (fun h9 => absurd h9 (by omega))
    exact W.vret hx hb hr (fun t ht hW => ⟨⟨(x_wr_held, f_wh), rfl, ⟨w2, hf_wh, w3, w4⟩, by rw [ht]; exact hP, hD⟩, hS.F ht⟩) hS.2.2 dX9_push_27
  · have kc1 := (not_congr (cv_le (by decide : (2048 : Int32).toInt = 2048) (rfl : (x_wr_held).toInt = (x_wr_held).toInt))).mp c1
    refine lv_aload_n hx hb dX9_push_10 rfl (lv_at hl 0 rfl) ?_
    refine va_get (D := (dC, dI)) (ci := 6) (v := .ref h_wh) (C := RX9) (T := TX9) (N := 8) hx hb hw iwX9 hown hK hP 0 rfl rfl 6 (by decide) (hw _ w_f_X9_18) (fun _ h9 => h9) rfl dX9_push_11 ?_
    refine lv_aload_n hx hb dX9_push_14 rfl (lv_at hl 0 rfl) ?_
    refine lv_dup hx hb dX9_push_15 rfl ?_
    refine va_get (D := (dC, dI)) (ci := 6) (v := .int x_wr_held) (C := RX9) (T := TX9) (N := 8) hx hb hw iwX9 hown hK hP 0 rfl rfl 7 (by decide) (hw _ w_f_X9_37) (fun _ h9 => h9) rfl dX9_push_16 ?_
    refine lv_dup_x1 hx hb dX9_push_19 rfl rfl ?_
    refine lv_iconst (v := 1) hx hb dX9_push_20 (by decide) ?_
    refine lv_iadd hx hb dX9_push_21 ?_
    refine lv_topi (fun z5 ez5 => ?_)
    have tz5 : (z5).toInt = (x_wr_held).toInt + 1 := by rw [ez5]; exact i_add rfl (by decide) (by omega)
    refine va_put (D := (dC, dI)) (ci := 6) (v := .int z5) (ty := tyX9 7) (C := RX9) (T := TX9) (N := 8) hx hb hw iwX9 tyX9 tyX9_ok nmX9 hown hK hP hD hS 0 rfl rfl 7 (by decide) (hw _ w_f_X9_37) (fun _ h9 => h9) rfl (tyX9_ok 7 (by decide)) rfl rfl (Nat.le_of_ble_eq_true rfl) dX9_push_22 (fun H locs hP9 hD9 hS9 => ?_)
    clear hP hD hS
    have hP : va_P (dC, dI) cls [(h_wr, .inr (6, (mo37 v_wr (.ref h_wh) (.int z5)))), (h_wh, .inl (cy_wh, 2048, .inl f_wh))] H := hP9
    have hD : va_D A [(h_wr, .inr (6, (mo37 v_wr (.ref h_wh) (.int z5)))), (h_wh, .inl (cy_wh, 2048, .inl f_wh))] := hD9
    have hS := hS9
    clear hP9 hD9 hS9
    refine lv_iload_n hx hb dX9_push_25 rfl (lv_at hl 1 rfl) ?_
    refine va_iast hx hb hK hP hD hS 1 0 rfl rfl (i := x_wr_held) (x := p1) (vp_in_iff.mpr (by omega)) dX9_push_26 (fun H locs hP9 hD9 hS9 => ?_)
    obtain ⟨f6, ef6⟩ : ∃ g : Nat → Int32, g = upd f_wh (Int32.toNatClampNeg x_wr_held) p1 := ⟨_, rfl⟩
    clear hP hD hS
    have hP : va_P (dC, dI) cls [(h_wr, .inr (6, (mo37 v_wr (.ref h_wh) (.int z5)))), (h_wh, .inl (cy_wh, 2048, .inl f6))] H := by rw [ef6]; exact hP9
    have hD : va_D A [(h_wr, .inr (6, (mo37 v_wr (.ref h_wh) (.int z5)))), (h_wh, .inl (cy_wh, 2048, .inl f6))] := by rw [ef6]; exact hD9
    have hS := hS9
    clear hP9 hD9 hS9
    have hf6 : Rg (-127) 9599 f6 := by rw [ef6]; exact rg_upd hf_wh (by omega)
    refine W.widen (k := 0) (n := 0) (Nat.le_of_ble_eq_true rfl) (Nat.le_of_ble_eq_true rfl) ?_
    have w7 : 0 ≤ ((z5)).toInt ∧ ((z5)).toInt ≤ 2048 := by omega
    have w8 : (2048 ≤ (x_wr_held).toInt ∧ ((z5)).toInt = (x_wr_held).toInt) ∨ ((x_wr_held).toInt < 2048 ∧ ((z5)).toInt = (x_wr_held).toInt + 1) := by omega
    have w9 : PUS f_wh (f6) x_wr_held p1 := (fun _ => ef6)
    exact W.vret hx hb hr (fun t ht hW => ⟨⟨(z5, f6), rfl, ⟨w7, hf6, w8, w9⟩, by rw [ht]; exact hP, hD⟩, hS.F ht⟩) hS.2.2 dX9_push_27

set_option maxHeartbeats 8000000 in
set_option maxRecDepth 100000 in
theorem c_X9_putInstance (l : Launch) (dC : Nat → ClassId) (dI : Nat → Nat → Nat) (sz : Nat) (h_wr : Nat) (h_wd : Nat) (v_wr : Nat → Value) (x_wr_drafted : Int32) (cy_wd : ClassId) (f_wd : Nat → Int32) (p1 : Int32) (hx_wr_drafted : 0 ≤ (x_wr_drafted).toInt ∧ (x_wr_drafted).toInt ≤ 616) (q0 : 0 ≤ (p1).toInt ∧ (p1).toInt ≤ 31) : Met l yX9_putInstance (Ws yX9_putInstance cX9_putInstance 2 none) (({ frames := 1, cells := 0, slots := 0, locals := 21 } : Room)) (PRE (dC, dI) cls [(cy_wd, .int)] [(h_wr, .inr (6, (mo36 v_wr (.ref h_wd) (.int x_wr_drafted)))), (h_wd, .inl (cy_wd, 616, .inl f_wd))] sz [.ref h_wr, .int p1]) (va_Qv (fun (u : (Int32) × (Nat → Int32)) => (0 ≤ (u.1).toInt ∧ (u.1).toInt ≤ 616) ∧ ((p1).toInt < 30 ∨ (u.1).toInt = (x_wr_drafted).toInt)) (fun (u : (Int32) × (Nat → Int32)) (t : State) => va_P (dC, dI) cls [(h_wr, .inr (6, (mo36 v_wr (.ref h_wd) (.int u.1)))), (h_wd, .inl (cy_wd, 616, .inl u.2))] t.heap ∧ va_D (va_A [(h_wr, .inr (6, (mo36 v_wr (.ref h_wd) (.int x_wr_drafted)))), (h_wd, .inl (cy_wd, 616, .inl f_wd))] sz) [(h_wr, .inr (6, (mo36 v_wr (.ref h_wd) (.int u.1)))), (h_wd, .inl (cy_wd, 616, .inl u.2))]) (va_A [(h_wr, .inr (6, (mo36 v_wr (.ref h_wd) (.int x_wr_drafted)))), (h_wd, .inl (cy_wd, 616, .inl f_wd))] sz)) 0 0 (va_A [(h_wr, .inr (6, (mo36 v_wr (.ref h_wd) (.int x_wr_drafted)))), (h_wd, .inl (cy_wd, 616, .inl f_wd))] sz) := by
  refine Met.ofW (cc := cX9_putInstance) (maxL := 2) (ret := none) (by decide) rfl ?_
  intro p e s m args below meth c s₁ B hml hv
  obtain ⟨rfl, hsz, hP, hK, hD0, hN⟩ := hv
  have hx := B.exec
  have hb := B.bytes
  have hr := B.returns
  have hts := atoms_spec (ws := Ws yX9_putInstance cX9_putInstance 2 none) B.pre
  have hT : ∀ w ∈ WALL, w ∈ Ws yX9_putInstance cX9_putInstance 2 none := fun w h => List.mem_cons_of_mem _ h
  have hw := fun w (h : w ∈ WALL) => hts w (hT w h)
  have hown : s.vm.findClass RX9 = some m.cls := findClass_of_methodNamed B.named
  have hlocks := B.notSynchronized
  subst hsz
  have hD := hD0.self (sz := s.heap.size)
  generalize hAe : va_A [(h_wr, .inr (6, (mo36 v_wr (.ref h_wd) (.int x_wr_drafted)))), (h_wd, .inl (cy_wd, 616, .inl f_wd))] s.heap.size = A at hD ⊢
  have hA : ∀ q : Nat, s.heap.size ≤ q → A q := fun q h => by rw [← hAe]; exact Or.inr h
  have hS : va_S A s.heap s.heap [] := va_S.rf
  have hl := lv_entry ([.ref h_wr, .int p1]) (n := 2) (Nat.le_of_ble_eq_true rfl)
  rw [lg_entry_eq]
  generalize (lg_sl ([.ref h_wr, .int p1]) ++ List.replicate (2 - (lg_sl ([.ref h_wr, .int p1])).length) Slot.unset).toArray = ls at hl ⊢
  have hl : lv_has ls 2 [(0, .ref h_wr), (1, .int p1)] := hl
  refine lv_iload_n hx hb dX9_putInstance_0 rfl (lv_at hl 1 rfl) ?_
  refine lv_bipush (v := 30) hx hb dX9_putInstance_1 (by decide) ?_
  refine lv_icmp_lt (tgt := 7) hx hb dX9_putInstance_3 (by decide) (fun c1 => ?_) (fun c1 => ?_)
  · have kc1 := (cv_lt (rfl : (p1).toInt = (p1).toInt) (by decide : (30 : Int32).toInt = 30)).mp c1
    refine lv_iload_n hx hb dX9_putInstance_7 rfl (lv_at hl 1 rfl) ?_
    refine lv_bipush (v := 10) hx hb dX9_putInstance_8 (by decide) ?_
    refine lv_icmp_lt (tgt := 24) hx hb dX9_putInstance_10 (by decide) (fun c2 => ?_) (fun c2 => ?_)
    · have kc2 := (cv_lt (rfl : (p1).toInt = (p1).toInt) (by decide : (10 : Int32).toInt = 10)).mp c2
      refine lv_aload_n hx hb dX9_putInstance_24 rfl (lv_at hl 0 rfl) ?_
      refine lv_bipush (v := 48) hx hb dX9_putInstance_25 (by decide) ?_
      refine lv_iload_n hx hb dX9_putInstance_27 rfl (lv_at hl 1 rfl) ?_
      refine lv_bipush (v := 10) hx hb dX9_putInstance_28 (by decide) ?_
      refine lv_irem hx hb dX9_putInstance_30 (by decide) ?_
      refine lv_topi (fun z3 ez3 => ?_)
      have tz3 : (z3).toInt = (p1).toInt % 10 := by rw [ez3]; exact i_rem rfl (by decide) (by omega)
      refine lv_iadd hx hb dX9_putInstance_31 ?_
      refine lv_topi (fun z4 ez4 => ?_)
      have tz4 : (z4).toInt = 48 + (z3).toInt := by rw [ez4]; exact i_add (by decide) rfl (by omega)
      have hPc := hP.sub (ws' := [(h_wr, .inr (6, (mo36 v_wr (.ref h_wd) (.int x_wr_drafted)))), (h_wd, .inl (cy_wd, 616, .inl f_wd))]) [0, 1] rfl
      have hDc := hD.sub (ws' := [(h_wr, .inr (6, (mo36 v_wr (.ref h_wd) (.int x_wr_drafted)))), (h_wd, .inl (cy_wd, 616, .inl f_wd))]) [0, 1] (by decide) rfl
      have hKc := hK.sub (tys' := [(cy_wd, .int)]) [0] rfl
      have hFc := va_free (wc := [(h_wr, .inr (6, (mo36 v_wr (.ref h_wd) (.int x_wr_drafted)))), (h_wd, .inl (cy_wd, 616, .inl f_wd))]) hD hS hA [0, 1] rfl
      refine va_callv (va_runV (As := [.int z4]) (rest := []) ⟨hx, hb, hml, hown, hts⟩ (c_X9_put l dC dI s.heap.size h_wr h_wd v_wr x_wr_drafted cy_wd f_wd z4 (by first | exact hx_wr_drafted | omega)) (cwV 1 hts (gv hT w_m_X9_33 w_instanceMethod_X9_put ws_sel_X9_put w_ini_X9 w_code_X9_put) rfl rfl rfl (by decide +kernel) ⟨(Nat.le_of_ble_eq_true rfl), (Nat.le_of_ble_eq_true rfl)⟩) ⟨pre_blind, va_recv hK hP (ci := 6) (q0 := 0) rfl rfl, pre_of hPc hKc hDc hN⟩ rfl rfl hl.1 rfl (lv_room (Nat.le_of_ble_eq_true rfl)) dX9_putInstance_32 ⟨(Nat.le_of_ble_eq_true rfl), (Nat.le_of_ble_eq_true rfl)⟩) hS (fun q _ h => hFc q h) hFc (fun u t H locs ht hvm hq hB hz1 hk1 hS9 => ?_)
      obtain ⟨z6, f7⟩ := u
      obtain ⟨hP1, hD1⟩ := hB
      rw [ht] at hP1
      obtain ⟨hP9, hD9⟩ := va_join (wr := []) (w1 := [(h_wr, .inr (6, (mo36 v_wr (.ref h_wd) (.int z6)))), (h_wd, .inl (cy_wd, 616, .inl f7))]) hP hD [0, 1] [] rfl rfl (by decide) (by decide) hk1 hFc hP1 hD1
      clear hP hD hS hPc hDc hKc hFc hP1 hD1 hk1 hz1 ht hvm
      have hP : va_P (dC, dI) cls [(h_wr, .inr (6, (mo36 v_wr (.ref h_wd) (.int z6)))), (h_wd, .inl (cy_wd, 616, .inl f7))] H := hP9
      have hD : va_D A [(h_wr, .inr (6, (mo36 v_wr (.ref h_wd) (.int z6)))), (h_wd, .inl (cy_wd, 616, .inl f7))] := hD9
      have hS := hS9
      clear hP9 hD9 hS9
      obtain ⟨k8, k9⟩ := hq
      replace k8 : 0 ≤ ((z6)).toInt ∧ ((z6)).toInt ≤ 616 := k8
      replace k9 : (616 ≤ ((x_wr_drafted)).toInt ∧ ((z6)).toInt = ((x_wr_drafted)).toInt) ∨ (((x_wr_drafted)).toInt < 616 ∧ ((z6)).toInt = ((x_wr_drafted)).toInt + 1) := k9
      refine W.widen (k := 0) (n := 0) (Nat.le_of_ble_eq_true rfl) (Nat.le_of_ble_eq_true rfl) ?_
      have w10 : 0 ≤ ((z6)).toInt ∧ ((z6)).toInt ≤ 616 := by first | exact k8 | omega
      have w11 : (p1).toInt < 30 ∨ ((z6)).toInt = (x_wr_drafted).toInt := by omega
      exact W.vret hx hb hr (fun t ht hW => ⟨⟨(z6, f7), rfl, ⟨w10, w11⟩, by rw [ht]; exact hP, hD⟩, hS.F ht⟩) hS.2.2 dX9_putInstance_35
    · have kc2 := (not_congr (cv_lt (rfl : (p1).toInt = (p1).toInt) (by decide : (10 : Int32).toInt = 10))).mp c2
      refine lv_aload_n hx hb dX9_putInstance_13 rfl (lv_at hl 0 rfl) ?_
      refine lv_bipush (v := 48) hx hb dX9_putInstance_14 (by decide) ?_
      refine lv_iload_n hx hb dX9_putInstance_16 rfl (lv_at hl 1 rfl) ?_
      refine lv_bipush (v := 10) hx hb dX9_putInstance_17 (by decide) ?_
      refine lv_idiv hx hb dX9_putInstance_19 (by decide) ?_
      refine lv_topi (fun z12 ez12 => ?_)
      have tz12 : (z12).toInt = (p1).toInt / 10 := by rw [ez12]; exact i_div rfl (by decide) (by omega)
      refine lv_iadd hx hb dX9_putInstance_20 ?_
      refine lv_topi (fun z13 ez13 => ?_)
      have tz13 : (z13).toInt = 48 + (z12).toInt := by rw [ez13]; exact i_add (by decide) rfl (by omega)
      have hPc := hP.sub (ws' := [(h_wr, .inr (6, (mo36 v_wr (.ref h_wd) (.int x_wr_drafted)))), (h_wd, .inl (cy_wd, 616, .inl f_wd))]) [0, 1] rfl
      have hDc := hD.sub (ws' := [(h_wr, .inr (6, (mo36 v_wr (.ref h_wd) (.int x_wr_drafted)))), (h_wd, .inl (cy_wd, 616, .inl f_wd))]) [0, 1] (by decide) rfl
      have hKc := hK.sub (tys' := [(cy_wd, .int)]) [0] rfl
      have hFc := va_free (wc := [(h_wr, .inr (6, (mo36 v_wr (.ref h_wd) (.int x_wr_drafted)))), (h_wd, .inl (cy_wd, 616, .inl f_wd))]) hD hS hA [0, 1] rfl
      refine va_callv (va_runV (As := [.int z13]) (rest := []) ⟨hx, hb, hml, hown, hts⟩ (c_X9_put l dC dI s.heap.size h_wr h_wd v_wr x_wr_drafted cy_wd f_wd z13 (by first | exact hx_wr_drafted | omega)) (cwV 1 hts (gv hT w_m_X9_33 w_instanceMethod_X9_put ws_sel_X9_put w_ini_X9 w_code_X9_put) rfl rfl rfl (by decide +kernel) ⟨(Nat.le_of_ble_eq_true rfl), (Nat.le_of_ble_eq_true rfl)⟩) ⟨pre_blind, va_recv hK hP (ci := 6) (q0 := 0) rfl rfl, pre_of hPc hKc hDc hN⟩ rfl rfl hl.1 rfl (lv_room (Nat.le_of_ble_eq_true rfl)) dX9_putInstance_21 ⟨(Nat.le_of_ble_eq_true rfl), (Nat.le_of_ble_eq_true rfl)⟩) hS (fun q _ h => hFc q h) hFc (fun u t H locs ht hvm hq hB hz1 hk1 hS9 => ?_)
      obtain ⟨z15, f16⟩ := u
      obtain ⟨hP1, hD1⟩ := hB
      rw [ht] at hP1
      obtain ⟨hP9, hD9⟩ := va_join (wr := []) (w1 := [(h_wr, .inr (6, (mo36 v_wr (.ref h_wd) (.int z15)))), (h_wd, .inl (cy_wd, 616, .inl f16))]) hP hD [0, 1] [] rfl rfl (by decide) (by decide) hk1 hFc hP1 hD1
      clear hP hD hS hPc hDc hKc hFc hP1 hD1 hk1 hz1 ht hvm
      have hP : va_P (dC, dI) cls [(h_wr, .inr (6, (mo36 v_wr (.ref h_wd) (.int z15)))), (h_wd, .inl (cy_wd, 616, .inl f16))] H := hP9
      have hD : va_D A [(h_wr, .inr (6, (mo36 v_wr (.ref h_wd) (.int z15)))), (h_wd, .inl (cy_wd, 616, .inl f16))] := hD9
      have hS := hS9
      clear hP9 hD9 hS9
      obtain ⟨k17, k18⟩ := hq
      replace k17 : 0 ≤ ((z15)).toInt ∧ ((z15)).toInt ≤ 616 := k17
      replace k18 : (616 ≤ ((x_wr_drafted)).toInt ∧ ((z15)).toInt = ((x_wr_drafted)).toInt) ∨ (((x_wr_drafted)).toInt < 616 ∧ ((z15)).toInt = ((x_wr_drafted)).toInt + 1) := k18
      refine lv_aload_n hx hb dX9_putInstance_24 rfl (lv_at hl 0 rfl) ?_
      refine lv_bipush (v := 48) hx hb dX9_putInstance_25 (by decide) ?_
      refine lv_iload_n hx hb dX9_putInstance_27 rfl (lv_at hl 1 rfl) ?_
      refine lv_bipush (v := 10) hx hb dX9_putInstance_28 (by decide) ?_
      refine lv_irem hx hb dX9_putInstance_30 (by decide) ?_
      refine lv_topi (fun z19 ez19 => ?_)
      have tz19 : (z19).toInt = (p1).toInt % 10 := by rw [ez19]; exact i_rem rfl (by decide) (by omega)
      refine lv_iadd hx hb dX9_putInstance_31 ?_
      refine lv_topi (fun z20 ez20 => ?_)
      have tz20 : (z20).toInt = 48 + (z19).toInt := by rw [ez20]; exact i_add (by decide) rfl (by omega)
      have hPc := hP.sub (ws' := [(h_wr, .inr (6, (mo36 v_wr (.ref h_wd) (.int z15)))), (h_wd, .inl (cy_wd, 616, .inl f16))]) [0, 1] rfl
      have hDc := hD.sub (ws' := [(h_wr, .inr (6, (mo36 v_wr (.ref h_wd) (.int z15)))), (h_wd, .inl (cy_wd, 616, .inl f16))]) [0, 1] (by decide) rfl
      have hKc := hK.sub (tys' := [(cy_wd, .int)]) [0] rfl
      have hFc := va_free (wc := [(h_wr, .inr (6, (mo36 v_wr (.ref h_wd) (.int z15)))), (h_wd, .inl (cy_wd, 616, .inl f16))]) hD hS hA [0, 1] rfl
      refine va_callv (va_runV (As := [.int z20]) (rest := []) ⟨hx, hb, hml, hown, hts⟩ (c_X9_put l dC dI H.size h_wr h_wd v_wr z15 cy_wd f16 z20 (by first | exact k17 | omega)) (cwV 1 hts (gv hT w_m_X9_33 w_instanceMethod_X9_put ws_sel_X9_put w_ini_X9 w_code_X9_put) rfl rfl rfl (by decide +kernel) ⟨(Nat.le_of_ble_eq_true rfl), (Nat.le_of_ble_eq_true rfl)⟩) ⟨pre_blind, va_recv hK hP (ci := 6) (q0 := 0) rfl rfl, pre_of hPc hKc hDc hN⟩ rfl rfl hl.1 rfl (lv_room (Nat.le_of_ble_eq_true rfl)) dX9_putInstance_32 ⟨(Nat.le_of_ble_eq_true rfl), (Nat.le_of_ble_eq_true rfl)⟩) hS (fun q _ h => hFc q h) hFc (fun u t H locs ht hvm hq hB hz1 hk1 hS9 => ?_)
      obtain ⟨z22, f23⟩ := u
      obtain ⟨hP1, hD1⟩ := hB
      rw [ht] at hP1
      obtain ⟨hP9, hD9⟩ := va_join (wr := []) (w1 := [(h_wr, .inr (6, (mo36 v_wr (.ref h_wd) (.int z22)))), (h_wd, .inl (cy_wd, 616, .inl f23))]) hP hD [0, 1] [] rfl rfl (by decide) (by decide) hk1 hFc hP1 hD1
      clear hP hD hS hPc hDc hKc hFc hP1 hD1 hk1 hz1 ht hvm
      have hP : va_P (dC, dI) cls [(h_wr, .inr (6, (mo36 v_wr (.ref h_wd) (.int z22)))), (h_wd, .inl (cy_wd, 616, .inl f23))] H := hP9
      have hD : va_D A [(h_wr, .inr (6, (mo36 v_wr (.ref h_wd) (.int z22)))), (h_wd, .inl (cy_wd, 616, .inl f23))] := hD9
      have hS := hS9
      clear hP9 hD9 hS9
      obtain ⟨k24, k25⟩ := hq
      replace k24 : 0 ≤ ((z22)).toInt ∧ ((z22)).toInt ≤ 616 := k24
      replace k25 : (616 ≤ ((z15)).toInt ∧ ((z22)).toInt = ((z15)).toInt) ∨ (((z15)).toInt < 616 ∧ ((z22)).toInt = ((z15)).toInt + 1) := k25
      refine W.widen (k := 0) (n := 0) (Nat.le_of_ble_eq_true rfl) (Nat.le_of_ble_eq_true rfl) ?_
      have w26 : 0 ≤ ((z22)).toInt ∧ ((z22)).toInt ≤ 616 := by first | exact k24 | omega
      have w27 : (p1).toInt < 30 ∨ ((z22)).toInt = (x_wr_drafted).toInt := by omega
      exact W.vret hx hb hr (fun t ht hW => ⟨⟨(z22, f23), rfl, ⟨w26, w27⟩, by rw [ht]; exact hP, hD⟩, hS.F ht⟩) hS.2.2 dX9_putInstance_35
  · have kc1 := (not_congr (cv_lt (rfl : (p1).toInt = (p1).toInt) (by decide : (30 : Int32).toInt = 30))).mp c1
    refine W.widen (k := 0) (n := 0) (Nat.le_of_ble_eq_true rfl) (Nat.le_of_ble_eq_true rfl) ?_
    have w28 : 0 ≤ ((x_wr_drafted)).toInt ∧ ((x_wr_drafted)).toInt ≤ 616 := by first | exact hx_wr_drafted | omega
    have w29 : (p1).toInt < 30 ∨ ((x_wr_drafted)).toInt = (x_wr_drafted).toInt := by omega
    exact W.vret hx hb hr (fun t ht hW => ⟨⟨(x_wr_drafted, f_wd), rfl, ⟨w28, w29⟩, by rw [ht]; exact hP, hD⟩, hS.F ht⟩) hS.2.2 dX9_putInstance_6

set_option maxHeartbeats 8000000 in
set_option maxRecDepth 100000 in
theorem c_X9_putName (l : Launch) (dC : Nat → ClassId) (dI : Nat → Nat → Nat) (sz : Nat) (h_wr : Nat) (h_wd : Nat) (v_wr : Nat → Value) (x_wr_drafted : Int32) (cy_wd : ClassId) (f_wd : Nat → Int32) (p1 : Int64) (hx_wr_drafted : 0 ≤ (x_wr_drafted).toInt ∧ (x_wr_drafted).toInt ≤ 616) : Met l yX9_putName (Ws yX9_putName cX9_putName 5 none) (({ frames := 1, cells := 0, slots := 0, locals := 21 } : Room)) (PRE (dC, dI) cls [(cy_wd, .int)] [(h_wr, .inr (6, (mo36 v_wr (.ref h_wd) (.int x_wr_drafted)))), (h_wd, .inl (cy_wd, 616, .inl f_wd))] sz [.ref h_wr, .long p1]) (va_Qv (fun (u : (Int32) × (Nat → Int32)) => (0 ≤ (u.1).toInt ∧ (u.1).toInt ≤ 616)) (fun (u : (Int32) × (Nat → Int32)) (t : State) => va_P (dC, dI) cls [(h_wr, .inr (6, (mo36 v_wr (.ref h_wd) (.int u.1)))), (h_wd, .inl (cy_wd, 616, .inl u.2))] t.heap ∧ va_D (va_A [(h_wr, .inr (6, (mo36 v_wr (.ref h_wd) (.int x_wr_drafted)))), (h_wd, .inl (cy_wd, 616, .inl f_wd))] sz) [(h_wr, .inr (6, (mo36 v_wr (.ref h_wd) (.int u.1)))), (h_wd, .inl (cy_wd, 616, .inl u.2))]) (va_A [(h_wr, .inr (6, (mo36 v_wr (.ref h_wd) (.int x_wr_drafted)))), (h_wd, .inl (cy_wd, 616, .inl f_wd))] sz)) 0 0 (va_A [(h_wr, .inr (6, (mo36 v_wr (.ref h_wd) (.int x_wr_drafted)))), (h_wd, .inl (cy_wd, 616, .inl f_wd))] sz) := by
  refine Met.ofW (cc := cX9_putName) (maxL := 5) (ret := none) (by decide) rfl ?_
  intro p e s m args below meth c s₁ B hml hv
  obtain ⟨rfl, hsz, hP, hK, hD0, hN⟩ := hv
  have hx := B.exec
  have hb := B.bytes
  have hr := B.returns
  have hts := atoms_spec (ws := Ws yX9_putName cX9_putName 5 none) B.pre
  have hT : ∀ w ∈ WALL, w ∈ Ws yX9_putName cX9_putName 5 none := fun w h => List.mem_cons_of_mem _ h
  have hw := fun w (h : w ∈ WALL) => hts w (hT w h)
  have hown : s.vm.findClass RX9 = some m.cls := findClass_of_methodNamed B.named
  have hlocks := B.notSynchronized
  subst hsz
  have hD := hD0.self (sz := s.heap.size)
  generalize hAe : va_A [(h_wr, .inr (6, (mo36 v_wr (.ref h_wd) (.int x_wr_drafted)))), (h_wd, .inl (cy_wd, 616, .inl f_wd))] s.heap.size = A at hD ⊢
  have hA : ∀ q : Nat, s.heap.size ≤ q → A q := fun q h => by rw [← hAe]; exact Or.inr h
  have hS : va_S A s.heap s.heap [] := va_S.rf
  have hl := lv_entry ([.ref h_wr, .long p1]) (n := 5) (Nat.le_of_ble_eq_true rfl)
  rw [lg_entry_eq]
  generalize (lg_sl ([.ref h_wr, .long p1]) ++ List.replicate (5 - (lg_sl ([.ref h_wr, .long p1])).length) Slot.unset).toArray = ls at hl ⊢
  have hl : lv_has ls 5 [(0, .ref h_wr), (1, .long p1)] := hl
  refine lv_bipush (v := 35) hx hb dX9_putName_0 (by decide) ?_
  refine lv_istore_n (lv' := [(3, .int 35), (0, .ref h_wr), (1, .long p1)]) hx hb dX9_putName_2 rfl hl (by decide) rfl (fun ls hl => ?_)
  have lp4 : ∀ (n : Nat) (x1 : Int32) (x2 : Int32) (f3 : Nat → Int32) (H : Heap) (locs : List Loc) (ls : Array Slot), (-5 ≤ (x1).toInt ∧ (x1).toInt ≤ 35) → (0 ≤ (x2).toInt ∧ (x2).toInt ≤ 616) → ((x1).toInt + 5).toNat + 1 ≤ n → va_P (dC, dI) cls [(h_wr, .inr (6, (mo36 v_wr (.ref h_wd) (.int x2)))), (h_wd, .inl (cy_wd, 616, .inl f3))] H → va_D A [(h_wr, .inr (6, (mo36 v_wr (.ref h_wd) (.int x2)))), (h_wd, .inl (cy_wd, 616, .inl f3))] → va_S A s.heap H locs → lv_has ls 5 [(0, .ref h_wr), (1, .long p1), (3, .int x1)] → W p l e ({ frames := 1, cells := 0, slots := 0, locals := 21 } : Room) s m ([.ref h_wr, .long p1] : List Value).toArray below meth c H locs 0 0 (MQ below (va_Qv (fun (u : (Int32) × (Nat → Int32)) => (0 ≤ (u.1).toInt ∧ (u.1).toInt ≤ 616)) (fun (u : (Int32) × (Nat → Int32)) (t : State) => va_P (dC, dI) cls [(h_wr, .inr (6, (mo36 v_wr (.ref h_wd) (.int u.1)))), (h_wd, .inl (cy_wd, 616, .inl u.2))] t.heap ∧ va_D A [(h_wr, .inr (6, (mo36 v_wr (.ref h_wd) (.int u.1)))), (h_wd, .inl (cy_wd, 616, .inl u.2))]) A) ([.ref h_wr, .long p1] : List Value).toArray s 0 0 A) (F0 m 3 ls []) := by
    clear hP hD hS hl
    intro n
    induction n with
    | zero => intro x1 x2 f3 H locs ls klp4_0 klp4_1 hm hP hD hS hl; exact False.elim (by omega)
    | succ n ih => 
      intro x1 x2 f3 H locs ls klp4_0 klp4_1 hm hP hD hS hl
      have ih5 := ih
      clear ih
      refine lv_iload_n hx hb dX9_putName_3 rfl (lv_at hl 2 rfl) ?_
      refine lv_if_lt (tgt := 39) hx hb dX9_putName_4 (by decide) (fun c6 => ?_) (fun c6 => ?_)
      · have kc6 := (cv_lt (rfl : (x1).toInt = (x1).toInt) (by decide : (0 : Int32).toInt = 0)).mp c6
        refine W.widen (k := 0) (n := 0) (Nat.le_of_ble_eq_true rfl) (Nat.le_of_ble_eq_true rfl) ?_
        have w7 : 0 ≤ ((x2)).toInt ∧ ((x2)).toInt ≤ 616 := by first | exact klp4_1 | omega
        exact W.vret hx hb hr (fun t ht hW => ⟨⟨(x2, f3), rfl, w7, by rw [ht]; exact hP, hD⟩, hS.F ht⟩) hS.2.2 dX9_putName_39
      · have kc6 := (not_congr (cv_lt (rfl : (x1).toInt = (x1).toInt) (by decide : (0 : Int32).toInt = 0))).mp c6
        refine lv_lload_n hx hb dX9_putName_7 rfl (lv_at hl 1 rfl) ?_
        refine lv_iload_n hx hb dX9_putName_8 rfl (lv_at hl 2 rfl) ?_
        refine lv_lshr hx hb dX9_putName_9 rfl ?_
        refine lv_topl (fun z8 ez8 => ?_)
        refine lv_ldc2 (v := 31) hx hb hown (hw _ w_cl_X9_84) dX9_putName_10 ?_
        refine lv_land hx hb dX9_putName_13 ?_
        refine lv_topl (fun z9 ez9 => ?_)
        refine lv_l2i hx hb dX9_putName_14 rfl ?_
        refine lv_topi (fun z10 ez10 => ?_)
        refine lv_istore (lv' := [(4, .int z10), (0, .ref h_wr), (1, .long p1), (3, .int x1)]) hx hb dX9_putName_15 hl (by decide) rfl (fun ls hl => ?_)
        refine lv_iload hx hb dX9_putName_17 (lv_at hl 0 rfl) ?_
        refine lv_if_eq (tgt := 33) hx hb dX9_putName_19 (by decide) (fun c11 => ?_) (fun c11 => ?_)
        · have kc11 := (cv_eq (rfl : (z10).toInt = (z10).toInt) (by decide : (0 : Int32).toInt = 0)).mp c11
          obtain ⟨z12, ez12⟩ : ∃ y : Int32, y = x1 + (-5) := ⟨_, rfl⟩
          have tz12 : (z12).toInt = (x1).toInt + -5 := by rw [ez12]; exact i_add rfl (by decide) (by omega)
          refine lv_iinc (v := z12) (lv' := [(3, .int z12), (4, .int z10), (0, .ref h_wr), (1, .long p1)]) hx hb dX9_putName_33 hl (k := 3) rfl (by rw [ez12]; rfl) (by decide) rfl (fun ls hl => ?_)
          refine lv_goto (tgt := 3) hx hb dX9_putName_36 (by decide) ?_
          exact ih5 (z12) (x2) (f3) _ _ _ (by omega) (by first | exact klp4_1 | omega) (by omega) hP hD hS (lv_sub hl [2, 3, 0] rfl)
        · have kc11 := (not_congr (cv_eq (rfl : (z10).toInt = (z10).toInt) (by decide : (0 : Int32).toInt = 0))).mp c11
          refine lv_aload_n hx hb dX9_putName_22 rfl (lv_at hl 1 rfl) ?_
          refine lv_bipush (v := 97) hx hb dX9_putName_23 (by decide) ?_
          refine lv_iload hx hb dX9_putName_25 (lv_at hl 0 rfl) ?_
          refine lv_iadd hx hb dX9_putName_27 ?_
          refine lv_topi (fun z13 ez13 => ?_)
          refine lv_iconst (v := 1) hx hb dX9_putName_28 (by decide) ?_
          refine lv_isub hx hb dX9_putName_29 ?_
          refine lv_topi (fun z14 ez14 => ?_)
          have hPc := hP.sub (ws' := [(h_wr, .inr (6, (mo36 v_wr (.ref h_wd) (.int x2)))), (h_wd, .inl (cy_wd, 616, .inl f3))]) [0, 1] rfl
          have hDc := hD.sub (ws' := [(h_wr, .inr (6, (mo36 v_wr (.ref h_wd) (.int x2)))), (h_wd, .inl (cy_wd, 616, .inl f3))]) [0, 1] (by decide) rfl
          have hKc := hK.sub (tys' := [(cy_wd, .int)]) [0] rfl
          have hFc := va_free (wc := [(h_wr, .inr (6, (mo36 v_wr (.ref h_wd) (.int x2)))), (h_wd, .inl (cy_wd, 616, .inl f3))]) hD hS hA [0, 1] rfl
          refine va_callv (va_runV (As := [.int z14]) (rest := []) ⟨hx, hb, hml, hown, hts⟩ (c_X9_put l dC dI H.size h_wr h_wd v_wr x2 cy_wd f3 z14 (by first | exact klp4_1 | omega)) (cwV 1 hts (gv hT w_m_X9_33 w_instanceMethod_X9_put ws_sel_X9_put w_ini_X9 w_code_X9_put) rfl rfl rfl (by decide +kernel) ⟨(Nat.le_of_ble_eq_true rfl), (Nat.le_of_ble_eq_true rfl)⟩) ⟨pre_blind, va_recv hK hP (ci := 6) (q0 := 0) rfl rfl, pre_of hPc hKc hDc hN⟩ rfl rfl hl.1 rfl (lv_room (Nat.le_of_ble_eq_true rfl)) dX9_putName_30 ⟨(Nat.le_of_ble_eq_true rfl), (Nat.le_of_ble_eq_true rfl)⟩) hS (fun q _ h => hFc q h) hFc (fun u t H locs ht hvm hq hB hz1 hk1 hS9 => ?_)
          obtain ⟨z16, f17⟩ := u
          obtain ⟨hP1, hD1⟩ := hB
          rw [ht] at hP1
          obtain ⟨hP9, hD9⟩ := va_join (wr := []) (w1 := [(h_wr, .inr (6, (mo36 v_wr (.ref h_wd) (.int z16)))), (h_wd, .inl (cy_wd, 616, .inl f17))]) hP hD [0, 1] [] rfl rfl (by decide) (by decide) hk1 hFc hP1 hD1
          clear hP hD hS hPc hDc hKc hFc hP1 hD1 hk1 hz1 ht hvm
          have hP : va_P (dC, dI) cls [(h_wr, .inr (6, (mo36 v_wr (.ref h_wd) (.int z16)))), (h_wd, .inl (cy_wd, 616, .inl f17))] H := hP9
          have hD : va_D A [(h_wr, .inr (6, (mo36 v_wr (.ref h_wd) (.int z16)))), (h_wd, .inl (cy_wd, 616, .inl f17))] := hD9
          have hS := hS9
          clear hP9 hD9 hS9
          obtain ⟨k18, k19⟩ := hq
          replace k18 : 0 ≤ ((z16)).toInt ∧ ((z16)).toInt ≤ 616 := k18
          replace k19 : (616 ≤ ((x2)).toInt ∧ ((z16)).toInt = ((x2)).toInt) ∨ (((x2)).toInt < 616 ∧ ((z16)).toInt = ((x2)).toInt + 1) := k19
          obtain ⟨z20, ez20⟩ : ∃ y : Int32, y = x1 + (-5) := ⟨_, rfl⟩
          have tz20 : (z20).toInt = (x1).toInt + -5 := by rw [ez20]; exact i_add rfl (by decide) (by omega)
          refine lv_iinc (v := z20) (lv' := [(3, .int z20), (4, .int z10), (0, .ref h_wr), (1, .long p1)]) hx hb dX9_putName_33 hl (k := 3) rfl (by rw [ez20]; rfl) (by decide) rfl (fun ls hl => ?_)
          refine lv_goto (tgt := 3) hx hb dX9_putName_36 (by decide) ?_
          exact ih5 (z20) (z16) (f17) _ _ _ (by omega) (by first | exact k18 | omega) (by omega) hP hD hS (lv_sub hl [2, 3, 0] rfl)
  have cst35 : (35 : Int32).toInt = 35 := by decide
  exact lp4 _ (35) (x_wr_drafted) (f_wd) _ _ _ (by decide) (by first | exact hx_wr_drafted | omega) (Nat.le_refl _) hP hD hS (lv_sub hl [1, 2, 0] rfl)

set_option maxHeartbeats 8000000 in
set_option maxRecDepth 100000 in
theorem c_X9_putName_n (l : Launch) (dC : Nat → ClassId) (dI : Nat → Nat → Nat) (sz : Nat) (h_wr : Nat) (h_wd : Nat) (v_wr : Nat → Value) (x_wr_drafted : Int32) (cy_wd : ClassId) (f_wd : Nat → Int32) (p1 : Int64) (hx_wr_drafted : 0 ≤ (x_wr_drafted).toInt ∧ (x_wr_drafted).toInt ≤ 616) (q0 : 0 ≤ (p1).toInt) (q1 : (x_wr_drafted).toInt + 8 ≤ 616) : Met l yX9_putName (Ws yX9_putName cX9_putName 5 none) (({ frames := 1, cells := 0, slots := 0, locals := 21 } : Room)) (PRE (dC, dI) cls [(cy_wd, .int)] [(h_wr, .inr (6, (mo36 v_wr (.ref h_wd) (.int x_wr_drafted)))), (h_wd, .inl (cy_wd, 616, .inl f_wd))] sz [.ref h_wr, .long p1]) (va_Qv (fun (u : (Int32) × (Nat → Int32)) => (0 ≤ (u.1).toInt ∧ (u.1).toInt ≤ 616) ∧ ((u.1).toInt = (x_wr_drafted).toInt + nlQ 8 (p1).toInt)) (fun (u : (Int32) × (Nat → Int32)) (t : State) => va_P (dC, dI) cls [(h_wr, .inr (6, (mo36 v_wr (.ref h_wd) (.int u.1)))), (h_wd, .inl (cy_wd, 616, .inl u.2))] t.heap ∧ va_D (va_A [(h_wr, .inr (6, (mo36 v_wr (.ref h_wd) (.int x_wr_drafted)))), (h_wd, .inl (cy_wd, 616, .inl f_wd))] sz) [(h_wr, .inr (6, (mo36 v_wr (.ref h_wd) (.int u.1)))), (h_wd, .inl (cy_wd, 616, .inl u.2))]) (va_A [(h_wr, .inr (6, (mo36 v_wr (.ref h_wd) (.int x_wr_drafted)))), (h_wd, .inl (cy_wd, 616, .inl f_wd))] sz)) 0 0 (va_A [(h_wr, .inr (6, (mo36 v_wr (.ref h_wd) (.int x_wr_drafted)))), (h_wd, .inl (cy_wd, 616, .inl f_wd))] sz) := by
  refine Met.ofW (cc := cX9_putName) (maxL := 5) (ret := none) (by decide) rfl ?_
  intro p e s m args below meth c s₁ B hml hv
  obtain ⟨rfl, hsz, hP, hK, hD0, hN⟩ := hv
  have hx := B.exec
  have hb := B.bytes
  have hr := B.returns
  have hts := atoms_spec (ws := Ws yX9_putName cX9_putName 5 none) B.pre
  have hT : ∀ w ∈ WALL, w ∈ Ws yX9_putName cX9_putName 5 none := fun w h => List.mem_cons_of_mem _ h
  have hw := fun w (h : w ∈ WALL) => hts w (hT w h)
  have hown : s.vm.findClass RX9 = some m.cls := findClass_of_methodNamed B.named
  have hlocks := B.notSynchronized
  subst hsz
  have hD := hD0.self (sz := s.heap.size)
  generalize hAe : va_A [(h_wr, .inr (6, (mo36 v_wr (.ref h_wd) (.int x_wr_drafted)))), (h_wd, .inl (cy_wd, 616, .inl f_wd))] s.heap.size = A at hD ⊢
  have hA : ∀ q : Nat, s.heap.size ≤ q → A q := fun q h => by rw [← hAe]; exact Or.inr h
  have hS : va_S A s.heap s.heap [] := va_S.rf
  have hl := lv_entry ([.ref h_wr, .long p1]) (n := 5) (Nat.le_of_ble_eq_true rfl)
  rw [lg_entry_eq]
  generalize (lg_sl ([.ref h_wr, .long p1]) ++ List.replicate (5 - (lg_sl ([.ref h_wr, .long p1])).length) Slot.unset).toArray = ls at hl ⊢
  have hl : lv_has ls 5 [(0, .ref h_wr), (1, .long p1)] := hl
  refine lv_bipush (v := 35) hx hb dX9_putName_0 (by decide) ?_
  refine lv_istore_n (lv' := [(3, .int 35), (0, .ref h_wr), (1, .long p1)]) hx hb dX9_putName_2 rfl hl (by decide) rfl (fun ls hl => ?_)
  have lp5 : ∀ (n : Nat) (x1 : Int32) (x2 : Int32) (f3 : Nat → Int32) (gh4 : Nat) (H : Heap) (locs : List Loc) (ls : Array Slot), (-5 ≤ (x1).toInt ∧ (x1).toInt ≤ 35) → (0 ≤ (x2).toInt ∧ (x2).toInt ≤ 616) → ((x1).toInt = 5 * (gh4 : Int) - 5) → ((x2).toInt + nlQ gh4 (p1).toInt = (x_wr_drafted).toInt + nlQ 8 (p1).toInt) → ((x2).toInt ≤ (x_wr_drafted).toInt + 8 - (gh4 : Int)) → ((x1).toInt + 5).toNat + 1 ≤ n → va_P (dC, dI) cls [(h_wr, .inr (6, (mo36 v_wr (.ref h_wd) (.int x2)))), (h_wd, .inl (cy_wd, 616, .inl f3))] H → va_D A [(h_wr, .inr (6, (mo36 v_wr (.ref h_wd) (.int x2)))), (h_wd, .inl (cy_wd, 616, .inl f3))] → va_S A s.heap H locs → lv_has ls 5 [(0, .ref h_wr), (1, .long p1), (3, .int x1)] → W p l e ({ frames := 1, cells := 0, slots := 0, locals := 21 } : Room) s m ([.ref h_wr, .long p1] : List Value).toArray below meth c H locs 0 0 (MQ below (va_Qv (fun (u : (Int32) × (Nat → Int32)) => (0 ≤ (u.1).toInt ∧ (u.1).toInt ≤ 616) ∧ ((u.1).toInt = (x_wr_drafted).toInt + nlQ 8 (p1).toInt)) (fun (u : (Int32) × (Nat → Int32)) (t : State) => va_P (dC, dI) cls [(h_wr, .inr (6, (mo36 v_wr (.ref h_wd) (.int u.1)))), (h_wd, .inl (cy_wd, 616, .inl u.2))] t.heap ∧ va_D A [(h_wr, .inr (6, (mo36 v_wr (.ref h_wd) (.int u.1)))), (h_wd, .inl (cy_wd, 616, .inl u.2))]) A) ([.ref h_wr, .long p1] : List Value).toArray s 0 0 A) (F0 m 3 ls []) := by
    clear hP hD hS hl
    intro n
    induction n with
    | zero => intro x1 x2 f3 gh4 H locs ls klp5_0 klp5_1 klp5_2 klp5_3 klp5_4 hm hP hD hS hl; exact False.elim (by omega)
    | succ n ih => 
      intro x1 x2 f3 gh4 H locs ls klp5_0 klp5_1 klp5_2 klp5_3 klp5_4 hm hP hD hS hl
      have ih6 := ih
      clear ih
      refine lv_iload_n hx hb dX9_putName_3 rfl (lv_at hl 2 rfl) ?_
      refine lv_if_lt (tgt := 39) hx hb dX9_putName_4 (by decide) (fun c7 => ?_) (fun c7 => ?_)
      · have kc7 := (cv_lt (rfl : (x1).toInt = (x1).toInt) (by decide : (0 : Int32).toInt = 0)).mp c7
        have nz9 : nlQ gh4 (p1).toInt = 0 := by rw [show gh4 = 0 by omega]; rfl
        refine W.widen (k := 0) (n := 0) (Nat.le_of_ble_eq_true rfl) (Nat.le_of_ble_eq_true rfl) ?_
        have w8 : 0 ≤ ((x2)).toInt ∧ ((x2)).toInt ≤ 616 := by first | exact klp5_1 | omega
        have w9 : ((x2)).toInt = (x_wr_drafted).toInt + nlQ 8 (p1).toInt := by omega
        exact W.vret hx hb hr (fun t ht hW => ⟨⟨(x2, f3), rfl, ⟨w8, w9⟩, by rw [ht]; exact hP, hD⟩, hS.F ht⟩) hS.2.2 dX9_putName_39
      · have kc7 := (not_congr (cv_lt (rfl : (x1).toInt = (x1).toInt) (by decide : (0 : Int32).toInt = 0))).mp c7
        obtain ⟨i9, rfl⟩ : ∃ y : Nat, gh4 = y + 1 := ⟨gh4 - 1, by omega⟩
        refine lv_lload_n hx hb dX9_putName_7 rfl (lv_at hl 1 rfl) ?_
        refine lv_iload_n hx hb dX9_putName_8 rfl (lv_at hl 2 rfl) ?_
        refine lv_lshr hx hb dX9_putName_9 rfl ?_
        refine lv_topl (fun z10 ez10 => ?_)
        refine lv_ldc2 (v := 31) hx hb hown (hw _ w_cl_X9_84) dX9_putName_10 ?_
        refine lv_land hx hb dX9_putName_13 ?_
        refine lv_topl (fun z11 ez11 => ?_)
        refine lv_l2i hx hb dX9_putName_14 rfl ?_
        refine lv_topi (fun z12 ez12 => ?_)
        obtain ⟨dg1, dg2, dg3⟩ := nm_dig (L := p1) (i := i9) ez10 ez11 ez12 (by omega) (by omega) (by omega)
        have nt9 := nlQ_top i9 (p1).toInt
        rw [← dg1] at nt9
        refine lv_istore (lv' := [(4, .int z12), (0, .ref h_wr), (1, .long p1), (3, .int x1)]) hx hb dX9_putName_15 hl (by decide) rfl (fun ls hl => ?_)
        refine lv_iload hx hb dX9_putName_17 (lv_at hl 0 rfl) ?_
        refine lv_if_eq (tgt := 33) hx hb dX9_putName_19 (by decide) (fun c13 => ?_) (fun c13 => ?_)
        · have kc13 := (cv_eq (rfl : (z12).toInt = (z12).toInt) (by decide : (0 : Int32).toInt = 0)).mp c13
          rw [if_pos (by omega)] at nt9
          obtain ⟨z14, ez14⟩ : ∃ y : Int32, y = x1 + (-5) := ⟨_, rfl⟩
          have tz14 : (z14).toInt = (x1).toInt + -5 := by rw [ez14]; exact i_add rfl (by decide) (by omega)
          refine lv_iinc (v := z14) (lv' := [(3, .int z14), (4, .int z12), (0, .ref h_wr), (1, .long p1)]) hx hb dX9_putName_33 hl (k := 3) rfl (by rw [ez14]; rfl) (by decide) rfl (fun ls hl => ?_)
          refine lv_goto (tgt := 3) hx hb dX9_putName_36 (by decide) ?_
          exact ih6 (z14) (x2) (f3) (i9) _ _ _ (by omega) (by first | exact klp5_1 | omega) (by omega) (by omega) (by omega) (by omega) hP hD hS (lv_sub hl [2, 3, 0] rfl)
        · have kc13 := (not_congr (cv_eq (rfl : (z12).toInt = (z12).toInt) (by decide : (0 : Int32).toInt = 0))).mp c13
          rw [if_neg (by omega)] at nt9
          refine lv_aload_n hx hb dX9_putName_22 rfl (lv_at hl 1 rfl) ?_
          refine lv_bipush (v := 97) hx hb dX9_putName_23 (by decide) ?_
          refine lv_iload hx hb dX9_putName_25 (lv_at hl 0 rfl) ?_
          refine lv_iadd hx hb dX9_putName_27 ?_
          refine lv_topi (fun z15 ez15 => ?_)
          have tz15 : (z15).toInt = 97 + (z12).toInt := by rw [ez15]; exact i_add (by decide) rfl (by omega)
          refine lv_iconst (v := 1) hx hb dX9_putName_28 (by decide) ?_
          refine lv_isub hx hb dX9_putName_29 ?_
          refine lv_topi (fun z16 ez16 => ?_)
          have tz16 : (z16).toInt = (z15).toInt - 1 := by rw [ez16]; exact i_sub rfl (by decide) (by omega)
          have hPc := hP.sub (ws' := [(h_wr, .inr (6, (mo36 v_wr (.ref h_wd) (.int x2)))), (h_wd, .inl (cy_wd, 616, .inl f3))]) [0, 1] rfl
          have hDc := hD.sub (ws' := [(h_wr, .inr (6, (mo36 v_wr (.ref h_wd) (.int x2)))), (h_wd, .inl (cy_wd, 616, .inl f3))]) [0, 1] (by decide) rfl
          have hKc := hK.sub (tys' := [(cy_wd, .int)]) [0] rfl
          have hFc := va_free (wc := [(h_wr, .inr (6, (mo36 v_wr (.ref h_wd) (.int x2)))), (h_wd, .inl (cy_wd, 616, .inl f3))]) hD hS hA [0, 1] rfl
          refine va_callv (va_runV (As := [.int z16]) (rest := []) ⟨hx, hb, hml, hown, hts⟩ (c_X9_put l dC dI H.size h_wr h_wd v_wr x2 cy_wd f3 z16 (by first | exact klp5_1 | omega)) (cwV 1 hts (gv hT w_m_X9_33 w_instanceMethod_X9_put ws_sel_X9_put w_ini_X9 w_code_X9_put) rfl rfl rfl (by decide +kernel) ⟨(Nat.le_of_ble_eq_true rfl), (Nat.le_of_ble_eq_true rfl)⟩) ⟨pre_blind, va_recv hK hP (ci := 6) (q0 := 0) rfl rfl, pre_of hPc hKc hDc hN⟩ rfl rfl hl.1 rfl (lv_room (Nat.le_of_ble_eq_true rfl)) dX9_putName_30 ⟨(Nat.le_of_ble_eq_true rfl), (Nat.le_of_ble_eq_true rfl)⟩) hS (fun q _ h => hFc q h) hFc (fun u t H locs ht hvm hq hB hz1 hk1 hS9 => ?_)
          obtain ⟨z18, f19⟩ := u
          obtain ⟨hP1, hD1⟩ := hB
          rw [ht] at hP1
          obtain ⟨hP9, hD9⟩ := va_join (wr := []) (w1 := [(h_wr, .inr (6, (mo36 v_wr (.ref h_wd) (.int z18)))), (h_wd, .inl (cy_wd, 616, .inl f19))]) hP hD [0, 1] [] rfl rfl (by decide) (by decide) hk1 hFc hP1 hD1
          clear hP hD hS hPc hDc hKc hFc hP1 hD1 hk1 hz1 ht hvm
          have hP : va_P (dC, dI) cls [(h_wr, .inr (6, (mo36 v_wr (.ref h_wd) (.int z18)))), (h_wd, .inl (cy_wd, 616, .inl f19))] H := hP9
          have hD : va_D A [(h_wr, .inr (6, (mo36 v_wr (.ref h_wd) (.int z18)))), (h_wd, .inl (cy_wd, 616, .inl f19))] := hD9
          have hS := hS9
          clear hP9 hD9 hS9
          obtain ⟨k20, k21⟩ := hq
          replace k20 : 0 ≤ ((z18)).toInt ∧ ((z18)).toInt ≤ 616 := k20
          replace k21 : (616 ≤ ((x2)).toInt ∧ ((z18)).toInt = ((x2)).toInt) ∨ (((x2)).toInt < 616 ∧ ((z18)).toInt = ((x2)).toInt + 1) := k21
          obtain ⟨z22, ez22⟩ : ∃ y : Int32, y = x1 + (-5) := ⟨_, rfl⟩
          have tz22 : (z22).toInt = (x1).toInt + -5 := by rw [ez22]; exact i_add rfl (by decide) (by omega)
          refine lv_iinc (v := z22) (lv' := [(3, .int z22), (4, .int z12), (0, .ref h_wr), (1, .long p1)]) hx hb dX9_putName_33 hl (k := 3) rfl (by rw [ez22]; rfl) (by decide) rfl (fun ls hl => ?_)
          refine lv_goto (tgt := 3) hx hb dX9_putName_36 (by decide) ?_
          exact ih6 (z22) (z18) (f19) (i9) _ _ _ (by omega) (by first | exact k20 | omega) (by omega) (by omega) (by omega) (by omega) hP hD hS (lv_sub hl [2, 3, 0] rfl)
  have cst35 : (35 : Int32).toInt = 35 := by decide
  have cst8 : (8 : Int32).toInt = 8 := by decide
  exact lp5 _ (35) (x_wr_drafted) (f_wd) (8) _ _ _ (by decide) (by first | exact hx_wr_drafted | omega) (by omega) (by omega) (by omega) (Nat.le_refl _) hP hD hS (lv_sub hl [1, 2, 0] rfl)

set_option maxHeartbeats 8000000 in
set_option maxRecDepth 100000 in
theorem c_X9_putPart (l : Launch) (dC : Nat → ClassId) (dI : Nat → Nat → Nat) (sz : Nat) (h_wr : Nat) (h_wd : Nat) (h_wh : Nat) (h_td : Nat) (h_nam : Nat) (h_var : Nat) (h_trm : Nat) (h_ter : Nat) (v_wr : Nat → Value) (x_wr_drafted : Int32) (x_wr_held : Int32) (cy_wd : ClassId) (f_wd : Nat → Int32) (cy_wh : ClassId) (f_wh : Nat → Int32) (v_td : Nat → Value) (cy_nam : ClassId) (f_nam : Nat → Int64) (cy_var : ClassId) (f_var : Nat → Int32) (cy_trm : ClassId) (f_trm : Nat → Int32) (cy_ter : ClassId) (f_ter : Nat → Int32) (p1 : Int32) (hx_wr_drafted : 0 ≤ (x_wr_drafted).toInt ∧ (x_wr_drafted).toInt ≤ 616) (hx_wr_held : 0 ≤ (x_wr_held).toInt ∧ (x_wr_held).toInt ≤ 2048) (hf_wh : Rg (-127) 9599 f_wh) (hf_var : Rg (-1) 7 f_var) (hf_trm : Rg 0 3 f_trm) (hf_ter : Rg 0 299 f_ter) (q0 : 0 ≤ (p1).toInt ∧ (p1).toInt ≤ 9599) : Met l yX9_putPart (Ws yX9_putPart cX9_putPart 5 none) (({ frames := 2, cells := 0, slots := 0, locals := 45 } : Room)) (PRE (dC, dI) cls [(cy_wd, .int), (cy_wh, .int), (cy_nam, .long), (cy_var, .int), (cy_trm, .int), (cy_ter, .int)] [(h_wr, .inr (6, (mo38 v_wr (.ref h_td) (.ref h_wd) (.int x_wr_drafted) (.ref h_wh) (.int x_wr_held)))), (h_wd, .inl (cy_wd, 616, .inl f_wd)), (h_wh, .inl (cy_wh, 2048, .inl f_wh)), (h_td, .inr (5, (mo21 v_td (.ref h_nam) (.ref h_var) (.ref h_trm) (.ref h_ter)))), (h_nam, .inl (cy_nam, 300, .inr (.inl f_nam))), (h_var, .inl (cy_var, 300, .inl f_var)), (h_trm, .inl (cy_trm, 300, .inl f_trm)), (h_ter, .inl (cy_ter, 900, .inl f_ter))] sz [.ref h_wr, .int p1]) (va_Qv (fun (u : (Int32) × (Int32) × (Nat → Int32) × (Nat → Int32)) => (0 ≤ (u.1).toInt ∧ (u.1).toInt ≤ 616) ∧ (0 ≤ (u.2.1).toInt ∧ (u.2.1).toInt ≤ 2048) ∧ (Rg (-127) 9599 u.2.2.2)) (fun (u : (Int32) × (Int32) × (Nat → Int32) × (Nat → Int32)) (t : State) => va_P (dC, dI) cls [(h_wr, .inr (6, (mo38 v_wr (.ref h_td) (.ref h_wd) (.int u.1) (.ref h_wh) (.int u.2.1)))), (h_wd, .inl (cy_wd, 616, .inl u.2.2.1)), (h_wh, .inl (cy_wh, 2048, .inl u.2.2.2)), (h_td, .inr (5, (mo21 v_td (.ref h_nam) (.ref h_var) (.ref h_trm) (.ref h_ter)))), (h_nam, .inl (cy_nam, 300, .inr (.inl f_nam))), (h_var, .inl (cy_var, 300, .inl f_var)), (h_trm, .inl (cy_trm, 300, .inl f_trm)), (h_ter, .inl (cy_ter, 900, .inl f_ter))] t.heap ∧ va_D (va_A [(h_wr, .inr (6, (mo38 v_wr (.ref h_td) (.ref h_wd) (.int x_wr_drafted) (.ref h_wh) (.int x_wr_held)))), (h_wd, .inl (cy_wd, 616, .inl f_wd)), (h_wh, .inl (cy_wh, 2048, .inl f_wh)), (h_td, .inr (5, (mo21 v_td (.ref h_nam) (.ref h_var) (.ref h_trm) (.ref h_ter)))), (h_nam, .inl (cy_nam, 300, .inr (.inl f_nam))), (h_var, .inl (cy_var, 300, .inl f_var)), (h_trm, .inl (cy_trm, 300, .inl f_trm)), (h_ter, .inl (cy_ter, 900, .inl f_ter))] sz) [(h_wr, .inr (6, (mo38 v_wr (.ref h_td) (.ref h_wd) (.int u.1) (.ref h_wh) (.int u.2.1)))), (h_wd, .inl (cy_wd, 616, .inl u.2.2.1)), (h_wh, .inl (cy_wh, 2048, .inl u.2.2.2)), (h_td, .inr (5, (mo21 v_td (.ref h_nam) (.ref h_var) (.ref h_trm) (.ref h_ter)))), (h_nam, .inl (cy_nam, 300, .inr (.inl f_nam))), (h_var, .inl (cy_var, 300, .inl f_var)), (h_trm, .inl (cy_trm, 300, .inl f_trm)), (h_ter, .inl (cy_ter, 900, .inl f_ter))]) (va_A [(h_wr, .inr (6, (mo38 v_wr (.ref h_td) (.ref h_wd) (.int x_wr_drafted) (.ref h_wh) (.int x_wr_held)))), (h_wd, .inl (cy_wd, 616, .inl f_wd)), (h_wh, .inl (cy_wh, 2048, .inl f_wh)), (h_td, .inr (5, (mo21 v_td (.ref h_nam) (.ref h_var) (.ref h_trm) (.ref h_ter)))), (h_nam, .inl (cy_nam, 300, .inr (.inl f_nam))), (h_var, .inl (cy_var, 300, .inl f_var)), (h_trm, .inl (cy_trm, 300, .inl f_trm)), (h_ter, .inl (cy_ter, 900, .inl f_ter))] sz)) 0 0 (va_A [(h_wr, .inr (6, (mo38 v_wr (.ref h_td) (.ref h_wd) (.int x_wr_drafted) (.ref h_wh) (.int x_wr_held)))), (h_wd, .inl (cy_wd, 616, .inl f_wd)), (h_wh, .inl (cy_wh, 2048, .inl f_wh)), (h_td, .inr (5, (mo21 v_td (.ref h_nam) (.ref h_var) (.ref h_trm) (.ref h_ter)))), (h_nam, .inl (cy_nam, 300, .inr (.inl f_nam))), (h_var, .inl (cy_var, 300, .inl f_var)), (h_trm, .inl (cy_trm, 300, .inl f_trm)), (h_ter, .inl (cy_ter, 900, .inl f_ter))] sz) := by
  refine Met.ofW (cc := cX9_putPart) (maxL := 5) (ret := none) (by decide) rfl ?_
  intro p e s m args below meth c s₁ B hml hv
  obtain ⟨rfl, hsz, hP, hK, hD0, hN⟩ := hv
  have hx := B.exec
  have hb := B.bytes
  have hr := B.returns
  have hts := atoms_spec (ws := Ws yX9_putPart cX9_putPart 5 none) B.pre
  have hT : ∀ w ∈ WALL, w ∈ Ws yX9_putPart cX9_putPart 5 none := fun w h => List.mem_cons_of_mem _ h
  have hw := fun w (h : w ∈ WALL) => hts w (hT w h)
  have hown : s.vm.findClass RX9 = some m.cls := findClass_of_methodNamed B.named
  have hlocks := B.notSynchronized
  subst hsz
  have hD := hD0.self (sz := s.heap.size)
  generalize hAe : va_A [(h_wr, .inr (6, (mo38 v_wr (.ref h_td) (.ref h_wd) (.int x_wr_drafted) (.ref h_wh) (.int x_wr_held)))), (h_wd, .inl (cy_wd, 616, .inl f_wd)), (h_wh, .inl (cy_wh, 2048, .inl f_wh)), (h_td, .inr (5, (mo21 v_td (.ref h_nam) (.ref h_var) (.ref h_trm) (.ref h_ter)))), (h_nam, .inl (cy_nam, 300, .inr (.inl f_nam))), (h_var, .inl (cy_var, 300, .inl f_var)), (h_trm, .inl (cy_trm, 300, .inl f_trm)), (h_ter, .inl (cy_ter, 900, .inl f_ter))] s.heap.size = A at hD ⊢
  have hA : ∀ q : Nat, s.heap.size ≤ q → A q := fun q h => by rw [← hAe]; exact Or.inr h
  have hS : va_S A s.heap s.heap [] := va_S.rf
  have hl := lv_entry ([.ref h_wr, .int p1]) (n := 5) (Nat.le_of_ble_eq_true rfl)
  rw [lg_entry_eq]
  generalize (lg_sl ([.ref h_wr, .int p1]) ++ List.replicate (5 - (lg_sl ([.ref h_wr, .int p1])).length) Slot.unset).toArray = ls at hl ⊢
  have hl : lv_has ls 5 [(0, .ref h_wr), (1, .int p1)] := hl
  refine lv_iload_n hx hb dX9_putPart_0 rfl (lv_at hl 1 rfl) ?_
  refine lv_sipush (v := 300) hx hb dX9_putPart_1 (by decide) ?_
  refine lv_irem hx hb dX9_putPart_4 (by decide) ?_
  refine lv_topi (fun z1 ez1 => ?_)
  have tz1 : (z1).toInt = (p1).toInt % 300 := by rw [ez1]; exact i_rem rfl (by decide) (by omega)
  refine lv_istore_n (lv' := [(2, .int z1), (0, .ref h_wr), (1, .int p1)]) hx hb dX9_putPart_5 rfl hl (by decide) rfl (fun ls hl => ?_)
  refine lv_aload_n hx hb dX9_putPart_6 rfl (lv_at hl 1 rfl) ?_
  refine va_get (D := (dC, dI)) (ci := 6) (v := .ref h_td) (C := RX9) (T := TX9) (N := 8) hx hb hw iwX9 hown hK hP 0 rfl rfl 0 (by decide) (hw _ w_f_X9_21) (fun _ h9 => h9) rfl dX9_putPart_7 ?_
  refine va_getN (D := (dC, dI)) (ci := 5) (v := .ref h_var) (C := RX8) (T := TX8) (N := 10) (host := "OppositePairs") hx hb hw iwX8 hown hK hP 3 rfl rfl 1 (by decide) (hN.use n_f_X9_59 rfl) (fun _ h9 => h9) rfl dX9_putPart_10 ?_
  refine lv_iload_n hx hb dX9_putPart_13 rfl (lv_at hl 0 rfl) ?_
  refine va_iald hx hb hK hP 5 3 rfl rfl (i := z1) (vp_in_iff.mpr (by omega)) dX9_putPart_14 ?_
  refine lv_topi (fun z2 ez2 => ?_)
  have rz2 : -1 ≤ (z2).toInt ∧ (z2).toInt ≤ 7 := by rw [ez2]; exact hf_var _
  refine lv_iconst (v := (-1)) hx hb dX9_putPart_15 (by decide) ?_
  refine lv_icmp_eq (tgt := 43) hx hb dX9_putPart_16 (by decide) (fun c3 => ?_) (fun c3 => ?_)
  · have kc3 := (cv_eq (rfl : (z2).toInt = (z2).toInt) (by decide : ((-1) : Int32).toInt = -1)).mp c3
    refine lv_aload_n hx hb dX9_putPart_43 rfl (lv_at hl 1 rfl) ?_
    refine lv_aload_n hx hb dX9_putPart_44 rfl (lv_at hl 1 rfl) ?_
    refine va_get (D := (dC, dI)) (ci := 6) (v := .ref h_td) (C := RX9) (T := TX9) (N := 8) hx hb hw iwX9 hown hK hP 0 rfl rfl 0 (by decide) (hw _ w_f_X9_21) (fun _ h9 => h9) rfl dX9_putPart_45 ?_
    refine va_getN (D := (dC, dI)) (ci := 5) (v := .ref h_nam) (C := RX8) (T := TX8) (N := 10) (host := "OppositePairs") hx hb hw iwX8 hown hK hP 3 rfl rfl 0 (by decide) (hN.use n_f_X9_64 rfl) (fun _ h9 => h9) rfl dX9_putPart_48 ?_
    refine lv_iload_n hx hb dX9_putPart_51 rfl (lv_at hl 0 rfl) ?_
    refine va_lald hx hb hK hP 4 2 rfl rfl (i := z1) (vp_in_iff.mpr (by omega)) dX9_putPart_52 ?_
    refine lv_topl (fun z4 ez4 => ?_)
    obtain ⟨vq5, evq5⟩ := mq38_36 v_wr (.ref h_td) (.ref h_wh) (.int x_wr_held)
    replace hP : va_P (dC, dI) cls [(h_wr, .inr (6, (mo36 vq5 (.ref h_wd) (.int x_wr_drafted)))), (h_wd, .inl (cy_wd, 616, .inl f_wd)), (h_wh, .inl (cy_wh, 2048, .inl f_wh)), (h_td, .inr (5, (mo21 v_td (.ref h_nam) (.ref h_var) (.ref h_trm) (.ref h_ter)))), (h_nam, .inl (cy_nam, 300, .inr (.inl f_nam))), (h_var, .inl (cy_var, 300, .inl f_var)), (h_trm, .inl (cy_trm, 300, .inl f_trm)), (h_ter, .inl (cy_ter, 900, .inl f_ter))] s.heap := by rw [evq5]; exact hP
    replace hD : va_D A [(h_wr, .inr (6, (mo36 vq5 (.ref h_wd) (.int x_wr_drafted)))), (h_wd, .inl (cy_wd, 616, .inl f_wd)), (h_wh, .inl (cy_wh, 2048, .inl f_wh)), (h_td, .inr (5, (mo21 v_td (.ref h_nam) (.ref h_var) (.ref h_trm) (.ref h_ter)))), (h_nam, .inl (cy_nam, 300, .inr (.inl f_nam))), (h_var, .inl (cy_var, 300, .inl f_var)), (h_trm, .inl (cy_trm, 300, .inl f_trm)), (h_ter, .inl (cy_ter, 900, .inl f_ter))] := by rw [evq5]; exact hD
    have hPc := hP.sub (ws' := [(h_wr, .inr (6, (mo36 vq5 (.ref h_wd) (.int x_wr_drafted)))), (h_wd, .inl (cy_wd, 616, .inl f_wd))]) [0, 1] rfl
    have hDc := hD.sub (ws' := [(h_wr, .inr (6, (mo36 vq5 (.ref h_wd) (.int x_wr_drafted)))), (h_wd, .inl (cy_wd, 616, .inl f_wd))]) [0, 1] (by decide) rfl
    have hKc := hK.sub (tys' := [(cy_wd, .int)]) [0] rfl
    have hFc := va_free (wc := [(h_wr, .inr (6, (mo36 vq5 (.ref h_wd) (.int x_wr_drafted)))), (h_wd, .inl (cy_wd, 616, .inl f_wd))]) hD hS hA [0, 1] rfl
    refine va_callv (va_runV (As := [.long z4]) (rest := []) ⟨hx, hb, hml, hown, hts⟩ (c_X9_putName l dC dI s.heap.size h_wr h_wd vq5 x_wr_drafted cy_wd f_wd z4 (by first | exact hx_wr_drafted | omega)) (cwV 1 hts (gv hT w_m_X9_71 w_instanceMethod_X9_putName ws_sel_X9_putName w_ini_X9 w_code_X9_putName) rfl rfl rfl (by decide +kernel) ⟨(Nat.le_of_ble_eq_true rfl), (Nat.le_of_ble_eq_true rfl)⟩) ⟨pre_blind, va_recv hK hP (ci := 6) (q0 := 0) rfl rfl, pre_of hPc hKc hDc hN⟩ rfl rfl hl.1 rfl (lv_room (Nat.le_of_ble_eq_true rfl)) dX9_putPart_53 ⟨(Nat.le_of_ble_eq_true rfl), (Nat.le_of_ble_eq_true rfl)⟩) hS (fun q _ h => hFc q h) hFc (fun u t H locs ht hvm hq hB hz1 hk1 hS9 => ?_)
    obtain ⟨z7, f8⟩ := u
    obtain ⟨hP1, hD1⟩ := hB
    rw [ht] at hP1
    obtain ⟨hP9, hD9⟩ := va_join (wr := [(h_wh, .inl (cy_wh, 2048, .inl f_wh)), (h_td, .inr (5, (mo21 v_td (.ref h_nam) (.ref h_var) (.ref h_trm) (.ref h_ter)))), (h_nam, .inl (cy_nam, 300, .inr (.inl f_nam))), (h_var, .inl (cy_var, 300, .inl f_var)), (h_trm, .inl (cy_trm, 300, .inl f_trm)), (h_ter, .inl (cy_ter, 900, .inl f_ter))]) (w1 := [(h_wr, .inr (6, (mo36 vq5 (.ref h_wd) (.int z7)))), (h_wd, .inl (cy_wd, 616, .inl f8))]) hP hD [0, 1] [2, 3, 4, 5, 6, 7] rfl rfl (by decide) (by decide) hk1 hFc hP1 hD1
    clear hP hD hS hPc hDc hKc hFc hP1 hD1 hk1 hz1 ht hvm
    have hP : va_P (dC, dI) cls [(h_wh, .inl (cy_wh, 2048, .inl f_wh)), (h_td, .inr (5, (mo21 v_td (.ref h_nam) (.ref h_var) (.ref h_trm) (.ref h_ter)))), (h_nam, .inl (cy_nam, 300, .inr (.inl f_nam))), (h_var, .inl (cy_var, 300, .inl f_var)), (h_trm, .inl (cy_trm, 300, .inl f_trm)), (h_ter, .inl (cy_ter, 900, .inl f_ter)), (h_wr, .inr (6, (mo36 vq5 (.ref h_wd) (.int z7)))), (h_wd, .inl (cy_wd, 616, .inl f8))] H := hP9
    have hD : va_D A [(h_wh, .inl (cy_wh, 2048, .inl f_wh)), (h_td, .inr (5, (mo21 v_td (.ref h_nam) (.ref h_var) (.ref h_trm) (.ref h_ter)))), (h_nam, .inl (cy_nam, 300, .inr (.inl f_nam))), (h_var, .inl (cy_var, 300, .inl f_var)), (h_trm, .inl (cy_trm, 300, .inl f_trm)), (h_ter, .inl (cy_ter, 900, .inl f_ter)), (h_wr, .inr (6, (mo36 vq5 (.ref h_wd) (.int z7)))), (h_wd, .inl (cy_wd, 616, .inl f8))] := hD9
    have hS := hS9
    clear hP9 hD9 hS9
    rw [evq5] at hP hD
    replace hP : va_P (dC, dI) cls [(h_wh, .inl (cy_wh, 2048, .inl f_wh)), (h_td, .inr (5, (mo21 v_td (.ref h_nam) (.ref h_var) (.ref h_trm) (.ref h_ter)))), (h_nam, .inl (cy_nam, 300, .inr (.inl f_nam))), (h_var, .inl (cy_var, 300, .inl f_var)), (h_trm, .inl (cy_trm, 300, .inl f_trm)), (h_ter, .inl (cy_ter, 900, .inl f_ter)), (h_wr, .inr (6, (mo38 v_wr (.ref h_td) (.ref h_wd) (.int z7) (.ref h_wh) (.int x_wr_held)))), (h_wd, .inl (cy_wd, 616, .inl f8))] H := hP
    replace hD : va_D A [(h_wh, .inl (cy_wh, 2048, .inl f_wh)), (h_td, .inr (5, (mo21 v_td (.ref h_nam) (.ref h_var) (.ref h_trm) (.ref h_ter)))), (h_nam, .inl (cy_nam, 300, .inr (.inl f_nam))), (h_var, .inl (cy_var, 300, .inl f_var)), (h_trm, .inl (cy_trm, 300, .inl f_trm)), (h_ter, .inl (cy_ter, 900, .inl f_ter)), (h_wr, .inr (6, (mo38 v_wr (.ref h_td) (.ref h_wd) (.int z7) (.ref h_wh) (.int x_wr_held)))), (h_wd, .inl (cy_wd, 616, .inl f8))] := hD
    clear evq5 
    have k9 : 0 ≤ ((z7)).toInt ∧ ((z7)).toInt ≤ 616 := hq
    clear hq
    refine lv_aload_n hx hb dX9_putPart_56 rfl (lv_at hl 1 rfl) ?_
    refine va_get (D := (dC, dI)) (ci := 6) (v := .ref h_td) (C := RX9) (T := TX9) (N := 8) hx hb hw iwX9 hown hK hP 6 rfl rfl 0 (by decide) (hw _ w_f_X9_21) (fun _ h9 => h9) rfl dX9_putPart_57 ?_
    refine va_getN (D := (dC, dI)) (ci := 5) (v := .ref h_trm) (C := RX8) (T := TX8) (N := 10) (host := "OppositePairs") hx hb hw iwX8 hown hK hP 1 rfl rfl 2 (by decide) (hN.use n_f_X9_75 rfl) (fun _ h9 => h9) rfl dX9_putPart_60 ?_
    refine lv_iload_n hx hb dX9_putPart_63 rfl (lv_at hl 0 rfl) ?_
    refine va_iald hx hb hK hP 4 4 rfl rfl (i := z1) (vp_in_iff.mpr (by omega)) dX9_putPart_64 ?_
    refine lv_topi (fun z10 ez10 => ?_)
    have rz10 : 0 ≤ (z10).toInt ∧ (z10).toInt ≤ 3 := by rw [ez10]; exact hf_trm _
    refine lv_istore_n (lv' := [(3, .int z10), (2, .int z1), (0, .ref h_wr), (1, .int p1)]) hx hb dX9_putPart_65 rfl hl (by decide) rfl (fun ls hl => ?_)
    refine lv_iload_n hx hb dX9_putPart_66 rfl (lv_at hl 0 rfl) ?_
    refine lv_if_le (tgt := 82) hx hb dX9_putPart_67 (by decide) (fun c11 => ?_) (fun c11 => ?_)
    · have kc11 := (cv_le (rfl : (z10).toInt = (z10).toInt) (by decide : (0 : Int32).toInt = 0)).mp c11
      refine lv_iload_n hx hb dX9_putPart_82 rfl (lv_at hl 0 rfl) ?_
      refine lv_iconst (v := 1) hx hb dX9_putPart_83 (by decide) ?_
      refine lv_isub hx hb dX9_putPart_84 ?_
      refine lv_topi (fun z12 ez12 => ?_)
      have tz12 : (z12).toInt = (z10).toInt - 1 := by rw [ez12]; exact i_sub rfl (by decide) (by omega)
      refine lv_istore (lv' := [(4, .int z12), (3, .int z10), (2, .int z1), (0, .ref h_wr), (1, .int p1)]) hx hb dX9_putPart_85 hl (by decide) rfl (fun ls hl => ?_)
      have lp16 : ∀ (n : Nat) (x13 : Int32) (f14 : Nat → Int32) (x15 : Int32) (H : Heap) (locs : List Loc) (ls : Array Slot), (-1 ≤ (x13).toInt ∧ (x13).toInt ≤ 2) → (Rg (-127) 9599 f14) → (0 ≤ (x15).toInt ∧ (x15).toInt ≤ 2048) → ((x13).toInt + 1).toNat + 1 ≤ n → va_P (dC, dI) cls [(h_wh, .inl (cy_wh, 2048, .inl f14)), (h_td, .inr (5, (mo21 v_td (.ref h_nam) (.ref h_var) (.ref h_trm) (.ref h_ter)))), (h_nam, .inl (cy_nam, 300, .inr (.inl f_nam))), (h_var, .inl (cy_var, 300, .inl f_var)), (h_trm, .inl (cy_trm, 300, .inl f_trm)), (h_ter, .inl (cy_ter, 900, .inl f_ter)), (h_wr, .inr (6, (mo38 v_wr (.ref h_td) (.ref h_wd) (.int z7) (.ref h_wh) (.int x15)))), (h_wd, .inl (cy_wd, 616, .inl f8))] H → va_D A [(h_wh, .inl (cy_wh, 2048, .inl f14)), (h_td, .inr (5, (mo21 v_td (.ref h_nam) (.ref h_var) (.ref h_trm) (.ref h_ter)))), (h_nam, .inl (cy_nam, 300, .inr (.inl f_nam))), (h_var, .inl (cy_var, 300, .inl f_var)), (h_trm, .inl (cy_trm, 300, .inl f_trm)), (h_ter, .inl (cy_ter, 900, .inl f_ter)), (h_wr, .inr (6, (mo38 v_wr (.ref h_td) (.ref h_wd) (.int z7) (.ref h_wh) (.int x15)))), (h_wd, .inl (cy_wd, 616, .inl f8))] → va_S A s.heap H locs → lv_has ls 5 [(0, .ref h_wr), (1, .int p1), (2, .int z1), (3, .int z10), (4, .int x13)] → W p l e ({ frames := 2, cells := 0, slots := 0, locals := 45 } : Room) s m ([.ref h_wr, .int p1] : List Value).toArray below meth c H locs 0 0 (MQ below (va_Qv (fun (u : (Int32) × (Int32) × (Nat → Int32) × (Nat → Int32)) => (0 ≤ (u.1).toInt ∧ (u.1).toInt ≤ 616) ∧ (0 ≤ (u.2.1).toInt ∧ (u.2.1).toInt ≤ 2048) ∧ (Rg (-127) 9599 u.2.2.2)) (fun (u : (Int32) × (Int32) × (Nat → Int32) × (Nat → Int32)) (t : State) => va_P (dC, dI) cls [(h_wr, .inr (6, (mo38 v_wr (.ref h_td) (.ref h_wd) (.int u.1) (.ref h_wh) (.int u.2.1)))), (h_wd, .inl (cy_wd, 616, .inl u.2.2.1)), (h_wh, .inl (cy_wh, 2048, .inl u.2.2.2)), (h_td, .inr (5, (mo21 v_td (.ref h_nam) (.ref h_var) (.ref h_trm) (.ref h_ter)))), (h_nam, .inl (cy_nam, 300, .inr (.inl f_nam))), (h_var, .inl (cy_var, 300, .inl f_var)), (h_trm, .inl (cy_trm, 300, .inl f_trm)), (h_ter, .inl (cy_ter, 900, .inl f_ter))] t.heap ∧ va_D A [(h_wr, .inr (6, (mo38 v_wr (.ref h_td) (.ref h_wd) (.int u.1) (.ref h_wh) (.int u.2.1)))), (h_wd, .inl (cy_wd, 616, .inl u.2.2.1)), (h_wh, .inl (cy_wh, 2048, .inl u.2.2.2)), (h_td, .inr (5, (mo21 v_td (.ref h_nam) (.ref h_var) (.ref h_trm) (.ref h_ter)))), (h_nam, .inl (cy_nam, 300, .inr (.inl f_nam))), (h_var, .inl (cy_var, 300, .inl f_var)), (h_trm, .inl (cy_trm, 300, .inl f_trm)), (h_ter, .inl (cy_ter, 900, .inl f_ter))]) A) ([.ref h_wr, .int p1] : List Value).toArray s 0 0 A) (F0 m 87 ls []) := by
        clear hP hD hS hl
        intro n
        induction n with
        | zero => intro x13 f14 x15 H locs ls klp16_0 hf14 klp16_2 hm hP hD hS hl; exact False.elim (by omega)
        | succ n ih => 
          intro x13 f14 x15 H locs ls klp16_0 hf14 klp16_2 hm hP hD hS hl
          have ih17 := ih
          clear ih
          refine lv_iload hx hb dX9_putPart_87 (lv_at hl 4 rfl) ?_
          refine lv_if_lt (tgt := 131) hx hb dX9_putPart_89 (by decide) (fun c18 => ?_) (fun c18 => ?_)
          · have kc18 := (cv_lt (rfl : (x13).toInt = (x13).toInt) (by decide : (0 : Int32).toInt = 0)).mp c18
            replace hP : va_P (dC, dI) cls [(h_wr, .inr (6, (mo38 v_wr (.ref h_td) (.ref h_wd) (.int z7) (.ref h_wh) (.int x15)))), (h_wd, .inl (cy_wd, 616, .inl f8)), (h_wh, .inl (cy_wh, 2048, .inl f14)), (h_td, .inr (5, (mo21 v_td (.ref h_nam) (.ref h_var) (.ref h_trm) (.ref h_ter)))), (h_nam, .inl (cy_nam, 300, .inr (.inl f_nam))), (h_var, .inl (cy_var, 300, .inl f_var)), (h_trm, .inl (cy_trm, 300, .inl f_trm)), (h_ter, .inl (cy_ter, 900, .inl f_ter))] H := hP.sub [6, 7, 0, 1, 2, 3, 4, 5] rfl
            replace hD : va_D A [(h_wr, .inr (6, (mo38 v_wr (.ref h_td) (.ref h_wd) (.int z7) (.ref h_wh) (.int x15)))), (h_wd, .inl (cy_wd, 616, .inl f8)), (h_wh, .inl (cy_wh, 2048, .inl f14)), (h_td, .inr (5, (mo21 v_td (.ref h_nam) (.ref h_var) (.ref h_trm) (.ref h_ter)))), (h_nam, .inl (cy_nam, 300, .inr (.inl f_nam))), (h_var, .inl (cy_var, 300, .inl f_var)), (h_trm, .inl (cy_trm, 300, .inl f_trm)), (h_ter, .inl (cy_ter, 900, .inl f_ter))] := hD.sub [6, 7, 0, 1, 2, 3, 4, 5] (by decide) rfl
            refine W.widen (k := 0) (n := 0) (Nat.le_of_ble_eq_true rfl) (Nat.le_of_ble_eq_true rfl) ?_
            have w19 : 0 ≤ ((z7)).toInt ∧ ((z7)).toInt ≤ 616 := by first | exact k9 | omega
            have w20 : 0 ≤ ((x15)).toInt ∧ ((x15)).toInt ≤ 2048 := by first | exact klp16_2 | omega
            exact W.vret hx hb hr (fun t ht hW => ⟨⟨(z7, x15, f8, f14), rfl, ⟨w19, w20, hf14⟩, by rw [ht]; exact hP, hD⟩, hS.F ht⟩) hS.2.2 dX9_putPart_131
          · have kc18 := (not_congr (cv_lt (rfl : (x13).toInt = (x13).toInt) (by decide : (0 : Int32).toInt = 0))).mp c18
            refine lv_aload_n hx hb dX9_putPart_92 rfl (lv_at hl 0 rfl) ?_
            refine lv_iload_n hx hb dX9_putPart_93 rfl (lv_at hl 1 rfl) ?_
            refine lv_iload_n hx hb dX9_putPart_94 rfl (lv_at hl 2 rfl) ?_
            refine lv_isub hx hb dX9_putPart_95 ?_
            refine lv_topi (fun z21 ez21 => ?_)
            have tz21 : (z21).toInt = (p1).toInt - (z1).toInt := by rw [ez21]; exact i_sub rfl rfl (by omega)
            have sz21 : 0 ≤ (z21).toInt ∧ (z21).toInt ≤ 9300 := by omega
            refine lv_aload_n hx hb dX9_putPart_96 rfl (lv_at hl 0 rfl) ?_
            refine va_get (D := (dC, dI)) (ci := 6) (v := .ref h_td) (C := RX9) (T := TX9) (N := 8) hx hb hw iwX9 hown hK hP 6 rfl rfl 0 (by decide) (hw _ w_f_X9_21) (fun _ h9 => h9) rfl dX9_putPart_97 ?_
            refine va_getN (D := (dC, dI)) (ci := 5) (v := .ref h_ter) (C := RX8) (T := TX8) (N := 10) (host := "OppositePairs") hx hb hw iwX8 hown hK hP 1 rfl rfl 3 (by decide) (hN.use n_f_X9_81 rfl) (fun _ h9 => h9) rfl dX9_putPart_100 ?_
            refine lv_iload_n hx hb dX9_putPart_103 rfl (lv_at hl 2 rfl) ?_
            refine lv_iconst (v := 3) hx hb dX9_putPart_104 (by decide) ?_
            refine lv_imul hx hb dX9_putPart_105 ?_
            refine lv_topi (fun z22 ez22 => ?_)
            have tz22 : (z22).toInt = (z1).toInt * 3 := by rw [ez22]; exact i_mul rfl (by decide) (by omega)
            refine lv_iload hx hb dX9_putPart_106 (lv_at hl 4 rfl) ?_
            refine lv_iadd hx hb dX9_putPart_108 ?_
            refine lv_topi (fun z23 ez23 => ?_)
            have tz23 : (z23).toInt = (z22).toInt + (x13).toInt := by rw [ez23]; exact i_add rfl rfl (by omega)
            refine va_iald hx hb hK hP 5 5 rfl rfl (i := z23) (vp_in_iff.mpr (by omega)) dX9_putPart_109 ?_
            refine lv_topi (fun z24 ez24 => ?_)
            have rz24 : 0 ≤ (z24).toInt ∧ (z24).toInt ≤ 299 := by rw [ez24]; exact hf_ter _
            refine lv_iadd hx hb dX9_putPart_110 ?_
            refine lv_topi (fun z25 ez25 => ?_)
            have tz25 : (z25).toInt = (z21).toInt + (z24).toInt := by rw [ez25]; exact i_add rfl rfl (by omega)
            obtain ⟨vq26, evq26⟩ := mq38_37 v_wr (.ref h_td) (.ref h_wd) (.int z7)
            replace hP : va_P (dC, dI) cls [(h_wh, .inl (cy_wh, 2048, .inl f14)), (h_td, .inr (5, (mo21 v_td (.ref h_nam) (.ref h_var) (.ref h_trm) (.ref h_ter)))), (h_nam, .inl (cy_nam, 300, .inr (.inl f_nam))), (h_var, .inl (cy_var, 300, .inl f_var)), (h_trm, .inl (cy_trm, 300, .inl f_trm)), (h_ter, .inl (cy_ter, 900, .inl f_ter)), (h_wr, .inr (6, (mo37 vq26 (.ref h_wh) (.int x15)))), (h_wd, .inl (cy_wd, 616, .inl f8))] H := by rw [evq26]; exact hP
            replace hD : va_D A [(h_wh, .inl (cy_wh, 2048, .inl f14)), (h_td, .inr (5, (mo21 v_td (.ref h_nam) (.ref h_var) (.ref h_trm) (.ref h_ter)))), (h_nam, .inl (cy_nam, 300, .inr (.inl f_nam))), (h_var, .inl (cy_var, 300, .inl f_var)), (h_trm, .inl (cy_trm, 300, .inl f_trm)), (h_ter, .inl (cy_ter, 900, .inl f_ter)), (h_wr, .inr (6, (mo37 vq26 (.ref h_wh) (.int x15)))), (h_wd, .inl (cy_wd, 616, .inl f8))] := by rw [evq26]; exact hD
            have hPc := hP.sub (ws' := [(h_wr, .inr (6, (mo37 vq26 (.ref h_wh) (.int x15)))), (h_wh, .inl (cy_wh, 2048, .inl f14))]) [6, 0] rfl
            have hDc := hD.sub (ws' := [(h_wr, .inr (6, (mo37 vq26 (.ref h_wh) (.int x15)))), (h_wh, .inl (cy_wh, 2048, .inl f14))]) [6, 0] (by decide) rfl
            have hKc := hK.sub (tys' := [(cy_wh, .int)]) [1] rfl
            have hFc := va_free (wc := [(h_wr, .inr (6, (mo37 vq26 (.ref h_wh) (.int x15)))), (h_wh, .inl (cy_wh, 2048, .inl f14))]) hD hS hA [6, 0] rfl
            refine va_callv (va_runV (As := [.int z25]) (rest := []) ⟨hx, hb, hml, hown, hts⟩ (c_X9_push l dC dI H.size h_wr h_wh vq26 x15 cy_wh f14 z25 (by first | exact klp16_2 | omega) hf14 (by omega)) (cwV 1 hts (gv hT w_m_X9_78 w_instanceMethod_X9_push ws_sel_X9_push w_ini_X9 w_code_X9_push) rfl rfl rfl (by decide +kernel) ⟨(Nat.le_of_ble_eq_true rfl), (Nat.le_of_ble_eq_true rfl)⟩) ⟨pre_blind, va_recv hK hP (ci := 6) (q0 := 6) rfl rfl, pre_of hPc hKc hDc hN⟩ rfl rfl hl.1 rfl (lv_room (Nat.le_of_ble_eq_true rfl)) dX9_putPart_111 ⟨(Nat.le_of_ble_eq_true rfl), (Nat.le_of_ble_eq_true rfl)⟩) hS (fun q _ h => hFc q h) hFc (fun u t H locs ht hvm hq hB hz1 hk1 hS9 => ?_)
            obtain ⟨z28, f29⟩ := u
            obtain ⟨hP1, hD1⟩ := hB
            rw [ht] at hP1
            obtain ⟨hP9, hD9⟩ := va_join (wr := [(h_td, .inr (5, (mo21 v_td (.ref h_nam) (.ref h_var) (.ref h_trm) (.ref h_ter)))), (h_nam, .inl (cy_nam, 300, .inr (.inl f_nam))), (h_var, .inl (cy_var, 300, .inl f_var)), (h_trm, .inl (cy_trm, 300, .inl f_trm)), (h_ter, .inl (cy_ter, 900, .inl f_ter)), (h_wd, .inl (cy_wd, 616, .inl f8))]) (w1 := [(h_wr, .inr (6, (mo37 vq26 (.ref h_wh) (.int z28)))), (h_wh, .inl (cy_wh, 2048, .inl f29))]) hP hD [6, 0] [1, 2, 3, 4, 5, 7] rfl rfl (by decide) (by decide) hk1 hFc hP1 hD1
            clear hP hD hS hPc hDc hKc hFc hP1 hD1 hk1 hz1 ht hvm
            have hP : va_P (dC, dI) cls [(h_td, .inr (5, (mo21 v_td (.ref h_nam) (.ref h_var) (.ref h_trm) (.ref h_ter)))), (h_nam, .inl (cy_nam, 300, .inr (.inl f_nam))), (h_var, .inl (cy_var, 300, .inl f_var)), (h_trm, .inl (cy_trm, 300, .inl f_trm)), (h_ter, .inl (cy_ter, 900, .inl f_ter)), (h_wd, .inl (cy_wd, 616, .inl f8)), (h_wr, .inr (6, (mo37 vq26 (.ref h_wh) (.int z28)))), (h_wh, .inl (cy_wh, 2048, .inl f29))] H := hP9
            have hD : va_D A [(h_td, .inr (5, (mo21 v_td (.ref h_nam) (.ref h_var) (.ref h_trm) (.ref h_ter)))), (h_nam, .inl (cy_nam, 300, .inr (.inl f_nam))), (h_var, .inl (cy_var, 300, .inl f_var)), (h_trm, .inl (cy_trm, 300, .inl f_trm)), (h_ter, .inl (cy_ter, 900, .inl f_ter)), (h_wd, .inl (cy_wd, 616, .inl f8)), (h_wr, .inr (6, (mo37 vq26 (.ref h_wh) (.int z28)))), (h_wh, .inl (cy_wh, 2048, .inl f29))] := hD9
            have hS := hS9
            clear hP9 hD9 hS9
            rw [evq26] at hP hD
            replace hP : va_P (dC, dI) cls [(h_td, .inr (5, (mo21 v_td (.ref h_nam) (.ref h_var) (.ref h_trm) (.ref h_ter)))), (h_nam, .inl (cy_nam, 300, .inr (.inl f_nam))), (h_var, .inl (cy_var, 300, .inl f_var)), (h_trm, .inl (cy_trm, 300, .inl f_trm)), (h_ter, .inl (cy_ter, 900, .inl f_ter)), (h_wd, .inl (cy_wd, 616, .inl f8)), (h_wr, .inr (6, (mo38 v_wr (.ref h_td) (.ref h_wd) (.int z7) (.ref h_wh) (.int z28)))), (h_wh, .inl (cy_wh, 2048, .inl f29))] H := hP
            replace hD : va_D A [(h_td, .inr (5, (mo21 v_td (.ref h_nam) (.ref h_var) (.ref h_trm) (.ref h_ter)))), (h_nam, .inl (cy_nam, 300, .inr (.inl f_nam))), (h_var, .inl (cy_var, 300, .inl f_var)), (h_trm, .inl (cy_trm, 300, .inl f_trm)), (h_ter, .inl (cy_ter, 900, .inl f_ter)), (h_wd, .inl (cy_wd, 616, .inl f8)), (h_wr, .inr (6, (mo38 v_wr (.ref h_td) (.ref h_wd) (.int z7) (.ref h_wh) (.int z28)))), (h_wh, .inl (cy_wh, 2048, .inl f29))] := hD
            clear evq26 
            obtain ⟨k30, hf29, k31, k32⟩ := hq
            replace k30 : 0 ≤ ((z28)).toInt ∧ ((z28)).toInt ≤ 2048 := k30
            replace hf29 : Rg (-127) 9599 (f29) := hf29
            replace k31 : (2048 ≤ ((x15)).toInt ∧ ((z28)).toInt = ((x15)).toInt) ∨ (((x15)).toInt < 2048 ∧ ((z28)).toInt = ((x15)).toInt + 1) := k31
            replace k32 : PUS (f14) (f29) (x15) (z25) := k32
            refine lv_iload hx hb dX9_putPart_114 (lv_at hl 4 rfl) ?_
            refine lv_if_le (tgt := 125) hx hb dX9_putPart_116 (by decide) (fun c33 => ?_) (fun c33 => ?_)
            · have kc33 := (cv_le (rfl : (x13).toInt = (x13).toInt) (by decide : (0 : Int32).toInt = 0)).mp c33
              obtain ⟨z34, ez34⟩ : ∃ y : Int32, y = x13 + (-1) := ⟨_, rfl⟩
              have tz34 : (z34).toInt = (x13).toInt + -1 := by rw [ez34]; exact i_add rfl (by decide) (by omega)
              refine lv_iinc (v := z34) (lv' := [(4, .int z34), (0, .ref h_wr), (1, .int p1), (2, .int z1), (3, .int z10)]) hx hb dX9_putPart_125 hl (k := 4) rfl (by rw [ez34]; rfl) (by decide) rfl (fun ls hl => ?_)
              refine lv_goto (tgt := 87) hx hb dX9_putPart_128 (by decide) ?_
              replace hP : va_P (dC, dI) cls [(h_wh, .inl (cy_wh, 2048, .inl f29)), (h_td, .inr (5, (mo21 v_td (.ref h_nam) (.ref h_var) (.ref h_trm) (.ref h_ter)))), (h_nam, .inl (cy_nam, 300, .inr (.inl f_nam))), (h_var, .inl (cy_var, 300, .inl f_var)), (h_trm, .inl (cy_trm, 300, .inl f_trm)), (h_ter, .inl (cy_ter, 900, .inl f_ter)), (h_wr, .inr (6, (mo38 v_wr (.ref h_td) (.ref h_wd) (.int z7) (.ref h_wh) (.int z28)))), (h_wd, .inl (cy_wd, 616, .inl f8))] H := hP.sub [7, 0, 1, 2, 3, 4, 6, 5] rfl
              replace hD : va_D A [(h_wh, .inl (cy_wh, 2048, .inl f29)), (h_td, .inr (5, (mo21 v_td (.ref h_nam) (.ref h_var) (.ref h_trm) (.ref h_ter)))), (h_nam, .inl (cy_nam, 300, .inr (.inl f_nam))), (h_var, .inl (cy_var, 300, .inl f_var)), (h_trm, .inl (cy_trm, 300, .inl f_trm)), (h_ter, .inl (cy_ter, 900, .inl f_ter)), (h_wr, .inr (6, (mo38 v_wr (.ref h_td) (.ref h_wd) (.int z7) (.ref h_wh) (.int z28)))), (h_wd, .inl (cy_wd, 616, .inl f8))] := hD.sub [7, 0, 1, 2, 3, 4, 6, 5] (by decide) rfl
              exact ih17 (z34) (f29) (z28) _ _ _ (by omega) hf29 (by first | exact k30 | omega) (by omega) hP hD hS (lv_sub hl [1, 2, 3, 4, 0] rfl)
            · have kc33 := (not_congr (cv_le (rfl : (x13).toInt = (x13).toInt) (by decide : (0 : Int32).toInt = 0))).mp c33
              refine lv_aload_n hx hb dX9_putPart_119 rfl (lv_at hl 0 rfl) ?_
              refine lv_bipush (v := (-44)) hx hb dX9_putPart_120 (by decide) ?_
              obtain ⟨vq35, evq35⟩ := mq38_37 v_wr (.ref h_td) (.ref h_wd) (.int z7)
              replace hP : va_P (dC, dI) cls [(h_td, .inr (5, (mo21 v_td (.ref h_nam) (.ref h_var) (.ref h_trm) (.ref h_ter)))), (h_nam, .inl (cy_nam, 300, .inr (.inl f_nam))), (h_var, .inl (cy_var, 300, .inl f_var)), (h_trm, .inl (cy_trm, 300, .inl f_trm)), (h_ter, .inl (cy_ter, 900, .inl f_ter)), (h_wd, .inl (cy_wd, 616, .inl f8)), (h_wr, .inr (6, (mo37 vq35 (.ref h_wh) (.int z28)))), (h_wh, .inl (cy_wh, 2048, .inl f29))] H := by rw [evq35]; exact hP
              replace hD : va_D A [(h_td, .inr (5, (mo21 v_td (.ref h_nam) (.ref h_var) (.ref h_trm) (.ref h_ter)))), (h_nam, .inl (cy_nam, 300, .inr (.inl f_nam))), (h_var, .inl (cy_var, 300, .inl f_var)), (h_trm, .inl (cy_trm, 300, .inl f_trm)), (h_ter, .inl (cy_ter, 900, .inl f_ter)), (h_wd, .inl (cy_wd, 616, .inl f8)), (h_wr, .inr (6, (mo37 vq35 (.ref h_wh) (.int z28)))), (h_wh, .inl (cy_wh, 2048, .inl f29))] := by rw [evq35]; exact hD
              have cstm44 : ((-44) : Int32).toInt = -44 := by decide
              have hPc := hP.sub (ws' := [(h_wr, .inr (6, (mo37 vq35 (.ref h_wh) (.int z28)))), (h_wh, .inl (cy_wh, 2048, .inl f29))]) [6, 7] rfl
              have hDc := hD.sub (ws' := [(h_wr, .inr (6, (mo37 vq35 (.ref h_wh) (.int z28)))), (h_wh, .inl (cy_wh, 2048, .inl f29))]) [6, 7] (by decide) rfl
              have hKc := hK.sub (tys' := [(cy_wh, .int)]) [1] rfl
              have hFc := va_free (wc := [(h_wr, .inr (6, (mo37 vq35 (.ref h_wh) (.int z28)))), (h_wh, .inl (cy_wh, 2048, .inl f29))]) hD hS hA [6, 7] rfl
              refine va_callv (va_runV (As := [.int (-44)]) (rest := []) ⟨hx, hb, hml, hown, hts⟩ (c_X9_push l dC dI H.size h_wr h_wh vq35 z28 cy_wh f29 (-44) (by first | exact k30 | omega) hf29 (by omega)) (cwV 1 hts (gv hT w_m_X9_78 w_instanceMethod_X9_push ws_sel_X9_push w_ini_X9 w_code_X9_push) rfl rfl rfl (by decide +kernel) ⟨(Nat.le_of_ble_eq_true rfl), (Nat.le_of_ble_eq_true rfl)⟩) ⟨pre_blind, va_recv hK hP (ci := 6) (q0 := 6) rfl rfl, pre_of hPc hKc hDc hN⟩ rfl rfl hl.1 rfl (lv_room (Nat.le_of_ble_eq_true rfl)) dX9_putPart_122 ⟨(Nat.le_of_ble_eq_true rfl), (Nat.le_of_ble_eq_true rfl)⟩) hS (fun q _ h => hFc q h) hFc (fun u t H locs ht hvm hq hB hz1 hk1 hS9 => ?_)
              obtain ⟨z37, f38⟩ := u
              obtain ⟨hP1, hD1⟩ := hB
              rw [ht] at hP1
              obtain ⟨hP9, hD9⟩ := va_join (wr := [(h_td, .inr (5, (mo21 v_td (.ref h_nam) (.ref h_var) (.ref h_trm) (.ref h_ter)))), (h_nam, .inl (cy_nam, 300, .inr (.inl f_nam))), (h_var, .inl (cy_var, 300, .inl f_var)), (h_trm, .inl (cy_trm, 300, .inl f_trm)), (h_ter, .inl (cy_ter, 900, .inl f_ter)), (h_wd, .inl (cy_wd, 616, .inl f8))]) (w1 := [(h_wr, .inr (6, (mo37 vq35 (.ref h_wh) (.int z37)))), (h_wh, .inl (cy_wh, 2048, .inl f38))]) hP hD [6, 7] [0, 1, 2, 3, 4, 5] rfl rfl (by decide) (by decide) hk1 hFc hP1 hD1
              clear hP hD hS hPc hDc hKc hFc hP1 hD1 hk1 hz1 ht hvm
              have hP : va_P (dC, dI) cls [(h_td, .inr (5, (mo21 v_td (.ref h_nam) (.ref h_var) (.ref h_trm) (.ref h_ter)))), (h_nam, .inl (cy_nam, 300, .inr (.inl f_nam))), (h_var, .inl (cy_var, 300, .inl f_var)), (h_trm, .inl (cy_trm, 300, .inl f_trm)), (h_ter, .inl (cy_ter, 900, .inl f_ter)), (h_wd, .inl (cy_wd, 616, .inl f8)), (h_wr, .inr (6, (mo37 vq35 (.ref h_wh) (.int z37)))), (h_wh, .inl (cy_wh, 2048, .inl f38))] H := hP9
              have hD : va_D A [(h_td, .inr (5, (mo21 v_td (.ref h_nam) (.ref h_var) (.ref h_trm) (.ref h_ter)))), (h_nam, .inl (cy_nam, 300, .inr (.inl f_nam))), (h_var, .inl (cy_var, 300, .inl f_var)), (h_trm, .inl (cy_trm, 300, .inl f_trm)), (h_ter, .inl (cy_ter, 900, .inl f_ter)), (h_wd, .inl (cy_wd, 616, .inl f8)), (h_wr, .inr (6, (mo37 vq35 (.ref h_wh) (.int z37)))), (h_wh, .inl (cy_wh, 2048, .inl f38))] := hD9
              have hS := hS9
              clear hP9 hD9 hS9
              rw [evq35] at hP hD
              replace hP : va_P (dC, dI) cls [(h_td, .inr (5, (mo21 v_td (.ref h_nam) (.ref h_var) (.ref h_trm) (.ref h_ter)))), (h_nam, .inl (cy_nam, 300, .inr (.inl f_nam))), (h_var, .inl (cy_var, 300, .inl f_var)), (h_trm, .inl (cy_trm, 300, .inl f_trm)), (h_ter, .inl (cy_ter, 900, .inl f_ter)), (h_wd, .inl (cy_wd, 616, .inl f8)), (h_wr, .inr (6, (mo38 v_wr (.ref h_td) (.ref h_wd) (.int z7) (.ref h_wh) (.int z37)))), (h_wh, .inl (cy_wh, 2048, .inl f38))] H := hP
              replace hD : va_D A [(h_td, .inr (5, (mo21 v_td (.ref h_nam) (.ref h_var) (.ref h_trm) (.ref h_ter)))), (h_nam, .inl (cy_nam, 300, .inr (.inl f_nam))), (h_var, .inl (cy_var, 300, .inl f_var)), (h_trm, .inl (cy_trm, 300, .inl f_trm)), (h_ter, .inl (cy_ter, 900, .inl f_ter)), (h_wd, .inl (cy_wd, 616, .inl f8)), (h_wr, .inr (6, (mo38 v_wr (.ref h_td) (.ref h_wd) (.int z7) (.ref h_wh) (.int z37)))), (h_wh, .inl (cy_wh, 2048, .inl f38))] := hD
              clear evq35 
              obtain ⟨k39, hf38, k40, k41⟩ := hq
              replace k39 : 0 ≤ ((z37)).toInt ∧ ((z37)).toInt ≤ 2048 := k39
              replace hf38 : Rg (-127) 9599 (f38) := hf38
              replace k40 : (2048 ≤ ((z28)).toInt ∧ ((z37)).toInt = ((z28)).toInt) ∨ (((z28)).toInt < 2048 ∧ ((z37)).toInt = ((z28)).toInt + 1) := k40
              replace k41 : PUS (f29) (f38) (z28) ((-44) : Int32) := k41
              obtain ⟨z42, ez42⟩ : ∃ y : Int32, y = x13 + (-1) := ⟨_, rfl⟩
              have tz42 : (z42).toInt = (x13).toInt + -1 := by rw [ez42]; exact i_add rfl (by decide) (by omega)
              refine lv_iinc (v := z42) (lv' := [(4, .int z42), (0, .ref h_wr), (1, .int p1), (2, .int z1), (3, .int z10)]) hx hb dX9_putPart_125 hl (k := 4) rfl (by rw [ez42]; rfl) (by decide) rfl (fun ls hl => ?_)
              refine lv_goto (tgt := 87) hx hb dX9_putPart_128 (by decide) ?_
              replace hP : va_P (dC, dI) cls [(h_wh, .inl (cy_wh, 2048, .inl f38)), (h_td, .inr (5, (mo21 v_td (.ref h_nam) (.ref h_var) (.ref h_trm) (.ref h_ter)))), (h_nam, .inl (cy_nam, 300, .inr (.inl f_nam))), (h_var, .inl (cy_var, 300, .inl f_var)), (h_trm, .inl (cy_trm, 300, .inl f_trm)), (h_ter, .inl (cy_ter, 900, .inl f_ter)), (h_wr, .inr (6, (mo38 v_wr (.ref h_td) (.ref h_wd) (.int z7) (.ref h_wh) (.int z37)))), (h_wd, .inl (cy_wd, 616, .inl f8))] H := hP.sub [7, 0, 1, 2, 3, 4, 6, 5] rfl
              replace hD : va_D A [(h_wh, .inl (cy_wh, 2048, .inl f38)), (h_td, .inr (5, (mo21 v_td (.ref h_nam) (.ref h_var) (.ref h_trm) (.ref h_ter)))), (h_nam, .inl (cy_nam, 300, .inr (.inl f_nam))), (h_var, .inl (cy_var, 300, .inl f_var)), (h_trm, .inl (cy_trm, 300, .inl f_trm)), (h_ter, .inl (cy_ter, 900, .inl f_ter)), (h_wr, .inr (6, (mo38 v_wr (.ref h_td) (.ref h_wd) (.int z7) (.ref h_wh) (.int z37)))), (h_wd, .inl (cy_wd, 616, .inl f8))] := hD.sub [7, 0, 1, 2, 3, 4, 6, 5] (by decide) rfl
              exact ih17 (z42) (f38) (z37) _ _ _ (by omega) hf38 (by first | exact k39 | omega) (by omega) hP hD hS (lv_sub hl [1, 2, 3, 4, 0] rfl)
      exact lp16 _ (z12) (f_wh) (x_wr_held) _ _ _ (by omega) hf_wh (by first | exact hx_wr_held | omega) (Nat.le_refl _) hP hD hS (lv_sub hl [3, 4, 2, 1, 0] rfl)
    · have kc11 := (not_congr (cv_le (rfl : (z10).toInt = (z10).toInt) (by decide : (0 : Int32).toInt = 0))).mp c11
      refine lv_aload_n hx hb dX9_putPart_70 rfl (lv_at hl 2 rfl) ?_
      refine lv_bipush (v := 40) hx hb dX9_putPart_71 (by decide) ?_
      obtain ⟨vq43, evq43⟩ := mq38_36 v_wr (.ref h_td) (.ref h_wh) (.int x_wr_held)
      replace hP : va_P (dC, dI) cls [(h_wh, .inl (cy_wh, 2048, .inl f_wh)), (h_td, .inr (5, (mo21 v_td (.ref h_nam) (.ref h_var) (.ref h_trm) (.ref h_ter)))), (h_nam, .inl (cy_nam, 300, .inr (.inl f_nam))), (h_var, .inl (cy_var, 300, .inl f_var)), (h_trm, .inl (cy_trm, 300, .inl f_trm)), (h_ter, .inl (cy_ter, 900, .inl f_ter)), (h_wr, .inr (6, (mo36 vq43 (.ref h_wd) (.int z7)))), (h_wd, .inl (cy_wd, 616, .inl f8))] H := by rw [evq43]; exact hP
      replace hD : va_D A [(h_wh, .inl (cy_wh, 2048, .inl f_wh)), (h_td, .inr (5, (mo21 v_td (.ref h_nam) (.ref h_var) (.ref h_trm) (.ref h_ter)))), (h_nam, .inl (cy_nam, 300, .inr (.inl f_nam))), (h_var, .inl (cy_var, 300, .inl f_var)), (h_trm, .inl (cy_trm, 300, .inl f_trm)), (h_ter, .inl (cy_ter, 900, .inl f_ter)), (h_wr, .inr (6, (mo36 vq43 (.ref h_wd) (.int z7)))), (h_wd, .inl (cy_wd, 616, .inl f8))] := by rw [evq43]; exact hD
      have cst40 : (40 : Int32).toInt = 40 := by decide
      have hPc := hP.sub (ws' := [(h_wr, .inr (6, (mo36 vq43 (.ref h_wd) (.int z7)))), (h_wd, .inl (cy_wd, 616, .inl f8))]) [6, 7] rfl
      have hDc := hD.sub (ws' := [(h_wr, .inr (6, (mo36 vq43 (.ref h_wd) (.int z7)))), (h_wd, .inl (cy_wd, 616, .inl f8))]) [6, 7] (by decide) rfl
      have hKc := hK.sub (tys' := [(cy_wd, .int)]) [0] rfl
      have hFc := va_free (wc := [(h_wr, .inr (6, (mo36 vq43 (.ref h_wd) (.int z7)))), (h_wd, .inl (cy_wd, 616, .inl f8))]) hD hS hA [6, 7] rfl
      refine va_callv (va_runV (As := [.int 40]) (rest := []) ⟨hx, hb, hml, hown, hts⟩ (c_X9_put l dC dI H.size h_wr h_wd vq43 z7 cy_wd f8 40 (by first | exact k9 | omega)) (cwV 1 hts (gv hT w_m_X9_33 w_instanceMethod_X9_put ws_sel_X9_put w_ini_X9 w_code_X9_put) rfl rfl rfl (by decide +kernel) ⟨(Nat.le_of_ble_eq_true rfl), (Nat.le_of_ble_eq_true rfl)⟩) ⟨pre_blind, va_recv hK hP (ci := 6) (q0 := 6) rfl rfl, pre_of hPc hKc hDc hN⟩ rfl rfl hl.1 rfl (lv_room (Nat.le_of_ble_eq_true rfl)) dX9_putPart_73 ⟨(Nat.le_of_ble_eq_true rfl), (Nat.le_of_ble_eq_true rfl)⟩) hS (fun q _ h => hFc q h) hFc (fun u t H locs ht hvm hq hB hz1 hk1 hS9 => ?_)
      obtain ⟨z45, f46⟩ := u
      obtain ⟨hP1, hD1⟩ := hB
      rw [ht] at hP1
      obtain ⟨hP9, hD9⟩ := va_join (wr := [(h_wh, .inl (cy_wh, 2048, .inl f_wh)), (h_td, .inr (5, (mo21 v_td (.ref h_nam) (.ref h_var) (.ref h_trm) (.ref h_ter)))), (h_nam, .inl (cy_nam, 300, .inr (.inl f_nam))), (h_var, .inl (cy_var, 300, .inl f_var)), (h_trm, .inl (cy_trm, 300, .inl f_trm)), (h_ter, .inl (cy_ter, 900, .inl f_ter))]) (w1 := [(h_wr, .inr (6, (mo36 vq43 (.ref h_wd) (.int z45)))), (h_wd, .inl (cy_wd, 616, .inl f46))]) hP hD [6, 7] [0, 1, 2, 3, 4, 5] rfl rfl (by decide) (by decide) hk1 hFc hP1 hD1
      clear hP hD hS hPc hDc hKc hFc hP1 hD1 hk1 hz1 ht hvm
      have hP : va_P (dC, dI) cls [(h_wh, .inl (cy_wh, 2048, .inl f_wh)), (h_td, .inr (5, (mo21 v_td (.ref h_nam) (.ref h_var) (.ref h_trm) (.ref h_ter)))), (h_nam, .inl (cy_nam, 300, .inr (.inl f_nam))), (h_var, .inl (cy_var, 300, .inl f_var)), (h_trm, .inl (cy_trm, 300, .inl f_trm)), (h_ter, .inl (cy_ter, 900, .inl f_ter)), (h_wr, .inr (6, (mo36 vq43 (.ref h_wd) (.int z45)))), (h_wd, .inl (cy_wd, 616, .inl f46))] H := hP9
      have hD : va_D A [(h_wh, .inl (cy_wh, 2048, .inl f_wh)), (h_td, .inr (5, (mo21 v_td (.ref h_nam) (.ref h_var) (.ref h_trm) (.ref h_ter)))), (h_nam, .inl (cy_nam, 300, .inr (.inl f_nam))), (h_var, .inl (cy_var, 300, .inl f_var)), (h_trm, .inl (cy_trm, 300, .inl f_trm)), (h_ter, .inl (cy_ter, 900, .inl f_ter)), (h_wr, .inr (6, (mo36 vq43 (.ref h_wd) (.int z45)))), (h_wd, .inl (cy_wd, 616, .inl f46))] := hD9
      have hS := hS9
      clear hP9 hD9 hS9
      rw [evq43] at hP hD
      replace hP : va_P (dC, dI) cls [(h_wh, .inl (cy_wh, 2048, .inl f_wh)), (h_td, .inr (5, (mo21 v_td (.ref h_nam) (.ref h_var) (.ref h_trm) (.ref h_ter)))), (h_nam, .inl (cy_nam, 300, .inr (.inl f_nam))), (h_var, .inl (cy_var, 300, .inl f_var)), (h_trm, .inl (cy_trm, 300, .inl f_trm)), (h_ter, .inl (cy_ter, 900, .inl f_ter)), (h_wr, .inr (6, (mo38 v_wr (.ref h_td) (.ref h_wd) (.int z45) (.ref h_wh) (.int x_wr_held)))), (h_wd, .inl (cy_wd, 616, .inl f46))] H := hP
      replace hD : va_D A [(h_wh, .inl (cy_wh, 2048, .inl f_wh)), (h_td, .inr (5, (mo21 v_td (.ref h_nam) (.ref h_var) (.ref h_trm) (.ref h_ter)))), (h_nam, .inl (cy_nam, 300, .inr (.inl f_nam))), (h_var, .inl (cy_var, 300, .inl f_var)), (h_trm, .inl (cy_trm, 300, .inl f_trm)), (h_ter, .inl (cy_ter, 900, .inl f_ter)), (h_wr, .inr (6, (mo38 v_wr (.ref h_td) (.ref h_wd) (.int z45) (.ref h_wh) (.int x_wr_held)))), (h_wd, .inl (cy_wd, 616, .inl f46))] := hD
      clear evq43 
      obtain ⟨k47, k48⟩ := hq
      replace k47 : 0 ≤ ((z45)).toInt ∧ ((z45)).toInt ≤ 616 := k47
      replace k48 : (616 ≤ ((z7)).toInt ∧ ((z45)).toInt = ((z7)).toInt) ∨ (((z7)).toInt < 616 ∧ ((z45)).toInt = ((z7)).toInt + 1) := k48
      refine lv_aload_n hx hb dX9_putPart_76 rfl (lv_at hl 2 rfl) ?_
      refine lv_bipush (v := (-41)) hx hb dX9_putPart_77 (by decide) ?_
      obtain ⟨vq49, evq49⟩ := mq38_37 v_wr (.ref h_td) (.ref h_wd) (.int z45)
      replace hP : va_P (dC, dI) cls [(h_wh, .inl (cy_wh, 2048, .inl f_wh)), (h_td, .inr (5, (mo21 v_td (.ref h_nam) (.ref h_var) (.ref h_trm) (.ref h_ter)))), (h_nam, .inl (cy_nam, 300, .inr (.inl f_nam))), (h_var, .inl (cy_var, 300, .inl f_var)), (h_trm, .inl (cy_trm, 300, .inl f_trm)), (h_ter, .inl (cy_ter, 900, .inl f_ter)), (h_wr, .inr (6, (mo37 vq49 (.ref h_wh) (.int x_wr_held)))), (h_wd, .inl (cy_wd, 616, .inl f46))] H := by rw [evq49]; exact hP
      replace hD : va_D A [(h_wh, .inl (cy_wh, 2048, .inl f_wh)), (h_td, .inr (5, (mo21 v_td (.ref h_nam) (.ref h_var) (.ref h_trm) (.ref h_ter)))), (h_nam, .inl (cy_nam, 300, .inr (.inl f_nam))), (h_var, .inl (cy_var, 300, .inl f_var)), (h_trm, .inl (cy_trm, 300, .inl f_trm)), (h_ter, .inl (cy_ter, 900, .inl f_ter)), (h_wr, .inr (6, (mo37 vq49 (.ref h_wh) (.int x_wr_held)))), (h_wd, .inl (cy_wd, 616, .inl f46))] := by rw [evq49]; exact hD
      have cstm41 : ((-41) : Int32).toInt = -41 := by decide
      have hPc := hP.sub (ws' := [(h_wr, .inr (6, (mo37 vq49 (.ref h_wh) (.int x_wr_held)))), (h_wh, .inl (cy_wh, 2048, .inl f_wh))]) [6, 0] rfl
      have hDc := hD.sub (ws' := [(h_wr, .inr (6, (mo37 vq49 (.ref h_wh) (.int x_wr_held)))), (h_wh, .inl (cy_wh, 2048, .inl f_wh))]) [6, 0] (by decide) rfl
      have hKc := hK.sub (tys' := [(cy_wh, .int)]) [1] rfl
      have hFc := va_free (wc := [(h_wr, .inr (6, (mo37 vq49 (.ref h_wh) (.int x_wr_held)))), (h_wh, .inl (cy_wh, 2048, .inl f_wh))]) hD hS hA [6, 0] rfl
      refine va_callv (va_runV (As := [.int (-41)]) (rest := []) ⟨hx, hb, hml, hown, hts⟩ (c_X9_push l dC dI H.size h_wr h_wh vq49 x_wr_held cy_wh f_wh (-41) (by first | exact hx_wr_held | omega) hf_wh (by omega)) (cwV 1 hts (gv hT w_m_X9_78 w_instanceMethod_X9_push ws_sel_X9_push w_ini_X9 w_code_X9_push) rfl rfl rfl (by decide +kernel) ⟨(Nat.le_of_ble_eq_true rfl), (Nat.le_of_ble_eq_true rfl)⟩) ⟨pre_blind, va_recv hK hP (ci := 6) (q0 := 6) rfl rfl, pre_of hPc hKc hDc hN⟩ rfl rfl hl.1 rfl (lv_room (Nat.le_of_ble_eq_true rfl)) dX9_putPart_79 ⟨(Nat.le_of_ble_eq_true rfl), (Nat.le_of_ble_eq_true rfl)⟩) hS (fun q _ h => hFc q h) hFc (fun u t H locs ht hvm hq hB hz1 hk1 hS9 => ?_)
      obtain ⟨z51, f52⟩ := u
      obtain ⟨hP1, hD1⟩ := hB
      rw [ht] at hP1
      obtain ⟨hP9, hD9⟩ := va_join (wr := [(h_td, .inr (5, (mo21 v_td (.ref h_nam) (.ref h_var) (.ref h_trm) (.ref h_ter)))), (h_nam, .inl (cy_nam, 300, .inr (.inl f_nam))), (h_var, .inl (cy_var, 300, .inl f_var)), (h_trm, .inl (cy_trm, 300, .inl f_trm)), (h_ter, .inl (cy_ter, 900, .inl f_ter)), (h_wd, .inl (cy_wd, 616, .inl f46))]) (w1 := [(h_wr, .inr (6, (mo37 vq49 (.ref h_wh) (.int z51)))), (h_wh, .inl (cy_wh, 2048, .inl f52))]) hP hD [6, 0] [1, 2, 3, 4, 5, 7] rfl rfl (by decide) (by decide) hk1 hFc hP1 hD1
      clear hP hD hS hPc hDc hKc hFc hP1 hD1 hk1 hz1 ht hvm
      have hP : va_P (dC, dI) cls [(h_td, .inr (5, (mo21 v_td (.ref h_nam) (.ref h_var) (.ref h_trm) (.ref h_ter)))), (h_nam, .inl (cy_nam, 300, .inr (.inl f_nam))), (h_var, .inl (cy_var, 300, .inl f_var)), (h_trm, .inl (cy_trm, 300, .inl f_trm)), (h_ter, .inl (cy_ter, 900, .inl f_ter)), (h_wd, .inl (cy_wd, 616, .inl f46)), (h_wr, .inr (6, (mo37 vq49 (.ref h_wh) (.int z51)))), (h_wh, .inl (cy_wh, 2048, .inl f52))] H := hP9
      have hD : va_D A [(h_td, .inr (5, (mo21 v_td (.ref h_nam) (.ref h_var) (.ref h_trm) (.ref h_ter)))), (h_nam, .inl (cy_nam, 300, .inr (.inl f_nam))), (h_var, .inl (cy_var, 300, .inl f_var)), (h_trm, .inl (cy_trm, 300, .inl f_trm)), (h_ter, .inl (cy_ter, 900, .inl f_ter)), (h_wd, .inl (cy_wd, 616, .inl f46)), (h_wr, .inr (6, (mo37 vq49 (.ref h_wh) (.int z51)))), (h_wh, .inl (cy_wh, 2048, .inl f52))] := hD9
      have hS := hS9
      clear hP9 hD9 hS9
      rw [evq49] at hP hD
      replace hP : va_P (dC, dI) cls [(h_td, .inr (5, (mo21 v_td (.ref h_nam) (.ref h_var) (.ref h_trm) (.ref h_ter)))), (h_nam, .inl (cy_nam, 300, .inr (.inl f_nam))), (h_var, .inl (cy_var, 300, .inl f_var)), (h_trm, .inl (cy_trm, 300, .inl f_trm)), (h_ter, .inl (cy_ter, 900, .inl f_ter)), (h_wd, .inl (cy_wd, 616, .inl f46)), (h_wr, .inr (6, (mo38 v_wr (.ref h_td) (.ref h_wd) (.int z45) (.ref h_wh) (.int z51)))), (h_wh, .inl (cy_wh, 2048, .inl f52))] H := hP
      replace hD : va_D A [(h_td, .inr (5, (mo21 v_td (.ref h_nam) (.ref h_var) (.ref h_trm) (.ref h_ter)))), (h_nam, .inl (cy_nam, 300, .inr (.inl f_nam))), (h_var, .inl (cy_var, 300, .inl f_var)), (h_trm, .inl (cy_trm, 300, .inl f_trm)), (h_ter, .inl (cy_ter, 900, .inl f_ter)), (h_wd, .inl (cy_wd, 616, .inl f46)), (h_wr, .inr (6, (mo38 v_wr (.ref h_td) (.ref h_wd) (.int z45) (.ref h_wh) (.int z51)))), (h_wh, .inl (cy_wh, 2048, .inl f52))] := hD
      clear evq49 
      obtain ⟨k53, hf52, k54, k55⟩ := hq
      replace k53 : 0 ≤ ((z51)).toInt ∧ ((z51)).toInt ≤ 2048 := k53
      replace hf52 : Rg (-127) 9599 (f52) := hf52
      replace k54 : (2048 ≤ ((x_wr_held)).toInt ∧ ((z51)).toInt = ((x_wr_held)).toInt) ∨ (((x_wr_held)).toInt < 2048 ∧ ((z51)).toInt = ((x_wr_held)).toInt + 1) := k54
      replace k55 : PUS f_wh (f52) (x_wr_held) ((-41) : Int32) := k55
      refine lv_iload_n hx hb dX9_putPart_82 rfl (lv_at hl 0 rfl) ?_
      refine lv_iconst (v := 1) hx hb dX9_putPart_83 (by decide) ?_
      refine lv_isub hx hb dX9_putPart_84 ?_
      refine lv_topi (fun z56 ez56 => ?_)
      have tz56 : (z56).toInt = (z10).toInt - 1 := by rw [ez56]; exact i_sub rfl (by decide) (by omega)
      refine lv_istore (lv' := [(4, .int z56), (3, .int z10), (2, .int z1), (0, .ref h_wr), (1, .int p1)]) hx hb dX9_putPart_85 hl (by decide) rfl (fun ls hl => ?_)
      have lp60 : ∀ (n : Nat) (x57 : Int32) (x58 : Int32) (f59 : Nat → Int32) (H : Heap) (locs : List Loc) (ls : Array Slot), (-1 ≤ (x57).toInt ∧ (x57).toInt ≤ 2) → (0 ≤ (x58).toInt ∧ (x58).toInt ≤ 2048) → (Rg (-127) 9599 f59) → ((x57).toInt + 1).toNat + 1 ≤ n → va_P (dC, dI) cls [(h_td, .inr (5, (mo21 v_td (.ref h_nam) (.ref h_var) (.ref h_trm) (.ref h_ter)))), (h_nam, .inl (cy_nam, 300, .inr (.inl f_nam))), (h_var, .inl (cy_var, 300, .inl f_var)), (h_trm, .inl (cy_trm, 300, .inl f_trm)), (h_ter, .inl (cy_ter, 900, .inl f_ter)), (h_wd, .inl (cy_wd, 616, .inl f46)), (h_wr, .inr (6, (mo38 v_wr (.ref h_td) (.ref h_wd) (.int z45) (.ref h_wh) (.int x58)))), (h_wh, .inl (cy_wh, 2048, .inl f59))] H → va_D A [(h_td, .inr (5, (mo21 v_td (.ref h_nam) (.ref h_var) (.ref h_trm) (.ref h_ter)))), (h_nam, .inl (cy_nam, 300, .inr (.inl f_nam))), (h_var, .inl (cy_var, 300, .inl f_var)), (h_trm, .inl (cy_trm, 300, .inl f_trm)), (h_ter, .inl (cy_ter, 900, .inl f_ter)), (h_wd, .inl (cy_wd, 616, .inl f46)), (h_wr, .inr (6, (mo38 v_wr (.ref h_td) (.ref h_wd) (.int z45) (.ref h_wh) (.int x58)))), (h_wh, .inl (cy_wh, 2048, .inl f59))] → va_S A s.heap H locs → lv_has ls 5 [(0, .ref h_wr), (1, .int p1), (2, .int z1), (3, .int z10), (4, .int x57)] → W p l e ({ frames := 2, cells := 0, slots := 0, locals := 45 } : Room) s m ([.ref h_wr, .int p1] : List Value).toArray below meth c H locs 0 0 (MQ below (va_Qv (fun (u : (Int32) × (Int32) × (Nat → Int32) × (Nat → Int32)) => (0 ≤ (u.1).toInt ∧ (u.1).toInt ≤ 616) ∧ (0 ≤ (u.2.1).toInt ∧ (u.2.1).toInt ≤ 2048) ∧ (Rg (-127) 9599 u.2.2.2)) (fun (u : (Int32) × (Int32) × (Nat → Int32) × (Nat → Int32)) (t : State) => va_P (dC, dI) cls [(h_wr, .inr (6, (mo38 v_wr (.ref h_td) (.ref h_wd) (.int u.1) (.ref h_wh) (.int u.2.1)))), (h_wd, .inl (cy_wd, 616, .inl u.2.2.1)), (h_wh, .inl (cy_wh, 2048, .inl u.2.2.2)), (h_td, .inr (5, (mo21 v_td (.ref h_nam) (.ref h_var) (.ref h_trm) (.ref h_ter)))), (h_nam, .inl (cy_nam, 300, .inr (.inl f_nam))), (h_var, .inl (cy_var, 300, .inl f_var)), (h_trm, .inl (cy_trm, 300, .inl f_trm)), (h_ter, .inl (cy_ter, 900, .inl f_ter))] t.heap ∧ va_D A [(h_wr, .inr (6, (mo38 v_wr (.ref h_td) (.ref h_wd) (.int u.1) (.ref h_wh) (.int u.2.1)))), (h_wd, .inl (cy_wd, 616, .inl u.2.2.1)), (h_wh, .inl (cy_wh, 2048, .inl u.2.2.2)), (h_td, .inr (5, (mo21 v_td (.ref h_nam) (.ref h_var) (.ref h_trm) (.ref h_ter)))), (h_nam, .inl (cy_nam, 300, .inr (.inl f_nam))), (h_var, .inl (cy_var, 300, .inl f_var)), (h_trm, .inl (cy_trm, 300, .inl f_trm)), (h_ter, .inl (cy_ter, 900, .inl f_ter))]) A) ([.ref h_wr, .int p1] : List Value).toArray s 0 0 A) (F0 m 87 ls []) := by
        clear hP hD hS hl
        intro n
        induction n with
        | zero => intro x57 x58 f59 H locs ls klp60_0 klp60_1 hf59 hm hP hD hS hl; exact False.elim (by omega)
        | succ n ih => 
          intro x57 x58 f59 H locs ls klp60_0 klp60_1 hf59 hm hP hD hS hl
          have ih61 := ih
          clear ih
          refine lv_iload hx hb dX9_putPart_87 (lv_at hl 4 rfl) ?_
          refine lv_if_lt (tgt := 131) hx hb dX9_putPart_89 (by decide) (fun c62 => ?_) (fun c62 => ?_)
          · have kc62 := (cv_lt (rfl : (x57).toInt = (x57).toInt) (by decide : (0 : Int32).toInt = 0)).mp c62
            replace hP : va_P (dC, dI) cls [(h_wr, .inr (6, (mo38 v_wr (.ref h_td) (.ref h_wd) (.int z45) (.ref h_wh) (.int x58)))), (h_wd, .inl (cy_wd, 616, .inl f46)), (h_wh, .inl (cy_wh, 2048, .inl f59)), (h_td, .inr (5, (mo21 v_td (.ref h_nam) (.ref h_var) (.ref h_trm) (.ref h_ter)))), (h_nam, .inl (cy_nam, 300, .inr (.inl f_nam))), (h_var, .inl (cy_var, 300, .inl f_var)), (h_trm, .inl (cy_trm, 300, .inl f_trm)), (h_ter, .inl (cy_ter, 900, .inl f_ter))] H := hP.sub [6, 5, 7, 0, 1, 2, 3, 4] rfl
            replace hD : va_D A [(h_wr, .inr (6, (mo38 v_wr (.ref h_td) (.ref h_wd) (.int z45) (.ref h_wh) (.int x58)))), (h_wd, .inl (cy_wd, 616, .inl f46)), (h_wh, .inl (cy_wh, 2048, .inl f59)), (h_td, .inr (5, (mo21 v_td (.ref h_nam) (.ref h_var) (.ref h_trm) (.ref h_ter)))), (h_nam, .inl (cy_nam, 300, .inr (.inl f_nam))), (h_var, .inl (cy_var, 300, .inl f_var)), (h_trm, .inl (cy_trm, 300, .inl f_trm)), (h_ter, .inl (cy_ter, 900, .inl f_ter))] := hD.sub [6, 5, 7, 0, 1, 2, 3, 4] (by decide) rfl
            refine W.widen (k := 0) (n := 0) (Nat.le_of_ble_eq_true rfl) (Nat.le_of_ble_eq_true rfl) ?_
            have w63 : 0 ≤ ((z45)).toInt ∧ ((z45)).toInt ≤ 616 := by first | exact k47 | omega
            have w64 : 0 ≤ ((x58)).toInt ∧ ((x58)).toInt ≤ 2048 := by first | exact klp60_1 | omega
            exact W.vret hx hb hr (fun t ht hW => ⟨⟨(z45, x58, f46, f59), rfl, ⟨w63, w64, hf59⟩, by rw [ht]; exact hP, hD⟩, hS.F ht⟩) hS.2.2 dX9_putPart_131
          · have kc62 := (not_congr (cv_lt (rfl : (x57).toInt = (x57).toInt) (by decide : (0 : Int32).toInt = 0))).mp c62
            refine lv_aload_n hx hb dX9_putPart_92 rfl (lv_at hl 0 rfl) ?_
            refine lv_iload_n hx hb dX9_putPart_93 rfl (lv_at hl 1 rfl) ?_
            refine lv_iload_n hx hb dX9_putPart_94 rfl (lv_at hl 2 rfl) ?_
            refine lv_isub hx hb dX9_putPart_95 ?_
            refine lv_topi (fun z65 ez65 => ?_)
            have tz65 : (z65).toInt = (p1).toInt - (z1).toInt := by rw [ez65]; exact i_sub rfl rfl (by omega)
            have sz65 : 0 ≤ (z65).toInt ∧ (z65).toInt ≤ 9300 := by omega
            refine lv_aload_n hx hb dX9_putPart_96 rfl (lv_at hl 0 rfl) ?_
            refine va_get (D := (dC, dI)) (ci := 6) (v := .ref h_td) (C := RX9) (T := TX9) (N := 8) hx hb hw iwX9 hown hK hP 6 rfl rfl 0 (by decide) (hw _ w_f_X9_21) (fun _ h9 => h9) rfl dX9_putPart_97 ?_
            refine va_getN (D := (dC, dI)) (ci := 5) (v := .ref h_ter) (C := RX8) (T := TX8) (N := 10) (host := "OppositePairs") hx hb hw iwX8 hown hK hP 0 rfl rfl 3 (by decide) (hN.use n_f_X9_81 rfl) (fun _ h9 => h9) rfl dX9_putPart_100 ?_
            refine lv_iload_n hx hb dX9_putPart_103 rfl (lv_at hl 2 rfl) ?_
            refine lv_iconst (v := 3) hx hb dX9_putPart_104 (by decide) ?_
            refine lv_imul hx hb dX9_putPart_105 ?_
            refine lv_topi (fun z66 ez66 => ?_)
            have tz66 : (z66).toInt = (z1).toInt * 3 := by rw [ez66]; exact i_mul rfl (by decide) (by omega)
            refine lv_iload hx hb dX9_putPart_106 (lv_at hl 4 rfl) ?_
            refine lv_iadd hx hb dX9_putPart_108 ?_
            refine lv_topi (fun z67 ez67 => ?_)
            have tz67 : (z67).toInt = (z66).toInt + (x57).toInt := by rw [ez67]; exact i_add rfl rfl (by omega)
            refine va_iald hx hb hK hP 4 5 rfl rfl (i := z67) (vp_in_iff.mpr (by omega)) dX9_putPart_109 ?_
            refine lv_topi (fun z68 ez68 => ?_)
            have rz68 : 0 ≤ (z68).toInt ∧ (z68).toInt ≤ 299 := by rw [ez68]; exact hf_ter _
            refine lv_iadd hx hb dX9_putPart_110 ?_
            refine lv_topi (fun z69 ez69 => ?_)
            have tz69 : (z69).toInt = (z65).toInt + (z68).toInt := by rw [ez69]; exact i_add rfl rfl (by omega)
            obtain ⟨vq70, evq70⟩ := mq38_37 v_wr (.ref h_td) (.ref h_wd) (.int z45)
            replace hP : va_P (dC, dI) cls [(h_td, .inr (5, (mo21 v_td (.ref h_nam) (.ref h_var) (.ref h_trm) (.ref h_ter)))), (h_nam, .inl (cy_nam, 300, .inr (.inl f_nam))), (h_var, .inl (cy_var, 300, .inl f_var)), (h_trm, .inl (cy_trm, 300, .inl f_trm)), (h_ter, .inl (cy_ter, 900, .inl f_ter)), (h_wd, .inl (cy_wd, 616, .inl f46)), (h_wr, .inr (6, (mo37 vq70 (.ref h_wh) (.int x58)))), (h_wh, .inl (cy_wh, 2048, .inl f59))] H := by rw [evq70]; exact hP
            replace hD : va_D A [(h_td, .inr (5, (mo21 v_td (.ref h_nam) (.ref h_var) (.ref h_trm) (.ref h_ter)))), (h_nam, .inl (cy_nam, 300, .inr (.inl f_nam))), (h_var, .inl (cy_var, 300, .inl f_var)), (h_trm, .inl (cy_trm, 300, .inl f_trm)), (h_ter, .inl (cy_ter, 900, .inl f_ter)), (h_wd, .inl (cy_wd, 616, .inl f46)), (h_wr, .inr (6, (mo37 vq70 (.ref h_wh) (.int x58)))), (h_wh, .inl (cy_wh, 2048, .inl f59))] := by rw [evq70]; exact hD
            have hPc := hP.sub (ws' := [(h_wr, .inr (6, (mo37 vq70 (.ref h_wh) (.int x58)))), (h_wh, .inl (cy_wh, 2048, .inl f59))]) [6, 7] rfl
            have hDc := hD.sub (ws' := [(h_wr, .inr (6, (mo37 vq70 (.ref h_wh) (.int x58)))), (h_wh, .inl (cy_wh, 2048, .inl f59))]) [6, 7] (by decide) rfl
            have hKc := hK.sub (tys' := [(cy_wh, .int)]) [1] rfl
            have hFc := va_free (wc := [(h_wr, .inr (6, (mo37 vq70 (.ref h_wh) (.int x58)))), (h_wh, .inl (cy_wh, 2048, .inl f59))]) hD hS hA [6, 7] rfl
            refine va_callv (va_runV (As := [.int z69]) (rest := []) ⟨hx, hb, hml, hown, hts⟩ (c_X9_push l dC dI H.size h_wr h_wh vq70 x58 cy_wh f59 z69 (by first | exact klp60_1 | omega) hf59 (by omega)) (cwV 1 hts (gv hT w_m_X9_78 w_instanceMethod_X9_push ws_sel_X9_push w_ini_X9 w_code_X9_push) rfl rfl rfl (by decide +kernel) ⟨(Nat.le_of_ble_eq_true rfl), (Nat.le_of_ble_eq_true rfl)⟩) ⟨pre_blind, va_recv hK hP (ci := 6) (q0 := 6) rfl rfl, pre_of hPc hKc hDc hN⟩ rfl rfl hl.1 rfl (lv_room (Nat.le_of_ble_eq_true rfl)) dX9_putPart_111 ⟨(Nat.le_of_ble_eq_true rfl), (Nat.le_of_ble_eq_true rfl)⟩) hS (fun q _ h => hFc q h) hFc (fun u t H locs ht hvm hq hB hz1 hk1 hS9 => ?_)
            obtain ⟨z72, f73⟩ := u
            obtain ⟨hP1, hD1⟩ := hB
            rw [ht] at hP1
            obtain ⟨hP9, hD9⟩ := va_join (wr := [(h_td, .inr (5, (mo21 v_td (.ref h_nam) (.ref h_var) (.ref h_trm) (.ref h_ter)))), (h_nam, .inl (cy_nam, 300, .inr (.inl f_nam))), (h_var, .inl (cy_var, 300, .inl f_var)), (h_trm, .inl (cy_trm, 300, .inl f_trm)), (h_ter, .inl (cy_ter, 900, .inl f_ter)), (h_wd, .inl (cy_wd, 616, .inl f46))]) (w1 := [(h_wr, .inr (6, (mo37 vq70 (.ref h_wh) (.int z72)))), (h_wh, .inl (cy_wh, 2048, .inl f73))]) hP hD [6, 7] [0, 1, 2, 3, 4, 5] rfl rfl (by decide) (by decide) hk1 hFc hP1 hD1
            clear hP hD hS hPc hDc hKc hFc hP1 hD1 hk1 hz1 ht hvm
            have hP : va_P (dC, dI) cls [(h_td, .inr (5, (mo21 v_td (.ref h_nam) (.ref h_var) (.ref h_trm) (.ref h_ter)))), (h_nam, .inl (cy_nam, 300, .inr (.inl f_nam))), (h_var, .inl (cy_var, 300, .inl f_var)), (h_trm, .inl (cy_trm, 300, .inl f_trm)), (h_ter, .inl (cy_ter, 900, .inl f_ter)), (h_wd, .inl (cy_wd, 616, .inl f46)), (h_wr, .inr (6, (mo37 vq70 (.ref h_wh) (.int z72)))), (h_wh, .inl (cy_wh, 2048, .inl f73))] H := hP9
            have hD : va_D A [(h_td, .inr (5, (mo21 v_td (.ref h_nam) (.ref h_var) (.ref h_trm) (.ref h_ter)))), (h_nam, .inl (cy_nam, 300, .inr (.inl f_nam))), (h_var, .inl (cy_var, 300, .inl f_var)), (h_trm, .inl (cy_trm, 300, .inl f_trm)), (h_ter, .inl (cy_ter, 900, .inl f_ter)), (h_wd, .inl (cy_wd, 616, .inl f46)), (h_wr, .inr (6, (mo37 vq70 (.ref h_wh) (.int z72)))), (h_wh, .inl (cy_wh, 2048, .inl f73))] := hD9
            have hS := hS9
            clear hP9 hD9 hS9
            rw [evq70] at hP hD
            replace hP : va_P (dC, dI) cls [(h_td, .inr (5, (mo21 v_td (.ref h_nam) (.ref h_var) (.ref h_trm) (.ref h_ter)))), (h_nam, .inl (cy_nam, 300, .inr (.inl f_nam))), (h_var, .inl (cy_var, 300, .inl f_var)), (h_trm, .inl (cy_trm, 300, .inl f_trm)), (h_ter, .inl (cy_ter, 900, .inl f_ter)), (h_wd, .inl (cy_wd, 616, .inl f46)), (h_wr, .inr (6, (mo38 v_wr (.ref h_td) (.ref h_wd) (.int z45) (.ref h_wh) (.int z72)))), (h_wh, .inl (cy_wh, 2048, .inl f73))] H := hP
            replace hD : va_D A [(h_td, .inr (5, (mo21 v_td (.ref h_nam) (.ref h_var) (.ref h_trm) (.ref h_ter)))), (h_nam, .inl (cy_nam, 300, .inr (.inl f_nam))), (h_var, .inl (cy_var, 300, .inl f_var)), (h_trm, .inl (cy_trm, 300, .inl f_trm)), (h_ter, .inl (cy_ter, 900, .inl f_ter)), (h_wd, .inl (cy_wd, 616, .inl f46)), (h_wr, .inr (6, (mo38 v_wr (.ref h_td) (.ref h_wd) (.int z45) (.ref h_wh) (.int z72)))), (h_wh, .inl (cy_wh, 2048, .inl f73))] := hD
            clear evq70 
            obtain ⟨k74, hf73, k75, k76⟩ := hq
            replace k74 : 0 ≤ ((z72)).toInt ∧ ((z72)).toInt ≤ 2048 := k74
            replace hf73 : Rg (-127) 9599 (f73) := hf73
            replace k75 : (2048 ≤ ((x58)).toInt ∧ ((z72)).toInt = ((x58)).toInt) ∨ (((x58)).toInt < 2048 ∧ ((z72)).toInt = ((x58)).toInt + 1) := k75
            replace k76 : PUS (f59) (f73) (x58) (z69) := k76
            refine lv_iload hx hb dX9_putPart_114 (lv_at hl 4 rfl) ?_
            refine lv_if_le (tgt := 125) hx hb dX9_putPart_116 (by decide) (fun c77 => ?_) (fun c77 => ?_)
            · have kc77 := (cv_le (rfl : (x57).toInt = (x57).toInt) (by decide : (0 : Int32).toInt = 0)).mp c77
              obtain ⟨z78, ez78⟩ : ∃ y : Int32, y = x57 + (-1) := ⟨_, rfl⟩
              have tz78 : (z78).toInt = (x57).toInt + -1 := by rw [ez78]; exact i_add rfl (by decide) (by omega)
              refine lv_iinc (v := z78) (lv' := [(4, .int z78), (0, .ref h_wr), (1, .int p1), (2, .int z1), (3, .int z10)]) hx hb dX9_putPart_125 hl (k := 4) rfl (by rw [ez78]; rfl) (by decide) rfl (fun ls hl => ?_)
              refine lv_goto (tgt := 87) hx hb dX9_putPart_128 (by decide) ?_
              exact ih61 (z78) (z72) (f73) _ _ _ (by omega) (by first | exact k74 | omega) hf73 (by omega) hP hD hS (lv_sub hl [1, 2, 3, 4, 0] rfl)
            · have kc77 := (not_congr (cv_le (rfl : (x57).toInt = (x57).toInt) (by decide : (0 : Int32).toInt = 0))).mp c77
              refine lv_aload_n hx hb dX9_putPart_119 rfl (lv_at hl 0 rfl) ?_
              refine lv_bipush (v := (-44)) hx hb dX9_putPart_120 (by decide) ?_
              obtain ⟨vq79, evq79⟩ := mq38_37 v_wr (.ref h_td) (.ref h_wd) (.int z45)
              replace hP : va_P (dC, dI) cls [(h_td, .inr (5, (mo21 v_td (.ref h_nam) (.ref h_var) (.ref h_trm) (.ref h_ter)))), (h_nam, .inl (cy_nam, 300, .inr (.inl f_nam))), (h_var, .inl (cy_var, 300, .inl f_var)), (h_trm, .inl (cy_trm, 300, .inl f_trm)), (h_ter, .inl (cy_ter, 900, .inl f_ter)), (h_wd, .inl (cy_wd, 616, .inl f46)), (h_wr, .inr (6, (mo37 vq79 (.ref h_wh) (.int z72)))), (h_wh, .inl (cy_wh, 2048, .inl f73))] H := by rw [evq79]; exact hP
              replace hD : va_D A [(h_td, .inr (5, (mo21 v_td (.ref h_nam) (.ref h_var) (.ref h_trm) (.ref h_ter)))), (h_nam, .inl (cy_nam, 300, .inr (.inl f_nam))), (h_var, .inl (cy_var, 300, .inl f_var)), (h_trm, .inl (cy_trm, 300, .inl f_trm)), (h_ter, .inl (cy_ter, 900, .inl f_ter)), (h_wd, .inl (cy_wd, 616, .inl f46)), (h_wr, .inr (6, (mo37 vq79 (.ref h_wh) (.int z72)))), (h_wh, .inl (cy_wh, 2048, .inl f73))] := by rw [evq79]; exact hD
              have cstm44 : ((-44) : Int32).toInt = -44 := by decide
              have hPc := hP.sub (ws' := [(h_wr, .inr (6, (mo37 vq79 (.ref h_wh) (.int z72)))), (h_wh, .inl (cy_wh, 2048, .inl f73))]) [6, 7] rfl
              have hDc := hD.sub (ws' := [(h_wr, .inr (6, (mo37 vq79 (.ref h_wh) (.int z72)))), (h_wh, .inl (cy_wh, 2048, .inl f73))]) [6, 7] (by decide) rfl
              have hKc := hK.sub (tys' := [(cy_wh, .int)]) [1] rfl
              have hFc := va_free (wc := [(h_wr, .inr (6, (mo37 vq79 (.ref h_wh) (.int z72)))), (h_wh, .inl (cy_wh, 2048, .inl f73))]) hD hS hA [6, 7] rfl
              refine va_callv (va_runV (As := [.int (-44)]) (rest := []) ⟨hx, hb, hml, hown, hts⟩ (c_X9_push l dC dI H.size h_wr h_wh vq79 z72 cy_wh f73 (-44) (by first | exact k74 | omega) hf73 (by omega)) (cwV 1 hts (gv hT w_m_X9_78 w_instanceMethod_X9_push ws_sel_X9_push w_ini_X9 w_code_X9_push) rfl rfl rfl (by decide +kernel) ⟨(Nat.le_of_ble_eq_true rfl), (Nat.le_of_ble_eq_true rfl)⟩) ⟨pre_blind, va_recv hK hP (ci := 6) (q0 := 6) rfl rfl, pre_of hPc hKc hDc hN⟩ rfl rfl hl.1 rfl (lv_room (Nat.le_of_ble_eq_true rfl)) dX9_putPart_122 ⟨(Nat.le_of_ble_eq_true rfl), (Nat.le_of_ble_eq_true rfl)⟩) hS (fun q _ h => hFc q h) hFc (fun u t H locs ht hvm hq hB hz1 hk1 hS9 => ?_)
              obtain ⟨z81, f82⟩ := u
              obtain ⟨hP1, hD1⟩ := hB
              rw [ht] at hP1
              obtain ⟨hP9, hD9⟩ := va_join (wr := [(h_td, .inr (5, (mo21 v_td (.ref h_nam) (.ref h_var) (.ref h_trm) (.ref h_ter)))), (h_nam, .inl (cy_nam, 300, .inr (.inl f_nam))), (h_var, .inl (cy_var, 300, .inl f_var)), (h_trm, .inl (cy_trm, 300, .inl f_trm)), (h_ter, .inl (cy_ter, 900, .inl f_ter)), (h_wd, .inl (cy_wd, 616, .inl f46))]) (w1 := [(h_wr, .inr (6, (mo37 vq79 (.ref h_wh) (.int z81)))), (h_wh, .inl (cy_wh, 2048, .inl f82))]) hP hD [6, 7] [0, 1, 2, 3, 4, 5] rfl rfl (by decide) (by decide) hk1 hFc hP1 hD1
              clear hP hD hS hPc hDc hKc hFc hP1 hD1 hk1 hz1 ht hvm
              have hP : va_P (dC, dI) cls [(h_td, .inr (5, (mo21 v_td (.ref h_nam) (.ref h_var) (.ref h_trm) (.ref h_ter)))), (h_nam, .inl (cy_nam, 300, .inr (.inl f_nam))), (h_var, .inl (cy_var, 300, .inl f_var)), (h_trm, .inl (cy_trm, 300, .inl f_trm)), (h_ter, .inl (cy_ter, 900, .inl f_ter)), (h_wd, .inl (cy_wd, 616, .inl f46)), (h_wr, .inr (6, (mo37 vq79 (.ref h_wh) (.int z81)))), (h_wh, .inl (cy_wh, 2048, .inl f82))] H := hP9
              have hD : va_D A [(h_td, .inr (5, (mo21 v_td (.ref h_nam) (.ref h_var) (.ref h_trm) (.ref h_ter)))), (h_nam, .inl (cy_nam, 300, .inr (.inl f_nam))), (h_var, .inl (cy_var, 300, .inl f_var)), (h_trm, .inl (cy_trm, 300, .inl f_trm)), (h_ter, .inl (cy_ter, 900, .inl f_ter)), (h_wd, .inl (cy_wd, 616, .inl f46)), (h_wr, .inr (6, (mo37 vq79 (.ref h_wh) (.int z81)))), (h_wh, .inl (cy_wh, 2048, .inl f82))] := hD9
              have hS := hS9
              clear hP9 hD9 hS9
              rw [evq79] at hP hD
              replace hP : va_P (dC, dI) cls [(h_td, .inr (5, (mo21 v_td (.ref h_nam) (.ref h_var) (.ref h_trm) (.ref h_ter)))), (h_nam, .inl (cy_nam, 300, .inr (.inl f_nam))), (h_var, .inl (cy_var, 300, .inl f_var)), (h_trm, .inl (cy_trm, 300, .inl f_trm)), (h_ter, .inl (cy_ter, 900, .inl f_ter)), (h_wd, .inl (cy_wd, 616, .inl f46)), (h_wr, .inr (6, (mo38 v_wr (.ref h_td) (.ref h_wd) (.int z45) (.ref h_wh) (.int z81)))), (h_wh, .inl (cy_wh, 2048, .inl f82))] H := hP
              replace hD : va_D A [(h_td, .inr (5, (mo21 v_td (.ref h_nam) (.ref h_var) (.ref h_trm) (.ref h_ter)))), (h_nam, .inl (cy_nam, 300, .inr (.inl f_nam))), (h_var, .inl (cy_var, 300, .inl f_var)), (h_trm, .inl (cy_trm, 300, .inl f_trm)), (h_ter, .inl (cy_ter, 900, .inl f_ter)), (h_wd, .inl (cy_wd, 616, .inl f46)), (h_wr, .inr (6, (mo38 v_wr (.ref h_td) (.ref h_wd) (.int z45) (.ref h_wh) (.int z81)))), (h_wh, .inl (cy_wh, 2048, .inl f82))] := hD
              clear evq79 
              obtain ⟨k83, hf82, k84, k85⟩ := hq
              replace k83 : 0 ≤ ((z81)).toInt ∧ ((z81)).toInt ≤ 2048 := k83
              replace hf82 : Rg (-127) 9599 (f82) := hf82
              replace k84 : (2048 ≤ ((z72)).toInt ∧ ((z81)).toInt = ((z72)).toInt) ∨ (((z72)).toInt < 2048 ∧ ((z81)).toInt = ((z72)).toInt + 1) := k84
              replace k85 : PUS (f73) (f82) (z72) ((-44) : Int32) := k85
              obtain ⟨z86, ez86⟩ : ∃ y : Int32, y = x57 + (-1) := ⟨_, rfl⟩
              have tz86 : (z86).toInt = (x57).toInt + -1 := by rw [ez86]; exact i_add rfl (by decide) (by omega)
              refine lv_iinc (v := z86) (lv' := [(4, .int z86), (0, .ref h_wr), (1, .int p1), (2, .int z1), (3, .int z10)]) hx hb dX9_putPart_125 hl (k := 4) rfl (by rw [ez86]; rfl) (by decide) rfl (fun ls hl => ?_)
              refine lv_goto (tgt := 87) hx hb dX9_putPart_128 (by decide) ?_
              exact ih61 (z86) (z81) (f82) _ _ _ (by omega) (by first | exact k83 | omega) hf82 (by omega) hP hD hS (lv_sub hl [1, 2, 3, 4, 0] rfl)
      exact lp60 _ (z56) (z51) (f52) _ _ _ (by omega) (by first | exact k53 | omega) hf52 (Nat.le_refl _) hP hD hS (lv_sub hl [3, 4, 2, 1, 0] rfl)
  · have kc3 := (not_congr (cv_eq (rfl : (z2).toInt = (z2).toInt) (by decide : ((-1) : Int32).toInt = -1))).mp c3
    refine lv_aload_n hx hb dX9_putPart_19 rfl (lv_at hl 1 rfl) ?_
    refine lv_aload_n hx hb dX9_putPart_20 rfl (lv_at hl 1 rfl) ?_
    refine va_get (D := (dC, dI)) (ci := 6) (v := .ref h_td) (C := RX9) (T := TX9) (N := 8) hx hb hw iwX9 hown hK hP 0 rfl rfl 0 (by decide) (hw _ w_f_X9_21) (fun _ h9 => h9) rfl dX9_putPart_21 ?_
    refine va_getN (D := (dC, dI)) (ci := 5) (v := .ref h_nam) (C := RX8) (T := TX8) (N := 10) (host := "OppositePairs") hx hb hw iwX8 hown hK hP 3 rfl rfl 0 (by decide) (hN.use n_f_X9_64 rfl) (fun _ h9 => h9) rfl dX9_putPart_24 ?_
    refine lv_iload_n hx hb dX9_putPart_27 rfl (lv_at hl 0 rfl) ?_
    refine va_lald hx hb hK hP 4 2 rfl rfl (i := z1) (vp_in_iff.mpr (by omega)) dX9_putPart_28 ?_
    refine lv_topl (fun z87 ez87 => ?_)
    refine lv_l2i hx hb dX9_putPart_29 rfl ?_
    refine lv_topi (fun z88 ez88 => ?_)
    obtain ⟨vq89, evq89⟩ := mq38_36 v_wr (.ref h_td) (.ref h_wh) (.int x_wr_held)
    replace hP : va_P (dC, dI) cls [(h_wr, .inr (6, (mo36 vq89 (.ref h_wd) (.int x_wr_drafted)))), (h_wd, .inl (cy_wd, 616, .inl f_wd)), (h_wh, .inl (cy_wh, 2048, .inl f_wh)), (h_td, .inr (5, (mo21 v_td (.ref h_nam) (.ref h_var) (.ref h_trm) (.ref h_ter)))), (h_nam, .inl (cy_nam, 300, .inr (.inl f_nam))), (h_var, .inl (cy_var, 300, .inl f_var)), (h_trm, .inl (cy_trm, 300, .inl f_trm)), (h_ter, .inl (cy_ter, 900, .inl f_ter))] s.heap := by rw [evq89]; exact hP
    replace hD : va_D A [(h_wr, .inr (6, (mo36 vq89 (.ref h_wd) (.int x_wr_drafted)))), (h_wd, .inl (cy_wd, 616, .inl f_wd)), (h_wh, .inl (cy_wh, 2048, .inl f_wh)), (h_td, .inr (5, (mo21 v_td (.ref h_nam) (.ref h_var) (.ref h_trm) (.ref h_ter)))), (h_nam, .inl (cy_nam, 300, .inr (.inl f_nam))), (h_var, .inl (cy_var, 300, .inl f_var)), (h_trm, .inl (cy_trm, 300, .inl f_trm)), (h_ter, .inl (cy_ter, 900, .inl f_ter))] := by rw [evq89]; exact hD
    have hPc := hP.sub (ws' := [(h_wr, .inr (6, (mo36 vq89 (.ref h_wd) (.int x_wr_drafted)))), (h_wd, .inl (cy_wd, 616, .inl f_wd))]) [0, 1] rfl
    have hDc := hD.sub (ws' := [(h_wr, .inr (6, (mo36 vq89 (.ref h_wd) (.int x_wr_drafted)))), (h_wd, .inl (cy_wd, 616, .inl f_wd))]) [0, 1] (by decide) rfl
    have hKc := hK.sub (tys' := [(cy_wd, .int)]) [0] rfl
    have hFc := va_free (wc := [(h_wr, .inr (6, (mo36 vq89 (.ref h_wd) (.int x_wr_drafted)))), (h_wd, .inl (cy_wd, 616, .inl f_wd))]) hD hS hA [0, 1] rfl
    refine va_callv (va_runV (As := [.int z88]) (rest := []) ⟨hx, hb, hml, hown, hts⟩ (c_X9_put l dC dI s.heap.size h_wr h_wd vq89 x_wr_drafted cy_wd f_wd z88 (by first | exact hx_wr_drafted | omega)) (cwV 1 hts (gv hT w_m_X9_33 w_instanceMethod_X9_put ws_sel_X9_put w_ini_X9 w_code_X9_put) rfl rfl rfl (by decide +kernel) ⟨(Nat.le_of_ble_eq_true rfl), (Nat.le_of_ble_eq_true rfl)⟩) ⟨pre_blind, va_recv hK hP (ci := 6) (q0 := 0) rfl rfl, pre_of hPc hKc hDc hN⟩ rfl rfl hl.1 rfl (lv_room (Nat.le_of_ble_eq_true rfl)) dX9_putPart_30 ⟨(Nat.le_of_ble_eq_true rfl), (Nat.le_of_ble_eq_true rfl)⟩) hS (fun q _ h => hFc q h) hFc (fun u t H locs ht hvm hq hB hz1 hk1 hS9 => ?_)
    obtain ⟨z91, f92⟩ := u
    obtain ⟨hP1, hD1⟩ := hB
    rw [ht] at hP1
    obtain ⟨hP9, hD9⟩ := va_join (wr := [(h_wh, .inl (cy_wh, 2048, .inl f_wh)), (h_td, .inr (5, (mo21 v_td (.ref h_nam) (.ref h_var) (.ref h_trm) (.ref h_ter)))), (h_nam, .inl (cy_nam, 300, .inr (.inl f_nam))), (h_var, .inl (cy_var, 300, .inl f_var)), (h_trm, .inl (cy_trm, 300, .inl f_trm)), (h_ter, .inl (cy_ter, 900, .inl f_ter))]) (w1 := [(h_wr, .inr (6, (mo36 vq89 (.ref h_wd) (.int z91)))), (h_wd, .inl (cy_wd, 616, .inl f92))]) hP hD [0, 1] [2, 3, 4, 5, 6, 7] rfl rfl (by decide) (by decide) hk1 hFc hP1 hD1
    clear hP hD hS hPc hDc hKc hFc hP1 hD1 hk1 hz1 ht hvm
    have hP : va_P (dC, dI) cls [(h_wh, .inl (cy_wh, 2048, .inl f_wh)), (h_td, .inr (5, (mo21 v_td (.ref h_nam) (.ref h_var) (.ref h_trm) (.ref h_ter)))), (h_nam, .inl (cy_nam, 300, .inr (.inl f_nam))), (h_var, .inl (cy_var, 300, .inl f_var)), (h_trm, .inl (cy_trm, 300, .inl f_trm)), (h_ter, .inl (cy_ter, 900, .inl f_ter)), (h_wr, .inr (6, (mo36 vq89 (.ref h_wd) (.int z91)))), (h_wd, .inl (cy_wd, 616, .inl f92))] H := hP9
    have hD : va_D A [(h_wh, .inl (cy_wh, 2048, .inl f_wh)), (h_td, .inr (5, (mo21 v_td (.ref h_nam) (.ref h_var) (.ref h_trm) (.ref h_ter)))), (h_nam, .inl (cy_nam, 300, .inr (.inl f_nam))), (h_var, .inl (cy_var, 300, .inl f_var)), (h_trm, .inl (cy_trm, 300, .inl f_trm)), (h_ter, .inl (cy_ter, 900, .inl f_ter)), (h_wr, .inr (6, (mo36 vq89 (.ref h_wd) (.int z91)))), (h_wd, .inl (cy_wd, 616, .inl f92))] := hD9
    have hS := hS9
    clear hP9 hD9 hS9
    rw [evq89] at hP hD
    replace hP : va_P (dC, dI) cls [(h_wh, .inl (cy_wh, 2048, .inl f_wh)), (h_td, .inr (5, (mo21 v_td (.ref h_nam) (.ref h_var) (.ref h_trm) (.ref h_ter)))), (h_nam, .inl (cy_nam, 300, .inr (.inl f_nam))), (h_var, .inl (cy_var, 300, .inl f_var)), (h_trm, .inl (cy_trm, 300, .inl f_trm)), (h_ter, .inl (cy_ter, 900, .inl f_ter)), (h_wr, .inr (6, (mo38 v_wr (.ref h_td) (.ref h_wd) (.int z91) (.ref h_wh) (.int x_wr_held)))), (h_wd, .inl (cy_wd, 616, .inl f92))] H := hP
    replace hD : va_D A [(h_wh, .inl (cy_wh, 2048, .inl f_wh)), (h_td, .inr (5, (mo21 v_td (.ref h_nam) (.ref h_var) (.ref h_trm) (.ref h_ter)))), (h_nam, .inl (cy_nam, 300, .inr (.inl f_nam))), (h_var, .inl (cy_var, 300, .inl f_var)), (h_trm, .inl (cy_trm, 300, .inl f_trm)), (h_ter, .inl (cy_ter, 900, .inl f_ter)), (h_wr, .inr (6, (mo38 v_wr (.ref h_td) (.ref h_wd) (.int z91) (.ref h_wh) (.int x_wr_held)))), (h_wd, .inl (cy_wd, 616, .inl f92))] := hD
    clear evq89 
    obtain ⟨k93, k94⟩ := hq
    replace k93 : 0 ≤ ((z91)).toInt ∧ ((z91)).toInt ≤ 616 := k93
    replace k94 : (616 ≤ ((x_wr_drafted)).toInt ∧ ((z91)).toInt = ((x_wr_drafted)).toInt) ∨ (((x_wr_drafted)).toInt < 616 ∧ ((z91)).toInt = ((x_wr_drafted)).toInt + 1) := k94
    refine lv_aload_n hx hb dX9_putPart_33 rfl (lv_at hl 1 rfl) ?_
    refine lv_iload_n hx hb dX9_putPart_34 rfl (lv_at hl 2 rfl) ?_
    refine lv_sipush (v := 300) hx hb dX9_putPart_35 (by decide) ?_
    refine lv_idiv hx hb dX9_putPart_38 (by decide) ?_
    refine lv_topi (fun z95 ez95 => ?_)
    have tz95 : (z95).toInt = (p1).toInt / 300 := by rw [ez95]; exact i_div rfl (by decide) (by omega)
    have sz95 : 0 ≤ (z95).toInt ∧ (z95).toInt ≤ 31 := by omega
    obtain ⟨vq96, evq96⟩ := mq38_36 v_wr (.ref h_td) (.ref h_wh) (.int x_wr_held)
    replace hP : va_P (dC, dI) cls [(h_wh, .inl (cy_wh, 2048, .inl f_wh)), (h_td, .inr (5, (mo21 v_td (.ref h_nam) (.ref h_var) (.ref h_trm) (.ref h_ter)))), (h_nam, .inl (cy_nam, 300, .inr (.inl f_nam))), (h_var, .inl (cy_var, 300, .inl f_var)), (h_trm, .inl (cy_trm, 300, .inl f_trm)), (h_ter, .inl (cy_ter, 900, .inl f_ter)), (h_wr, .inr (6, (mo36 vq96 (.ref h_wd) (.int z91)))), (h_wd, .inl (cy_wd, 616, .inl f92))] H := by rw [evq96]; exact hP
    replace hD : va_D A [(h_wh, .inl (cy_wh, 2048, .inl f_wh)), (h_td, .inr (5, (mo21 v_td (.ref h_nam) (.ref h_var) (.ref h_trm) (.ref h_ter)))), (h_nam, .inl (cy_nam, 300, .inr (.inl f_nam))), (h_var, .inl (cy_var, 300, .inl f_var)), (h_trm, .inl (cy_trm, 300, .inl f_trm)), (h_ter, .inl (cy_ter, 900, .inl f_ter)), (h_wr, .inr (6, (mo36 vq96 (.ref h_wd) (.int z91)))), (h_wd, .inl (cy_wd, 616, .inl f92))] := by rw [evq96]; exact hD
    have hPc := hP.sub (ws' := [(h_wr, .inr (6, (mo36 vq96 (.ref h_wd) (.int z91)))), (h_wd, .inl (cy_wd, 616, .inl f92))]) [6, 7] rfl
    have hDc := hD.sub (ws' := [(h_wr, .inr (6, (mo36 vq96 (.ref h_wd) (.int z91)))), (h_wd, .inl (cy_wd, 616, .inl f92))]) [6, 7] (by decide) rfl
    have hKc := hK.sub (tys' := [(cy_wd, .int)]) [0] rfl
    have hFc := va_free (wc := [(h_wr, .inr (6, (mo36 vq96 (.ref h_wd) (.int z91)))), (h_wd, .inl (cy_wd, 616, .inl f92))]) hD hS hA [6, 7] rfl
    refine va_callv (va_runV (As := [.int z95]) (rest := []) ⟨hx, hb, hml, hown, hts⟩ (c_X9_putInstance l dC dI H.size h_wr h_wd vq96 z91 cy_wd f92 z95 (by first | exact k93 | omega) (by omega)) (cwV 1 hts (gv hT w_m_X9_68 w_instanceMethod_X9_putInstance ws_sel_X9_putInstance w_ini_X9 w_code_X9_putInstance) rfl rfl rfl (by decide +kernel) ⟨(Nat.le_of_ble_eq_true rfl), (Nat.le_of_ble_eq_true rfl)⟩) ⟨pre_blind, va_recv hK hP (ci := 6) (q0 := 6) rfl rfl, pre_of hPc hKc hDc hN⟩ rfl rfl hl.1 rfl (lv_room (Nat.le_of_ble_eq_true rfl)) dX9_putPart_39 ⟨(Nat.le_of_ble_eq_true rfl), (Nat.le_of_ble_eq_true rfl)⟩) hS (fun q _ h => hFc q h) hFc (fun u t H locs ht hvm hq hB hz1 hk1 hS9 => ?_)
    obtain ⟨z98, f99⟩ := u
    obtain ⟨hP1, hD1⟩ := hB
    rw [ht] at hP1
    obtain ⟨hP9, hD9⟩ := va_join (wr := [(h_wh, .inl (cy_wh, 2048, .inl f_wh)), (h_td, .inr (5, (mo21 v_td (.ref h_nam) (.ref h_var) (.ref h_trm) (.ref h_ter)))), (h_nam, .inl (cy_nam, 300, .inr (.inl f_nam))), (h_var, .inl (cy_var, 300, .inl f_var)), (h_trm, .inl (cy_trm, 300, .inl f_trm)), (h_ter, .inl (cy_ter, 900, .inl f_ter))]) (w1 := [(h_wr, .inr (6, (mo36 vq96 (.ref h_wd) (.int z98)))), (h_wd, .inl (cy_wd, 616, .inl f99))]) hP hD [6, 7] [0, 1, 2, 3, 4, 5] rfl rfl (by decide) (by decide) hk1 hFc hP1 hD1
    clear hP hD hS hPc hDc hKc hFc hP1 hD1 hk1 hz1 ht hvm
    have hP : va_P (dC, dI) cls [(h_wh, .inl (cy_wh, 2048, .inl f_wh)), (h_td, .inr (5, (mo21 v_td (.ref h_nam) (.ref h_var) (.ref h_trm) (.ref h_ter)))), (h_nam, .inl (cy_nam, 300, .inr (.inl f_nam))), (h_var, .inl (cy_var, 300, .inl f_var)), (h_trm, .inl (cy_trm, 300, .inl f_trm)), (h_ter, .inl (cy_ter, 900, .inl f_ter)), (h_wr, .inr (6, (mo36 vq96 (.ref h_wd) (.int z98)))), (h_wd, .inl (cy_wd, 616, .inl f99))] H := hP9
    have hD : va_D A [(h_wh, .inl (cy_wh, 2048, .inl f_wh)), (h_td, .inr (5, (mo21 v_td (.ref h_nam) (.ref h_var) (.ref h_trm) (.ref h_ter)))), (h_nam, .inl (cy_nam, 300, .inr (.inl f_nam))), (h_var, .inl (cy_var, 300, .inl f_var)), (h_trm, .inl (cy_trm, 300, .inl f_trm)), (h_ter, .inl (cy_ter, 900, .inl f_ter)), (h_wr, .inr (6, (mo36 vq96 (.ref h_wd) (.int z98)))), (h_wd, .inl (cy_wd, 616, .inl f99))] := hD9
    have hS := hS9
    clear hP9 hD9 hS9
    rw [evq96] at hP hD
    replace hP : va_P (dC, dI) cls [(h_wh, .inl (cy_wh, 2048, .inl f_wh)), (h_td, .inr (5, (mo21 v_td (.ref h_nam) (.ref h_var) (.ref h_trm) (.ref h_ter)))), (h_nam, .inl (cy_nam, 300, .inr (.inl f_nam))), (h_var, .inl (cy_var, 300, .inl f_var)), (h_trm, .inl (cy_trm, 300, .inl f_trm)), (h_ter, .inl (cy_ter, 900, .inl f_ter)), (h_wr, .inr (6, (mo38 v_wr (.ref h_td) (.ref h_wd) (.int z98) (.ref h_wh) (.int x_wr_held)))), (h_wd, .inl (cy_wd, 616, .inl f99))] H := hP
    replace hD : va_D A [(h_wh, .inl (cy_wh, 2048, .inl f_wh)), (h_td, .inr (5, (mo21 v_td (.ref h_nam) (.ref h_var) (.ref h_trm) (.ref h_ter)))), (h_nam, .inl (cy_nam, 300, .inr (.inl f_nam))), (h_var, .inl (cy_var, 300, .inl f_var)), (h_trm, .inl (cy_trm, 300, .inl f_trm)), (h_ter, .inl (cy_ter, 900, .inl f_ter)), (h_wr, .inr (6, (mo38 v_wr (.ref h_td) (.ref h_wd) (.int z98) (.ref h_wh) (.int x_wr_held)))), (h_wd, .inl (cy_wd, 616, .inl f99))] := hD
    clear evq96 
    obtain ⟨k100, k101⟩ := hq
    replace k100 : 0 ≤ ((z98)).toInt ∧ ((z98)).toInt ≤ 616 := k100
    replace k101 : ((z95)).toInt < 30 ∨ ((z98)).toInt = ((z91)).toInt := k101
    replace hP : va_P (dC, dI) cls [(h_wr, .inr (6, (mo38 v_wr (.ref h_td) (.ref h_wd) (.int z98) (.ref h_wh) (.int x_wr_held)))), (h_wd, .inl (cy_wd, 616, .inl f99)), (h_wh, .inl (cy_wh, 2048, .inl f_wh)), (h_td, .inr (5, (mo21 v_td (.ref h_nam) (.ref h_var) (.ref h_trm) (.ref h_ter)))), (h_nam, .inl (cy_nam, 300, .inr (.inl f_nam))), (h_var, .inl (cy_var, 300, .inl f_var)), (h_trm, .inl (cy_trm, 300, .inl f_trm)), (h_ter, .inl (cy_ter, 900, .inl f_ter))] H := hP.sub [6, 7, 0, 1, 2, 3, 4, 5] rfl
    replace hD : va_D A [(h_wr, .inr (6, (mo38 v_wr (.ref h_td) (.ref h_wd) (.int z98) (.ref h_wh) (.int x_wr_held)))), (h_wd, .inl (cy_wd, 616, .inl f99)), (h_wh, .inl (cy_wh, 2048, .inl f_wh)), (h_td, .inr (5, (mo21 v_td (.ref h_nam) (.ref h_var) (.ref h_trm) (.ref h_ter)))), (h_nam, .inl (cy_nam, 300, .inr (.inl f_nam))), (h_var, .inl (cy_var, 300, .inl f_var)), (h_trm, .inl (cy_trm, 300, .inl f_trm)), (h_ter, .inl (cy_ter, 900, .inl f_ter))] := hD.sub [6, 7, 0, 1, 2, 3, 4, 5] (by decide) rfl
    refine W.widen (k := 0) (n := 0) (Nat.le_of_ble_eq_true rfl) (Nat.le_of_ble_eq_true rfl) ?_
    have w102 : 0 ≤ ((z98)).toInt ∧ ((z98)).toInt ≤ 616 := by first | exact k100 | omega
    have w103 : 0 ≤ ((x_wr_held)).toInt ∧ ((x_wr_held)).toInt ≤ 2048 := by first | exact hx_wr_held | omega
    exact W.vret hx hb hr (fun t ht hW => ⟨⟨(z98, x_wr_held, f99, f_wh), rfl, ⟨w102, w103, hf_wh⟩, by rw [ht]; exact hP, hD⟩, hS.F ht⟩) hS.2.2 dX9_putPart_42

set_option maxHeartbeats 8000000 in
set_option maxRecDepth 100000 in
theorem c_X9_putPart_a (l : Launch) (dC : Nat → ClassId) (dI : Nat → Nat → Nat) (sz : Nat) (h_wr : Nat) (h_wd : Nat) (h_wh : Nat) (h_td : Nat) (h_nam : Nat) (h_var : Nat) (h_trm : Nat) (h_ter : Nat) (v_wr : Nat → Value) (x_wr_drafted : Int32) (x_wr_held : Int32) (cy_wd : ClassId) (f_wd : Nat → Int32) (cy_wh : ClassId) (f_wh : Nat → Int32) (v_td : Nat → Value) (cy_nam : ClassId) (f_nam : Nat → Int64) (cy_var : ClassId) (f_var : Nat → Int32) (cy_trm : ClassId) (f_trm : Nat → Int32) (cy_ter : ClassId) (f_ter : Nat → Int32) (p1 : Int32) (ds : Nat → Nat) (dd : Nat) (hx_wr_drafted : 0 ≤ (x_wr_drafted).toInt ∧ (x_wr_drafted).toInt ≤ 616) (hx_wr_held : 0 ≤ (x_wr_held).toInt ∧ (x_wr_held).toInt ≤ 2048) (hf_wh : Rg (-127) 9599 f_wh) (hf_var : Rg (-1) 7 f_var) (hf_trm : Rg 0 3 f_trm) (hf_ter : Rg 0 299 f_ter) (q0 : 9000 ≤ (p1).toInt ∧ (p1).toInt ≤ 9299) (q1 : (x_wr_drafted).toInt + 9 ≤ 616) (q2 : (x_wr_held).toInt ≤ 2040) (hn_okl : OKL (CVW f_nam f_var f_trm f_ter) ds f_wh (x_wr_held).toInt) (hn_wgx : WGX (CVW f_nam f_var f_trm f_ter) (dd + 1) ((p1).toInt - 9000).toNat) (hn_tz : TZG f_var f_trm) : Met l yX9_putPart (Ws yX9_putPart cX9_putPart 5 none) (({ frames := 2, cells := 0, slots := 0, locals := 45 } : Room)) (PRE (dC, dI) cls [(cy_wd, .int), (cy_wh, .int), (cy_nam, .long), (cy_var, .int), (cy_trm, .int), (cy_ter, .int)] [(h_wr, .inr (6, (mo38 v_wr (.ref h_td) (.ref h_wd) (.int x_wr_drafted) (.ref h_wh) (.int x_wr_held)))), (h_wd, .inl (cy_wd, 616, .inl f_wd)), (h_wh, .inl (cy_wh, 2048, .inl f_wh)), (h_td, .inr (5, (mo21 v_td (.ref h_nam) (.ref h_var) (.ref h_trm) (.ref h_ter)))), (h_nam, .inl (cy_nam, 300, .inr (.inl f_nam))), (h_var, .inl (cy_var, 300, .inl f_var)), (h_trm, .inl (cy_trm, 300, .inl f_trm)), (h_ter, .inl (cy_ter, 900, .inl f_ter))] sz [.ref h_wr, .int p1]) (va_Qv (fun (u : (Int32) × (Int32) × (Nat → Int32) × (Nat → Int32) × (Nat → Nat)) => (0 ≤ (u.1).toInt ∧ (u.1).toInt ≤ 616) ∧ (0 ≤ (u.2.1).toInt ∧ (u.2.1).toInt ≤ 2048) ∧ (Rg (-127) 9599 u.2.2.2.1) ∧ ((u.1).toInt + smL (CVW f_nam f_var f_trm f_ter) u.2.2.2.2 u.2.2.2.1 (u.2.1).toInt.toNat = (x_wr_drafted).toInt + smL (CVW f_nam f_var f_trm f_ter) ds f_wh (x_wr_held).toInt.toNat + lnX (nlQ 8) (CVW f_nam f_var f_trm f_ter) (dd + 1) ((p1).toInt - 9000).toNat) ∧ ((x_wr_drafted).toInt + 1 ≤ (u.1).toInt ∧ (u.1).toInt ≤ (x_wr_drafted).toInt + 9) ∧ (2 * ((u.2.1).toInt - (x_wr_held).toInt) ≤ 5 * ((u.1).toInt - (x_wr_drafted).toInt) + 2) ∧ (OKL (CVW f_nam f_var f_trm f_ter) u.2.2.2.2 u.2.2.2.1 (u.2.1).toInt)) (fun (u : (Int32) × (Int32) × (Nat → Int32) × (Nat → Int32) × (Nat → Nat)) (t : State) => va_P (dC, dI) cls [(h_wr, .inr (6, (mo38 v_wr (.ref h_td) (.ref h_wd) (.int u.1) (.ref h_wh) (.int u.2.1)))), (h_wd, .inl (cy_wd, 616, .inl u.2.2.1)), (h_wh, .inl (cy_wh, 2048, .inl u.2.2.2.1)), (h_td, .inr (5, (mo21 v_td (.ref h_nam) (.ref h_var) (.ref h_trm) (.ref h_ter)))), (h_nam, .inl (cy_nam, 300, .inr (.inl f_nam))), (h_var, .inl (cy_var, 300, .inl f_var)), (h_trm, .inl (cy_trm, 300, .inl f_trm)), (h_ter, .inl (cy_ter, 900, .inl f_ter))] t.heap ∧ va_D (va_A [(h_wr, .inr (6, (mo38 v_wr (.ref h_td) (.ref h_wd) (.int x_wr_drafted) (.ref h_wh) (.int x_wr_held)))), (h_wd, .inl (cy_wd, 616, .inl f_wd)), (h_wh, .inl (cy_wh, 2048, .inl f_wh)), (h_td, .inr (5, (mo21 v_td (.ref h_nam) (.ref h_var) (.ref h_trm) (.ref h_ter)))), (h_nam, .inl (cy_nam, 300, .inr (.inl f_nam))), (h_var, .inl (cy_var, 300, .inl f_var)), (h_trm, .inl (cy_trm, 300, .inl f_trm)), (h_ter, .inl (cy_ter, 900, .inl f_ter))] sz) [(h_wr, .inr (6, (mo38 v_wr (.ref h_td) (.ref h_wd) (.int u.1) (.ref h_wh) (.int u.2.1)))), (h_wd, .inl (cy_wd, 616, .inl u.2.2.1)), (h_wh, .inl (cy_wh, 2048, .inl u.2.2.2.1)), (h_td, .inr (5, (mo21 v_td (.ref h_nam) (.ref h_var) (.ref h_trm) (.ref h_ter)))), (h_nam, .inl (cy_nam, 300, .inr (.inl f_nam))), (h_var, .inl (cy_var, 300, .inl f_var)), (h_trm, .inl (cy_trm, 300, .inl f_trm)), (h_ter, .inl (cy_ter, 900, .inl f_ter))]) (va_A [(h_wr, .inr (6, (mo38 v_wr (.ref h_td) (.ref h_wd) (.int x_wr_drafted) (.ref h_wh) (.int x_wr_held)))), (h_wd, .inl (cy_wd, 616, .inl f_wd)), (h_wh, .inl (cy_wh, 2048, .inl f_wh)), (h_td, .inr (5, (mo21 v_td (.ref h_nam) (.ref h_var) (.ref h_trm) (.ref h_ter)))), (h_nam, .inl (cy_nam, 300, .inr (.inl f_nam))), (h_var, .inl (cy_var, 300, .inl f_var)), (h_trm, .inl (cy_trm, 300, .inl f_trm)), (h_ter, .inl (cy_ter, 900, .inl f_ter))] sz)) 0 0 (va_A [(h_wr, .inr (6, (mo38 v_wr (.ref h_td) (.ref h_wd) (.int x_wr_drafted) (.ref h_wh) (.int x_wr_held)))), (h_wd, .inl (cy_wd, 616, .inl f_wd)), (h_wh, .inl (cy_wh, 2048, .inl f_wh)), (h_td, .inr (5, (mo21 v_td (.ref h_nam) (.ref h_var) (.ref h_trm) (.ref h_ter)))), (h_nam, .inl (cy_nam, 300, .inr (.inl f_nam))), (h_var, .inl (cy_var, 300, .inl f_var)), (h_trm, .inl (cy_trm, 300, .inl f_trm)), (h_ter, .inl (cy_ter, 900, .inl f_ter))] sz) := by
  refine Met.ofW (cc := cX9_putPart) (maxL := 5) (ret := none) (by decide) rfl ?_
  intro p e s m args below meth c s₁ B hml hv
  obtain ⟨rfl, hsz, hP, hK, hD0, hN⟩ := hv
  have hx := B.exec
  have hb := B.bytes
  have hr := B.returns
  have hts := atoms_spec (ws := Ws yX9_putPart cX9_putPart 5 none) B.pre
  have hT : ∀ w ∈ WALL, w ∈ Ws yX9_putPart cX9_putPart 5 none := fun w h => List.mem_cons_of_mem _ h
  have hw := fun w (h : w ∈ WALL) => hts w (hT w h)
  have hown : s.vm.findClass RX9 = some m.cls := findClass_of_methodNamed B.named
  have hlocks := B.notSynchronized
  subst hsz
  have hD := hD0.self (sz := s.heap.size)
  generalize hAe : va_A [(h_wr, .inr (6, (mo38 v_wr (.ref h_td) (.ref h_wd) (.int x_wr_drafted) (.ref h_wh) (.int x_wr_held)))), (h_wd, .inl (cy_wd, 616, .inl f_wd)), (h_wh, .inl (cy_wh, 2048, .inl f_wh)), (h_td, .inr (5, (mo21 v_td (.ref h_nam) (.ref h_var) (.ref h_trm) (.ref h_ter)))), (h_nam, .inl (cy_nam, 300, .inr (.inl f_nam))), (h_var, .inl (cy_var, 300, .inl f_var)), (h_trm, .inl (cy_trm, 300, .inl f_trm)), (h_ter, .inl (cy_ter, 900, .inl f_ter))] s.heap.size = A at hD ⊢
  have hA : ∀ q : Nat, s.heap.size ≤ q → A q := fun q h => by rw [← hAe]; exact Or.inr h
  have hS : va_S A s.heap s.heap [] := va_S.rf
  have hl := lv_entry ([.ref h_wr, .int p1]) (n := 5) (Nat.le_of_ble_eq_true rfl)
  rw [lg_entry_eq]
  generalize (lg_sl ([.ref h_wr, .int p1]) ++ List.replicate (5 - (lg_sl ([.ref h_wr, .int p1])).length) Slot.unset).toArray = ls at hl ⊢
  have hl : lv_has ls 5 [(0, .ref h_wr), (1, .int p1)] := hl
  have wg9 := hn_wgx
  rw [wgx_s] at wg9
  obtain ⟨x9, ex9⟩ : ∃ y : Nat, y = ((p1).toInt - 9000).toNat := ⟨_, rfl⟩
  rw [← ex9] at wg9
  have tz9 := hn_tz x9
  have lx9 : lnX (nlQ 8) (CVW f_nam f_var f_trm f_ter) (dd + 1) ((p1).toInt - 9000).toNat = lnX (nlQ 8) (CVW f_nam f_var f_trm f_ter) (dd + 1) x9 := by rw [ex9]
  refine lv_iload_n hx hb dX9_putPart_0 rfl (lv_at hl 1 rfl) ?_
  refine lv_sipush (v := 300) hx hb dX9_putPart_1 (by decide) ?_
  refine lv_irem hx hb dX9_putPart_4 (by decide) ?_
  refine lv_topi (fun z1 ez1 => ?_)
  have tz1 : (z1).toInt = (p1).toInt % 300 := by rw [ez1]; exact i_rem rfl (by decide) (by omega)
  refine lv_istore_n (lv' := [(2, .int z1), (0, .ref h_wr), (1, .int p1)]) hx hb dX9_putPart_5 rfl hl (by decide) rfl (fun ls hl => ?_)
  refine lv_aload_n hx hb dX9_putPart_6 rfl (lv_at hl 1 rfl) ?_
  refine va_get (D := (dC, dI)) (ci := 6) (v := .ref h_td) (C := RX9) (T := TX9) (N := 8) hx hb hw iwX9 hown hK hP 0 rfl rfl 0 (by decide) (hw _ w_f_X9_21) (fun _ h9 => h9) rfl dX9_putPart_7 ?_
  refine va_getN (D := (dC, dI)) (ci := 5) (v := .ref h_var) (C := RX8) (T := TX8) (N := 10) (host := "OppositePairs") hx hb hw iwX8 hown hK hP 3 rfl rfl 1 (by decide) (hN.use n_f_X9_59 rfl) (fun _ h9 => h9) rfl dX9_putPart_10 ?_
  refine lv_iload_n hx hb dX9_putPart_13 rfl (lv_at hl 0 rfl) ?_
  refine va_iald hx hb hK hP 5 3 rfl rfl (i := z1) (vp_in_iff.mpr (by omega)) dX9_putPart_14 ?_
  refine lv_topi (fun z2 ez2 => ?_)
  have rz2 : -1 ≤ (z2).toInt ∧ (z2).toInt ≤ 7 := by rw [ez2]; exact hf_var _
  have va9 : ((CVW f_nam f_var f_trm f_ter)).1 x9 = (z2).toInt := by show (f_var x9).toInt = _; rw [ez2, clamp_nat (i := z1) (by omega), show (z1).toInt.toNat = x9 by omega]
  refine lv_iconst (v := (-1)) hx hb dX9_putPart_15 (by decide) ?_
  refine lv_icmp_eq (tgt := 43) hx hb dX9_putPart_16 (by decide) (fun c3 => ?_) (fun c3 => ?_)
  · have kc3 := (cv_eq (rfl : (z2).toInt = (z2).toInt) (by decide : ((-1) : Int32).toInt = -1)).mp c3
    refine lv_aload_n hx hb dX9_putPart_43 rfl (lv_at hl 1 rfl) ?_
    refine lv_aload_n hx hb dX9_putPart_44 rfl (lv_at hl 1 rfl) ?_
    refine va_get (D := (dC, dI)) (ci := 6) (v := .ref h_td) (C := RX9) (T := TX9) (N := 8) hx hb hw iwX9 hown hK hP 0 rfl rfl 0 (by decide) (hw _ w_f_X9_21) (fun _ h9 => h9) rfl dX9_putPart_45 ?_
    refine va_getN (D := (dC, dI)) (ci := 5) (v := .ref h_nam) (C := RX8) (T := TX8) (N := 10) (host := "OppositePairs") hx hb hw iwX8 hown hK hP 3 rfl rfl 0 (by decide) (hN.use n_f_X9_64 rfl) (fun _ h9 => h9) rfl dX9_putPart_48 ?_
    refine lv_iload_n hx hb dX9_putPart_51 rfl (lv_at hl 0 rfl) ?_
    refine va_lald hx hb hK hP 4 2 rfl rfl (i := z1) (vp_in_iff.mpr (by omega)) dX9_putPart_52 ?_
    refine lv_topl (fun z4 ez4 => ?_)
    have nm9 : ((CVW f_nam f_var f_trm f_ter)).2.1 x9 = (z4).toInt := by show (f_nam x9).toInt = _; rw [ez4, clamp_nat (i := z1) (by omega), show (z1).toInt.toNat = x9 by omega]
    obtain ⟨wg1, ⟨wg2, wg3⟩, wg4, wg5, wg6⟩ := wg9.resolve_left (by omega)
    have nq9 := (nlQ_ge 8 (((CVW f_nam f_var f_trm f_ter)).2.1 x9)).2
    rw [nm9] at wg2 wg3 nq9
    obtain ⟨M9, eM9⟩ : ∃ y : Nat, ((CVW f_nam f_var f_trm f_ter)).2.2.1 x9 = (y : Int) := ⟨(((CVW f_nam f_var f_trm f_ter)).2.2.1 x9).toNat, by omega⟩
    have ls9 := lnX_sum (nf := nlQ 8) (V := (CVW f_nam f_var f_trm f_ter)) (d := dd) (x := x9) wg1 eM9 (by omega)
    rw [nm9] at ls9
    rw [ex9] at ls9
    rw [← ex9] at ls9
    have sl0 : slX (nlQ 8) (CVW f_nam f_var f_trm f_ter) dd x9 0 = 0 := rfl
    obtain ⟨vq5, evq5⟩ := mq38_36 v_wr (.ref h_td) (.ref h_wh) (.int x_wr_held)
    replace hP : va_P (dC, dI) cls [(h_wr, .inr (6, (mo36 vq5 (.ref h_wd) (.int x_wr_drafted)))), (h_wd, .inl (cy_wd, 616, .inl f_wd)), (h_wh, .inl (cy_wh, 2048, .inl f_wh)), (h_td, .inr (5, (mo21 v_td (.ref h_nam) (.ref h_var) (.ref h_trm) (.ref h_ter)))), (h_nam, .inl (cy_nam, 300, .inr (.inl f_nam))), (h_var, .inl (cy_var, 300, .inl f_var)), (h_trm, .inl (cy_trm, 300, .inl f_trm)), (h_ter, .inl (cy_ter, 900, .inl f_ter))] s.heap := by rw [evq5]; exact hP
    replace hD : va_D A [(h_wr, .inr (6, (mo36 vq5 (.ref h_wd) (.int x_wr_drafted)))), (h_wd, .inl (cy_wd, 616, .inl f_wd)), (h_wh, .inl (cy_wh, 2048, .inl f_wh)), (h_td, .inr (5, (mo21 v_td (.ref h_nam) (.ref h_var) (.ref h_trm) (.ref h_ter)))), (h_nam, .inl (cy_nam, 300, .inr (.inl f_nam))), (h_var, .inl (cy_var, 300, .inl f_var)), (h_trm, .inl (cy_trm, 300, .inl f_trm)), (h_ter, .inl (cy_ter, 900, .inl f_ter))] := by rw [evq5]; exact hD
    have hPc := hP.sub (ws' := [(h_wr, .inr (6, (mo36 vq5 (.ref h_wd) (.int x_wr_drafted)))), (h_wd, .inl (cy_wd, 616, .inl f_wd))]) [0, 1] rfl
    have hDc := hD.sub (ws' := [(h_wr, .inr (6, (mo36 vq5 (.ref h_wd) (.int x_wr_drafted)))), (h_wd, .inl (cy_wd, 616, .inl f_wd))]) [0, 1] (by decide) rfl
    have hKc := hK.sub (tys' := [(cy_wd, .int)]) [0] rfl
    have hFc := va_free (wc := [(h_wr, .inr (6, (mo36 vq5 (.ref h_wd) (.int x_wr_drafted)))), (h_wd, .inl (cy_wd, 616, .inl f_wd))]) hD hS hA [0, 1] rfl
    refine va_callv (va_runV (As := [.long z4]) (rest := []) ⟨hx, hb, hml, hown, hts⟩ (c_X9_putName_n l dC dI s.heap.size h_wr h_wd vq5 x_wr_drafted cy_wd f_wd z4 (by first | exact hx_wr_drafted | omega) (by omega) (by omega)) (cwV 1 hts (gv hT w_m_X9_71 w_instanceMethod_X9_putName ws_sel_X9_putName w_ini_X9 w_code_X9_putName) rfl rfl rfl (by decide +kernel) ⟨(Nat.le_of_ble_eq_true rfl), (Nat.le_of_ble_eq_true rfl)⟩) ⟨pre_blind, va_recv hK hP (ci := 6) (q0 := 0) rfl rfl, pre_of hPc hKc hDc hN⟩ rfl rfl hl.1 rfl (lv_room (Nat.le_of_ble_eq_true rfl)) dX9_putPart_53 ⟨(Nat.le_of_ble_eq_true rfl), (Nat.le_of_ble_eq_true rfl)⟩) hS (fun q _ h => hFc q h) hFc (fun u t H locs ht hvm hq hB hz1 hk1 hS9 => ?_)
    obtain ⟨z7, f8⟩ := u
    obtain ⟨hP1, hD1⟩ := hB
    rw [ht] at hP1
    obtain ⟨hP9, hD9⟩ := va_join (wr := [(h_wh, .inl (cy_wh, 2048, .inl f_wh)), (h_td, .inr (5, (mo21 v_td (.ref h_nam) (.ref h_var) (.ref h_trm) (.ref h_ter)))), (h_nam, .inl (cy_nam, 300, .inr (.inl f_nam))), (h_var, .inl (cy_var, 300, .inl f_var)), (h_trm, .inl (cy_trm, 300, .inl f_trm)), (h_ter, .inl (cy_ter, 900, .inl f_ter))]) (w1 := [(h_wr, .inr (6, (mo36 vq5 (.ref h_wd) (.int z7)))), (h_wd, .inl (cy_wd, 616, .inl f8))]) hP hD [0, 1] [2, 3, 4, 5, 6, 7] rfl rfl (by decide) (by decide) hk1 hFc hP1 hD1
    clear hP hD hS hPc hDc hKc hFc hP1 hD1 hk1 hz1 ht hvm
    have hP : va_P (dC, dI) cls [(h_wh, .inl (cy_wh, 2048, .inl f_wh)), (h_td, .inr (5, (mo21 v_td (.ref h_nam) (.ref h_var) (.ref h_trm) (.ref h_ter)))), (h_nam, .inl (cy_nam, 300, .inr (.inl f_nam))), (h_var, .inl (cy_var, 300, .inl f_var)), (h_trm, .inl (cy_trm, 300, .inl f_trm)), (h_ter, .inl (cy_ter, 900, .inl f_ter)), (h_wr, .inr (6, (mo36 vq5 (.ref h_wd) (.int z7)))), (h_wd, .inl (cy_wd, 616, .inl f8))] H := hP9
    have hD : va_D A [(h_wh, .inl (cy_wh, 2048, .inl f_wh)), (h_td, .inr (5, (mo21 v_td (.ref h_nam) (.ref h_var) (.ref h_trm) (.ref h_ter)))), (h_nam, .inl (cy_nam, 300, .inr (.inl f_nam))), (h_var, .inl (cy_var, 300, .inl f_var)), (h_trm, .inl (cy_trm, 300, .inl f_trm)), (h_ter, .inl (cy_ter, 900, .inl f_ter)), (h_wr, .inr (6, (mo36 vq5 (.ref h_wd) (.int z7)))), (h_wd, .inl (cy_wd, 616, .inl f8))] := hD9
    have hS := hS9
    clear hP9 hD9 hS9
    rw [evq5] at hP hD
    replace hP : va_P (dC, dI) cls [(h_wh, .inl (cy_wh, 2048, .inl f_wh)), (h_td, .inr (5, (mo21 v_td (.ref h_nam) (.ref h_var) (.ref h_trm) (.ref h_ter)))), (h_nam, .inl (cy_nam, 300, .inr (.inl f_nam))), (h_var, .inl (cy_var, 300, .inl f_var)), (h_trm, .inl (cy_trm, 300, .inl f_trm)), (h_ter, .inl (cy_ter, 900, .inl f_ter)), (h_wr, .inr (6, (mo38 v_wr (.ref h_td) (.ref h_wd) (.int z7) (.ref h_wh) (.int x_wr_held)))), (h_wd, .inl (cy_wd, 616, .inl f8))] H := hP
    replace hD : va_D A [(h_wh, .inl (cy_wh, 2048, .inl f_wh)), (h_td, .inr (5, (mo21 v_td (.ref h_nam) (.ref h_var) (.ref h_trm) (.ref h_ter)))), (h_nam, .inl (cy_nam, 300, .inr (.inl f_nam))), (h_var, .inl (cy_var, 300, .inl f_var)), (h_trm, .inl (cy_trm, 300, .inl f_trm)), (h_ter, .inl (cy_ter, 900, .inl f_ter)), (h_wr, .inr (6, (mo38 v_wr (.ref h_td) (.ref h_wd) (.int z7) (.ref h_wh) (.int x_wr_held)))), (h_wd, .inl (cy_wd, 616, .inl f8))] := hD
    clear evq5 
    obtain ⟨k9, k10⟩ := hq
    replace k9 : 0 ≤ ((z7)).toInt ∧ ((z7)).toInt ≤ 616 := k9
    replace k10 : ((z7)).toInt = ((x_wr_drafted)).toInt + nlQ 8 ((z4)).toInt := k10
    refine lv_aload_n hx hb dX9_putPart_56 rfl (lv_at hl 1 rfl) ?_
    refine va_get (D := (dC, dI)) (ci := 6) (v := .ref h_td) (C := RX9) (T := TX9) (N := 8) hx hb hw iwX9 hown hK hP 6 rfl rfl 0 (by decide) (hw _ w_f_X9_21) (fun _ h9 => h9) rfl dX9_putPart_57 ?_
    refine va_getN (D := (dC, dI)) (ci := 5) (v := .ref h_trm) (C := RX8) (T := TX8) (N := 10) (host := "OppositePairs") hx hb hw iwX8 hown hK hP 1 rfl rfl 2 (by decide) (hN.use n_f_X9_75 rfl) (fun _ h9 => h9) rfl dX9_putPart_60 ?_
    refine lv_iload_n hx hb dX9_putPart_63 rfl (lv_at hl 0 rfl) ?_
    refine va_iald hx hb hK hP 4 4 rfl rfl (i := z1) (vp_in_iff.mpr (by omega)) dX9_putPart_64 ?_
    refine lv_topi (fun z11 ez11 => ?_)
    have rz11 : 0 ≤ (z11).toInt ∧ (z11).toInt ≤ 3 := by rw [ez11]; exact hf_trm _
    have tm9 : (M9 : Int) = (z11).toInt := by rw [← eM9]; show (f_trm x9).toInt = _; rw [ez11, clamp_nat (i := z1) (by omega), show (z1).toInt.toNat = x9 by omega]
    refine lv_istore_n (lv' := [(3, .int z11), (2, .int z1), (0, .ref h_wr), (1, .int p1)]) hx hb dX9_putPart_65 rfl hl (by decide) rfl (fun ls hl => ?_)
    refine lv_iload_n hx hb dX9_putPart_66 rfl (lv_at hl 0 rfl) ?_
    refine lv_if_le (tgt := 82) hx hb dX9_putPart_67 (by decide) (fun c12 => ?_) (fun c12 => ?_)
    · have kc12 := (cv_le (rfl : (z11).toInt = (z11).toInt) (by decide : (0 : Int32).toInt = 0)).mp c12
      refine lv_iload_n hx hb dX9_putPart_82 rfl (lv_at hl 0 rfl) ?_
      refine lv_iconst (v := 1) hx hb dX9_putPart_83 (by decide) ?_
      refine lv_isub hx hb dX9_putPart_84 ?_
      refine lv_topi (fun z13 ez13 => ?_)
      have tz13 : (z13).toInt = (z11).toInt - 1 := by rw [ez13]; exact i_sub rfl (by decide) (by omega)
      refine lv_istore (lv' := [(4, .int z13), (3, .int z11), (2, .int z1), (0, .ref h_wr), (1, .int p1)]) hx hb dX9_putPart_85 hl (by decide) rfl (fun ls hl => ?_)
      have ee9 : slX (nlQ 8) (CVW f_nam f_var f_trm f_ter) dd x9 (Int.toNat ((z13).toInt + 1)) = slX (nlQ 8) (CVW f_nam f_var f_trm f_ter) dd x9 M9 := by rw [show Int.toNat ((z13).toInt + 1) = M9 by omega]
      have em9 : M9 = 0 → slX (nlQ 8) (CVW f_nam f_var f_trm f_ter) dd x9 M9 = 0 := fun h9 => by rw [h9]; rfl
      have lp18 : ∀ (n : Nat) (x14 : Int32) (f15 : Nat → Int32) (x16 : Int32) (gh17 : Nat → Nat) (H : Heap) (locs : List Loc) (ls : Array Slot), (-1 ≤ (x14).toInt ∧ (x14).toInt ≤ 2) → (Rg (-127) 9599 f15) → (0 ≤ (x16).toInt ∧ (x16).toInt ≤ 2048) → ((x14).toInt ≤ (M9 : Int) - 1) → ((0 ≤ (x14).toInt ∧ (x16).toInt = (x_wr_held).toInt + 2 * ((M9 : Int) - 1 - (x14).toInt) + 1 ∧ smL (CVW f_nam f_var f_trm f_ter) gh17 f15 (Int.toNat ((x16).toInt)) = smL (CVW f_nam f_var f_trm f_ter) ds f_wh (x_wr_held).toInt.toNat + slX (nlQ 8) (CVW f_nam f_var f_trm f_ter) dd x9 M9 - slX (nlQ 8) (CVW f_nam f_var f_trm f_ter) dd x9 (Int.toNat ((x14).toInt + 1)) + 1) ∨ ((x14).toInt = -1 ∧ (x16).toInt = (x_wr_held).toInt + 2 * (M9 : Int) ∧ smL (CVW f_nam f_var f_trm f_ter) gh17 f15 (Int.toNat ((x16).toInt)) = smL (CVW f_nam f_var f_trm f_ter) ds f_wh (x_wr_held).toInt.toNat + slX (nlQ 8) (CVW f_nam f_var f_trm f_ter) dd x9 M9)) → (OKL (CVW f_nam f_var f_trm f_ter) gh17 f15 (x16).toInt) → ((x14).toInt + 1).toNat + 1 ≤ n → va_P (dC, dI) cls [(h_wh, .inl (cy_wh, 2048, .inl f15)), (h_td, .inr (5, (mo21 v_td (.ref h_nam) (.ref h_var) (.ref h_trm) (.ref h_ter)))), (h_nam, .inl (cy_nam, 300, .inr (.inl f_nam))), (h_var, .inl (cy_var, 300, .inl f_var)), (h_trm, .inl (cy_trm, 300, .inl f_trm)), (h_ter, .inl (cy_ter, 900, .inl f_ter)), (h_wr, .inr (6, (mo38 v_wr (.ref h_td) (.ref h_wd) (.int z7) (.ref h_wh) (.int x16)))), (h_wd, .inl (cy_wd, 616, .inl f8))] H → va_D A [(h_wh, .inl (cy_wh, 2048, .inl f15)), (h_td, .inr (5, (mo21 v_td (.ref h_nam) (.ref h_var) (.ref h_trm) (.ref h_ter)))), (h_nam, .inl (cy_nam, 300, .inr (.inl f_nam))), (h_var, .inl (cy_var, 300, .inl f_var)), (h_trm, .inl (cy_trm, 300, .inl f_trm)), (h_ter, .inl (cy_ter, 900, .inl f_ter)), (h_wr, .inr (6, (mo38 v_wr (.ref h_td) (.ref h_wd) (.int z7) (.ref h_wh) (.int x16)))), (h_wd, .inl (cy_wd, 616, .inl f8))] → va_S A s.heap H locs → lv_has ls 5 [(0, .ref h_wr), (1, .int p1), (2, .int z1), (3, .int z11), (4, .int x14)] → W p l e ({ frames := 2, cells := 0, slots := 0, locals := 45 } : Room) s m ([.ref h_wr, .int p1] : List Value).toArray below meth c H locs 0 0 (MQ below (va_Qv (fun (u : (Int32) × (Int32) × (Nat → Int32) × (Nat → Int32) × (Nat → Nat)) => (0 ≤ (u.1).toInt ∧ (u.1).toInt ≤ 616) ∧ (0 ≤ (u.2.1).toInt ∧ (u.2.1).toInt ≤ 2048) ∧ (Rg (-127) 9599 u.2.2.2.1) ∧ ((u.1).toInt + smL (CVW f_nam f_var f_trm f_ter) u.2.2.2.2 u.2.2.2.1 (u.2.1).toInt.toNat = (x_wr_drafted).toInt + smL (CVW f_nam f_var f_trm f_ter) ds f_wh (x_wr_held).toInt.toNat + lnX (nlQ 8) (CVW f_nam f_var f_trm f_ter) (dd + 1) ((p1).toInt - 9000).toNat) ∧ ((x_wr_drafted).toInt + 1 ≤ (u.1).toInt ∧ (u.1).toInt ≤ (x_wr_drafted).toInt + 9) ∧ (2 * ((u.2.1).toInt - (x_wr_held).toInt) ≤ 5 * ((u.1).toInt - (x_wr_drafted).toInt) + 2) ∧ (OKL (CVW f_nam f_var f_trm f_ter) u.2.2.2.2 u.2.2.2.1 (u.2.1).toInt)) (fun (u : (Int32) × (Int32) × (Nat → Int32) × (Nat → Int32) × (Nat → Nat)) (t : State) => va_P (dC, dI) cls [(h_wr, .inr (6, (mo38 v_wr (.ref h_td) (.ref h_wd) (.int u.1) (.ref h_wh) (.int u.2.1)))), (h_wd, .inl (cy_wd, 616, .inl u.2.2.1)), (h_wh, .inl (cy_wh, 2048, .inl u.2.2.2.1)), (h_td, .inr (5, (mo21 v_td (.ref h_nam) (.ref h_var) (.ref h_trm) (.ref h_ter)))), (h_nam, .inl (cy_nam, 300, .inr (.inl f_nam))), (h_var, .inl (cy_var, 300, .inl f_var)), (h_trm, .inl (cy_trm, 300, .inl f_trm)), (h_ter, .inl (cy_ter, 900, .inl f_ter))] t.heap ∧ va_D A [(h_wr, .inr (6, (mo38 v_wr (.ref h_td) (.ref h_wd) (.int u.1) (.ref h_wh) (.int u.2.1)))), (h_wd, .inl (cy_wd, 616, .inl u.2.2.1)), (h_wh, .inl (cy_wh, 2048, .inl u.2.2.2.1)), (h_td, .inr (5, (mo21 v_td (.ref h_nam) (.ref h_var) (.ref h_trm) (.ref h_ter)))), (h_nam, .inl (cy_nam, 300, .inr (.inl f_nam))), (h_var, .inl (cy_var, 300, .inl f_var)), (h_trm, .inl (cy_trm, 300, .inl f_trm)), (h_ter, .inl (cy_ter, 900, .inl f_ter))]) A) ([.ref h_wr, .int p1] : List Value).toArray s 0 0 A) (F0 m 87 ls []) := by
        clear hP hD hS hl
        intro n
        induction n with
        | zero => intro x14 f15 x16 gh17 H locs ls klp18_0 hf15 klp18_2 klp18_3 klp18_4 klp18_5 hm hP hD hS hl; exact False.elim (by omega)
        | succ n ih => 
          intro x14 f15 x16 gh17 H locs ls klp18_0 hf15 klp18_2 klp18_3 klp18_4 klp18_5 hm hP hD hS hl
          have ih19 := ih
          clear ih
          refine lv_iload hx hb dX9_putPart_87 (lv_at hl 4 rfl) ?_
          refine lv_if_lt (tgt := 131) hx hb dX9_putPart_89 (by decide) (fun c20 => ?_) (fun c20 => ?_)
          · have kc20 := (cv_lt (rfl : (x14).toInt = (x14).toInt) (by decide : (0 : Int32).toInt = 0)).mp c20
            replace hP : va_P (dC, dI) cls [(h_wr, .inr (6, (mo38 v_wr (.ref h_td) (.ref h_wd) (.int z7) (.ref h_wh) (.int x16)))), (h_wd, .inl (cy_wd, 616, .inl f8)), (h_wh, .inl (cy_wh, 2048, .inl f15)), (h_td, .inr (5, (mo21 v_td (.ref h_nam) (.ref h_var) (.ref h_trm) (.ref h_ter)))), (h_nam, .inl (cy_nam, 300, .inr (.inl f_nam))), (h_var, .inl (cy_var, 300, .inl f_var)), (h_trm, .inl (cy_trm, 300, .inl f_trm)), (h_ter, .inl (cy_ter, 900, .inl f_ter))] H := hP.sub [6, 7, 0, 1, 2, 3, 4, 5] rfl
            replace hD : va_D A [(h_wr, .inr (6, (mo38 v_wr (.ref h_td) (.ref h_wd) (.int z7) (.ref h_wh) (.int x16)))), (h_wd, .inl (cy_wd, 616, .inl f8)), (h_wh, .inl (cy_wh, 2048, .inl f15)), (h_td, .inr (5, (mo21 v_td (.ref h_nam) (.ref h_var) (.ref h_trm) (.ref h_ter)))), (h_nam, .inl (cy_nam, 300, .inr (.inl f_nam))), (h_var, .inl (cy_var, 300, .inl f_var)), (h_trm, .inl (cy_trm, 300, .inl f_trm)), (h_ter, .inl (cy_ter, 900, .inl f_ter))] := hD.sub [6, 7, 0, 1, 2, 3, 4, 5] (by decide) rfl
            refine W.widen (k := 0) (n := 0) (Nat.le_of_ble_eq_true rfl) (Nat.le_of_ble_eq_true rfl) ?_
            have w21 : 0 ≤ ((z7)).toInt ∧ ((z7)).toInt ≤ 616 := by first | exact k9 | omega
            have w22 : 0 ≤ ((x16)).toInt ∧ ((x16)).toInt ≤ 2048 := by first | exact klp18_2 | omega
            have w23 : ((z7)).toInt + smL (CVW f_nam f_var f_trm f_ter) (gh17) (f15) ((x16)).toInt.toNat = (x_wr_drafted).toInt + smL (CVW f_nam f_var f_trm f_ter) ds f_wh (x_wr_held).toInt.toNat + lnX (nlQ 8) (CVW f_nam f_var f_trm f_ter) (dd + 1) ((p1).toInt - 9000).toNat := by omega
            have w24 : (x_wr_drafted).toInt + 1 ≤ ((z7)).toInt ∧ ((z7)).toInt ≤ (x_wr_drafted).toInt + 9 := by omega
            have w25 : 2 * (((x16)).toInt - (x_wr_held).toInt) ≤ 5 * (((z7)).toInt - (x_wr_drafted).toInt) + 2 := by omega
            have w26 : OKL (CVW f_nam f_var f_trm f_ter) (gh17) (f15) ((x16)).toInt := (okl_cast klp18_5 (by omega))
            exact W.vret hx hb hr (fun t ht hW => ⟨⟨(z7, x16, f8, f15, gh17), rfl, ⟨w21, w22, hf15, w23, w24, w25, w26⟩, by rw [ht]; exact hP, hD⟩, hS.F ht⟩) hS.2.2 dX9_putPart_131
          · have kc20 := (not_congr (cv_lt (rfl : (x14).toInt = (x14).toInt) (by decide : (0 : Int32).toInt = 0))).mp c20
            refine lv_aload_n hx hb dX9_putPart_92 rfl (lv_at hl 0 rfl) ?_
            refine lv_iload_n hx hb dX9_putPart_93 rfl (lv_at hl 1 rfl) ?_
            refine lv_iload_n hx hb dX9_putPart_94 rfl (lv_at hl 2 rfl) ?_
            refine lv_isub hx hb dX9_putPart_95 ?_
            refine lv_topi (fun z27 ez27 => ?_)
            have tz27 : (z27).toInt = (p1).toInt - (z1).toInt := by rw [ez27]; exact i_sub rfl rfl (by omega)
            have sz27 : 0 ≤ (z27).toInt ∧ (z27).toInt ≤ 9300 := by omega
            refine lv_aload_n hx hb dX9_putPart_96 rfl (lv_at hl 0 rfl) ?_
            refine va_get (D := (dC, dI)) (ci := 6) (v := .ref h_td) (C := RX9) (T := TX9) (N := 8) hx hb hw iwX9 hown hK hP 6 rfl rfl 0 (by decide) (hw _ w_f_X9_21) (fun _ h9 => h9) rfl dX9_putPart_97 ?_
            refine va_getN (D := (dC, dI)) (ci := 5) (v := .ref h_ter) (C := RX8) (T := TX8) (N := 10) (host := "OppositePairs") hx hb hw iwX8 hown hK hP 1 rfl rfl 3 (by decide) (hN.use n_f_X9_81 rfl) (fun _ h9 => h9) rfl dX9_putPart_100 ?_
            refine lv_iload_n hx hb dX9_putPart_103 rfl (lv_at hl 2 rfl) ?_
            refine lv_iconst (v := 3) hx hb dX9_putPart_104 (by decide) ?_
            refine lv_imul hx hb dX9_putPart_105 ?_
            refine lv_topi (fun z28 ez28 => ?_)
            have tz28 : (z28).toInt = (z1).toInt * 3 := by rw [ez28]; exact i_mul rfl (by decide) (by omega)
            refine lv_iload hx hb dX9_putPart_106 (lv_at hl 4 rfl) ?_
            refine lv_iadd hx hb dX9_putPart_108 ?_
            refine lv_topi (fun z29 ez29 => ?_)
            have tz29 : (z29).toInt = (z28).toInt + (x14).toInt := by rw [ez29]; exact i_add rfl rfl (by omega)
            refine va_iald hx hb hK hP 5 5 rfl rfl (i := z29) (vp_in_iff.mpr (by omega)) dX9_putPart_109 ?_
            refine lv_topi (fun z30 ez30 => ?_)
            have rz30 : 0 ≤ (z30).toInt ∧ (z30).toInt ≤ 299 := by rw [ez30]; exact hf_ter _
            refine lv_iadd hx hb dX9_putPart_110 ?_
            refine lv_topi (fun z31 ez31 => ?_)
            have tz31 : (z31).toInt = (z27).toInt + (z30).toInt := by rw [ez31]; exact i_add rfl rfl (by omega)
            have ch9 : ((z31).toInt - 9000).toNat = ((CVW f_nam f_var f_trm f_ter)).2.2.2 x9 (Int.toNat (x14).toInt) := by show _ = Int32.toNatClampNeg (f_ter (3 * x9 + Int.toNat (x14).toInt)); rw [show 3 * x9 + Int.toNat (x14).toInt = Int32.toNatClampNeg z29 by rw [clamp_nat (i := z29) (by omega)]; omega, ← ez30, clamp_nat (i := z30) (by omega)]; omega
            have wc9 := wg6 (Int.toNat (x14).toInt) (by omega)
            rw [← ch9] at wc9
            have sn9 : slX (nlQ 8) (CVW f_nam f_var f_trm f_ter) dd x9 (Int.toNat ((x14).toInt + 1)) = slX (nlQ 8) (CVW f_nam f_var f_trm f_ter) dd x9 (Int.toNat (x14).toInt) + (1 + lnX (nlQ 8) (CVW f_nam f_var f_trm f_ter) dd ((z31).toInt - 9000).toNat) := by have e9 : Int.toNat ((x14).toInt + 1) = Int.toNat (x14).toInt + 1 := (by omega); rw [e9, ch9]; rfl
            obtain ⟨vq32, evq32⟩ := mq38_37 v_wr (.ref h_td) (.ref h_wd) (.int z7)
            replace hP : va_P (dC, dI) cls [(h_wh, .inl (cy_wh, 2048, .inl f15)), (h_td, .inr (5, (mo21 v_td (.ref h_nam) (.ref h_var) (.ref h_trm) (.ref h_ter)))), (h_nam, .inl (cy_nam, 300, .inr (.inl f_nam))), (h_var, .inl (cy_var, 300, .inl f_var)), (h_trm, .inl (cy_trm, 300, .inl f_trm)), (h_ter, .inl (cy_ter, 900, .inl f_ter)), (h_wr, .inr (6, (mo37 vq32 (.ref h_wh) (.int x16)))), (h_wd, .inl (cy_wd, 616, .inl f8))] H := by rw [evq32]; exact hP
            replace hD : va_D A [(h_wh, .inl (cy_wh, 2048, .inl f15)), (h_td, .inr (5, (mo21 v_td (.ref h_nam) (.ref h_var) (.ref h_trm) (.ref h_ter)))), (h_nam, .inl (cy_nam, 300, .inr (.inl f_nam))), (h_var, .inl (cy_var, 300, .inl f_var)), (h_trm, .inl (cy_trm, 300, .inl f_trm)), (h_ter, .inl (cy_ter, 900, .inl f_ter)), (h_wr, .inr (6, (mo37 vq32 (.ref h_wh) (.int x16)))), (h_wd, .inl (cy_wd, 616, .inl f8))] := by rw [evq32]; exact hD
            have hPc := hP.sub (ws' := [(h_wr, .inr (6, (mo37 vq32 (.ref h_wh) (.int x16)))), (h_wh, .inl (cy_wh, 2048, .inl f15))]) [6, 0] rfl
            have hDc := hD.sub (ws' := [(h_wr, .inr (6, (mo37 vq32 (.ref h_wh) (.int x16)))), (h_wh, .inl (cy_wh, 2048, .inl f15))]) [6, 0] (by decide) rfl
            have hKc := hK.sub (tys' := [(cy_wh, .int)]) [1] rfl
            have hFc := va_free (wc := [(h_wr, .inr (6, (mo37 vq32 (.ref h_wh) (.int x16)))), (h_wh, .inl (cy_wh, 2048, .inl f15))]) hD hS hA [6, 0] rfl
            refine va_callv (va_runV (As := [.int z31]) (rest := []) ⟨hx, hb, hml, hown, hts⟩ (c_X9_push l dC dI H.size h_wr h_wh vq32 x16 cy_wh f15 z31 (by first | exact klp18_2 | omega) hf15 (by omega)) (cwV 1 hts (gv hT w_m_X9_78 w_instanceMethod_X9_push ws_sel_X9_push w_ini_X9 w_code_X9_push) rfl rfl rfl (by decide +kernel) ⟨(Nat.le_of_ble_eq_true rfl), (Nat.le_of_ble_eq_true rfl)⟩) ⟨pre_blind, va_recv hK hP (ci := 6) (q0 := 6) rfl rfl, pre_of hPc hKc hDc hN⟩ rfl rfl hl.1 rfl (lv_room (Nat.le_of_ble_eq_true rfl)) dX9_putPart_111 ⟨(Nat.le_of_ble_eq_true rfl), (Nat.le_of_ble_eq_true rfl)⟩) hS (fun q _ h => hFc q h) hFc (fun u t H locs ht hvm hq hB hz1 hk1 hS9 => ?_)
            obtain ⟨z34, f35⟩ := u
            obtain ⟨hP1, hD1⟩ := hB
            rw [ht] at hP1
            obtain ⟨hP9, hD9⟩ := va_join (wr := [(h_td, .inr (5, (mo21 v_td (.ref h_nam) (.ref h_var) (.ref h_trm) (.ref h_ter)))), (h_nam, .inl (cy_nam, 300, .inr (.inl f_nam))), (h_var, .inl (cy_var, 300, .inl f_var)), (h_trm, .inl (cy_trm, 300, .inl f_trm)), (h_ter, .inl (cy_ter, 900, .inl f_ter)), (h_wd, .inl (cy_wd, 616, .inl f8))]) (w1 := [(h_wr, .inr (6, (mo37 vq32 (.ref h_wh) (.int z34)))), (h_wh, .inl (cy_wh, 2048, .inl f35))]) hP hD [6, 0] [1, 2, 3, 4, 5, 7] rfl rfl (by decide) (by decide) hk1 hFc hP1 hD1
            clear hP hD hS hPc hDc hKc hFc hP1 hD1 hk1 hz1 ht hvm
            have hP : va_P (dC, dI) cls [(h_td, .inr (5, (mo21 v_td (.ref h_nam) (.ref h_var) (.ref h_trm) (.ref h_ter)))), (h_nam, .inl (cy_nam, 300, .inr (.inl f_nam))), (h_var, .inl (cy_var, 300, .inl f_var)), (h_trm, .inl (cy_trm, 300, .inl f_trm)), (h_ter, .inl (cy_ter, 900, .inl f_ter)), (h_wd, .inl (cy_wd, 616, .inl f8)), (h_wr, .inr (6, (mo37 vq32 (.ref h_wh) (.int z34)))), (h_wh, .inl (cy_wh, 2048, .inl f35))] H := hP9
            have hD : va_D A [(h_td, .inr (5, (mo21 v_td (.ref h_nam) (.ref h_var) (.ref h_trm) (.ref h_ter)))), (h_nam, .inl (cy_nam, 300, .inr (.inl f_nam))), (h_var, .inl (cy_var, 300, .inl f_var)), (h_trm, .inl (cy_trm, 300, .inl f_trm)), (h_ter, .inl (cy_ter, 900, .inl f_ter)), (h_wd, .inl (cy_wd, 616, .inl f8)), (h_wr, .inr (6, (mo37 vq32 (.ref h_wh) (.int z34)))), (h_wh, .inl (cy_wh, 2048, .inl f35))] := hD9
            have hS := hS9
            clear hP9 hD9 hS9
            rw [evq32] at hP hD
            replace hP : va_P (dC, dI) cls [(h_td, .inr (5, (mo21 v_td (.ref h_nam) (.ref h_var) (.ref h_trm) (.ref h_ter)))), (h_nam, .inl (cy_nam, 300, .inr (.inl f_nam))), (h_var, .inl (cy_var, 300, .inl f_var)), (h_trm, .inl (cy_trm, 300, .inl f_trm)), (h_ter, .inl (cy_ter, 900, .inl f_ter)), (h_wd, .inl (cy_wd, 616, .inl f8)), (h_wr, .inr (6, (mo38 v_wr (.ref h_td) (.ref h_wd) (.int z7) (.ref h_wh) (.int z34)))), (h_wh, .inl (cy_wh, 2048, .inl f35))] H := hP
            replace hD : va_D A [(h_td, .inr (5, (mo21 v_td (.ref h_nam) (.ref h_var) (.ref h_trm) (.ref h_ter)))), (h_nam, .inl (cy_nam, 300, .inr (.inl f_nam))), (h_var, .inl (cy_var, 300, .inl f_var)), (h_trm, .inl (cy_trm, 300, .inl f_trm)), (h_ter, .inl (cy_ter, 900, .inl f_ter)), (h_wd, .inl (cy_wd, 616, .inl f8)), (h_wr, .inr (6, (mo38 v_wr (.ref h_td) (.ref h_wd) (.int z7) (.ref h_wh) (.int z34)))), (h_wh, .inl (cy_wh, 2048, .inl f35))] := hD
            clear evq32 
            obtain ⟨k36, hf35, k37, k38⟩ := hq
            replace k36 : 0 ≤ ((z34)).toInt ∧ ((z34)).toInt ≤ 2048 := k36
            replace hf35 : Rg (-127) 9599 (f35) := hf35
            replace k37 : (2048 ≤ ((x16)).toInt ∧ ((z34)).toInt = ((x16)).toInt) ∨ (((x16)).toInt < 2048 ∧ ((z34)).toInt = ((x16)).toInt + 1) := k37
            replace k38 : PUS (f15) (f35) (x16) (z31) := k38
            have eh9 := k38 (by omega)
            obtain ⟨es40, ok39, sm41⟩ := hol_push (d := dd) (n' := (z34).toInt) klp18_5 rfl (by omega) (Or.inr ⟨by omega, by omega, wc9⟩) eh9 (by omega)
            rw [wlX_pos (by omega)] at sm41
            refine lv_iload hx hb dX9_putPart_114 (lv_at hl 4 rfl) ?_
            refine lv_if_le (tgt := 125) hx hb dX9_putPart_116 (by decide) (fun c42 => ?_) (fun c42 => ?_)
            · have kc42 := (cv_le (rfl : (x14).toInt = (x14).toInt) (by decide : (0 : Int32).toInt = 0)).mp c42
              obtain ⟨z43, ez43⟩ : ∃ y : Int32, y = x14 + (-1) := ⟨_, rfl⟩
              have tz43 : (z43).toInt = (x14).toInt + -1 := by rw [ez43]; exact i_add rfl (by decide) (by omega)
              refine lv_iinc (v := z43) (lv' := [(4, .int z43), (0, .ref h_wr), (1, .int p1), (2, .int z1), (3, .int z11)]) hx hb dX9_putPart_125 hl (k := 4) rfl (by rw [ez43]; rfl) (by decide) rfl (fun ls hl => ?_)
              refine lv_goto (tgt := 87) hx hb dX9_putPart_128 (by decide) ?_
              replace hP : va_P (dC, dI) cls [(h_wh, .inl (cy_wh, 2048, .inl f35)), (h_td, .inr (5, (mo21 v_td (.ref h_nam) (.ref h_var) (.ref h_trm) (.ref h_ter)))), (h_nam, .inl (cy_nam, 300, .inr (.inl f_nam))), (h_var, .inl (cy_var, 300, .inl f_var)), (h_trm, .inl (cy_trm, 300, .inl f_trm)), (h_ter, .inl (cy_ter, 900, .inl f_ter)), (h_wr, .inr (6, (mo38 v_wr (.ref h_td) (.ref h_wd) (.int z7) (.ref h_wh) (.int z34)))), (h_wd, .inl (cy_wd, 616, .inl f8))] H := hP.sub [7, 0, 1, 2, 3, 4, 6, 5] rfl
              replace hD : va_D A [(h_wh, .inl (cy_wh, 2048, .inl f35)), (h_td, .inr (5, (mo21 v_td (.ref h_nam) (.ref h_var) (.ref h_trm) (.ref h_ter)))), (h_nam, .inl (cy_nam, 300, .inr (.inl f_nam))), (h_var, .inl (cy_var, 300, .inl f_var)), (h_trm, .inl (cy_trm, 300, .inl f_trm)), (h_ter, .inl (cy_ter, 900, .inl f_ter)), (h_wr, .inr (6, (mo38 v_wr (.ref h_td) (.ref h_wd) (.int z7) (.ref h_wh) (.int z34)))), (h_wd, .inl (cy_wd, 616, .inl f8))] := hD.sub [7, 0, 1, 2, 3, 4, 6, 5] (by decide) rfl
              have eb9 : slX (nlQ 8) (CVW f_nam f_var f_trm f_ter) dd x9 (Int.toNat ((z43).toInt + 1)) = slX (nlQ 8) (CVW f_nam f_var f_trm f_ter) dd x9 (Int.toNat (x14).toInt) := by rw [show Int.toNat ((z43).toInt + 1) = Int.toNat (x14).toInt by omega]
              have ez9 : (x14).toInt = 0 → slX (nlQ 8) (CVW f_nam f_var f_trm f_ter) dd x9 (Int.toNat (x14).toInt) = 0 := fun h9 => by rw [h9]; rfl
              exact ih19 (z43) (f35) (z34) (es40) _ _ _ (by omega) hf35 (by first | exact k36 | omega) (by omega) (by omega) (okl_cast ok39 (by omega)) (by omega) hP hD hS (lv_sub hl [1, 2, 3, 4, 0] rfl)
            · have kc42 := (not_congr (cv_le (rfl : (x14).toInt = (x14).toInt) (by decide : (0 : Int32).toInt = 0))).mp c42
              refine lv_aload_n hx hb dX9_putPart_119 rfl (lv_at hl 0 rfl) ?_
              refine lv_bipush (v := (-44)) hx hb dX9_putPart_120 (by decide) ?_
              obtain ⟨vq44, evq44⟩ := mq38_37 v_wr (.ref h_td) (.ref h_wd) (.int z7)
              replace hP : va_P (dC, dI) cls [(h_td, .inr (5, (mo21 v_td (.ref h_nam) (.ref h_var) (.ref h_trm) (.ref h_ter)))), (h_nam, .inl (cy_nam, 300, .inr (.inl f_nam))), (h_var, .inl (cy_var, 300, .inl f_var)), (h_trm, .inl (cy_trm, 300, .inl f_trm)), (h_ter, .inl (cy_ter, 900, .inl f_ter)), (h_wd, .inl (cy_wd, 616, .inl f8)), (h_wr, .inr (6, (mo37 vq44 (.ref h_wh) (.int z34)))), (h_wh, .inl (cy_wh, 2048, .inl f35))] H := by rw [evq44]; exact hP
              replace hD : va_D A [(h_td, .inr (5, (mo21 v_td (.ref h_nam) (.ref h_var) (.ref h_trm) (.ref h_ter)))), (h_nam, .inl (cy_nam, 300, .inr (.inl f_nam))), (h_var, .inl (cy_var, 300, .inl f_var)), (h_trm, .inl (cy_trm, 300, .inl f_trm)), (h_ter, .inl (cy_ter, 900, .inl f_ter)), (h_wd, .inl (cy_wd, 616, .inl f8)), (h_wr, .inr (6, (mo37 vq44 (.ref h_wh) (.int z34)))), (h_wh, .inl (cy_wh, 2048, .inl f35))] := by rw [evq44]; exact hD
              have cstm44 : ((-44) : Int32).toInt = -44 := by decide
              have hPc := hP.sub (ws' := [(h_wr, .inr (6, (mo37 vq44 (.ref h_wh) (.int z34)))), (h_wh, .inl (cy_wh, 2048, .inl f35))]) [6, 7] rfl
              have hDc := hD.sub (ws' := [(h_wr, .inr (6, (mo37 vq44 (.ref h_wh) (.int z34)))), (h_wh, .inl (cy_wh, 2048, .inl f35))]) [6, 7] (by decide) rfl
              have hKc := hK.sub (tys' := [(cy_wh, .int)]) [1] rfl
              have hFc := va_free (wc := [(h_wr, .inr (6, (mo37 vq44 (.ref h_wh) (.int z34)))), (h_wh, .inl (cy_wh, 2048, .inl f35))]) hD hS hA [6, 7] rfl
              refine va_callv (va_runV (As := [.int (-44)]) (rest := []) ⟨hx, hb, hml, hown, hts⟩ (c_X9_push l dC dI H.size h_wr h_wh vq44 z34 cy_wh f35 (-44) (by first | exact k36 | omega) hf35 (by omega)) (cwV 1 hts (gv hT w_m_X9_78 w_instanceMethod_X9_push ws_sel_X9_push w_ini_X9 w_code_X9_push) rfl rfl rfl (by decide +kernel) ⟨(Nat.le_of_ble_eq_true rfl), (Nat.le_of_ble_eq_true rfl)⟩) ⟨pre_blind, va_recv hK hP (ci := 6) (q0 := 6) rfl rfl, pre_of hPc hKc hDc hN⟩ rfl rfl hl.1 rfl (lv_room (Nat.le_of_ble_eq_true rfl)) dX9_putPart_122 ⟨(Nat.le_of_ble_eq_true rfl), (Nat.le_of_ble_eq_true rfl)⟩) hS (fun q _ h => hFc q h) hFc (fun u t H locs ht hvm hq hB hz1 hk1 hS9 => ?_)
              obtain ⟨z46, f47⟩ := u
              obtain ⟨hP1, hD1⟩ := hB
              rw [ht] at hP1
              obtain ⟨hP9, hD9⟩ := va_join (wr := [(h_td, .inr (5, (mo21 v_td (.ref h_nam) (.ref h_var) (.ref h_trm) (.ref h_ter)))), (h_nam, .inl (cy_nam, 300, .inr (.inl f_nam))), (h_var, .inl (cy_var, 300, .inl f_var)), (h_trm, .inl (cy_trm, 300, .inl f_trm)), (h_ter, .inl (cy_ter, 900, .inl f_ter)), (h_wd, .inl (cy_wd, 616, .inl f8))]) (w1 := [(h_wr, .inr (6, (mo37 vq44 (.ref h_wh) (.int z46)))), (h_wh, .inl (cy_wh, 2048, .inl f47))]) hP hD [6, 7] [0, 1, 2, 3, 4, 5] rfl rfl (by decide) (by decide) hk1 hFc hP1 hD1
              clear hP hD hS hPc hDc hKc hFc hP1 hD1 hk1 hz1 ht hvm
              have hP : va_P (dC, dI) cls [(h_td, .inr (5, (mo21 v_td (.ref h_nam) (.ref h_var) (.ref h_trm) (.ref h_ter)))), (h_nam, .inl (cy_nam, 300, .inr (.inl f_nam))), (h_var, .inl (cy_var, 300, .inl f_var)), (h_trm, .inl (cy_trm, 300, .inl f_trm)), (h_ter, .inl (cy_ter, 900, .inl f_ter)), (h_wd, .inl (cy_wd, 616, .inl f8)), (h_wr, .inr (6, (mo37 vq44 (.ref h_wh) (.int z46)))), (h_wh, .inl (cy_wh, 2048, .inl f47))] H := hP9
              have hD : va_D A [(h_td, .inr (5, (mo21 v_td (.ref h_nam) (.ref h_var) (.ref h_trm) (.ref h_ter)))), (h_nam, .inl (cy_nam, 300, .inr (.inl f_nam))), (h_var, .inl (cy_var, 300, .inl f_var)), (h_trm, .inl (cy_trm, 300, .inl f_trm)), (h_ter, .inl (cy_ter, 900, .inl f_ter)), (h_wd, .inl (cy_wd, 616, .inl f8)), (h_wr, .inr (6, (mo37 vq44 (.ref h_wh) (.int z46)))), (h_wh, .inl (cy_wh, 2048, .inl f47))] := hD9
              have hS := hS9
              clear hP9 hD9 hS9
              rw [evq44] at hP hD
              replace hP : va_P (dC, dI) cls [(h_td, .inr (5, (mo21 v_td (.ref h_nam) (.ref h_var) (.ref h_trm) (.ref h_ter)))), (h_nam, .inl (cy_nam, 300, .inr (.inl f_nam))), (h_var, .inl (cy_var, 300, .inl f_var)), (h_trm, .inl (cy_trm, 300, .inl f_trm)), (h_ter, .inl (cy_ter, 900, .inl f_ter)), (h_wd, .inl (cy_wd, 616, .inl f8)), (h_wr, .inr (6, (mo38 v_wr (.ref h_td) (.ref h_wd) (.int z7) (.ref h_wh) (.int z46)))), (h_wh, .inl (cy_wh, 2048, .inl f47))] H := hP
              replace hD : va_D A [(h_td, .inr (5, (mo21 v_td (.ref h_nam) (.ref h_var) (.ref h_trm) (.ref h_ter)))), (h_nam, .inl (cy_nam, 300, .inr (.inl f_nam))), (h_var, .inl (cy_var, 300, .inl f_var)), (h_trm, .inl (cy_trm, 300, .inl f_trm)), (h_ter, .inl (cy_ter, 900, .inl f_ter)), (h_wd, .inl (cy_wd, 616, .inl f8)), (h_wr, .inr (6, (mo38 v_wr (.ref h_td) (.ref h_wd) (.int z7) (.ref h_wh) (.int z46)))), (h_wh, .inl (cy_wh, 2048, .inl f47))] := hD
              clear evq44 
              obtain ⟨k48, hf47, k49, k50⟩ := hq
              replace k48 : 0 ≤ ((z46)).toInt ∧ ((z46)).toInt ≤ 2048 := k48
              replace hf47 : Rg (-127) 9599 (f47) := hf47
              replace k49 : (2048 ≤ ((z34)).toInt ∧ ((z46)).toInt = ((z34)).toInt) ∨ (((z34)).toInt < 2048 ∧ ((z46)).toInt = ((z34)).toInt + 1) := k49
              replace k50 : PUS (f35) (f47) (z34) ((-44) : Int32) := k50
              have eh9 := k50 (by omega)
              obtain ⟨es52, ok51, sm53⟩ := hol_push (d := 0) (n' := (z46).toInt) ok39 rfl (by omega) (Or.inl (by decide)) eh9 (by omega)
              rw [wlX_neg (by decide)] at sm53
              obtain ⟨z54, ez54⟩ : ∃ y : Int32, y = x14 + (-1) := ⟨_, rfl⟩
              have tz54 : (z54).toInt = (x14).toInt + -1 := by rw [ez54]; exact i_add rfl (by decide) (by omega)
              refine lv_iinc (v := z54) (lv' := [(4, .int z54), (0, .ref h_wr), (1, .int p1), (2, .int z1), (3, .int z11)]) hx hb dX9_putPart_125 hl (k := 4) rfl (by rw [ez54]; rfl) (by decide) rfl (fun ls hl => ?_)
              refine lv_goto (tgt := 87) hx hb dX9_putPart_128 (by decide) ?_
              replace hP : va_P (dC, dI) cls [(h_wh, .inl (cy_wh, 2048, .inl f47)), (h_td, .inr (5, (mo21 v_td (.ref h_nam) (.ref h_var) (.ref h_trm) (.ref h_ter)))), (h_nam, .inl (cy_nam, 300, .inr (.inl f_nam))), (h_var, .inl (cy_var, 300, .inl f_var)), (h_trm, .inl (cy_trm, 300, .inl f_trm)), (h_ter, .inl (cy_ter, 900, .inl f_ter)), (h_wr, .inr (6, (mo38 v_wr (.ref h_td) (.ref h_wd) (.int z7) (.ref h_wh) (.int z46)))), (h_wd, .inl (cy_wd, 616, .inl f8))] H := hP.sub [7, 0, 1, 2, 3, 4, 6, 5] rfl
              replace hD : va_D A [(h_wh, .inl (cy_wh, 2048, .inl f47)), (h_td, .inr (5, (mo21 v_td (.ref h_nam) (.ref h_var) (.ref h_trm) (.ref h_ter)))), (h_nam, .inl (cy_nam, 300, .inr (.inl f_nam))), (h_var, .inl (cy_var, 300, .inl f_var)), (h_trm, .inl (cy_trm, 300, .inl f_trm)), (h_ter, .inl (cy_ter, 900, .inl f_ter)), (h_wr, .inr (6, (mo38 v_wr (.ref h_td) (.ref h_wd) (.int z7) (.ref h_wh) (.int z46)))), (h_wd, .inl (cy_wd, 616, .inl f8))] := hD.sub [7, 0, 1, 2, 3, 4, 6, 5] (by decide) rfl
              have eb9 : slX (nlQ 8) (CVW f_nam f_var f_trm f_ter) dd x9 (Int.toNat ((z54).toInt + 1)) = slX (nlQ 8) (CVW f_nam f_var f_trm f_ter) dd x9 (Int.toNat (x14).toInt) := by rw [show Int.toNat ((z54).toInt + 1) = Int.toNat (x14).toInt by omega]
              have ez9 : (x14).toInt = 0 → slX (nlQ 8) (CVW f_nam f_var f_trm f_ter) dd x9 (Int.toNat (x14).toInt) = 0 := fun h9 => by rw [h9]; rfl
              exact ih19 (z54) (f47) (z46) (es52) _ _ _ (by omega) hf47 (by first | exact k48 | omega) (by omega) (by omega) (okl_cast ok51 (by omega)) (by omega) hP hD hS (lv_sub hl [1, 2, 3, 4, 0] rfl)
      exact lp18 _ (z13) (f_wh) (x_wr_held) (ds) _ _ _ (by omega) hf_wh (by first | exact hx_wr_held | omega) (by omega) (by omega) (okl_cast hn_okl (by omega)) (Nat.le_refl _) hP hD hS (lv_sub hl [3, 4, 2, 1, 0] rfl)
    · have kc12 := (not_congr (cv_le (rfl : (z11).toInt = (z11).toInt) (by decide : (0 : Int32).toInt = 0))).mp c12
      refine lv_aload_n hx hb dX9_putPart_70 rfl (lv_at hl 2 rfl) ?_
      refine lv_bipush (v := 40) hx hb dX9_putPart_71 (by decide) ?_
      obtain ⟨vq55, evq55⟩ := mq38_36 v_wr (.ref h_td) (.ref h_wh) (.int x_wr_held)
      replace hP : va_P (dC, dI) cls [(h_wh, .inl (cy_wh, 2048, .inl f_wh)), (h_td, .inr (5, (mo21 v_td (.ref h_nam) (.ref h_var) (.ref h_trm) (.ref h_ter)))), (h_nam, .inl (cy_nam, 300, .inr (.inl f_nam))), (h_var, .inl (cy_var, 300, .inl f_var)), (h_trm, .inl (cy_trm, 300, .inl f_trm)), (h_ter, .inl (cy_ter, 900, .inl f_ter)), (h_wr, .inr (6, (mo36 vq55 (.ref h_wd) (.int z7)))), (h_wd, .inl (cy_wd, 616, .inl f8))] H := by rw [evq55]; exact hP
      replace hD : va_D A [(h_wh, .inl (cy_wh, 2048, .inl f_wh)), (h_td, .inr (5, (mo21 v_td (.ref h_nam) (.ref h_var) (.ref h_trm) (.ref h_ter)))), (h_nam, .inl (cy_nam, 300, .inr (.inl f_nam))), (h_var, .inl (cy_var, 300, .inl f_var)), (h_trm, .inl (cy_trm, 300, .inl f_trm)), (h_ter, .inl (cy_ter, 900, .inl f_ter)), (h_wr, .inr (6, (mo36 vq55 (.ref h_wd) (.int z7)))), (h_wd, .inl (cy_wd, 616, .inl f8))] := by rw [evq55]; exact hD
      have cst40 : (40 : Int32).toInt = 40 := by decide
      have hPc := hP.sub (ws' := [(h_wr, .inr (6, (mo36 vq55 (.ref h_wd) (.int z7)))), (h_wd, .inl (cy_wd, 616, .inl f8))]) [6, 7] rfl
      have hDc := hD.sub (ws' := [(h_wr, .inr (6, (mo36 vq55 (.ref h_wd) (.int z7)))), (h_wd, .inl (cy_wd, 616, .inl f8))]) [6, 7] (by decide) rfl
      have hKc := hK.sub (tys' := [(cy_wd, .int)]) [0] rfl
      have hFc := va_free (wc := [(h_wr, .inr (6, (mo36 vq55 (.ref h_wd) (.int z7)))), (h_wd, .inl (cy_wd, 616, .inl f8))]) hD hS hA [6, 7] rfl
      refine va_callv (va_runV (As := [.int 40]) (rest := []) ⟨hx, hb, hml, hown, hts⟩ (c_X9_put l dC dI H.size h_wr h_wd vq55 z7 cy_wd f8 40 (by first | exact k9 | omega)) (cwV 1 hts (gv hT w_m_X9_33 w_instanceMethod_X9_put ws_sel_X9_put w_ini_X9 w_code_X9_put) rfl rfl rfl (by decide +kernel) ⟨(Nat.le_of_ble_eq_true rfl), (Nat.le_of_ble_eq_true rfl)⟩) ⟨pre_blind, va_recv hK hP (ci := 6) (q0 := 6) rfl rfl, pre_of hPc hKc hDc hN⟩ rfl rfl hl.1 rfl (lv_room (Nat.le_of_ble_eq_true rfl)) dX9_putPart_73 ⟨(Nat.le_of_ble_eq_true rfl), (Nat.le_of_ble_eq_true rfl)⟩) hS (fun q _ h => hFc q h) hFc (fun u t H locs ht hvm hq hB hz1 hk1 hS9 => ?_)
      obtain ⟨z57, f58⟩ := u
      obtain ⟨hP1, hD1⟩ := hB
      rw [ht] at hP1
      obtain ⟨hP9, hD9⟩ := va_join (wr := [(h_wh, .inl (cy_wh, 2048, .inl f_wh)), (h_td, .inr (5, (mo21 v_td (.ref h_nam) (.ref h_var) (.ref h_trm) (.ref h_ter)))), (h_nam, .inl (cy_nam, 300, .inr (.inl f_nam))), (h_var, .inl (cy_var, 300, .inl f_var)), (h_trm, .inl (cy_trm, 300, .inl f_trm)), (h_ter, .inl (cy_ter, 900, .inl f_ter))]) (w1 := [(h_wr, .inr (6, (mo36 vq55 (.ref h_wd) (.int z57)))), (h_wd, .inl (cy_wd, 616, .inl f58))]) hP hD [6, 7] [0, 1, 2, 3, 4, 5] rfl rfl (by decide) (by decide) hk1 hFc hP1 hD1
      clear hP hD hS hPc hDc hKc hFc hP1 hD1 hk1 hz1 ht hvm
      have hP : va_P (dC, dI) cls [(h_wh, .inl (cy_wh, 2048, .inl f_wh)), (h_td, .inr (5, (mo21 v_td (.ref h_nam) (.ref h_var) (.ref h_trm) (.ref h_ter)))), (h_nam, .inl (cy_nam, 300, .inr (.inl f_nam))), (h_var, .inl (cy_var, 300, .inl f_var)), (h_trm, .inl (cy_trm, 300, .inl f_trm)), (h_ter, .inl (cy_ter, 900, .inl f_ter)), (h_wr, .inr (6, (mo36 vq55 (.ref h_wd) (.int z57)))), (h_wd, .inl (cy_wd, 616, .inl f58))] H := hP9
      have hD : va_D A [(h_wh, .inl (cy_wh, 2048, .inl f_wh)), (h_td, .inr (5, (mo21 v_td (.ref h_nam) (.ref h_var) (.ref h_trm) (.ref h_ter)))), (h_nam, .inl (cy_nam, 300, .inr (.inl f_nam))), (h_var, .inl (cy_var, 300, .inl f_var)), (h_trm, .inl (cy_trm, 300, .inl f_trm)), (h_ter, .inl (cy_ter, 900, .inl f_ter)), (h_wr, .inr (6, (mo36 vq55 (.ref h_wd) (.int z57)))), (h_wd, .inl (cy_wd, 616, .inl f58))] := hD9
      have hS := hS9
      clear hP9 hD9 hS9
      rw [evq55] at hP hD
      replace hP : va_P (dC, dI) cls [(h_wh, .inl (cy_wh, 2048, .inl f_wh)), (h_td, .inr (5, (mo21 v_td (.ref h_nam) (.ref h_var) (.ref h_trm) (.ref h_ter)))), (h_nam, .inl (cy_nam, 300, .inr (.inl f_nam))), (h_var, .inl (cy_var, 300, .inl f_var)), (h_trm, .inl (cy_trm, 300, .inl f_trm)), (h_ter, .inl (cy_ter, 900, .inl f_ter)), (h_wr, .inr (6, (mo38 v_wr (.ref h_td) (.ref h_wd) (.int z57) (.ref h_wh) (.int x_wr_held)))), (h_wd, .inl (cy_wd, 616, .inl f58))] H := hP
      replace hD : va_D A [(h_wh, .inl (cy_wh, 2048, .inl f_wh)), (h_td, .inr (5, (mo21 v_td (.ref h_nam) (.ref h_var) (.ref h_trm) (.ref h_ter)))), (h_nam, .inl (cy_nam, 300, .inr (.inl f_nam))), (h_var, .inl (cy_var, 300, .inl f_var)), (h_trm, .inl (cy_trm, 300, .inl f_trm)), (h_ter, .inl (cy_ter, 900, .inl f_ter)), (h_wr, .inr (6, (mo38 v_wr (.ref h_td) (.ref h_wd) (.int z57) (.ref h_wh) (.int x_wr_held)))), (h_wd, .inl (cy_wd, 616, .inl f58))] := hD
      clear evq55 
      obtain ⟨k59, k60⟩ := hq
      replace k59 : 0 ≤ ((z57)).toInt ∧ ((z57)).toInt ≤ 616 := k59
      replace k60 : (616 ≤ ((z7)).toInt ∧ ((z57)).toInt = ((z7)).toInt) ∨ (((z7)).toInt < 616 ∧ ((z57)).toInt = ((z7)).toInt + 1) := k60
      refine lv_aload_n hx hb dX9_putPart_76 rfl (lv_at hl 2 rfl) ?_
      refine lv_bipush (v := (-41)) hx hb dX9_putPart_77 (by decide) ?_
      obtain ⟨vq61, evq61⟩ := mq38_37 v_wr (.ref h_td) (.ref h_wd) (.int z57)
      replace hP : va_P (dC, dI) cls [(h_wh, .inl (cy_wh, 2048, .inl f_wh)), (h_td, .inr (5, (mo21 v_td (.ref h_nam) (.ref h_var) (.ref h_trm) (.ref h_ter)))), (h_nam, .inl (cy_nam, 300, .inr (.inl f_nam))), (h_var, .inl (cy_var, 300, .inl f_var)), (h_trm, .inl (cy_trm, 300, .inl f_trm)), (h_ter, .inl (cy_ter, 900, .inl f_ter)), (h_wr, .inr (6, (mo37 vq61 (.ref h_wh) (.int x_wr_held)))), (h_wd, .inl (cy_wd, 616, .inl f58))] H := by rw [evq61]; exact hP
      replace hD : va_D A [(h_wh, .inl (cy_wh, 2048, .inl f_wh)), (h_td, .inr (5, (mo21 v_td (.ref h_nam) (.ref h_var) (.ref h_trm) (.ref h_ter)))), (h_nam, .inl (cy_nam, 300, .inr (.inl f_nam))), (h_var, .inl (cy_var, 300, .inl f_var)), (h_trm, .inl (cy_trm, 300, .inl f_trm)), (h_ter, .inl (cy_ter, 900, .inl f_ter)), (h_wr, .inr (6, (mo37 vq61 (.ref h_wh) (.int x_wr_held)))), (h_wd, .inl (cy_wd, 616, .inl f58))] := by rw [evq61]; exact hD
      have cstm41 : ((-41) : Int32).toInt = -41 := by decide
      have hPc := hP.sub (ws' := [(h_wr, .inr (6, (mo37 vq61 (.ref h_wh) (.int x_wr_held)))), (h_wh, .inl (cy_wh, 2048, .inl f_wh))]) [6, 0] rfl
      have hDc := hD.sub (ws' := [(h_wr, .inr (6, (mo37 vq61 (.ref h_wh) (.int x_wr_held)))), (h_wh, .inl (cy_wh, 2048, .inl f_wh))]) [6, 0] (by decide) rfl
      have hKc := hK.sub (tys' := [(cy_wh, .int)]) [1] rfl
      have hFc := va_free (wc := [(h_wr, .inr (6, (mo37 vq61 (.ref h_wh) (.int x_wr_held)))), (h_wh, .inl (cy_wh, 2048, .inl f_wh))]) hD hS hA [6, 0] rfl
      refine va_callv (va_runV (As := [.int (-41)]) (rest := []) ⟨hx, hb, hml, hown, hts⟩ (c_X9_push l dC dI H.size h_wr h_wh vq61 x_wr_held cy_wh f_wh (-41) (by first | exact hx_wr_held | omega) hf_wh (by omega)) (cwV 1 hts (gv hT w_m_X9_78 w_instanceMethod_X9_push ws_sel_X9_push w_ini_X9 w_code_X9_push) rfl rfl rfl (by decide +kernel) ⟨(Nat.le_of_ble_eq_true rfl), (Nat.le_of_ble_eq_true rfl)⟩) ⟨pre_blind, va_recv hK hP (ci := 6) (q0 := 6) rfl rfl, pre_of hPc hKc hDc hN⟩ rfl rfl hl.1 rfl (lv_room (Nat.le_of_ble_eq_true rfl)) dX9_putPart_79 ⟨(Nat.le_of_ble_eq_true rfl), (Nat.le_of_ble_eq_true rfl)⟩) hS (fun q _ h => hFc q h) hFc (fun u t H locs ht hvm hq hB hz1 hk1 hS9 => ?_)
      obtain ⟨z63, f64⟩ := u
      obtain ⟨hP1, hD1⟩ := hB
      rw [ht] at hP1
      obtain ⟨hP9, hD9⟩ := va_join (wr := [(h_td, .inr (5, (mo21 v_td (.ref h_nam) (.ref h_var) (.ref h_trm) (.ref h_ter)))), (h_nam, .inl (cy_nam, 300, .inr (.inl f_nam))), (h_var, .inl (cy_var, 300, .inl f_var)), (h_trm, .inl (cy_trm, 300, .inl f_trm)), (h_ter, .inl (cy_ter, 900, .inl f_ter)), (h_wd, .inl (cy_wd, 616, .inl f58))]) (w1 := [(h_wr, .inr (6, (mo37 vq61 (.ref h_wh) (.int z63)))), (h_wh, .inl (cy_wh, 2048, .inl f64))]) hP hD [6, 0] [1, 2, 3, 4, 5, 7] rfl rfl (by decide) (by decide) hk1 hFc hP1 hD1
      clear hP hD hS hPc hDc hKc hFc hP1 hD1 hk1 hz1 ht hvm
      have hP : va_P (dC, dI) cls [(h_td, .inr (5, (mo21 v_td (.ref h_nam) (.ref h_var) (.ref h_trm) (.ref h_ter)))), (h_nam, .inl (cy_nam, 300, .inr (.inl f_nam))), (h_var, .inl (cy_var, 300, .inl f_var)), (h_trm, .inl (cy_trm, 300, .inl f_trm)), (h_ter, .inl (cy_ter, 900, .inl f_ter)), (h_wd, .inl (cy_wd, 616, .inl f58)), (h_wr, .inr (6, (mo37 vq61 (.ref h_wh) (.int z63)))), (h_wh, .inl (cy_wh, 2048, .inl f64))] H := hP9
      have hD : va_D A [(h_td, .inr (5, (mo21 v_td (.ref h_nam) (.ref h_var) (.ref h_trm) (.ref h_ter)))), (h_nam, .inl (cy_nam, 300, .inr (.inl f_nam))), (h_var, .inl (cy_var, 300, .inl f_var)), (h_trm, .inl (cy_trm, 300, .inl f_trm)), (h_ter, .inl (cy_ter, 900, .inl f_ter)), (h_wd, .inl (cy_wd, 616, .inl f58)), (h_wr, .inr (6, (mo37 vq61 (.ref h_wh) (.int z63)))), (h_wh, .inl (cy_wh, 2048, .inl f64))] := hD9
      have hS := hS9
      clear hP9 hD9 hS9
      rw [evq61] at hP hD
      replace hP : va_P (dC, dI) cls [(h_td, .inr (5, (mo21 v_td (.ref h_nam) (.ref h_var) (.ref h_trm) (.ref h_ter)))), (h_nam, .inl (cy_nam, 300, .inr (.inl f_nam))), (h_var, .inl (cy_var, 300, .inl f_var)), (h_trm, .inl (cy_trm, 300, .inl f_trm)), (h_ter, .inl (cy_ter, 900, .inl f_ter)), (h_wd, .inl (cy_wd, 616, .inl f58)), (h_wr, .inr (6, (mo38 v_wr (.ref h_td) (.ref h_wd) (.int z57) (.ref h_wh) (.int z63)))), (h_wh, .inl (cy_wh, 2048, .inl f64))] H := hP
      replace hD : va_D A [(h_td, .inr (5, (mo21 v_td (.ref h_nam) (.ref h_var) (.ref h_trm) (.ref h_ter)))), (h_nam, .inl (cy_nam, 300, .inr (.inl f_nam))), (h_var, .inl (cy_var, 300, .inl f_var)), (h_trm, .inl (cy_trm, 300, .inl f_trm)), (h_ter, .inl (cy_ter, 900, .inl f_ter)), (h_wd, .inl (cy_wd, 616, .inl f58)), (h_wr, .inr (6, (mo38 v_wr (.ref h_td) (.ref h_wd) (.int z57) (.ref h_wh) (.int z63)))), (h_wh, .inl (cy_wh, 2048, .inl f64))] := hD
      clear evq61 
      obtain ⟨k65, hf64, k66, k67⟩ := hq
      replace k65 : 0 ≤ ((z63)).toInt ∧ ((z63)).toInt ≤ 2048 := k65
      replace hf64 : Rg (-127) 9599 (f64) := hf64
      replace k66 : (2048 ≤ ((x_wr_held)).toInt ∧ ((z63)).toInt = ((x_wr_held)).toInt) ∨ (((x_wr_held)).toInt < 2048 ∧ ((z63)).toInt = ((x_wr_held)).toInt + 1) := k66
      replace k67 : PUS f_wh (f64) (x_wr_held) ((-41) : Int32) := k67
      have eh9 := k67 (by omega)
      obtain ⟨es69, ok68, sm70⟩ := hol_push (d := 0) (n' := (z63).toInt) hn_okl rfl (by omega) (Or.inl (by decide)) eh9 (by omega)
      rw [wlX_neg (by decide)] at sm70
      refine lv_iload_n hx hb dX9_putPart_82 rfl (lv_at hl 0 rfl) ?_
      refine lv_iconst (v := 1) hx hb dX9_putPart_83 (by decide) ?_
      refine lv_isub hx hb dX9_putPart_84 ?_
      refine lv_topi (fun z71 ez71 => ?_)
      have tz71 : (z71).toInt = (z11).toInt - 1 := by rw [ez71]; exact i_sub rfl (by decide) (by omega)
      refine lv_istore (lv' := [(4, .int z71), (3, .int z11), (2, .int z1), (0, .ref h_wr), (1, .int p1)]) hx hb dX9_putPart_85 hl (by decide) rfl (fun ls hl => ?_)
      have ee9 : slX (nlQ 8) (CVW f_nam f_var f_trm f_ter) dd x9 (Int.toNat ((z71).toInt + 1)) = slX (nlQ 8) (CVW f_nam f_var f_trm f_ter) dd x9 M9 := by rw [show Int.toNat ((z71).toInt + 1) = M9 by omega]
      have em9 : M9 = 0 → slX (nlQ 8) (CVW f_nam f_var f_trm f_ter) dd x9 M9 = 0 := fun h9 => by rw [h9]; rfl
      have lp76 : ∀ (n : Nat) (x72 : Int32) (x73 : Int32) (f74 : Nat → Int32) (gh75 : Nat → Nat) (H : Heap) (locs : List Loc) (ls : Array Slot), (-1 ≤ (x72).toInt ∧ (x72).toInt ≤ 2) → (0 ≤ (x73).toInt ∧ (x73).toInt ≤ 2048) → (Rg (-127) 9599 f74) → ((x72).toInt ≤ (M9 : Int) - 1) → ((0 ≤ (x72).toInt ∧ (x73).toInt = (x_wr_held).toInt + 2 * ((M9 : Int) - 1 - (x72).toInt) + 1 ∧ smL (CVW f_nam f_var f_trm f_ter) gh75 f74 (Int.toNat ((x73).toInt)) = smL (CVW f_nam f_var f_trm f_ter) ds f_wh (x_wr_held).toInt.toNat + slX (nlQ 8) (CVW f_nam f_var f_trm f_ter) dd x9 M9 - slX (nlQ 8) (CVW f_nam f_var f_trm f_ter) dd x9 (Int.toNat ((x72).toInt + 1)) + 1) ∨ ((x72).toInt = -1 ∧ (x73).toInt = (x_wr_held).toInt + 2 * (M9 : Int) ∧ smL (CVW f_nam f_var f_trm f_ter) gh75 f74 (Int.toNat ((x73).toInt)) = smL (CVW f_nam f_var f_trm f_ter) ds f_wh (x_wr_held).toInt.toNat + slX (nlQ 8) (CVW f_nam f_var f_trm f_ter) dd x9 M9)) → (OKL (CVW f_nam f_var f_trm f_ter) gh75 f74 (x73).toInt) → ((x72).toInt + 1).toNat + 1 ≤ n → va_P (dC, dI) cls [(h_td, .inr (5, (mo21 v_td (.ref h_nam) (.ref h_var) (.ref h_trm) (.ref h_ter)))), (h_nam, .inl (cy_nam, 300, .inr (.inl f_nam))), (h_var, .inl (cy_var, 300, .inl f_var)), (h_trm, .inl (cy_trm, 300, .inl f_trm)), (h_ter, .inl (cy_ter, 900, .inl f_ter)), (h_wd, .inl (cy_wd, 616, .inl f58)), (h_wr, .inr (6, (mo38 v_wr (.ref h_td) (.ref h_wd) (.int z57) (.ref h_wh) (.int x73)))), (h_wh, .inl (cy_wh, 2048, .inl f74))] H → va_D A [(h_td, .inr (5, (mo21 v_td (.ref h_nam) (.ref h_var) (.ref h_trm) (.ref h_ter)))), (h_nam, .inl (cy_nam, 300, .inr (.inl f_nam))), (h_var, .inl (cy_var, 300, .inl f_var)), (h_trm, .inl (cy_trm, 300, .inl f_trm)), (h_ter, .inl (cy_ter, 900, .inl f_ter)), (h_wd, .inl (cy_wd, 616, .inl f58)), (h_wr, .inr (6, (mo38 v_wr (.ref h_td) (.ref h_wd) (.int z57) (.ref h_wh) (.int x73)))), (h_wh, .inl (cy_wh, 2048, .inl f74))] → va_S A s.heap H locs → lv_has ls 5 [(0, .ref h_wr), (1, .int p1), (2, .int z1), (3, .int z11), (4, .int x72)] → W p l e ({ frames := 2, cells := 0, slots := 0, locals := 45 } : Room) s m ([.ref h_wr, .int p1] : List Value).toArray below meth c H locs 0 0 (MQ below (va_Qv (fun (u : (Int32) × (Int32) × (Nat → Int32) × (Nat → Int32) × (Nat → Nat)) => (0 ≤ (u.1).toInt ∧ (u.1).toInt ≤ 616) ∧ (0 ≤ (u.2.1).toInt ∧ (u.2.1).toInt ≤ 2048) ∧ (Rg (-127) 9599 u.2.2.2.1) ∧ ((u.1).toInt + smL (CVW f_nam f_var f_trm f_ter) u.2.2.2.2 u.2.2.2.1 (u.2.1).toInt.toNat = (x_wr_drafted).toInt + smL (CVW f_nam f_var f_trm f_ter) ds f_wh (x_wr_held).toInt.toNat + lnX (nlQ 8) (CVW f_nam f_var f_trm f_ter) (dd + 1) ((p1).toInt - 9000).toNat) ∧ ((x_wr_drafted).toInt + 1 ≤ (u.1).toInt ∧ (u.1).toInt ≤ (x_wr_drafted).toInt + 9) ∧ (2 * ((u.2.1).toInt - (x_wr_held).toInt) ≤ 5 * ((u.1).toInt - (x_wr_drafted).toInt) + 2) ∧ (OKL (CVW f_nam f_var f_trm f_ter) u.2.2.2.2 u.2.2.2.1 (u.2.1).toInt)) (fun (u : (Int32) × (Int32) × (Nat → Int32) × (Nat → Int32) × (Nat → Nat)) (t : State) => va_P (dC, dI) cls [(h_wr, .inr (6, (mo38 v_wr (.ref h_td) (.ref h_wd) (.int u.1) (.ref h_wh) (.int u.2.1)))), (h_wd, .inl (cy_wd, 616, .inl u.2.2.1)), (h_wh, .inl (cy_wh, 2048, .inl u.2.2.2.1)), (h_td, .inr (5, (mo21 v_td (.ref h_nam) (.ref h_var) (.ref h_trm) (.ref h_ter)))), (h_nam, .inl (cy_nam, 300, .inr (.inl f_nam))), (h_var, .inl (cy_var, 300, .inl f_var)), (h_trm, .inl (cy_trm, 300, .inl f_trm)), (h_ter, .inl (cy_ter, 900, .inl f_ter))] t.heap ∧ va_D A [(h_wr, .inr (6, (mo38 v_wr (.ref h_td) (.ref h_wd) (.int u.1) (.ref h_wh) (.int u.2.1)))), (h_wd, .inl (cy_wd, 616, .inl u.2.2.1)), (h_wh, .inl (cy_wh, 2048, .inl u.2.2.2.1)), (h_td, .inr (5, (mo21 v_td (.ref h_nam) (.ref h_var) (.ref h_trm) (.ref h_ter)))), (h_nam, .inl (cy_nam, 300, .inr (.inl f_nam))), (h_var, .inl (cy_var, 300, .inl f_var)), (h_trm, .inl (cy_trm, 300, .inl f_trm)), (h_ter, .inl (cy_ter, 900, .inl f_ter))]) A) ([.ref h_wr, .int p1] : List Value).toArray s 0 0 A) (F0 m 87 ls []) := by
        clear hP hD hS hl
        intro n
        induction n with
        | zero => intro x72 x73 f74 gh75 H locs ls klp76_0 klp76_1 hf74 klp76_3 klp76_4 klp76_5 hm hP hD hS hl; exact False.elim (by omega)
        | succ n ih => 
          intro x72 x73 f74 gh75 H locs ls klp76_0 klp76_1 hf74 klp76_3 klp76_4 klp76_5 hm hP hD hS hl
          have ih77 := ih
          clear ih
          refine lv_iload hx hb dX9_putPart_87 (lv_at hl 4 rfl) ?_
          refine lv_if_lt (tgt := 131) hx hb dX9_putPart_89 (by decide) (fun c78 => ?_) (fun c78 => ?_)
          · have kc78 := (cv_lt (rfl : (x72).toInt = (x72).toInt) (by decide : (0 : Int32).toInt = 0)).mp c78
            replace hP : va_P (dC, dI) cls [(h_wr, .inr (6, (mo38 v_wr (.ref h_td) (.ref h_wd) (.int z57) (.ref h_wh) (.int x73)))), (h_wd, .inl (cy_wd, 616, .inl f58)), (h_wh, .inl (cy_wh, 2048, .inl f74)), (h_td, .inr (5, (mo21 v_td (.ref h_nam) (.ref h_var) (.ref h_trm) (.ref h_ter)))), (h_nam, .inl (cy_nam, 300, .inr (.inl f_nam))), (h_var, .inl (cy_var, 300, .inl f_var)), (h_trm, .inl (cy_trm, 300, .inl f_trm)), (h_ter, .inl (cy_ter, 900, .inl f_ter))] H := hP.sub [6, 5, 7, 0, 1, 2, 3, 4] rfl
            replace hD : va_D A [(h_wr, .inr (6, (mo38 v_wr (.ref h_td) (.ref h_wd) (.int z57) (.ref h_wh) (.int x73)))), (h_wd, .inl (cy_wd, 616, .inl f58)), (h_wh, .inl (cy_wh, 2048, .inl f74)), (h_td, .inr (5, (mo21 v_td (.ref h_nam) (.ref h_var) (.ref h_trm) (.ref h_ter)))), (h_nam, .inl (cy_nam, 300, .inr (.inl f_nam))), (h_var, .inl (cy_var, 300, .inl f_var)), (h_trm, .inl (cy_trm, 300, .inl f_trm)), (h_ter, .inl (cy_ter, 900, .inl f_ter))] := hD.sub [6, 5, 7, 0, 1, 2, 3, 4] (by decide) rfl
            refine W.widen (k := 0) (n := 0) (Nat.le_of_ble_eq_true rfl) (Nat.le_of_ble_eq_true rfl) ?_
            have w79 : 0 ≤ ((z57)).toInt ∧ ((z57)).toInt ≤ 616 := by first | exact k59 | omega
            have w80 : 0 ≤ ((x73)).toInt ∧ ((x73)).toInt ≤ 2048 := by first | exact klp76_1 | omega
            have w81 : ((z57)).toInt + smL (CVW f_nam f_var f_trm f_ter) (gh75) (f74) ((x73)).toInt.toNat = (x_wr_drafted).toInt + smL (CVW f_nam f_var f_trm f_ter) ds f_wh (x_wr_held).toInt.toNat + lnX (nlQ 8) (CVW f_nam f_var f_trm f_ter) (dd + 1) ((p1).toInt - 9000).toNat := by omega
            have w82 : (x_wr_drafted).toInt + 1 ≤ ((z57)).toInt ∧ ((z57)).toInt ≤ (x_wr_drafted).toInt + 9 := by omega
            have w83 : 2 * (((x73)).toInt - (x_wr_held).toInt) ≤ 5 * (((z57)).toInt - (x_wr_drafted).toInt) + 2 := by omega
            have w84 : OKL (CVW f_nam f_var f_trm f_ter) (gh75) (f74) ((x73)).toInt := (okl_cast klp76_5 (by omega))
            exact W.vret hx hb hr (fun t ht hW => ⟨⟨(z57, x73, f58, f74, gh75), rfl, ⟨w79, w80, hf74, w81, w82, w83, w84⟩, by rw [ht]; exact hP, hD⟩, hS.F ht⟩) hS.2.2 dX9_putPart_131
          · have kc78 := (not_congr (cv_lt (rfl : (x72).toInt = (x72).toInt) (by decide : (0 : Int32).toInt = 0))).mp c78
            refine lv_aload_n hx hb dX9_putPart_92 rfl (lv_at hl 0 rfl) ?_
            refine lv_iload_n hx hb dX9_putPart_93 rfl (lv_at hl 1 rfl) ?_
            refine lv_iload_n hx hb dX9_putPart_94 rfl (lv_at hl 2 rfl) ?_
            refine lv_isub hx hb dX9_putPart_95 ?_
            refine lv_topi (fun z85 ez85 => ?_)
            have tz85 : (z85).toInt = (p1).toInt - (z1).toInt := by rw [ez85]; exact i_sub rfl rfl (by omega)
            have sz85 : 0 ≤ (z85).toInt ∧ (z85).toInt ≤ 9300 := by omega
            refine lv_aload_n hx hb dX9_putPart_96 rfl (lv_at hl 0 rfl) ?_
            refine va_get (D := (dC, dI)) (ci := 6) (v := .ref h_td) (C := RX9) (T := TX9) (N := 8) hx hb hw iwX9 hown hK hP 6 rfl rfl 0 (by decide) (hw _ w_f_X9_21) (fun _ h9 => h9) rfl dX9_putPart_97 ?_
            refine va_getN (D := (dC, dI)) (ci := 5) (v := .ref h_ter) (C := RX8) (T := TX8) (N := 10) (host := "OppositePairs") hx hb hw iwX8 hown hK hP 0 rfl rfl 3 (by decide) (hN.use n_f_X9_81 rfl) (fun _ h9 => h9) rfl dX9_putPart_100 ?_
            refine lv_iload_n hx hb dX9_putPart_103 rfl (lv_at hl 2 rfl) ?_
            refine lv_iconst (v := 3) hx hb dX9_putPart_104 (by decide) ?_
            refine lv_imul hx hb dX9_putPart_105 ?_
            refine lv_topi (fun z86 ez86 => ?_)
            have tz86 : (z86).toInt = (z1).toInt * 3 := by rw [ez86]; exact i_mul rfl (by decide) (by omega)
            refine lv_iload hx hb dX9_putPart_106 (lv_at hl 4 rfl) ?_
            refine lv_iadd hx hb dX9_putPart_108 ?_
            refine lv_topi (fun z87 ez87 => ?_)
            have tz87 : (z87).toInt = (z86).toInt + (x72).toInt := by rw [ez87]; exact i_add rfl rfl (by omega)
            refine va_iald hx hb hK hP 4 5 rfl rfl (i := z87) (vp_in_iff.mpr (by omega)) dX9_putPart_109 ?_
            refine lv_topi (fun z88 ez88 => ?_)
            have rz88 : 0 ≤ (z88).toInt ∧ (z88).toInt ≤ 299 := by rw [ez88]; exact hf_ter _
            refine lv_iadd hx hb dX9_putPart_110 ?_
            refine lv_topi (fun z89 ez89 => ?_)
            have tz89 : (z89).toInt = (z85).toInt + (z88).toInt := by rw [ez89]; exact i_add rfl rfl (by omega)
            have ch9 : ((z89).toInt - 9000).toNat = ((CVW f_nam f_var f_trm f_ter)).2.2.2 x9 (Int.toNat (x72).toInt) := by show _ = Int32.toNatClampNeg (f_ter (3 * x9 + Int.toNat (x72).toInt)); rw [show 3 * x9 + Int.toNat (x72).toInt = Int32.toNatClampNeg z87 by rw [clamp_nat (i := z87) (by omega)]; omega, ← ez88, clamp_nat (i := z88) (by omega)]; omega
            have wc9 := wg6 (Int.toNat (x72).toInt) (by omega)
            rw [← ch9] at wc9
            have sn9 : slX (nlQ 8) (CVW f_nam f_var f_trm f_ter) dd x9 (Int.toNat ((x72).toInt + 1)) = slX (nlQ 8) (CVW f_nam f_var f_trm f_ter) dd x9 (Int.toNat (x72).toInt) + (1 + lnX (nlQ 8) (CVW f_nam f_var f_trm f_ter) dd ((z89).toInt - 9000).toNat) := by have e9 : Int.toNat ((x72).toInt + 1) = Int.toNat (x72).toInt + 1 := (by omega); rw [e9, ch9]; rfl
            obtain ⟨vq90, evq90⟩ := mq38_37 v_wr (.ref h_td) (.ref h_wd) (.int z57)
            replace hP : va_P (dC, dI) cls [(h_td, .inr (5, (mo21 v_td (.ref h_nam) (.ref h_var) (.ref h_trm) (.ref h_ter)))), (h_nam, .inl (cy_nam, 300, .inr (.inl f_nam))), (h_var, .inl (cy_var, 300, .inl f_var)), (h_trm, .inl (cy_trm, 300, .inl f_trm)), (h_ter, .inl (cy_ter, 900, .inl f_ter)), (h_wd, .inl (cy_wd, 616, .inl f58)), (h_wr, .inr (6, (mo37 vq90 (.ref h_wh) (.int x73)))), (h_wh, .inl (cy_wh, 2048, .inl f74))] H := by rw [evq90]; exact hP
            replace hD : va_D A [(h_td, .inr (5, (mo21 v_td (.ref h_nam) (.ref h_var) (.ref h_trm) (.ref h_ter)))), (h_nam, .inl (cy_nam, 300, .inr (.inl f_nam))), (h_var, .inl (cy_var, 300, .inl f_var)), (h_trm, .inl (cy_trm, 300, .inl f_trm)), (h_ter, .inl (cy_ter, 900, .inl f_ter)), (h_wd, .inl (cy_wd, 616, .inl f58)), (h_wr, .inr (6, (mo37 vq90 (.ref h_wh) (.int x73)))), (h_wh, .inl (cy_wh, 2048, .inl f74))] := by rw [evq90]; exact hD
            have hPc := hP.sub (ws' := [(h_wr, .inr (6, (mo37 vq90 (.ref h_wh) (.int x73)))), (h_wh, .inl (cy_wh, 2048, .inl f74))]) [6, 7] rfl
            have hDc := hD.sub (ws' := [(h_wr, .inr (6, (mo37 vq90 (.ref h_wh) (.int x73)))), (h_wh, .inl (cy_wh, 2048, .inl f74))]) [6, 7] (by decide) rfl
            have hKc := hK.sub (tys' := [(cy_wh, .int)]) [1] rfl
            have hFc := va_free (wc := [(h_wr, .inr (6, (mo37 vq90 (.ref h_wh) (.int x73)))), (h_wh, .inl (cy_wh, 2048, .inl f74))]) hD hS hA [6, 7] rfl
            refine va_callv (va_runV (As := [.int z89]) (rest := []) ⟨hx, hb, hml, hown, hts⟩ (c_X9_push l dC dI H.size h_wr h_wh vq90 x73 cy_wh f74 z89 (by first | exact klp76_1 | omega) hf74 (by omega)) (cwV 1 hts (gv hT w_m_X9_78 w_instanceMethod_X9_push ws_sel_X9_push w_ini_X9 w_code_X9_push) rfl rfl rfl (by decide +kernel) ⟨(Nat.le_of_ble_eq_true rfl), (Nat.le_of_ble_eq_true rfl)⟩) ⟨pre_blind, va_recv hK hP (ci := 6) (q0 := 6) rfl rfl, pre_of hPc hKc hDc hN⟩ rfl rfl hl.1 rfl (lv_room (Nat.le_of_ble_eq_true rfl)) dX9_putPart_111 ⟨(Nat.le_of_ble_eq_true rfl), (Nat.le_of_ble_eq_true rfl)⟩) hS (fun q _ h => hFc q h) hFc (fun u t H locs ht hvm hq hB hz1 hk1 hS9 => ?_)
            obtain ⟨z92, f93⟩ := u
            obtain ⟨hP1, hD1⟩ := hB
            rw [ht] at hP1
            obtain ⟨hP9, hD9⟩ := va_join (wr := [(h_td, .inr (5, (mo21 v_td (.ref h_nam) (.ref h_var) (.ref h_trm) (.ref h_ter)))), (h_nam, .inl (cy_nam, 300, .inr (.inl f_nam))), (h_var, .inl (cy_var, 300, .inl f_var)), (h_trm, .inl (cy_trm, 300, .inl f_trm)), (h_ter, .inl (cy_ter, 900, .inl f_ter)), (h_wd, .inl (cy_wd, 616, .inl f58))]) (w1 := [(h_wr, .inr (6, (mo37 vq90 (.ref h_wh) (.int z92)))), (h_wh, .inl (cy_wh, 2048, .inl f93))]) hP hD [6, 7] [0, 1, 2, 3, 4, 5] rfl rfl (by decide) (by decide) hk1 hFc hP1 hD1
            clear hP hD hS hPc hDc hKc hFc hP1 hD1 hk1 hz1 ht hvm
            have hP : va_P (dC, dI) cls [(h_td, .inr (5, (mo21 v_td (.ref h_nam) (.ref h_var) (.ref h_trm) (.ref h_ter)))), (h_nam, .inl (cy_nam, 300, .inr (.inl f_nam))), (h_var, .inl (cy_var, 300, .inl f_var)), (h_trm, .inl (cy_trm, 300, .inl f_trm)), (h_ter, .inl (cy_ter, 900, .inl f_ter)), (h_wd, .inl (cy_wd, 616, .inl f58)), (h_wr, .inr (6, (mo37 vq90 (.ref h_wh) (.int z92)))), (h_wh, .inl (cy_wh, 2048, .inl f93))] H := hP9
            have hD : va_D A [(h_td, .inr (5, (mo21 v_td (.ref h_nam) (.ref h_var) (.ref h_trm) (.ref h_ter)))), (h_nam, .inl (cy_nam, 300, .inr (.inl f_nam))), (h_var, .inl (cy_var, 300, .inl f_var)), (h_trm, .inl (cy_trm, 300, .inl f_trm)), (h_ter, .inl (cy_ter, 900, .inl f_ter)), (h_wd, .inl (cy_wd, 616, .inl f58)), (h_wr, .inr (6, (mo37 vq90 (.ref h_wh) (.int z92)))), (h_wh, .inl (cy_wh, 2048, .inl f93))] := hD9
            have hS := hS9
            clear hP9 hD9 hS9
            rw [evq90] at hP hD
            replace hP : va_P (dC, dI) cls [(h_td, .inr (5, (mo21 v_td (.ref h_nam) (.ref h_var) (.ref h_trm) (.ref h_ter)))), (h_nam, .inl (cy_nam, 300, .inr (.inl f_nam))), (h_var, .inl (cy_var, 300, .inl f_var)), (h_trm, .inl (cy_trm, 300, .inl f_trm)), (h_ter, .inl (cy_ter, 900, .inl f_ter)), (h_wd, .inl (cy_wd, 616, .inl f58)), (h_wr, .inr (6, (mo38 v_wr (.ref h_td) (.ref h_wd) (.int z57) (.ref h_wh) (.int z92)))), (h_wh, .inl (cy_wh, 2048, .inl f93))] H := hP
            replace hD : va_D A [(h_td, .inr (5, (mo21 v_td (.ref h_nam) (.ref h_var) (.ref h_trm) (.ref h_ter)))), (h_nam, .inl (cy_nam, 300, .inr (.inl f_nam))), (h_var, .inl (cy_var, 300, .inl f_var)), (h_trm, .inl (cy_trm, 300, .inl f_trm)), (h_ter, .inl (cy_ter, 900, .inl f_ter)), (h_wd, .inl (cy_wd, 616, .inl f58)), (h_wr, .inr (6, (mo38 v_wr (.ref h_td) (.ref h_wd) (.int z57) (.ref h_wh) (.int z92)))), (h_wh, .inl (cy_wh, 2048, .inl f93))] := hD
            clear evq90 
            obtain ⟨k94, hf93, k95, k96⟩ := hq
            replace k94 : 0 ≤ ((z92)).toInt ∧ ((z92)).toInt ≤ 2048 := k94
            replace hf93 : Rg (-127) 9599 (f93) := hf93
            replace k95 : (2048 ≤ ((x73)).toInt ∧ ((z92)).toInt = ((x73)).toInt) ∨ (((x73)).toInt < 2048 ∧ ((z92)).toInt = ((x73)).toInt + 1) := k95
            replace k96 : PUS (f74) (f93) (x73) (z89) := k96
            have eh9 := k96 (by omega)
            obtain ⟨es98, ok97, sm99⟩ := hol_push (d := dd) (n' := (z92).toInt) klp76_5 rfl (by omega) (Or.inr ⟨by omega, by omega, wc9⟩) eh9 (by omega)
            rw [wlX_pos (by omega)] at sm99
            refine lv_iload hx hb dX9_putPart_114 (lv_at hl 4 rfl) ?_
            refine lv_if_le (tgt := 125) hx hb dX9_putPart_116 (by decide) (fun c100 => ?_) (fun c100 => ?_)
            · have kc100 := (cv_le (rfl : (x72).toInt = (x72).toInt) (by decide : (0 : Int32).toInt = 0)).mp c100
              obtain ⟨z101, ez101⟩ : ∃ y : Int32, y = x72 + (-1) := ⟨_, rfl⟩
              have tz101 : (z101).toInt = (x72).toInt + -1 := by rw [ez101]; exact i_add rfl (by decide) (by omega)
              refine lv_iinc (v := z101) (lv' := [(4, .int z101), (0, .ref h_wr), (1, .int p1), (2, .int z1), (3, .int z11)]) hx hb dX9_putPart_125 hl (k := 4) rfl (by rw [ez101]; rfl) (by decide) rfl (fun ls hl => ?_)
              refine lv_goto (tgt := 87) hx hb dX9_putPart_128 (by decide) ?_
              have eb9 : slX (nlQ 8) (CVW f_nam f_var f_trm f_ter) dd x9 (Int.toNat ((z101).toInt + 1)) = slX (nlQ 8) (CVW f_nam f_var f_trm f_ter) dd x9 (Int.toNat (x72).toInt) := by rw [show Int.toNat ((z101).toInt + 1) = Int.toNat (x72).toInt by omega]
              have ez9 : (x72).toInt = 0 → slX (nlQ 8) (CVW f_nam f_var f_trm f_ter) dd x9 (Int.toNat (x72).toInt) = 0 := fun h9 => by rw [h9]; rfl
              exact ih77 (z101) (z92) (f93) (es98) _ _ _ (by omega) (by first | exact k94 | omega) hf93 (by omega) (by omega) (okl_cast ok97 (by omega)) (by omega) hP hD hS (lv_sub hl [1, 2, 3, 4, 0] rfl)
            · have kc100 := (not_congr (cv_le (rfl : (x72).toInt = (x72).toInt) (by decide : (0 : Int32).toInt = 0))).mp c100
              refine lv_aload_n hx hb dX9_putPart_119 rfl (lv_at hl 0 rfl) ?_
              refine lv_bipush (v := (-44)) hx hb dX9_putPart_120 (by decide) ?_
              obtain ⟨vq102, evq102⟩ := mq38_37 v_wr (.ref h_td) (.ref h_wd) (.int z57)
              replace hP : va_P (dC, dI) cls [(h_td, .inr (5, (mo21 v_td (.ref h_nam) (.ref h_var) (.ref h_trm) (.ref h_ter)))), (h_nam, .inl (cy_nam, 300, .inr (.inl f_nam))), (h_var, .inl (cy_var, 300, .inl f_var)), (h_trm, .inl (cy_trm, 300, .inl f_trm)), (h_ter, .inl (cy_ter, 900, .inl f_ter)), (h_wd, .inl (cy_wd, 616, .inl f58)), (h_wr, .inr (6, (mo37 vq102 (.ref h_wh) (.int z92)))), (h_wh, .inl (cy_wh, 2048, .inl f93))] H := by rw [evq102]; exact hP
              replace hD : va_D A [(h_td, .inr (5, (mo21 v_td (.ref h_nam) (.ref h_var) (.ref h_trm) (.ref h_ter)))), (h_nam, .inl (cy_nam, 300, .inr (.inl f_nam))), (h_var, .inl (cy_var, 300, .inl f_var)), (h_trm, .inl (cy_trm, 300, .inl f_trm)), (h_ter, .inl (cy_ter, 900, .inl f_ter)), (h_wd, .inl (cy_wd, 616, .inl f58)), (h_wr, .inr (6, (mo37 vq102 (.ref h_wh) (.int z92)))), (h_wh, .inl (cy_wh, 2048, .inl f93))] := by rw [evq102]; exact hD
              have cstm44 : ((-44) : Int32).toInt = -44 := by decide
              have hPc := hP.sub (ws' := [(h_wr, .inr (6, (mo37 vq102 (.ref h_wh) (.int z92)))), (h_wh, .inl (cy_wh, 2048, .inl f93))]) [6, 7] rfl
              have hDc := hD.sub (ws' := [(h_wr, .inr (6, (mo37 vq102 (.ref h_wh) (.int z92)))), (h_wh, .inl (cy_wh, 2048, .inl f93))]) [6, 7] (by decide) rfl
              have hKc := hK.sub (tys' := [(cy_wh, .int)]) [1] rfl
              have hFc := va_free (wc := [(h_wr, .inr (6, (mo37 vq102 (.ref h_wh) (.int z92)))), (h_wh, .inl (cy_wh, 2048, .inl f93))]) hD hS hA [6, 7] rfl
              refine va_callv (va_runV (As := [.int (-44)]) (rest := []) ⟨hx, hb, hml, hown, hts⟩ (c_X9_push l dC dI H.size h_wr h_wh vq102 z92 cy_wh f93 (-44) (by first | exact k94 | omega) hf93 (by omega)) (cwV 1 hts (gv hT w_m_X9_78 w_instanceMethod_X9_push ws_sel_X9_push w_ini_X9 w_code_X9_push) rfl rfl rfl (by decide +kernel) ⟨(Nat.le_of_ble_eq_true rfl), (Nat.le_of_ble_eq_true rfl)⟩) ⟨pre_blind, va_recv hK hP (ci := 6) (q0 := 6) rfl rfl, pre_of hPc hKc hDc hN⟩ rfl rfl hl.1 rfl (lv_room (Nat.le_of_ble_eq_true rfl)) dX9_putPart_122 ⟨(Nat.le_of_ble_eq_true rfl), (Nat.le_of_ble_eq_true rfl)⟩) hS (fun q _ h => hFc q h) hFc (fun u t H locs ht hvm hq hB hz1 hk1 hS9 => ?_)
              obtain ⟨z104, f105⟩ := u
              obtain ⟨hP1, hD1⟩ := hB
              rw [ht] at hP1
              obtain ⟨hP9, hD9⟩ := va_join (wr := [(h_td, .inr (5, (mo21 v_td (.ref h_nam) (.ref h_var) (.ref h_trm) (.ref h_ter)))), (h_nam, .inl (cy_nam, 300, .inr (.inl f_nam))), (h_var, .inl (cy_var, 300, .inl f_var)), (h_trm, .inl (cy_trm, 300, .inl f_trm)), (h_ter, .inl (cy_ter, 900, .inl f_ter)), (h_wd, .inl (cy_wd, 616, .inl f58))]) (w1 := [(h_wr, .inr (6, (mo37 vq102 (.ref h_wh) (.int z104)))), (h_wh, .inl (cy_wh, 2048, .inl f105))]) hP hD [6, 7] [0, 1, 2, 3, 4, 5] rfl rfl (by decide) (by decide) hk1 hFc hP1 hD1
              clear hP hD hS hPc hDc hKc hFc hP1 hD1 hk1 hz1 ht hvm
              have hP : va_P (dC, dI) cls [(h_td, .inr (5, (mo21 v_td (.ref h_nam) (.ref h_var) (.ref h_trm) (.ref h_ter)))), (h_nam, .inl (cy_nam, 300, .inr (.inl f_nam))), (h_var, .inl (cy_var, 300, .inl f_var)), (h_trm, .inl (cy_trm, 300, .inl f_trm)), (h_ter, .inl (cy_ter, 900, .inl f_ter)), (h_wd, .inl (cy_wd, 616, .inl f58)), (h_wr, .inr (6, (mo37 vq102 (.ref h_wh) (.int z104)))), (h_wh, .inl (cy_wh, 2048, .inl f105))] H := hP9
              have hD : va_D A [(h_td, .inr (5, (mo21 v_td (.ref h_nam) (.ref h_var) (.ref h_trm) (.ref h_ter)))), (h_nam, .inl (cy_nam, 300, .inr (.inl f_nam))), (h_var, .inl (cy_var, 300, .inl f_var)), (h_trm, .inl (cy_trm, 300, .inl f_trm)), (h_ter, .inl (cy_ter, 900, .inl f_ter)), (h_wd, .inl (cy_wd, 616, .inl f58)), (h_wr, .inr (6, (mo37 vq102 (.ref h_wh) (.int z104)))), (h_wh, .inl (cy_wh, 2048, .inl f105))] := hD9
              have hS := hS9
              clear hP9 hD9 hS9
              rw [evq102] at hP hD
              replace hP : va_P (dC, dI) cls [(h_td, .inr (5, (mo21 v_td (.ref h_nam) (.ref h_var) (.ref h_trm) (.ref h_ter)))), (h_nam, .inl (cy_nam, 300, .inr (.inl f_nam))), (h_var, .inl (cy_var, 300, .inl f_var)), (h_trm, .inl (cy_trm, 300, .inl f_trm)), (h_ter, .inl (cy_ter, 900, .inl f_ter)), (h_wd, .inl (cy_wd, 616, .inl f58)), (h_wr, .inr (6, (mo38 v_wr (.ref h_td) (.ref h_wd) (.int z57) (.ref h_wh) (.int z104)))), (h_wh, .inl (cy_wh, 2048, .inl f105))] H := hP
              replace hD : va_D A [(h_td, .inr (5, (mo21 v_td (.ref h_nam) (.ref h_var) (.ref h_trm) (.ref h_ter)))), (h_nam, .inl (cy_nam, 300, .inr (.inl f_nam))), (h_var, .inl (cy_var, 300, .inl f_var)), (h_trm, .inl (cy_trm, 300, .inl f_trm)), (h_ter, .inl (cy_ter, 900, .inl f_ter)), (h_wd, .inl (cy_wd, 616, .inl f58)), (h_wr, .inr (6, (mo38 v_wr (.ref h_td) (.ref h_wd) (.int z57) (.ref h_wh) (.int z104)))), (h_wh, .inl (cy_wh, 2048, .inl f105))] := hD
              clear evq102 
              obtain ⟨k106, hf105, k107, k108⟩ := hq
              replace k106 : 0 ≤ ((z104)).toInt ∧ ((z104)).toInt ≤ 2048 := k106
              replace hf105 : Rg (-127) 9599 (f105) := hf105
              replace k107 : (2048 ≤ ((z92)).toInt ∧ ((z104)).toInt = ((z92)).toInt) ∨ (((z92)).toInt < 2048 ∧ ((z104)).toInt = ((z92)).toInt + 1) := k107
              replace k108 : PUS (f93) (f105) (z92) ((-44) : Int32) := k108
              have eh9 := k108 (by omega)
              obtain ⟨es110, ok109, sm111⟩ := hol_push (d := 0) (n' := (z104).toInt) ok97 rfl (by omega) (Or.inl (by decide)) eh9 (by omega)
              rw [wlX_neg (by decide)] at sm111
              obtain ⟨z112, ez112⟩ : ∃ y : Int32, y = x72 + (-1) := ⟨_, rfl⟩
              have tz112 : (z112).toInt = (x72).toInt + -1 := by rw [ez112]; exact i_add rfl (by decide) (by omega)
              refine lv_iinc (v := z112) (lv' := [(4, .int z112), (0, .ref h_wr), (1, .int p1), (2, .int z1), (3, .int z11)]) hx hb dX9_putPart_125 hl (k := 4) rfl (by rw [ez112]; rfl) (by decide) rfl (fun ls hl => ?_)
              refine lv_goto (tgt := 87) hx hb dX9_putPart_128 (by decide) ?_
              have eb9 : slX (nlQ 8) (CVW f_nam f_var f_trm f_ter) dd x9 (Int.toNat ((z112).toInt + 1)) = slX (nlQ 8) (CVW f_nam f_var f_trm f_ter) dd x9 (Int.toNat (x72).toInt) := by rw [show Int.toNat ((z112).toInt + 1) = Int.toNat (x72).toInt by omega]
              have ez9 : (x72).toInt = 0 → slX (nlQ 8) (CVW f_nam f_var f_trm f_ter) dd x9 (Int.toNat (x72).toInt) = 0 := fun h9 => by rw [h9]; rfl
              exact ih77 (z112) (z104) (f105) (es110) _ _ _ (by omega) (by first | exact k106 | omega) hf105 (by omega) (by omega) (okl_cast ok109 (by omega)) (by omega) hP hD hS (lv_sub hl [1, 2, 3, 4, 0] rfl)
      exact lp76 _ (z71) (z63) (f64) (es69) _ _ _ (by omega) (by first | exact k65 | omega) hf64 (by omega) (by omega) (okl_cast ok68 (by omega)) (Nat.le_refl _) hP hD hS (lv_sub hl [3, 4, 2, 1, 0] rfl)
  · have kc3 := (not_congr (cv_eq (rfl : (z2).toInt = (z2).toInt) (by decide : ((-1) : Int32).toInt = -1))).mp c3
    refine lv_aload_n hx hb dX9_putPart_19 rfl (lv_at hl 1 rfl) ?_
    refine lv_aload_n hx hb dX9_putPart_20 rfl (lv_at hl 1 rfl) ?_
    refine va_get (D := (dC, dI)) (ci := 6) (v := .ref h_td) (C := RX9) (T := TX9) (N := 8) hx hb hw iwX9 hown hK hP 0 rfl rfl 0 (by decide) (hw _ w_f_X9_21) (fun _ h9 => h9) rfl dX9_putPart_21 ?_
    refine va_getN (D := (dC, dI)) (ci := 5) (v := .ref h_nam) (C := RX8) (T := TX8) (N := 10) (host := "OppositePairs") hx hb hw iwX8 hown hK hP 3 rfl rfl 0 (by decide) (hN.use n_f_X9_64 rfl) (fun _ h9 => h9) rfl dX9_putPart_24 ?_
    refine lv_iload_n hx hb dX9_putPart_27 rfl (lv_at hl 0 rfl) ?_
    refine va_lald hx hb hK hP 4 2 rfl rfl (i := z1) (vp_in_iff.mpr (by omega)) dX9_putPart_28 ?_
    refine lv_topl (fun z113 ez113 => ?_)
    refine lv_l2i hx hb dX9_putPart_29 rfl ?_
    refine lv_topi (fun z114 ez114 => ?_)
    have ln9 := lnX_var (nf := nlQ 8) (V := (CVW f_nam f_var f_trm f_ter)) (d := dd) (x := x9) (by omega)
    rw [ex9] at ln9
    obtain ⟨vq115, evq115⟩ := mq38_36 v_wr (.ref h_td) (.ref h_wh) (.int x_wr_held)
    replace hP : va_P (dC, dI) cls [(h_wr, .inr (6, (mo36 vq115 (.ref h_wd) (.int x_wr_drafted)))), (h_wd, .inl (cy_wd, 616, .inl f_wd)), (h_wh, .inl (cy_wh, 2048, .inl f_wh)), (h_td, .inr (5, (mo21 v_td (.ref h_nam) (.ref h_var) (.ref h_trm) (.ref h_ter)))), (h_nam, .inl (cy_nam, 300, .inr (.inl f_nam))), (h_var, .inl (cy_var, 300, .inl f_var)), (h_trm, .inl (cy_trm, 300, .inl f_trm)), (h_ter, .inl (cy_ter, 900, .inl f_ter))] s.heap := by rw [evq115]; exact hP
    replace hD : va_D A [(h_wr, .inr (6, (mo36 vq115 (.ref h_wd) (.int x_wr_drafted)))), (h_wd, .inl (cy_wd, 616, .inl f_wd)), (h_wh, .inl (cy_wh, 2048, .inl f_wh)), (h_td, .inr (5, (mo21 v_td (.ref h_nam) (.ref h_var) (.ref h_trm) (.ref h_ter)))), (h_nam, .inl (cy_nam, 300, .inr (.inl f_nam))), (h_var, .inl (cy_var, 300, .inl f_var)), (h_trm, .inl (cy_trm, 300, .inl f_trm)), (h_ter, .inl (cy_ter, 900, .inl f_ter))] := by rw [evq115]; exact hD
    have hPc := hP.sub (ws' := [(h_wr, .inr (6, (mo36 vq115 (.ref h_wd) (.int x_wr_drafted)))), (h_wd, .inl (cy_wd, 616, .inl f_wd))]) [0, 1] rfl
    have hDc := hD.sub (ws' := [(h_wr, .inr (6, (mo36 vq115 (.ref h_wd) (.int x_wr_drafted)))), (h_wd, .inl (cy_wd, 616, .inl f_wd))]) [0, 1] (by decide) rfl
    have hKc := hK.sub (tys' := [(cy_wd, .int)]) [0] rfl
    have hFc := va_free (wc := [(h_wr, .inr (6, (mo36 vq115 (.ref h_wd) (.int x_wr_drafted)))), (h_wd, .inl (cy_wd, 616, .inl f_wd))]) hD hS hA [0, 1] rfl
    refine va_callv (va_runV (As := [.int z114]) (rest := []) ⟨hx, hb, hml, hown, hts⟩ (c_X9_put l dC dI s.heap.size h_wr h_wd vq115 x_wr_drafted cy_wd f_wd z114 (by first | exact hx_wr_drafted | omega)) (cwV 1 hts (gv hT w_m_X9_33 w_instanceMethod_X9_put ws_sel_X9_put w_ini_X9 w_code_X9_put) rfl rfl rfl (by decide +kernel) ⟨(Nat.le_of_ble_eq_true rfl), (Nat.le_of_ble_eq_true rfl)⟩) ⟨pre_blind, va_recv hK hP (ci := 6) (q0 := 0) rfl rfl, pre_of hPc hKc hDc hN⟩ rfl rfl hl.1 rfl (lv_room (Nat.le_of_ble_eq_true rfl)) dX9_putPart_30 ⟨(Nat.le_of_ble_eq_true rfl), (Nat.le_of_ble_eq_true rfl)⟩) hS (fun q _ h => hFc q h) hFc (fun u t H locs ht hvm hq hB hz1 hk1 hS9 => ?_)
    obtain ⟨z117, f118⟩ := u
    obtain ⟨hP1, hD1⟩ := hB
    rw [ht] at hP1
    obtain ⟨hP9, hD9⟩ := va_join (wr := [(h_wh, .inl (cy_wh, 2048, .inl f_wh)), (h_td, .inr (5, (mo21 v_td (.ref h_nam) (.ref h_var) (.ref h_trm) (.ref h_ter)))), (h_nam, .inl (cy_nam, 300, .inr (.inl f_nam))), (h_var, .inl (cy_var, 300, .inl f_var)), (h_trm, .inl (cy_trm, 300, .inl f_trm)), (h_ter, .inl (cy_ter, 900, .inl f_ter))]) (w1 := [(h_wr, .inr (6, (mo36 vq115 (.ref h_wd) (.int z117)))), (h_wd, .inl (cy_wd, 616, .inl f118))]) hP hD [0, 1] [2, 3, 4, 5, 6, 7] rfl rfl (by decide) (by decide) hk1 hFc hP1 hD1
    clear hP hD hS hPc hDc hKc hFc hP1 hD1 hk1 hz1 ht hvm
    have hP : va_P (dC, dI) cls [(h_wh, .inl (cy_wh, 2048, .inl f_wh)), (h_td, .inr (5, (mo21 v_td (.ref h_nam) (.ref h_var) (.ref h_trm) (.ref h_ter)))), (h_nam, .inl (cy_nam, 300, .inr (.inl f_nam))), (h_var, .inl (cy_var, 300, .inl f_var)), (h_trm, .inl (cy_trm, 300, .inl f_trm)), (h_ter, .inl (cy_ter, 900, .inl f_ter)), (h_wr, .inr (6, (mo36 vq115 (.ref h_wd) (.int z117)))), (h_wd, .inl (cy_wd, 616, .inl f118))] H := hP9
    have hD : va_D A [(h_wh, .inl (cy_wh, 2048, .inl f_wh)), (h_td, .inr (5, (mo21 v_td (.ref h_nam) (.ref h_var) (.ref h_trm) (.ref h_ter)))), (h_nam, .inl (cy_nam, 300, .inr (.inl f_nam))), (h_var, .inl (cy_var, 300, .inl f_var)), (h_trm, .inl (cy_trm, 300, .inl f_trm)), (h_ter, .inl (cy_ter, 900, .inl f_ter)), (h_wr, .inr (6, (mo36 vq115 (.ref h_wd) (.int z117)))), (h_wd, .inl (cy_wd, 616, .inl f118))] := hD9
    have hS := hS9
    clear hP9 hD9 hS9
    rw [evq115] at hP hD
    replace hP : va_P (dC, dI) cls [(h_wh, .inl (cy_wh, 2048, .inl f_wh)), (h_td, .inr (5, (mo21 v_td (.ref h_nam) (.ref h_var) (.ref h_trm) (.ref h_ter)))), (h_nam, .inl (cy_nam, 300, .inr (.inl f_nam))), (h_var, .inl (cy_var, 300, .inl f_var)), (h_trm, .inl (cy_trm, 300, .inl f_trm)), (h_ter, .inl (cy_ter, 900, .inl f_ter)), (h_wr, .inr (6, (mo38 v_wr (.ref h_td) (.ref h_wd) (.int z117) (.ref h_wh) (.int x_wr_held)))), (h_wd, .inl (cy_wd, 616, .inl f118))] H := hP
    replace hD : va_D A [(h_wh, .inl (cy_wh, 2048, .inl f_wh)), (h_td, .inr (5, (mo21 v_td (.ref h_nam) (.ref h_var) (.ref h_trm) (.ref h_ter)))), (h_nam, .inl (cy_nam, 300, .inr (.inl f_nam))), (h_var, .inl (cy_var, 300, .inl f_var)), (h_trm, .inl (cy_trm, 300, .inl f_trm)), (h_ter, .inl (cy_ter, 900, .inl f_ter)), (h_wr, .inr (6, (mo38 v_wr (.ref h_td) (.ref h_wd) (.int z117) (.ref h_wh) (.int x_wr_held)))), (h_wd, .inl (cy_wd, 616, .inl f118))] := hD
    clear evq115 
    obtain ⟨k119, k120⟩ := hq
    replace k119 : 0 ≤ ((z117)).toInt ∧ ((z117)).toInt ≤ 616 := k119
    replace k120 : (616 ≤ ((x_wr_drafted)).toInt ∧ ((z117)).toInt = ((x_wr_drafted)).toInt) ∨ (((x_wr_drafted)).toInt < 616 ∧ ((z117)).toInt = ((x_wr_drafted)).toInt + 1) := k120
    refine lv_aload_n hx hb dX9_putPart_33 rfl (lv_at hl 1 rfl) ?_
    refine lv_iload_n hx hb dX9_putPart_34 rfl (lv_at hl 2 rfl) ?_
    refine lv_sipush (v := 300) hx hb dX9_putPart_35 (by decide) ?_
    refine lv_idiv hx hb dX9_putPart_38 (by decide) ?_
    refine lv_topi (fun z121 ez121 => ?_)
    have tz121 : (z121).toInt = (p1).toInt / 300 := by rw [ez121]; exact i_div rfl (by decide) (by omega)
    have sz121 : 0 ≤ (z121).toInt ∧ (z121).toInt ≤ 31 := by omega
    obtain ⟨vq122, evq122⟩ := mq38_36 v_wr (.ref h_td) (.ref h_wh) (.int x_wr_held)
    replace hP : va_P (dC, dI) cls [(h_wh, .inl (cy_wh, 2048, .inl f_wh)), (h_td, .inr (5, (mo21 v_td (.ref h_nam) (.ref h_var) (.ref h_trm) (.ref h_ter)))), (h_nam, .inl (cy_nam, 300, .inr (.inl f_nam))), (h_var, .inl (cy_var, 300, .inl f_var)), (h_trm, .inl (cy_trm, 300, .inl f_trm)), (h_ter, .inl (cy_ter, 900, .inl f_ter)), (h_wr, .inr (6, (mo36 vq122 (.ref h_wd) (.int z117)))), (h_wd, .inl (cy_wd, 616, .inl f118))] H := by rw [evq122]; exact hP
    replace hD : va_D A [(h_wh, .inl (cy_wh, 2048, .inl f_wh)), (h_td, .inr (5, (mo21 v_td (.ref h_nam) (.ref h_var) (.ref h_trm) (.ref h_ter)))), (h_nam, .inl (cy_nam, 300, .inr (.inl f_nam))), (h_var, .inl (cy_var, 300, .inl f_var)), (h_trm, .inl (cy_trm, 300, .inl f_trm)), (h_ter, .inl (cy_ter, 900, .inl f_ter)), (h_wr, .inr (6, (mo36 vq122 (.ref h_wd) (.int z117)))), (h_wd, .inl (cy_wd, 616, .inl f118))] := by rw [evq122]; exact hD
    have hPc := hP.sub (ws' := [(h_wr, .inr (6, (mo36 vq122 (.ref h_wd) (.int z117)))), (h_wd, .inl (cy_wd, 616, .inl f118))]) [6, 7] rfl
    have hDc := hD.sub (ws' := [(h_wr, .inr (6, (mo36 vq122 (.ref h_wd) (.int z117)))), (h_wd, .inl (cy_wd, 616, .inl f118))]) [6, 7] (by decide) rfl
    have hKc := hK.sub (tys' := [(cy_wd, .int)]) [0] rfl
    have hFc := va_free (wc := [(h_wr, .inr (6, (mo36 vq122 (.ref h_wd) (.int z117)))), (h_wd, .inl (cy_wd, 616, .inl f118))]) hD hS hA [6, 7] rfl
    refine va_callv (va_runV (As := [.int z121]) (rest := []) ⟨hx, hb, hml, hown, hts⟩ (c_X9_putInstance l dC dI H.size h_wr h_wd vq122 z117 cy_wd f118 z121 (by first | exact k119 | omega) (by omega)) (cwV 1 hts (gv hT w_m_X9_68 w_instanceMethod_X9_putInstance ws_sel_X9_putInstance w_ini_X9 w_code_X9_putInstance) rfl rfl rfl (by decide +kernel) ⟨(Nat.le_of_ble_eq_true rfl), (Nat.le_of_ble_eq_true rfl)⟩) ⟨pre_blind, va_recv hK hP (ci := 6) (q0 := 6) rfl rfl, pre_of hPc hKc hDc hN⟩ rfl rfl hl.1 rfl (lv_room (Nat.le_of_ble_eq_true rfl)) dX9_putPart_39 ⟨(Nat.le_of_ble_eq_true rfl), (Nat.le_of_ble_eq_true rfl)⟩) hS (fun q _ h => hFc q h) hFc (fun u t H locs ht hvm hq hB hz1 hk1 hS9 => ?_)
    obtain ⟨z124, f125⟩ := u
    obtain ⟨hP1, hD1⟩ := hB
    rw [ht] at hP1
    obtain ⟨hP9, hD9⟩ := va_join (wr := [(h_wh, .inl (cy_wh, 2048, .inl f_wh)), (h_td, .inr (5, (mo21 v_td (.ref h_nam) (.ref h_var) (.ref h_trm) (.ref h_ter)))), (h_nam, .inl (cy_nam, 300, .inr (.inl f_nam))), (h_var, .inl (cy_var, 300, .inl f_var)), (h_trm, .inl (cy_trm, 300, .inl f_trm)), (h_ter, .inl (cy_ter, 900, .inl f_ter))]) (w1 := [(h_wr, .inr (6, (mo36 vq122 (.ref h_wd) (.int z124)))), (h_wd, .inl (cy_wd, 616, .inl f125))]) hP hD [6, 7] [0, 1, 2, 3, 4, 5] rfl rfl (by decide) (by decide) hk1 hFc hP1 hD1
    clear hP hD hS hPc hDc hKc hFc hP1 hD1 hk1 hz1 ht hvm
    have hP : va_P (dC, dI) cls [(h_wh, .inl (cy_wh, 2048, .inl f_wh)), (h_td, .inr (5, (mo21 v_td (.ref h_nam) (.ref h_var) (.ref h_trm) (.ref h_ter)))), (h_nam, .inl (cy_nam, 300, .inr (.inl f_nam))), (h_var, .inl (cy_var, 300, .inl f_var)), (h_trm, .inl (cy_trm, 300, .inl f_trm)), (h_ter, .inl (cy_ter, 900, .inl f_ter)), (h_wr, .inr (6, (mo36 vq122 (.ref h_wd) (.int z124)))), (h_wd, .inl (cy_wd, 616, .inl f125))] H := hP9
    have hD : va_D A [(h_wh, .inl (cy_wh, 2048, .inl f_wh)), (h_td, .inr (5, (mo21 v_td (.ref h_nam) (.ref h_var) (.ref h_trm) (.ref h_ter)))), (h_nam, .inl (cy_nam, 300, .inr (.inl f_nam))), (h_var, .inl (cy_var, 300, .inl f_var)), (h_trm, .inl (cy_trm, 300, .inl f_trm)), (h_ter, .inl (cy_ter, 900, .inl f_ter)), (h_wr, .inr (6, (mo36 vq122 (.ref h_wd) (.int z124)))), (h_wd, .inl (cy_wd, 616, .inl f125))] := hD9
    have hS := hS9
    clear hP9 hD9 hS9
    rw [evq122] at hP hD
    replace hP : va_P (dC, dI) cls [(h_wh, .inl (cy_wh, 2048, .inl f_wh)), (h_td, .inr (5, (mo21 v_td (.ref h_nam) (.ref h_var) (.ref h_trm) (.ref h_ter)))), (h_nam, .inl (cy_nam, 300, .inr (.inl f_nam))), (h_var, .inl (cy_var, 300, .inl f_var)), (h_trm, .inl (cy_trm, 300, .inl f_trm)), (h_ter, .inl (cy_ter, 900, .inl f_ter)), (h_wr, .inr (6, (mo38 v_wr (.ref h_td) (.ref h_wd) (.int z124) (.ref h_wh) (.int x_wr_held)))), (h_wd, .inl (cy_wd, 616, .inl f125))] H := hP
    replace hD : va_D A [(h_wh, .inl (cy_wh, 2048, .inl f_wh)), (h_td, .inr (5, (mo21 v_td (.ref h_nam) (.ref h_var) (.ref h_trm) (.ref h_ter)))), (h_nam, .inl (cy_nam, 300, .inr (.inl f_nam))), (h_var, .inl (cy_var, 300, .inl f_var)), (h_trm, .inl (cy_trm, 300, .inl f_trm)), (h_ter, .inl (cy_ter, 900, .inl f_ter)), (h_wr, .inr (6, (mo38 v_wr (.ref h_td) (.ref h_wd) (.int z124) (.ref h_wh) (.int x_wr_held)))), (h_wd, .inl (cy_wd, 616, .inl f125))] := hD
    clear evq122 
    obtain ⟨k126, k127⟩ := hq
    replace k126 : 0 ≤ ((z124)).toInt ∧ ((z124)).toInt ≤ 616 := k126
    replace k127 : ((z121)).toInt < 30 ∨ ((z124)).toInt = ((z117)).toInt := k127
    replace hP : va_P (dC, dI) cls [(h_wr, .inr (6, (mo38 v_wr (.ref h_td) (.ref h_wd) (.int z124) (.ref h_wh) (.int x_wr_held)))), (h_wd, .inl (cy_wd, 616, .inl f125)), (h_wh, .inl (cy_wh, 2048, .inl f_wh)), (h_td, .inr (5, (mo21 v_td (.ref h_nam) (.ref h_var) (.ref h_trm) (.ref h_ter)))), (h_nam, .inl (cy_nam, 300, .inr (.inl f_nam))), (h_var, .inl (cy_var, 300, .inl f_var)), (h_trm, .inl (cy_trm, 300, .inl f_trm)), (h_ter, .inl (cy_ter, 900, .inl f_ter))] H := hP.sub [6, 7, 0, 1, 2, 3, 4, 5] rfl
    replace hD : va_D A [(h_wr, .inr (6, (mo38 v_wr (.ref h_td) (.ref h_wd) (.int z124) (.ref h_wh) (.int x_wr_held)))), (h_wd, .inl (cy_wd, 616, .inl f125)), (h_wh, .inl (cy_wh, 2048, .inl f_wh)), (h_td, .inr (5, (mo21 v_td (.ref h_nam) (.ref h_var) (.ref h_trm) (.ref h_ter)))), (h_nam, .inl (cy_nam, 300, .inr (.inl f_nam))), (h_var, .inl (cy_var, 300, .inl f_var)), (h_trm, .inl (cy_trm, 300, .inl f_trm)), (h_ter, .inl (cy_ter, 900, .inl f_ter))] := hD.sub [6, 7, 0, 1, 2, 3, 4, 5] (by decide) rfl
    refine W.widen (k := 0) (n := 0) (Nat.le_of_ble_eq_true rfl) (Nat.le_of_ble_eq_true rfl) ?_
    have w128 : 0 ≤ ((z124)).toInt ∧ ((z124)).toInt ≤ 616 := by first | exact k126 | omega
    have w129 : 0 ≤ ((x_wr_held)).toInt ∧ ((x_wr_held)).toInt ≤ 2048 := by first | exact hx_wr_held | omega
    have w130 : ((z124)).toInt + smL (CVW f_nam f_var f_trm f_ter) (ds) (f_wh) ((x_wr_held)).toInt.toNat = (x_wr_drafted).toInt + smL (CVW f_nam f_var f_trm f_ter) ds f_wh (x_wr_held).toInt.toNat + lnX (nlQ 8) (CVW f_nam f_var f_trm f_ter) (dd + 1) ((p1).toInt - 9000).toNat := by omega
    have w131 : (x_wr_drafted).toInt + 1 ≤ ((z124)).toInt ∧ ((z124)).toInt ≤ (x_wr_drafted).toInt + 9 := by omega
    have w132 : 2 * (((x_wr_held)).toInt - (x_wr_held).toInt) ≤ 5 * (((z124)).toInt - (x_wr_drafted).toInt) + 2 := by omega
    have w133 : OKL (CVW f_nam f_var f_trm f_ter) (ds) (f_wh) ((x_wr_held)).toInt := (okl_cast hn_okl (by omega))
    exact W.vret hx hb hr (fun t ht hW => ⟨⟨(z124, x_wr_held, f125, f_wh, ds), rfl, ⟨w128, w129, hf_wh, w130, w131, w132, w133⟩, by rw [ht]; exact hP, hD⟩, hS.F ht⟩) hS.2.2 dX9_putPart_42

set_option maxHeartbeats 8000000 in
set_option maxRecDepth 100000 in
theorem c_X9_write (l : Launch) (dC : Nat → ClassId) (dI : Nat → Nat → Nat) (sz : Nat) (h_wr : Nat) (h_wb : Nat) (h_wd : Nat) (h_wh : Nat) (h_bd : Nat) (h_bnd : Nat) (h_td : Nat) (h_nam : Nat) (h_var : Nat) (h_trm : Nat) (h_ter : Nat) (x_wr_length : Int32) (x_wr_drafted : Int32) (x_wr_held : Int32) (cy_wb : ClassId) (f_wb : Nat → Int32) (cy_wd : ClassId) (f_wd : Nat → Int32) (cy_wh : ClassId) (f_wh : Nat → Int32) (v_bd : Nat → Value) (cy_bnd : ClassId) (f_bnd : Nat → Int32) (v_td : Nat → Value) (cy_nam : ClassId) (f_nam : Nat → Int64) (cy_var : ClassId) (f_var : Nat → Int32) (cy_trm : ClassId) (f_trm : Nat → Int32) (cy_ter : ClassId) (f_ter : Nat → Int32) (p1 : Int32) (p2 : Int32) (p3 : Int32) (hx_wr_length : 0 ≤ (x_wr_length).toInt ∧ (x_wr_length).toInt ≤ 600) (hx_wr_drafted : 0 ≤ (x_wr_drafted).toInt ∧ (x_wr_drafted).toInt ≤ 616) (hx_wr_held : 0 ≤ (x_wr_held).toInt ∧ (x_wr_held).toInt ≤ 2048) (hf_wh : Rg (-127) 9599 f_wh) (hf_bnd : Rg 0 9600 f_bnd) (hf_var : Rg (-1) 7 f_var) (hf_trm : Rg 0 3 f_trm) (hf_ter : Rg 0 299 f_ter) (q0 : 0 ≤ (p1).toInt ∧ (p1).toInt ≤ 9599) : Met l yX9_write (Ws yX9_write cX9_write 5 (some .int)) (({ frames := 3, cells := 0, slots := 0, locals := 80 } : Room)) (PRE (dC, dI) cls [(cy_wb, .int), (cy_wd, .int), (cy_wh, .int), (cy_bnd, .int), (cy_nam, .long), (cy_var, .int), (cy_trm, .int), (cy_ter, .int)] [(h_wr, .inr (6, (mo39 (.ref h_td) (.ref h_bd) (.ref h_wb) (.int x_wr_length) (.ref h_wd) (.int x_wr_drafted) (.ref h_wh) (.int x_wr_held)))), (h_wb, .inl (cy_wb, 600, .inl f_wb)), (h_wd, .inl (cy_wd, 616, .inl f_wd)), (h_wh, .inl (cy_wh, 2048, .inl f_wh)), (h_bd, .inr (1, (mo9 v_bd (.ref h_td) (.ref h_bnd)))), (h_bnd, .inl (cy_bnd, 256, .inl f_bnd)), (h_td, .inr (5, (mo21 v_td (.ref h_nam) (.ref h_var) (.ref h_trm) (.ref h_ter)))), (h_nam, .inl (cy_nam, 300, .inr (.inl f_nam))), (h_var, .inl (cy_var, 300, .inl f_var)), (h_trm, .inl (cy_trm, 300, .inl f_trm)), (h_ter, .inl (cy_ter, 900, .inl f_ter))] sz [.ref h_wr, .int p1, .int p2, .int p3]) (va_Qi (fun (r : Int32) (u : (Int32) × (Int32) × (Int32) × (Nat → Int32) × (Nat → Int32) × (Nat → Int32)) => (0 ≤ (u.1).toInt ∧ (u.1).toInt ≤ 600) ∧ (0 ≤ (u.2.1).toInt ∧ (u.2.1).toInt ≤ 616) ∧ (0 ≤ (u.2.2.1).toInt ∧ (u.2.2.1).toInt ≤ 2048) ∧ (Rg (-127) 9599 u.2.2.2.2.2)) (fun (u : (Int32) × (Int32) × (Int32) × (Nat → Int32) × (Nat → Int32) × (Nat → Int32)) (t : State) => va_P (dC, dI) cls [(h_wr, .inr (6, (mo39 (.ref h_td) (.ref h_bd) (.ref h_wb) (.int u.1) (.ref h_wd) (.int u.2.1) (.ref h_wh) (.int u.2.2.1)))), (h_wb, .inl (cy_wb, 600, .inl u.2.2.2.1)), (h_wd, .inl (cy_wd, 616, .inl u.2.2.2.2.1)), (h_wh, .inl (cy_wh, 2048, .inl u.2.2.2.2.2)), (h_bd, .inr (1, (mo9 v_bd (.ref h_td) (.ref h_bnd)))), (h_bnd, .inl (cy_bnd, 256, .inl f_bnd)), (h_td, .inr (5, (mo21 v_td (.ref h_nam) (.ref h_var) (.ref h_trm) (.ref h_ter)))), (h_nam, .inl (cy_nam, 300, .inr (.inl f_nam))), (h_var, .inl (cy_var, 300, .inl f_var)), (h_trm, .inl (cy_trm, 300, .inl f_trm)), (h_ter, .inl (cy_ter, 900, .inl f_ter))] t.heap ∧ va_D (va_A [(h_wr, .inr (6, (mo39 (.ref h_td) (.ref h_bd) (.ref h_wb) (.int x_wr_length) (.ref h_wd) (.int x_wr_drafted) (.ref h_wh) (.int x_wr_held)))), (h_wb, .inl (cy_wb, 600, .inl f_wb)), (h_wd, .inl (cy_wd, 616, .inl f_wd)), (h_wh, .inl (cy_wh, 2048, .inl f_wh)), (h_bd, .inr (1, (mo9 v_bd (.ref h_td) (.ref h_bnd)))), (h_bnd, .inl (cy_bnd, 256, .inl f_bnd)), (h_td, .inr (5, (mo21 v_td (.ref h_nam) (.ref h_var) (.ref h_trm) (.ref h_ter)))), (h_nam, .inl (cy_nam, 300, .inr (.inl f_nam))), (h_var, .inl (cy_var, 300, .inl f_var)), (h_trm, .inl (cy_trm, 300, .inl f_trm)), (h_ter, .inl (cy_ter, 900, .inl f_ter))] sz) [(h_wr, .inr (6, (mo39 (.ref h_td) (.ref h_bd) (.ref h_wb) (.int u.1) (.ref h_wd) (.int u.2.1) (.ref h_wh) (.int u.2.2.1)))), (h_wb, .inl (cy_wb, 600, .inl u.2.2.2.1)), (h_wd, .inl (cy_wd, 616, .inl u.2.2.2.2.1)), (h_wh, .inl (cy_wh, 2048, .inl u.2.2.2.2.2)), (h_bd, .inr (1, (mo9 v_bd (.ref h_td) (.ref h_bnd)))), (h_bnd, .inl (cy_bnd, 256, .inl f_bnd)), (h_td, .inr (5, (mo21 v_td (.ref h_nam) (.ref h_var) (.ref h_trm) (.ref h_ter)))), (h_nam, .inl (cy_nam, 300, .inr (.inl f_nam))), (h_var, .inl (cy_var, 300, .inl f_var)), (h_trm, .inl (cy_trm, 300, .inl f_trm)), (h_ter, .inl (cy_ter, 900, .inl f_ter))]) (va_A [(h_wr, .inr (6, (mo39 (.ref h_td) (.ref h_bd) (.ref h_wb) (.int x_wr_length) (.ref h_wd) (.int x_wr_drafted) (.ref h_wh) (.int x_wr_held)))), (h_wb, .inl (cy_wb, 600, .inl f_wb)), (h_wd, .inl (cy_wd, 616, .inl f_wd)), (h_wh, .inl (cy_wh, 2048, .inl f_wh)), (h_bd, .inr (1, (mo9 v_bd (.ref h_td) (.ref h_bnd)))), (h_bnd, .inl (cy_bnd, 256, .inl f_bnd)), (h_td, .inr (5, (mo21 v_td (.ref h_nam) (.ref h_var) (.ref h_trm) (.ref h_ter)))), (h_nam, .inl (cy_nam, 300, .inr (.inl f_nam))), (h_var, .inl (cy_var, 300, .inl f_var)), (h_trm, .inl (cy_trm, 300, .inl f_trm)), (h_ter, .inl (cy_ter, 900, .inl f_ter))] sz)) 0 0 (va_A [(h_wr, .inr (6, (mo39 (.ref h_td) (.ref h_bd) (.ref h_wb) (.int x_wr_length) (.ref h_wd) (.int x_wr_drafted) (.ref h_wh) (.int x_wr_held)))), (h_wb, .inl (cy_wb, 600, .inl f_wb)), (h_wd, .inl (cy_wd, 616, .inl f_wd)), (h_wh, .inl (cy_wh, 2048, .inl f_wh)), (h_bd, .inr (1, (mo9 v_bd (.ref h_td) (.ref h_bnd)))), (h_bnd, .inl (cy_bnd, 256, .inl f_bnd)), (h_td, .inr (5, (mo21 v_td (.ref h_nam) (.ref h_var) (.ref h_trm) (.ref h_ter)))), (h_nam, .inl (cy_nam, 300, .inr (.inl f_nam))), (h_var, .inl (cy_var, 300, .inl f_var)), (h_trm, .inl (cy_trm, 300, .inl f_trm)), (h_ter, .inl (cy_ter, 900, .inl f_ter))] sz) := by
  refine Met.ofW (cc := cX9_write) (maxL := 5) (ret := (some .int)) (by decide) rfl ?_
  intro p e s m args below meth c s₁ B hml hv
  obtain ⟨rfl, hsz, hP, hK, hD0, hN⟩ := hv
  have hx := B.exec
  have hb := B.bytes
  have hr := B.returns
  have hts := atoms_spec (ws := Ws yX9_write cX9_write 5 (some .int)) B.pre
  have hT : ∀ w ∈ WALL, w ∈ Ws yX9_write cX9_write 5 (some .int) := fun w h => List.mem_cons_of_mem _ h
  have hw := fun w (h : w ∈ WALL) => hts w (hT w h)
  have hown : s.vm.findClass RX9 = some m.cls := findClass_of_methodNamed B.named
  have hlocks := B.notSynchronized
  subst hsz
  have hD := hD0.self (sz := s.heap.size)
  generalize hAe : va_A [(h_wr, .inr (6, (mo39 (.ref h_td) (.ref h_bd) (.ref h_wb) (.int x_wr_length) (.ref h_wd) (.int x_wr_drafted) (.ref h_wh) (.int x_wr_held)))), (h_wb, .inl (cy_wb, 600, .inl f_wb)), (h_wd, .inl (cy_wd, 616, .inl f_wd)), (h_wh, .inl (cy_wh, 2048, .inl f_wh)), (h_bd, .inr (1, (mo9 v_bd (.ref h_td) (.ref h_bnd)))), (h_bnd, .inl (cy_bnd, 256, .inl f_bnd)), (h_td, .inr (5, (mo21 v_td (.ref h_nam) (.ref h_var) (.ref h_trm) (.ref h_ter)))), (h_nam, .inl (cy_nam, 300, .inr (.inl f_nam))), (h_var, .inl (cy_var, 300, .inl f_var)), (h_trm, .inl (cy_trm, 300, .inl f_trm)), (h_ter, .inl (cy_ter, 900, .inl f_ter))] s.heap.size = A at hD ⊢
  have hA : ∀ q : Nat, s.heap.size ≤ q → A q := fun q h => by rw [← hAe]; exact Or.inr h
  have hS : va_S A s.heap s.heap [] := va_S.rf
  have hl := lv_entry ([.ref h_wr, .int p1, .int p2, .int p3]) (n := 5) (Nat.le_of_ble_eq_true rfl)
  rw [lg_entry_eq]
  generalize (lg_sl ([.ref h_wr, .int p1, .int p2, .int p3]) ++ List.replicate (5 - (lg_sl ([.ref h_wr, .int p1, .int p2, .int p3])).length) Slot.unset).toArray = ls at hl ⊢
  have hl : lv_has ls 5 [(0, .ref h_wr), (1, .int p1), (2, .int p2), (3, .int p3)] := hl
  refine lv_aload_n hx hb dX9_write_0 rfl (lv_at hl 0 rfl) ?_
  refine lv_iconst (v := 0) hx hb dX9_write_1 (by decide) ?_
  refine va_put (D := (dC, dI)) (ci := 6) (v := .int 0) (ty := tyX9 5) (C := RX9) (T := TX9) (N := 8) hx hb hw iwX9 tyX9 tyX9_ok nmX9 hown hK hP hD hS 0 rfl rfl 5 (by decide) (hw _ w_f_X9_29) (fun _ h9 => h9) rfl (tyX9_ok 5 (by decide)) rfl rfl (Nat.le_of_ble_eq_true rfl) dX9_write_2 (fun H locs hP9 hD9 hS9 => ?_)
  clear hP hD hS
  have hP : va_P (dC, dI) cls [(h_wr, .inr (6, (mo39 (.ref h_td) (.ref h_bd) (.ref h_wb) (.int x_wr_length) (.ref h_wd) (.int 0) (.ref h_wh) (.int x_wr_held)))), (h_wb, .inl (cy_wb, 600, .inl f_wb)), (h_wd, .inl (cy_wd, 616, .inl f_wd)), (h_wh, .inl (cy_wh, 2048, .inl f_wh)), (h_bd, .inr (1, (mo9 v_bd (.ref h_td) (.ref h_bnd)))), (h_bnd, .inl (cy_bnd, 256, .inl f_bnd)), (h_td, .inr (5, (mo21 v_td (.ref h_nam) (.ref h_var) (.ref h_trm) (.ref h_ter)))), (h_nam, .inl (cy_nam, 300, .inr (.inl f_nam))), (h_var, .inl (cy_var, 300, .inl f_var)), (h_trm, .inl (cy_trm, 300, .inl f_trm)), (h_ter, .inl (cy_ter, 900, .inl f_ter))] H := hP9
  have hD : va_D A [(h_wr, .inr (6, (mo39 (.ref h_td) (.ref h_bd) (.ref h_wb) (.int x_wr_length) (.ref h_wd) (.int 0) (.ref h_wh) (.int x_wr_held)))), (h_wb, .inl (cy_wb, 600, .inl f_wb)), (h_wd, .inl (cy_wd, 616, .inl f_wd)), (h_wh, .inl (cy_wh, 2048, .inl f_wh)), (h_bd, .inr (1, (mo9 v_bd (.ref h_td) (.ref h_bnd)))), (h_bnd, .inl (cy_bnd, 256, .inl f_bnd)), (h_td, .inr (5, (mo21 v_td (.ref h_nam) (.ref h_var) (.ref h_trm) (.ref h_ter)))), (h_nam, .inl (cy_nam, 300, .inr (.inl f_nam))), (h_var, .inl (cy_var, 300, .inl f_var)), (h_trm, .inl (cy_trm, 300, .inl f_trm)), (h_ter, .inl (cy_ter, 900, .inl f_ter))] := hD9
  have hS := hS9
  clear hP9 hD9 hS9
  refine lv_iload_n hx hb dX9_write_5 rfl (lv_at hl 2 rfl) ?_
  refine lv_if_eq (tgt := 15) hx hb dX9_write_6 (by decide) (fun c1 => ?_) (fun c1 => ?_)
  · have kc1 := (cv_eq (rfl : (p2).toInt = (p2).toInt) (by decide : (0 : Int32).toInt = 0)).mp c1
    refine lv_aload_n hx hb dX9_write_15 rfl (lv_at hl 0 rfl) ?_
    refine va_get (D := (dC, dI)) (ci := 6) (v := .ref h_wh) (C := RX9) (T := TX9) (N := 8) hx hb hw iwX9 hown hK hP 0 rfl rfl 6 (by decide) (hw _ w_f_X9_18) (fun _ h9 => h9) rfl dX9_write_16 ?_
    refine lv_iconst (v := 0) hx hb dX9_write_19 (by decide) ?_
    refine lv_iload_n hx hb dX9_write_20 rfl (lv_at hl 1 rfl) ?_
    refine va_iast hx hb hK hP hD hS 3 2 rfl rfl (i := 0) (x := p1) (show ¬ _ from by decide) dX9_write_21 (fun H locs hP9 hD9 hS9 => ?_)
    obtain ⟨f2, ef2⟩ : ∃ g : Nat → Int32, g = upd f_wh (Int32.toNatClampNeg 0) p1 := ⟨_, rfl⟩
    clear hP hD hS
    have hP : va_P (dC, dI) cls [(h_wr, .inr (6, (mo39 (.ref h_td) (.ref h_bd) (.ref h_wb) (.int x_wr_length) (.ref h_wd) (.int 0) (.ref h_wh) (.int x_wr_held)))), (h_wb, .inl (cy_wb, 600, .inl f_wb)), (h_wd, .inl (cy_wd, 616, .inl f_wd)), (h_wh, .inl (cy_wh, 2048, .inl f2)), (h_bd, .inr (1, (mo9 v_bd (.ref h_td) (.ref h_bnd)))), (h_bnd, .inl (cy_bnd, 256, .inl f_bnd)), (h_td, .inr (5, (mo21 v_td (.ref h_nam) (.ref h_var) (.ref h_trm) (.ref h_ter)))), (h_nam, .inl (cy_nam, 300, .inr (.inl f_nam))), (h_var, .inl (cy_var, 300, .inl f_var)), (h_trm, .inl (cy_trm, 300, .inl f_trm)), (h_ter, .inl (cy_ter, 900, .inl f_ter))] H := by rw [ef2]; exact hP9
    have hD : va_D A [(h_wr, .inr (6, (mo39 (.ref h_td) (.ref h_bd) (.ref h_wb) (.int x_wr_length) (.ref h_wd) (.int 0) (.ref h_wh) (.int x_wr_held)))), (h_wb, .inl (cy_wb, 600, .inl f_wb)), (h_wd, .inl (cy_wd, 616, .inl f_wd)), (h_wh, .inl (cy_wh, 2048, .inl f2)), (h_bd, .inr (1, (mo9 v_bd (.ref h_td) (.ref h_bnd)))), (h_bnd, .inl (cy_bnd, 256, .inl f_bnd)), (h_td, .inr (5, (mo21 v_td (.ref h_nam) (.ref h_var) (.ref h_trm) (.ref h_ter)))), (h_nam, .inl (cy_nam, 300, .inr (.inl f_nam))), (h_var, .inl (cy_var, 300, .inl f_var)), (h_trm, .inl (cy_trm, 300, .inl f_trm)), (h_ter, .inl (cy_ter, 900, .inl f_ter))] := by rw [ef2]; exact hD9
    have hS := hS9
    clear hP9 hD9 hS9
    have hf2 : Rg (-127) 9599 f2 := by rw [ef2]; exact rg_upd hf_wh (by omega)
    clear ef2
    refine lv_aload_n hx hb dX9_write_22 rfl (lv_at hl 0 rfl) ?_
    refine lv_iconst (v := 1) hx hb dX9_write_23 (by decide) ?_
    refine va_put (D := (dC, dI)) (ci := 6) (v := .int 1) (ty := tyX9 7) (C := RX9) (T := TX9) (N := 8) hx hb hw iwX9 tyX9 tyX9_ok nmX9 hown hK hP hD hS 0 rfl rfl 7 (by decide) (hw _ w_f_X9_37) (fun _ h9 => h9) rfl (tyX9_ok 7 (by decide)) rfl rfl (Nat.le_of_ble_eq_true rfl) dX9_write_24 (fun H locs hP9 hD9 hS9 => ?_)
    clear hP hD hS
    have hP : va_P (dC, dI) cls [(h_wr, .inr (6, (mo39 (.ref h_td) (.ref h_bd) (.ref h_wb) (.int x_wr_length) (.ref h_wd) (.int 0) (.ref h_wh) (.int 1)))), (h_wb, .inl (cy_wb, 600, .inl f_wb)), (h_wd, .inl (cy_wd, 616, .inl f_wd)), (h_wh, .inl (cy_wh, 2048, .inl f2)), (h_bd, .inr (1, (mo9 v_bd (.ref h_td) (.ref h_bnd)))), (h_bnd, .inl (cy_bnd, 256, .inl f_bnd)), (h_td, .inr (5, (mo21 v_td (.ref h_nam) (.ref h_var) (.ref h_trm) (.ref h_ter)))), (h_nam, .inl (cy_nam, 300, .inr (.inl f_nam))), (h_var, .inl (cy_var, 300, .inl f_var)), (h_trm, .inl (cy_trm, 300, .inl f_trm)), (h_ter, .inl (cy_ter, 900, .inl f_ter))] H := hP9
    have hD : va_D A [(h_wr, .inr (6, (mo39 (.ref h_td) (.ref h_bd) (.ref h_wb) (.int x_wr_length) (.ref h_wd) (.int 0) (.ref h_wh) (.int 1)))), (h_wb, .inl (cy_wb, 600, .inl f_wb)), (h_wd, .inl (cy_wd, 616, .inl f_wd)), (h_wh, .inl (cy_wh, 2048, .inl f2)), (h_bd, .inr (1, (mo9 v_bd (.ref h_td) (.ref h_bnd)))), (h_bnd, .inl (cy_bnd, 256, .inl f_bnd)), (h_td, .inr (5, (mo21 v_td (.ref h_nam) (.ref h_var) (.ref h_trm) (.ref h_ter)))), (h_nam, .inl (cy_nam, 300, .inr (.inl f_nam))), (h_var, .inl (cy_var, 300, .inl f_var)), (h_trm, .inl (cy_trm, 300, .inl f_trm)), (h_ter, .inl (cy_ter, 900, .inl f_ter))] := hD9
    have hS := hS9
    clear hP9 hD9 hS9
    refine lv_iconst (v := 0) hx hb dX9_write_27 (by decide) ?_
    refine lv_istore (lv' := [(4, .int 0), (0, .ref h_wr), (1, .int p1), (2, .int p2), (3, .int p3)]) hx hb dX9_write_28 hl (by decide) rfl (fun ls hl => ?_)
    have lp8 : ∀ (n : Nat) (x3 : Int32) (x4 : Int32) (x5 : Int32) (f6 : Nat → Int32) (f7 : Nat → Int32) (H : Heap) (locs : List Loc) (ls : Array Slot), (0 ≤ (x3).toInt ∧ (x3).toInt ≤ 1000000) → (0 ≤ (x4).toInt ∧ (x4).toInt ≤ 616) → (0 ≤ (x5).toInt ∧ (x5).toInt ≤ 2048) → (Rg (-127) 9599 f7) → (1000000 - (x3).toInt).toNat + 1 ≤ n → va_P (dC, dI) cls [(h_wr, .inr (6, (mo39 (.ref h_td) (.ref h_bd) (.ref h_wb) (.int x_wr_length) (.ref h_wd) (.int x4) (.ref h_wh) (.int x5)))), (h_wb, .inl (cy_wb, 600, .inl f_wb)), (h_wd, .inl (cy_wd, 616, .inl f6)), (h_wh, .inl (cy_wh, 2048, .inl f7)), (h_bd, .inr (1, (mo9 v_bd (.ref h_td) (.ref h_bnd)))), (h_bnd, .inl (cy_bnd, 256, .inl f_bnd)), (h_td, .inr (5, (mo21 v_td (.ref h_nam) (.ref h_var) (.ref h_trm) (.ref h_ter)))), (h_nam, .inl (cy_nam, 300, .inr (.inl f_nam))), (h_var, .inl (cy_var, 300, .inl f_var)), (h_trm, .inl (cy_trm, 300, .inl f_trm)), (h_ter, .inl (cy_ter, 900, .inl f_ter))] H → va_D A [(h_wr, .inr (6, (mo39 (.ref h_td) (.ref h_bd) (.ref h_wb) (.int x_wr_length) (.ref h_wd) (.int x4) (.ref h_wh) (.int x5)))), (h_wb, .inl (cy_wb, 600, .inl f_wb)), (h_wd, .inl (cy_wd, 616, .inl f6)), (h_wh, .inl (cy_wh, 2048, .inl f7)), (h_bd, .inr (1, (mo9 v_bd (.ref h_td) (.ref h_bnd)))), (h_bnd, .inl (cy_bnd, 256, .inl f_bnd)), (h_td, .inr (5, (mo21 v_td (.ref h_nam) (.ref h_var) (.ref h_trm) (.ref h_ter)))), (h_nam, .inl (cy_nam, 300, .inr (.inl f_nam))), (h_var, .inl (cy_var, 300, .inl f_var)), (h_trm, .inl (cy_trm, 300, .inl f_trm)), (h_ter, .inl (cy_ter, 900, .inl f_ter))] → va_S A s.heap H locs → lv_has ls 5 [(0, .ref h_wr), (1, .int p1), (2, .int p2), (3, .int p3), (4, .int x3)] → W p l e ({ frames := 3, cells := 0, slots := 0, locals := 80 } : Room) s m ([.ref h_wr, .int p1, .int p2, .int p3] : List Value).toArray below meth c H locs 0 0 (MQ below (va_Qi (fun (r : Int32) (u : (Int32) × (Int32) × (Int32) × (Nat → Int32) × (Nat → Int32) × (Nat → Int32)) => (0 ≤ (u.1).toInt ∧ (u.1).toInt ≤ 600) ∧ (0 ≤ (u.2.1).toInt ∧ (u.2.1).toInt ≤ 616) ∧ (0 ≤ (u.2.2.1).toInt ∧ (u.2.2.1).toInt ≤ 2048) ∧ (Rg (-127) 9599 u.2.2.2.2.2)) (fun (u : (Int32) × (Int32) × (Int32) × (Nat → Int32) × (Nat → Int32) × (Nat → Int32)) (t : State) => va_P (dC, dI) cls [(h_wr, .inr (6, (mo39 (.ref h_td) (.ref h_bd) (.ref h_wb) (.int u.1) (.ref h_wd) (.int u.2.1) (.ref h_wh) (.int u.2.2.1)))), (h_wb, .inl (cy_wb, 600, .inl u.2.2.2.1)), (h_wd, .inl (cy_wd, 616, .inl u.2.2.2.2.1)), (h_wh, .inl (cy_wh, 2048, .inl u.2.2.2.2.2)), (h_bd, .inr (1, (mo9 v_bd (.ref h_td) (.ref h_bnd)))), (h_bnd, .inl (cy_bnd, 256, .inl f_bnd)), (h_td, .inr (5, (mo21 v_td (.ref h_nam) (.ref h_var) (.ref h_trm) (.ref h_ter)))), (h_nam, .inl (cy_nam, 300, .inr (.inl f_nam))), (h_var, .inl (cy_var, 300, .inl f_var)), (h_trm, .inl (cy_trm, 300, .inl f_trm)), (h_ter, .inl (cy_ter, 900, .inl f_ter))] t.heap ∧ va_D A [(h_wr, .inr (6, (mo39 (.ref h_td) (.ref h_bd) (.ref h_wb) (.int u.1) (.ref h_wd) (.int u.2.1) (.ref h_wh) (.int u.2.2.1)))), (h_wb, .inl (cy_wb, 600, .inl u.2.2.2.1)), (h_wd, .inl (cy_wd, 616, .inl u.2.2.2.2.1)), (h_wh, .inl (cy_wh, 2048, .inl u.2.2.2.2.2)), (h_bd, .inr (1, (mo9 v_bd (.ref h_td) (.ref h_bnd)))), (h_bnd, .inl (cy_bnd, 256, .inl f_bnd)), (h_td, .inr (5, (mo21 v_td (.ref h_nam) (.ref h_var) (.ref h_trm) (.ref h_ter)))), (h_nam, .inl (cy_nam, 300, .inr (.inl f_nam))), (h_var, .inl (cy_var, 300, .inl f_var)), (h_trm, .inl (cy_trm, 300, .inl f_trm)), (h_ter, .inl (cy_ter, 900, .inl f_ter))]) A) ([.ref h_wr, .int p1, .int p2, .int p3] : List Value).toArray s 0 0 A) (F0 m 30 ls []) := by
      clear hP hD hS hl
      intro n
      induction n with
      | zero => intro x3 x4 x5 f6 f7 H locs ls klp8_0 klp8_1 klp8_2 hf7 hm hP hD hS hl; exact False.elim (by omega)
      | succ n ih => 
        intro x3 x4 x5 f6 f7 H locs ls klp8_0 klp8_1 klp8_2 hf7 hm hP hD hS hl
        have ih9 := ih
        clear ih
        refine lv_iload hx hb dX9_write_30 (lv_at hl 4 rfl) ?_
        refine lv_ldc (v := 1000000) hx hb hown (hw _ w_k_X9_40) dX9_write_32 ?_
        refine lv_icmp_ge (tgt := 117) hx hb dX9_write_34 (by decide) (fun c10 => ?_) (fun c10 => ?_)
        · have kc10 := (cv_le (by decide : (1000000 : Int32).toInt = 1000000) (rfl : (x3).toInt = (x3).toInt)).mp c10
          refine lv_aload_n hx hb dX9_write_117 rfl (lv_at hl 0 rfl) ?_
          refine va_get (D := (dC, dI)) (ci := 6) (v := .int x5) (C := RX9) (T := TX9) (N := 8) hx hb hw iwX9 hown hK hP 0 rfl rfl 7 (by decide) (hw _ w_f_X9_37) (fun _ h9 => h9) rfl dX9_write_118 ?_
          refine lv_if_gt (tgt := 142) hx hb dX9_write_121 (by decide) (fun c11 => ?_) (fun c11 => ?_)
          · have kc11 := (cv_lt (by decide : (0 : Int32).toInt = 0) (rfl : (x5).toInt = (x5).toInt)).mp c11
            refine lv_iconst (v := (-1)) hx hb dX9_write_142 (by decide) ?_
            refine W.widen (k := 0) (n := 0) (Nat.le_of_ble_eq_true rfl) (Nat.le_of_ble_eq_true rfl) ?_
            have cstm1 : ((-1) : Int32).toInt = -1 := by decide
            have w12 : 0 ≤ ((x_wr_length)).toInt ∧ ((x_wr_length)).toInt ≤ 600 := by first | exact hx_wr_length | omega
            have w13 : 0 ≤ ((x4)).toInt ∧ ((x4)).toInt ≤ 616 := by first | exact klp8_1 | omega
            have w14 : 0 ≤ ((x5)).toInt ∧ ((x5)).toInt ≤ 2048 := by first | exact klp8_2 | omega
            exact W.iret (v := (-1)) hx hb hr (fun t ht hW => ⟨⟨(-1), (x_wr_length, x4, x5, f_wb, f6, f7), rfl, ⟨w12, w13, w14, hf7⟩, by rw [ht]; exact hP, hD⟩, hS.F ht⟩) hS.2.2 dX9_write_143
          · have kc11 := (not_congr (cv_lt (by decide : (0 : Int32).toInt = 0) (rfl : (x5).toInt = (x5).toInt))).mp c11
            refine lv_aload_n hx hb dX9_write_124 rfl (lv_at hl 0 rfl) ?_
            refine va_get (D := (dC, dI)) (ci := 6) (v := .int x4) (C := RX9) (T := TX9) (N := 8) hx hb hw iwX9 hown hK hP 0 rfl rfl 5 (by decide) (hw _ w_f_X9_29) (fun _ h9 => h9) rfl dX9_write_125 ?_
            refine lv_iload_n hx hb dX9_write_128 rfl (lv_at hl 3 rfl) ?_
            refine lv_icmp_gt (tgt := 142) hx hb dX9_write_129 (by decide) (fun c15 => ?_) (fun c15 => ?_)
            · have kc15 := (cv_lt (rfl : (p3).toInt = (p3).toInt) (rfl : (x4).toInt = (x4).toInt)).mp c15
              refine lv_iconst (v := (-1)) hx hb dX9_write_142 (by decide) ?_
              refine W.widen (k := 0) (n := 0) (Nat.le_of_ble_eq_true rfl) (Nat.le_of_ble_eq_true rfl) ?_
              have cstm1 : ((-1) : Int32).toInt = -1 := by decide
              have w16 : 0 ≤ ((x_wr_length)).toInt ∧ ((x_wr_length)).toInt ≤ 600 := by first | exact hx_wr_length | omega
              have w17 : 0 ≤ ((x4)).toInt ∧ ((x4)).toInt ≤ 616 := by first | exact klp8_1 | omega
              have w18 : 0 ≤ ((x5)).toInt ∧ ((x5)).toInt ≤ 2048 := by first | exact klp8_2 | omega
              exact W.iret (v := (-1)) hx hb hr (fun t ht hW => ⟨⟨(-1), (x_wr_length, x4, x5, f_wb, f6, f7), rfl, ⟨w16, w17, w18, hf7⟩, by rw [ht]; exact hP, hD⟩, hS.F ht⟩) hS.2.2 dX9_write_143
            · have kc15 := (not_congr (cv_lt (rfl : (p3).toInt = (p3).toInt) (rfl : (x4).toInt = (x4).toInt))).mp c15
              refine lv_aload_n hx hb dX9_write_132 rfl (lv_at hl 0 rfl) ?_
              refine va_get (D := (dC, dI)) (ci := 6) (v := .int x4) (C := RX9) (T := TX9) (N := 8) hx hb hw iwX9 hown hK hP 0 rfl rfl 5 (by decide) (hw _ w_f_X9_29) (fun _ h9 => h9) rfl dX9_write_133 ?_
              refine lv_sipush (v := 600) hx hb dX9_write_136 (by decide) ?_
              refine lv_icmp_le (tgt := 144) hx hb dX9_write_139 (by decide) (fun c19 => ?_) (fun c19 => ?_)
              · have kc19 := (cv_le (rfl : (x4).toInt = (x4).toInt) (by decide : (600 : Int32).toInt = 600)).mp c19
                refine lv_aload_n hx hb dX9_write_144 rfl (lv_at hl 0 rfl) ?_
                refine va_get (D := (dC, dI)) (ci := 6) (v := .ref h_wd) (C := RX9) (T := TX9) (N := 8) hx hb hw iwX9 hown hK hP 0 rfl rfl 4 (by decide) (hw _ w_f_X9_15) (fun _ h9 => h9) rfl dX9_write_145 ?_
                refine lv_iconst (v := 0) hx hb dX9_write_148 (by decide) ?_
                refine lv_aload_n hx hb dX9_write_149 rfl (lv_at hl 0 rfl) ?_
                refine va_get (D := (dC, dI)) (ci := 6) (v := .ref h_wb) (C := RX9) (T := TX9) (N := 8) hx hb hw iwX9 hown hK hP 0 rfl rfl 2 (by decide) (hw _ w_f_X9_9) (fun _ h9 => h9) rfl dX9_write_150 ?_
                refine lv_iconst (v := 0) hx hb dX9_write_153 (by decide) ?_
                refine lv_aload_n hx hb dX9_write_154 rfl (lv_at hl 0 rfl) ?_
                refine va_get (D := (dC, dI)) (ci := 6) (v := .int x4) (C := RX9) (T := TX9) (N := 8) hx hb hw iwX9 hown hK hP 0 rfl rfl 5 (by decide) (hw _ w_f_X9_29) (fun _ h9 => h9) rfl dX9_write_155 ?_
                refine va_copyi hx hb (hml.trans hl.1.symm) hown (hw _ w_m_X9_50) (hw _ w_acn) (hw _ w_acs) (hw _ w_ini_System) hK hP hD hS 2 1 1 0 (sp := 0) (dp := 0) (n := x4) rfl rfl rfl rfl rfl (by decide) (by decide) (fun q => by have := (cv_lt (rfl : (x4).toInt = (x4).toInt) (by decide : (0 : Int32).toInt = 0)).mp q; omega) (by have : (0 : Int32).toNatClampNeg = 0 := (by decide); have := clamp_toInt (i := x4) (by omega); omega) (by have : (0 : Int32).toNatClampNeg = 0 := (by decide); have := clamp_toInt (i := x4) (by omega); omega) (fun _ _ => rfl) (Nat.le_of_ble_eq_true rfl) (Nat.le_of_ble_eq_true rfl) dX9_write_158 (fun H locs hP hD hS => ?_)
                obtain ⟨f20, ef20⟩ : ∃ g : Nat → Int32, g = va_cpy f6 f_wb (Int32.toNatClampNeg 0) (Int32.toNatClampNeg 0) (Int32.toNatClampNeg x4) := ⟨_, rfl⟩
                have hP : va_P (dC, dI) cls [(h_wr, .inr (6, (mo39 (.ref h_td) (.ref h_bd) (.ref h_wb) (.int x_wr_length) (.ref h_wd) (.int x4) (.ref h_wh) (.int x5)))), (h_wb, .inl (cy_wb, 600, .inl f20)), (h_wd, .inl (cy_wd, 616, .inl f6)), (h_wh, .inl (cy_wh, 2048, .inl f7)), (h_bd, .inr (1, (mo9 v_bd (.ref h_td) (.ref h_bnd)))), (h_bnd, .inl (cy_bnd, 256, .inl f_bnd)), (h_td, .inr (5, (mo21 v_td (.ref h_nam) (.ref h_var) (.ref h_trm) (.ref h_ter)))), (h_nam, .inl (cy_nam, 300, .inr (.inl f_nam))), (h_var, .inl (cy_var, 300, .inl f_var)), (h_trm, .inl (cy_trm, 300, .inl f_trm)), (h_ter, .inl (cy_ter, 900, .inl f_ter))] H := by rw [ef20]; exact hP
                have hD : va_D A [(h_wr, .inr (6, (mo39 (.ref h_td) (.ref h_bd) (.ref h_wb) (.int x_wr_length) (.ref h_wd) (.int x4) (.ref h_wh) (.int x5)))), (h_wb, .inl (cy_wb, 600, .inl f20)), (h_wd, .inl (cy_wd, 616, .inl f6)), (h_wh, .inl (cy_wh, 2048, .inl f7)), (h_bd, .inr (1, (mo9 v_bd (.ref h_td) (.ref h_bnd)))), (h_bnd, .inl (cy_bnd, 256, .inl f_bnd)), (h_td, .inr (5, (mo21 v_td (.ref h_nam) (.ref h_var) (.ref h_trm) (.ref h_ter)))), (h_nam, .inl (cy_nam, 300, .inr (.inl f_nam))), (h_var, .inl (cy_var, 300, .inl f_var)), (h_trm, .inl (cy_trm, 300, .inl f_trm)), (h_ter, .inl (cy_ter, 900, .inl f_ter))] := by rw [ef20]; exact hD
                clear ef20
                refine lv_aload_n hx hb dX9_write_161 rfl (lv_at hl 0 rfl) ?_
                refine lv_aload_n hx hb dX9_write_162 rfl (lv_at hl 0 rfl) ?_
                refine va_get (D := (dC, dI)) (ci := 6) (v := .int x4) (C := RX9) (T := TX9) (N := 8) hx hb hw iwX9 hown hK hP 0 rfl rfl 5 (by decide) (hw _ w_f_X9_29) (fun _ h9 => h9) rfl dX9_write_163 ?_
                refine va_put (D := (dC, dI)) (ci := 6) (v := .int x4) (ty := tyX9 3) (C := RX9) (T := TX9) (N := 8) hx hb hw iwX9 tyX9 tyX9_ok nmX9 hown hK hP hD hS 0 rfl rfl 3 (by decide) (hw _ w_f_X9_56) (fun _ h9 => h9) rfl (tyX9_ok 3 (by decide)) rfl rfl (Nat.le_of_ble_eq_true rfl) dX9_write_166 (fun H locs hP9 hD9 hS9 => ?_)
                clear hP hD hS
                have hP : va_P (dC, dI) cls [(h_wr, .inr (6, (mo39 (.ref h_td) (.ref h_bd) (.ref h_wb) (.int x4) (.ref h_wd) (.int x4) (.ref h_wh) (.int x5)))), (h_wb, .inl (cy_wb, 600, .inl f20)), (h_wd, .inl (cy_wd, 616, .inl f6)), (h_wh, .inl (cy_wh, 2048, .inl f7)), (h_bd, .inr (1, (mo9 v_bd (.ref h_td) (.ref h_bnd)))), (h_bnd, .inl (cy_bnd, 256, .inl f_bnd)), (h_td, .inr (5, (mo21 v_td (.ref h_nam) (.ref h_var) (.ref h_trm) (.ref h_ter)))), (h_nam, .inl (cy_nam, 300, .inr (.inl f_nam))), (h_var, .inl (cy_var, 300, .inl f_var)), (h_trm, .inl (cy_trm, 300, .inl f_trm)), (h_ter, .inl (cy_ter, 900, .inl f_ter))] H := hP9
                have hD : va_D A [(h_wr, .inr (6, (mo39 (.ref h_td) (.ref h_bd) (.ref h_wb) (.int x4) (.ref h_wd) (.int x4) (.ref h_wh) (.int x5)))), (h_wb, .inl (cy_wb, 600, .inl f20)), (h_wd, .inl (cy_wd, 616, .inl f6)), (h_wh, .inl (cy_wh, 2048, .inl f7)), (h_bd, .inr (1, (mo9 v_bd (.ref h_td) (.ref h_bnd)))), (h_bnd, .inl (cy_bnd, 256, .inl f_bnd)), (h_td, .inr (5, (mo21 v_td (.ref h_nam) (.ref h_var) (.ref h_trm) (.ref h_ter)))), (h_nam, .inl (cy_nam, 300, .inr (.inl f_nam))), (h_var, .inl (cy_var, 300, .inl f_var)), (h_trm, .inl (cy_trm, 300, .inl f_trm)), (h_ter, .inl (cy_ter, 900, .inl f_ter))] := hD9
                have hS := hS9
                clear hP9 hD9 hS9
                refine lv_aload_n hx hb dX9_write_169 rfl (lv_at hl 0 rfl) ?_
                refine va_get (D := (dC, dI)) (ci := 6) (v := .int x4) (C := RX9) (T := TX9) (N := 8) hx hb hw iwX9 hown hK hP 0 rfl rfl 3 (by decide) (hw _ w_f_X9_56) (fun _ h9 => h9) rfl dX9_write_170 ?_
                refine W.widen (k := 0) (n := 0) (Nat.le_of_ble_eq_true rfl) (Nat.le_of_ble_eq_true rfl) ?_
                have w21 : 0 ≤ ((x4)).toInt ∧ ((x4)).toInt ≤ 600 := by omega
                have w22 : 0 ≤ ((x4)).toInt ∧ ((x4)).toInt ≤ 616 := by first | exact klp8_1 | omega
                have w23 : 0 ≤ ((x5)).toInt ∧ ((x5)).toInt ≤ 2048 := by first | exact klp8_2 | omega
                exact W.iret (v := x4) hx hb hr (fun t ht hW => ⟨⟨x4, (x4, x4, x5, f20, f6, f7), rfl, ⟨w21, w22, w23, hf7⟩, by rw [ht]; exact hP, hD⟩, hS.F ht⟩) hS.2.2 dX9_write_173
              · have kc19 := (not_congr (cv_le (rfl : (x4).toInt = (x4).toInt) (by decide : (600 : Int32).toInt = 600))).mp c19
                refine lv_iconst (v := (-1)) hx hb dX9_write_142 (by decide) ?_
                refine W.widen (k := 0) (n := 0) (Nat.le_of_ble_eq_true rfl) (Nat.le_of_ble_eq_true rfl) ?_
                have cstm1 : ((-1) : Int32).toInt = -1 := by decide
                have w24 : 0 ≤ ((x_wr_length)).toInt ∧ ((x_wr_length)).toInt ≤ 600 := by first | exact hx_wr_length | omega
                have w25 : 0 ≤ ((x4)).toInt ∧ ((x4)).toInt ≤ 616 := by first | exact klp8_1 | omega
                have w26 : 0 ≤ ((x5)).toInt ∧ ((x5)).toInt ≤ 2048 := by first | exact klp8_2 | omega
                exact W.iret (v := (-1)) hx hb hr (fun t ht hW => ⟨⟨(-1), (x_wr_length, x4, x5, f_wb, f6, f7), rfl, ⟨w24, w25, w26, hf7⟩, by rw [ht]; exact hP, hD⟩, hS.F ht⟩) hS.2.2 dX9_write_143
        · have kc10 := (not_congr (cv_le (by decide : (1000000 : Int32).toInt = 1000000) (rfl : (x3).toInt = (x3).toInt))).mp c10
          refine lv_aload_n hx hb dX9_write_37 rfl (lv_at hl 0 rfl) ?_
          refine va_get (D := (dC, dI)) (ci := 6) (v := .int x5) (C := RX9) (T := TX9) (N := 8) hx hb hw iwX9 hown hK hP 0 rfl rfl 7 (by decide) (hw _ w_f_X9_37) (fun _ h9 => h9) rfl dX9_write_38 ?_
          refine lv_if_le (tgt := 117) hx hb dX9_write_41 (by decide) (fun c27 => ?_) (fun c27 => ?_)
          · have kc27 := (cv_le (rfl : (x5).toInt = (x5).toInt) (by decide : (0 : Int32).toInt = 0)).mp c27
            refine lv_aload_n hx hb dX9_write_117 rfl (lv_at hl 0 rfl) ?_
            refine va_get (D := (dC, dI)) (ci := 6) (v := .int x5) (C := RX9) (T := TX9) (N := 8) hx hb hw iwX9 hown hK hP 0 rfl rfl 7 (by decide) (hw _ w_f_X9_37) (fun _ h9 => h9) rfl dX9_write_118 ?_
            refine lv_if_gt (tgt := 142) hx hb dX9_write_121 (by decide) (fun c28 => False.elim (by have kc28 := (cv_lt (by decide : (0 : Int32).toInt = 0) (rfl : (x5).toInt = (x5).toInt)).mp c28; omega)) (fun _ => ?_)
            refine lv_aload_n hx hb dX9_write_124 rfl (lv_at hl 0 rfl) ?_
            refine va_get (D := (dC, dI)) (ci := 6) (v := .int x4) (C := RX9) (T := TX9) (N := 8) hx hb hw iwX9 hown hK hP 0 rfl rfl 5 (by decide) (hw _ w_f_X9_29) (fun _ h9 => h9) rfl dX9_write_125 ?_
            refine lv_iload_n hx hb dX9_write_128 rfl (lv_at hl 3 rfl) ?_
            refine lv_icmp_gt (tgt := 142) hx hb dX9_write_129 (by decide) (fun c29 => ?_) (fun c29 => ?_)
            · have kc29 := (cv_lt (rfl : (p3).toInt = (p3).toInt) (rfl : (x4).toInt = (x4).toInt)).mp c29
              refine lv_iconst (v := (-1)) hx hb dX9_write_142 (by decide) ?_
              refine W.widen (k := 0) (n := 0) (Nat.le_of_ble_eq_true rfl) (Nat.le_of_ble_eq_true rfl) ?_
              have cstm1 : ((-1) : Int32).toInt = -1 := by decide
              have w30 : 0 ≤ ((x_wr_length)).toInt ∧ ((x_wr_length)).toInt ≤ 600 := by first | exact hx_wr_length | omega
              have w31 : 0 ≤ ((x4)).toInt ∧ ((x4)).toInt ≤ 616 := by first | exact klp8_1 | omega
              have w32 : 0 ≤ ((x5)).toInt ∧ ((x5)).toInt ≤ 2048 := by first | exact klp8_2 | omega
              exact W.iret (v := (-1)) hx hb hr (fun t ht hW => ⟨⟨(-1), (x_wr_length, x4, x5, f_wb, f6, f7), rfl, ⟨w30, w31, w32, hf7⟩, by rw [ht]; exact hP, hD⟩, hS.F ht⟩) hS.2.2 dX9_write_143
            · have kc29 := (not_congr (cv_lt (rfl : (p3).toInt = (p3).toInt) (rfl : (x4).toInt = (x4).toInt))).mp c29
              refine lv_aload_n hx hb dX9_write_132 rfl (lv_at hl 0 rfl) ?_
              refine va_get (D := (dC, dI)) (ci := 6) (v := .int x4) (C := RX9) (T := TX9) (N := 8) hx hb hw iwX9 hown hK hP 0 rfl rfl 5 (by decide) (hw _ w_f_X9_29) (fun _ h9 => h9) rfl dX9_write_133 ?_
              refine lv_sipush (v := 600) hx hb dX9_write_136 (by decide) ?_
              refine lv_icmp_le (tgt := 144) hx hb dX9_write_139 (by decide) (fun c33 => ?_) (fun c33 => ?_)
              · have kc33 := (cv_le (rfl : (x4).toInt = (x4).toInt) (by decide : (600 : Int32).toInt = 600)).mp c33
                refine lv_aload_n hx hb dX9_write_144 rfl (lv_at hl 0 rfl) ?_
                refine va_get (D := (dC, dI)) (ci := 6) (v := .ref h_wd) (C := RX9) (T := TX9) (N := 8) hx hb hw iwX9 hown hK hP 0 rfl rfl 4 (by decide) (hw _ w_f_X9_15) (fun _ h9 => h9) rfl dX9_write_145 ?_
                refine lv_iconst (v := 0) hx hb dX9_write_148 (by decide) ?_
                refine lv_aload_n hx hb dX9_write_149 rfl (lv_at hl 0 rfl) ?_
                refine va_get (D := (dC, dI)) (ci := 6) (v := .ref h_wb) (C := RX9) (T := TX9) (N := 8) hx hb hw iwX9 hown hK hP 0 rfl rfl 2 (by decide) (hw _ w_f_X9_9) (fun _ h9 => h9) rfl dX9_write_150 ?_
                refine lv_iconst (v := 0) hx hb dX9_write_153 (by decide) ?_
                refine lv_aload_n hx hb dX9_write_154 rfl (lv_at hl 0 rfl) ?_
                refine va_get (D := (dC, dI)) (ci := 6) (v := .int x4) (C := RX9) (T := TX9) (N := 8) hx hb hw iwX9 hown hK hP 0 rfl rfl 5 (by decide) (hw _ w_f_X9_29) (fun _ h9 => h9) rfl dX9_write_155 ?_
                refine va_copyi hx hb (hml.trans hl.1.symm) hown (hw _ w_m_X9_50) (hw _ w_acn) (hw _ w_acs) (hw _ w_ini_System) hK hP hD hS 2 1 1 0 (sp := 0) (dp := 0) (n := x4) rfl rfl rfl rfl rfl (by decide) (by decide) (fun q => by have := (cv_lt (rfl : (x4).toInt = (x4).toInt) (by decide : (0 : Int32).toInt = 0)).mp q; omega) (by have : (0 : Int32).toNatClampNeg = 0 := (by decide); have := clamp_toInt (i := x4) (by omega); omega) (by have : (0 : Int32).toNatClampNeg = 0 := (by decide); have := clamp_toInt (i := x4) (by omega); omega) (fun _ _ => rfl) (Nat.le_of_ble_eq_true rfl) (Nat.le_of_ble_eq_true rfl) dX9_write_158 (fun H locs hP hD hS => ?_)
                obtain ⟨f34, ef34⟩ : ∃ g : Nat → Int32, g = va_cpy f6 f_wb (Int32.toNatClampNeg 0) (Int32.toNatClampNeg 0) (Int32.toNatClampNeg x4) := ⟨_, rfl⟩
                have hP : va_P (dC, dI) cls [(h_wr, .inr (6, (mo39 (.ref h_td) (.ref h_bd) (.ref h_wb) (.int x_wr_length) (.ref h_wd) (.int x4) (.ref h_wh) (.int x5)))), (h_wb, .inl (cy_wb, 600, .inl f34)), (h_wd, .inl (cy_wd, 616, .inl f6)), (h_wh, .inl (cy_wh, 2048, .inl f7)), (h_bd, .inr (1, (mo9 v_bd (.ref h_td) (.ref h_bnd)))), (h_bnd, .inl (cy_bnd, 256, .inl f_bnd)), (h_td, .inr (5, (mo21 v_td (.ref h_nam) (.ref h_var) (.ref h_trm) (.ref h_ter)))), (h_nam, .inl (cy_nam, 300, .inr (.inl f_nam))), (h_var, .inl (cy_var, 300, .inl f_var)), (h_trm, .inl (cy_trm, 300, .inl f_trm)), (h_ter, .inl (cy_ter, 900, .inl f_ter))] H := by rw [ef34]; exact hP
                have hD : va_D A [(h_wr, .inr (6, (mo39 (.ref h_td) (.ref h_bd) (.ref h_wb) (.int x_wr_length) (.ref h_wd) (.int x4) (.ref h_wh) (.int x5)))), (h_wb, .inl (cy_wb, 600, .inl f34)), (h_wd, .inl (cy_wd, 616, .inl f6)), (h_wh, .inl (cy_wh, 2048, .inl f7)), (h_bd, .inr (1, (mo9 v_bd (.ref h_td) (.ref h_bnd)))), (h_bnd, .inl (cy_bnd, 256, .inl f_bnd)), (h_td, .inr (5, (mo21 v_td (.ref h_nam) (.ref h_var) (.ref h_trm) (.ref h_ter)))), (h_nam, .inl (cy_nam, 300, .inr (.inl f_nam))), (h_var, .inl (cy_var, 300, .inl f_var)), (h_trm, .inl (cy_trm, 300, .inl f_trm)), (h_ter, .inl (cy_ter, 900, .inl f_ter))] := by rw [ef34]; exact hD
                clear ef34
                refine lv_aload_n hx hb dX9_write_161 rfl (lv_at hl 0 rfl) ?_
                refine lv_aload_n hx hb dX9_write_162 rfl (lv_at hl 0 rfl) ?_
                refine va_get (D := (dC, dI)) (ci := 6) (v := .int x4) (C := RX9) (T := TX9) (N := 8) hx hb hw iwX9 hown hK hP 0 rfl rfl 5 (by decide) (hw _ w_f_X9_29) (fun _ h9 => h9) rfl dX9_write_163 ?_
                refine va_put (D := (dC, dI)) (ci := 6) (v := .int x4) (ty := tyX9 3) (C := RX9) (T := TX9) (N := 8) hx hb hw iwX9 tyX9 tyX9_ok nmX9 hown hK hP hD hS 0 rfl rfl 3 (by decide) (hw _ w_f_X9_56) (fun _ h9 => h9) rfl (tyX9_ok 3 (by decide)) rfl rfl (Nat.le_of_ble_eq_true rfl) dX9_write_166 (fun H locs hP9 hD9 hS9 => ?_)
                clear hP hD hS
                have hP : va_P (dC, dI) cls [(h_wr, .inr (6, (mo39 (.ref h_td) (.ref h_bd) (.ref h_wb) (.int x4) (.ref h_wd) (.int x4) (.ref h_wh) (.int x5)))), (h_wb, .inl (cy_wb, 600, .inl f34)), (h_wd, .inl (cy_wd, 616, .inl f6)), (h_wh, .inl (cy_wh, 2048, .inl f7)), (h_bd, .inr (1, (mo9 v_bd (.ref h_td) (.ref h_bnd)))), (h_bnd, .inl (cy_bnd, 256, .inl f_bnd)), (h_td, .inr (5, (mo21 v_td (.ref h_nam) (.ref h_var) (.ref h_trm) (.ref h_ter)))), (h_nam, .inl (cy_nam, 300, .inr (.inl f_nam))), (h_var, .inl (cy_var, 300, .inl f_var)), (h_trm, .inl (cy_trm, 300, .inl f_trm)), (h_ter, .inl (cy_ter, 900, .inl f_ter))] H := hP9
                have hD : va_D A [(h_wr, .inr (6, (mo39 (.ref h_td) (.ref h_bd) (.ref h_wb) (.int x4) (.ref h_wd) (.int x4) (.ref h_wh) (.int x5)))), (h_wb, .inl (cy_wb, 600, .inl f34)), (h_wd, .inl (cy_wd, 616, .inl f6)), (h_wh, .inl (cy_wh, 2048, .inl f7)), (h_bd, .inr (1, (mo9 v_bd (.ref h_td) (.ref h_bnd)))), (h_bnd, .inl (cy_bnd, 256, .inl f_bnd)), (h_td, .inr (5, (mo21 v_td (.ref h_nam) (.ref h_var) (.ref h_trm) (.ref h_ter)))), (h_nam, .inl (cy_nam, 300, .inr (.inl f_nam))), (h_var, .inl (cy_var, 300, .inl f_var)), (h_trm, .inl (cy_trm, 300, .inl f_trm)), (h_ter, .inl (cy_ter, 900, .inl f_ter))] := hD9
                have hS := hS9
                clear hP9 hD9 hS9
                refine lv_aload_n hx hb dX9_write_169 rfl (lv_at hl 0 rfl) ?_
                refine va_get (D := (dC, dI)) (ci := 6) (v := .int x4) (C := RX9) (T := TX9) (N := 8) hx hb hw iwX9 hown hK hP 0 rfl rfl 3 (by decide) (hw _ w_f_X9_56) (fun _ h9 => h9) rfl dX9_write_170 ?_
                refine W.widen (k := 0) (n := 0) (Nat.le_of_ble_eq_true rfl) (Nat.le_of_ble_eq_true rfl) ?_
                have w35 : 0 ≤ ((x4)).toInt ∧ ((x4)).toInt ≤ 600 := by omega
                have w36 : 0 ≤ ((x4)).toInt ∧ ((x4)).toInt ≤ 616 := by first | exact klp8_1 | omega
                have w37 : 0 ≤ ((x5)).toInt ∧ ((x5)).toInt ≤ 2048 := by first | exact klp8_2 | omega
                exact W.iret (v := x4) hx hb hr (fun t ht hW => ⟨⟨x4, (x4, x4, x5, f34, f6, f7), rfl, ⟨w35, w36, w37, hf7⟩, by rw [ht]; exact hP, hD⟩, hS.F ht⟩) hS.2.2 dX9_write_173
              · have kc33 := (not_congr (cv_le (rfl : (x4).toInt = (x4).toInt) (by decide : (600 : Int32).toInt = 600))).mp c33
                refine lv_iconst (v := (-1)) hx hb dX9_write_142 (by decide) ?_
                refine W.widen (k := 0) (n := 0) (Nat.le_of_ble_eq_true rfl) (Nat.le_of_ble_eq_true rfl) ?_
                have cstm1 : ((-1) : Int32).toInt = -1 := by decide
                have w38 : 0 ≤ ((x_wr_length)).toInt ∧ ((x_wr_length)).toInt ≤ 600 := by first | exact hx_wr_length | omega
                have w39 : 0 ≤ ((x4)).toInt ∧ ((x4)).toInt ≤ 616 := by first | exact klp8_1 | omega
                have w40 : 0 ≤ ((x5)).toInt ∧ ((x5)).toInt ≤ 2048 := by first | exact klp8_2 | omega
                exact W.iret (v := (-1)) hx hb hr (fun t ht hW => ⟨⟨(-1), (x_wr_length, x4, x5, f_wb, f6, f7), rfl, ⟨w38, w39, w40, hf7⟩, by rw [ht]; exact hP, hD⟩, hS.F ht⟩) hS.2.2 dX9_write_143
          · have kc27 := (not_congr (cv_le (rfl : (x5).toInt = (x5).toInt) (by decide : (0 : Int32).toInt = 0))).mp c27
            refine lv_aload_n hx hb dX9_write_44 rfl (lv_at hl 0 rfl) ?_
            refine va_get (D := (dC, dI)) (ci := 6) (v := .int x4) (C := RX9) (T := TX9) (N := 8) hx hb hw iwX9 hown hK hP 0 rfl rfl 5 (by decide) (hw _ w_f_X9_29) (fun _ h9 => h9) rfl dX9_write_45 ?_
            refine lv_iload_n hx hb dX9_write_48 rfl (lv_at hl 3 rfl) ?_
            refine lv_icmp_gt (tgt := 117) hx hb dX9_write_49 (by decide) (fun c41 => ?_) (fun c41 => ?_)
            · have kc41 := (cv_lt (rfl : (p3).toInt = (p3).toInt) (rfl : (x4).toInt = (x4).toInt)).mp c41
              refine lv_aload_n hx hb dX9_write_117 rfl (lv_at hl 0 rfl) ?_
              refine va_get (D := (dC, dI)) (ci := 6) (v := .int x5) (C := RX9) (T := TX9) (N := 8) hx hb hw iwX9 hown hK hP 0 rfl rfl 7 (by decide) (hw _ w_f_X9_37) (fun _ h9 => h9) rfl dX9_write_118 ?_
              refine lv_if_gt (tgt := 142) hx hb dX9_write_121 (by decide) (fun _ => ?_) (fun c42 => False.elim (by have kc42 := (not_congr (cv_lt (by decide : (0 : Int32).toInt = 0) (rfl : (x5).toInt = (x5).toInt))).mp c42; omega))
              refine lv_iconst (v := (-1)) hx hb dX9_write_142 (by decide) ?_
              refine W.widen (k := 0) (n := 0) (Nat.le_of_ble_eq_true rfl) (Nat.le_of_ble_eq_true rfl) ?_
              have cstm1 : ((-1) : Int32).toInt = -1 := by decide
              have w43 : 0 ≤ ((x_wr_length)).toInt ∧ ((x_wr_length)).toInt ≤ 600 := by first | exact hx_wr_length | omega
              have w44 : 0 ≤ ((x4)).toInt ∧ ((x4)).toInt ≤ 616 := by first | exact klp8_1 | omega
              have w45 : 0 ≤ ((x5)).toInt ∧ ((x5)).toInt ≤ 2048 := by first | exact klp8_2 | omega
              exact W.iret (v := (-1)) hx hb hr (fun t ht hW => ⟨⟨(-1), (x_wr_length, x4, x5, f_wb, f6, f7), rfl, ⟨w43, w44, w45, hf7⟩, by rw [ht]; exact hP, hD⟩, hS.F ht⟩) hS.2.2 dX9_write_143
            · have kc41 := (not_congr (cv_lt (rfl : (p3).toInt = (p3).toInt) (rfl : (x4).toInt = (x4).toInt))).mp c41
              refine lv_aload_n hx hb dX9_write_52 rfl (lv_at hl 0 rfl) ?_
              refine lv_dup hx hb dX9_write_53 rfl ?_
              refine va_get (D := (dC, dI)) (ci := 6) (v := .int x5) (C := RX9) (T := TX9) (N := 8) hx hb hw iwX9 hown hK hP 0 rfl rfl 7 (by decide) (hw _ w_f_X9_37) (fun _ h9 => h9) rfl dX9_write_54 ?_
              refine lv_iconst (v := 1) hx hb dX9_write_57 (by decide) ?_
              refine lv_isub hx hb dX9_write_58 ?_
              refine lv_topi (fun z46 ez46 => ?_)
              have tz46 : (z46).toInt = (x5).toInt - 1 := by rw [ez46]; exact i_sub rfl (by decide) (by omega)
              refine va_put (D := (dC, dI)) (ci := 6) (v := .int z46) (ty := tyX9 7) (C := RX9) (T := TX9) (N := 8) hx hb hw iwX9 tyX9 tyX9_ok nmX9 hown hK hP hD hS 0 rfl rfl 7 (by decide) (hw _ w_f_X9_37) (fun _ h9 => h9) rfl (tyX9_ok 7 (by decide)) rfl rfl (Nat.le_of_ble_eq_true rfl) dX9_write_59 (fun H locs hP9 hD9 hS9 => ?_)
              clear hP hD hS
              have hP : va_P (dC, dI) cls [(h_wr, .inr (6, (mo39 (.ref h_td) (.ref h_bd) (.ref h_wb) (.int x_wr_length) (.ref h_wd) (.int x4) (.ref h_wh) (.int z46)))), (h_wb, .inl (cy_wb, 600, .inl f_wb)), (h_wd, .inl (cy_wd, 616, .inl f6)), (h_wh, .inl (cy_wh, 2048, .inl f7)), (h_bd, .inr (1, (mo9 v_bd (.ref h_td) (.ref h_bnd)))), (h_bnd, .inl (cy_bnd, 256, .inl f_bnd)), (h_td, .inr (5, (mo21 v_td (.ref h_nam) (.ref h_var) (.ref h_trm) (.ref h_ter)))), (h_nam, .inl (cy_nam, 300, .inr (.inl f_nam))), (h_var, .inl (cy_var, 300, .inl f_var)), (h_trm, .inl (cy_trm, 300, .inl f_trm)), (h_ter, .inl (cy_ter, 900, .inl f_ter))] H := hP9
              have hD : va_D A [(h_wr, .inr (6, (mo39 (.ref h_td) (.ref h_bd) (.ref h_wb) (.int x_wr_length) (.ref h_wd) (.int x4) (.ref h_wh) (.int z46)))), (h_wb, .inl (cy_wb, 600, .inl f_wb)), (h_wd, .inl (cy_wd, 616, .inl f6)), (h_wh, .inl (cy_wh, 2048, .inl f7)), (h_bd, .inr (1, (mo9 v_bd (.ref h_td) (.ref h_bnd)))), (h_bnd, .inl (cy_bnd, 256, .inl f_bnd)), (h_td, .inr (5, (mo21 v_td (.ref h_nam) (.ref h_var) (.ref h_trm) (.ref h_ter)))), (h_nam, .inl (cy_nam, 300, .inr (.inl f_nam))), (h_var, .inl (cy_var, 300, .inl f_var)), (h_trm, .inl (cy_trm, 300, .inl f_trm)), (h_ter, .inl (cy_ter, 900, .inl f_ter))] := hD9
              have hS := hS9
              clear hP9 hD9 hS9
              refine lv_aload_n hx hb dX9_write_62 rfl (lv_at hl 0 rfl) ?_
              refine va_get (D := (dC, dI)) (ci := 6) (v := .ref h_wh) (C := RX9) (T := TX9) (N := 8) hx hb hw iwX9 hown hK hP 0 rfl rfl 6 (by decide) (hw _ w_f_X9_18) (fun _ h9 => h9) rfl dX9_write_63 ?_
              refine lv_aload_n hx hb dX9_write_66 rfl (lv_at hl 0 rfl) ?_
              refine va_get (D := (dC, dI)) (ci := 6) (v := .int z46) (C := RX9) (T := TX9) (N := 8) hx hb hw iwX9 hown hK hP 0 rfl rfl 7 (by decide) (hw _ w_f_X9_37) (fun _ h9 => h9) rfl dX9_write_67 ?_
              refine va_iald hx hb hK hP 3 2 rfl rfl (i := z46) (vp_in_iff.mpr (by omega)) dX9_write_70 ?_
              refine lv_topi (fun z47 ez47 => ?_)
              have rz47 : -127 ≤ (z47).toInt ∧ (z47).toInt ≤ 9599 := by rw [ez47]; exact hf7 _
              refine lv_if_ge (tgt := 91) hx hb dX9_write_71 (by decide) (fun c48 => ?_) (fun c48 => ?_)
              · have kc48 := (cv_le (by decide : (0 : Int32).toInt = 0) (rfl : (z47).toInt = (z47).toInt)).mp c48
                refine lv_aload_n hx hb dX9_write_91 rfl (lv_at hl 0 rfl) ?_
                refine lv_aload_n hx hb dX9_write_92 rfl (lv_at hl 0 rfl) ?_
                refine va_get (D := (dC, dI)) (ci := 6) (v := .ref h_bd) (C := RX9) (T := TX9) (N := 8) hx hb hw iwX9 hown hK hP 0 rfl rfl 1 (by decide) (hw _ w_f_X9_25) (fun _ h9 => h9) rfl dX9_write_93 ?_
                refine lv_aload_n hx hb dX9_write_96 rfl (lv_at hl 0 rfl) ?_
                refine va_get (D := (dC, dI)) (ci := 6) (v := .ref h_wh) (C := RX9) (T := TX9) (N := 8) hx hb hw iwX9 hown hK hP 0 rfl rfl 6 (by decide) (hw _ w_f_X9_18) (fun _ h9 => h9) rfl dX9_write_97 ?_
                refine lv_aload_n hx hb dX9_write_100 rfl (lv_at hl 0 rfl) ?_
                refine va_get (D := (dC, dI)) (ci := 6) (v := .int z46) (C := RX9) (T := TX9) (N := 8) hx hb hw iwX9 hown hK hP 0 rfl rfl 7 (by decide) (hw _ w_f_X9_37) (fun _ h9 => h9) rfl dX9_write_101 ?_
                refine va_iald hx hb hK hP 3 2 rfl rfl (i := z46) (vp_in_iff.mpr (by omega)) dX9_write_104 ?_
                refine lv_topi (fun z49 ez49 => ?_)
                have qz49 : (z49).toInt = (z47).toInt := by rw [ez49, ez47]
                have rz49 : -127 ≤ (z49).toInt ∧ (z49).toInt ≤ 9599 := by rw [ez49]; exact hf7 _
                obtain ⟨vq50, evq50⟩ := mq21_8 v_td (.ref h_nam) (.ref h_trm) (.ref h_ter)
                replace hP : va_P (dC, dI) cls [(h_wr, .inr (6, (mo39 (.ref h_td) (.ref h_bd) (.ref h_wb) (.int x_wr_length) (.ref h_wd) (.int x4) (.ref h_wh) (.int z46)))), (h_wb, .inl (cy_wb, 600, .inl f_wb)), (h_wd, .inl (cy_wd, 616, .inl f6)), (h_wh, .inl (cy_wh, 2048, .inl f7)), (h_bd, .inr (1, (mo9 v_bd (.ref h_td) (.ref h_bnd)))), (h_bnd, .inl (cy_bnd, 256, .inl f_bnd)), (h_td, .inr (5, (mo8 vq50 (.ref h_var)))), (h_nam, .inl (cy_nam, 300, .inr (.inl f_nam))), (h_var, .inl (cy_var, 300, .inl f_var)), (h_trm, .inl (cy_trm, 300, .inl f_trm)), (h_ter, .inl (cy_ter, 900, .inl f_ter))] H := by rw [evq50]; exact hP
                replace hD : va_D A [(h_wr, .inr (6, (mo39 (.ref h_td) (.ref h_bd) (.ref h_wb) (.int x_wr_length) (.ref h_wd) (.int x4) (.ref h_wh) (.int z46)))), (h_wb, .inl (cy_wb, 600, .inl f_wb)), (h_wd, .inl (cy_wd, 616, .inl f6)), (h_wh, .inl (cy_wh, 2048, .inl f7)), (h_bd, .inr (1, (mo9 v_bd (.ref h_td) (.ref h_bnd)))), (h_bnd, .inl (cy_bnd, 256, .inl f_bnd)), (h_td, .inr (5, (mo8 vq50 (.ref h_var)))), (h_nam, .inl (cy_nam, 300, .inr (.inl f_nam))), (h_var, .inl (cy_var, 300, .inl f_var)), (h_trm, .inl (cy_trm, 300, .inl f_trm)), (h_ter, .inl (cy_ter, 900, .inl f_ter))] := by rw [evq50]; exact hD
                have hPc := hP.sub (ws' := [(h_bd, .inr (1, (mo9 v_bd (.ref h_td) (.ref h_bnd)))), (h_bnd, .inl (cy_bnd, 256, .inl f_bnd)), (h_td, .inr (5, (mo8 vq50 (.ref h_var)))), (h_var, .inl (cy_var, 300, .inl f_var))]) [4, 5, 6, 8] rfl
                have hDc := hD.sub (ws' := [(h_bd, .inr (1, (mo9 v_bd (.ref h_td) (.ref h_bnd)))), (h_bnd, .inl (cy_bnd, 256, .inl f_bnd)), (h_td, .inr (5, (mo8 vq50 (.ref h_var)))), (h_var, .inl (cy_var, 300, .inl f_var))]) [4, 5, 6, 8] (by decide) rfl
                have hKc := hK.sub (tys' := [(cy_bnd, .int), (cy_var, .int)]) [3, 5] rfl
                have hFc := va_free (wc := [(h_bd, .inr (1, (mo9 v_bd (.ref h_td) (.ref h_bnd)))), (h_bnd, .inl (cy_bnd, 256, .inl f_bnd)), (h_td, .inr (5, (mo8 vq50 (.ref h_var)))), (h_var, .inl (cy_var, 300, .inl f_var))]) hD hS hA [4, 5, 6, 8] rfl
                refine va_calli (va_runVN (As := [.int z49]) (rest := [.ref h_wr]) ⟨hx, hb, hml, hown, hts⟩ (c_X1_bare l dC dI H.size h_bd h_bnd h_td h_var v_bd cy_bnd f_bnd vq50 cy_var f_var z49 hf_bnd hf_var (by omega)) ⟨va_cnB (host := "OppositePairs") 1 hts (gd hT w_code_X1_bare) rfl rfl rfl (hN _ n_m_X9_41) (hw _ w_ini_X1) (by decide +kernel) ⟨(Nat.le_of_ble_eq_true rfl), (Nat.le_of_ble_eq_true rfl)⟩, hw _ w_instanceMethod_X1_bare, hw _ ws_sel_X1_bare⟩ ⟨pre_blind, va_recv hK hP (ci := 1) (q0 := 4) rfl rfl, pre_of hPc hKc hDc hN⟩ rfl rfl hl.1 rfl (lv_room (Nat.le_of_ble_eq_true rfl)) dX9_write_105 ⟨(Nat.le_of_ble_eq_true rfl), (Nat.le_of_ble_eq_true rfl)⟩) hS (fun q _ h => hFc q h) hFc (fun r51 u t H locs ht hvm hq hB hz1 hk1 hS9 => ?_)
                obtain ⟨hP1, hD1⟩ := hB
                rw [ht] at hP1
                obtain ⟨hP9, hD9⟩ := va_join (wr := [(h_wr, .inr (6, (mo39 (.ref h_td) (.ref h_bd) (.ref h_wb) (.int x_wr_length) (.ref h_wd) (.int x4) (.ref h_wh) (.int z46)))), (h_wb, .inl (cy_wb, 600, .inl f_wb)), (h_wd, .inl (cy_wd, 616, .inl f6)), (h_wh, .inl (cy_wh, 2048, .inl f7)), (h_nam, .inl (cy_nam, 300, .inr (.inl f_nam))), (h_trm, .inl (cy_trm, 300, .inl f_trm)), (h_ter, .inl (cy_ter, 900, .inl f_ter))]) (w1 := [(h_bd, .inr (1, (mo9 v_bd (.ref h_td) (.ref h_bnd)))), (h_bnd, .inl (cy_bnd, 256, .inl f_bnd)), (h_td, .inr (5, (mo8 vq50 (.ref h_var)))), (h_var, .inl (cy_var, 300, .inl f_var))]) hP hD [4, 5, 6, 8] [0, 1, 2, 3, 7, 9, 10] rfl rfl (by decide) (by decide) hk1 hFc hP1 hD1
                clear hP hD hS hPc hDc hKc hFc hP1 hD1 hk1 hz1 ht hvm
                have hP : va_P (dC, dI) cls [(h_wr, .inr (6, (mo39 (.ref h_td) (.ref h_bd) (.ref h_wb) (.int x_wr_length) (.ref h_wd) (.int x4) (.ref h_wh) (.int z46)))), (h_wb, .inl (cy_wb, 600, .inl f_wb)), (h_wd, .inl (cy_wd, 616, .inl f6)), (h_wh, .inl (cy_wh, 2048, .inl f7)), (h_nam, .inl (cy_nam, 300, .inr (.inl f_nam))), (h_trm, .inl (cy_trm, 300, .inl f_trm)), (h_ter, .inl (cy_ter, 900, .inl f_ter)), (h_bd, .inr (1, (mo9 v_bd (.ref h_td) (.ref h_bnd)))), (h_bnd, .inl (cy_bnd, 256, .inl f_bnd)), (h_td, .inr (5, (mo8 vq50 (.ref h_var)))), (h_var, .inl (cy_var, 300, .inl f_var))] H := hP9
                have hD : va_D A [(h_wr, .inr (6, (mo39 (.ref h_td) (.ref h_bd) (.ref h_wb) (.int x_wr_length) (.ref h_wd) (.int x4) (.ref h_wh) (.int z46)))), (h_wb, .inl (cy_wb, 600, .inl f_wb)), (h_wd, .inl (cy_wd, 616, .inl f6)), (h_wh, .inl (cy_wh, 2048, .inl f7)), (h_nam, .inl (cy_nam, 300, .inr (.inl f_nam))), (h_trm, .inl (cy_trm, 300, .inl f_trm)), (h_ter, .inl (cy_ter, 900, .inl f_ter)), (h_bd, .inr (1, (mo9 v_bd (.ref h_td) (.ref h_bnd)))), (h_bnd, .inl (cy_bnd, 256, .inl f_bnd)), (h_td, .inr (5, (mo8 vq50 (.ref h_var)))), (h_var, .inl (cy_var, 300, .inl f_var))] := hD9
                have hS := hS9
                clear hP9 hD9 hS9
                rw [evq50] at hP hD
                replace hP : va_P (dC, dI) cls [(h_wr, .inr (6, (mo39 (.ref h_td) (.ref h_bd) (.ref h_wb) (.int x_wr_length) (.ref h_wd) (.int x4) (.ref h_wh) (.int z46)))), (h_wb, .inl (cy_wb, 600, .inl f_wb)), (h_wd, .inl (cy_wd, 616, .inl f6)), (h_wh, .inl (cy_wh, 2048, .inl f7)), (h_nam, .inl (cy_nam, 300, .inr (.inl f_nam))), (h_trm, .inl (cy_trm, 300, .inl f_trm)), (h_ter, .inl (cy_ter, 900, .inl f_ter)), (h_bd, .inr (1, (mo9 v_bd (.ref h_td) (.ref h_bnd)))), (h_bnd, .inl (cy_bnd, 256, .inl f_bnd)), (h_td, .inr (5, (mo21 v_td (.ref h_nam) (.ref h_var) (.ref h_trm) (.ref h_ter)))), (h_var, .inl (cy_var, 300, .inl f_var))] H := hP
                replace hD : va_D A [(h_wr, .inr (6, (mo39 (.ref h_td) (.ref h_bd) (.ref h_wb) (.int x_wr_length) (.ref h_wd) (.int x4) (.ref h_wh) (.int z46)))), (h_wb, .inl (cy_wb, 600, .inl f_wb)), (h_wd, .inl (cy_wd, 616, .inl f6)), (h_wh, .inl (cy_wh, 2048, .inl f7)), (h_nam, .inl (cy_nam, 300, .inr (.inl f_nam))), (h_trm, .inl (cy_trm, 300, .inl f_trm)), (h_ter, .inl (cy_ter, 900, .inl f_ter)), (h_bd, .inr (1, (mo9 v_bd (.ref h_td) (.ref h_bnd)))), (h_bnd, .inl (cy_bnd, 256, .inl f_bnd)), (h_td, .inr (5, (mo21 v_td (.ref h_nam) (.ref h_var) (.ref h_trm) (.ref h_ter)))), (h_var, .inl (cy_var, 300, .inl f_var))] := hD
                clear evq50 
                have k52 : 0 ≤ (r51).toInt ∧ (r51).toInt ≤ 9599 := hq
                clear hq
                obtain ⟨vq53, evq53⟩ := mq39_38 (.ref h_bd) (.ref h_wb) (.int x_wr_length)
                replace hP : va_P (dC, dI) cls [(h_wr, .inr (6, (mo38 vq53 (.ref h_td) (.ref h_wd) (.int x4) (.ref h_wh) (.int z46)))), (h_wb, .inl (cy_wb, 600, .inl f_wb)), (h_wd, .inl (cy_wd, 616, .inl f6)), (h_wh, .inl (cy_wh, 2048, .inl f7)), (h_nam, .inl (cy_nam, 300, .inr (.inl f_nam))), (h_trm, .inl (cy_trm, 300, .inl f_trm)), (h_ter, .inl (cy_ter, 900, .inl f_ter)), (h_bd, .inr (1, (mo9 v_bd (.ref h_td) (.ref h_bnd)))), (h_bnd, .inl (cy_bnd, 256, .inl f_bnd)), (h_td, .inr (5, (mo21 v_td (.ref h_nam) (.ref h_var) (.ref h_trm) (.ref h_ter)))), (h_var, .inl (cy_var, 300, .inl f_var))] H := by rw [evq53]; exact hP
                replace hD : va_D A [(h_wr, .inr (6, (mo38 vq53 (.ref h_td) (.ref h_wd) (.int x4) (.ref h_wh) (.int z46)))), (h_wb, .inl (cy_wb, 600, .inl f_wb)), (h_wd, .inl (cy_wd, 616, .inl f6)), (h_wh, .inl (cy_wh, 2048, .inl f7)), (h_nam, .inl (cy_nam, 300, .inr (.inl f_nam))), (h_trm, .inl (cy_trm, 300, .inl f_trm)), (h_ter, .inl (cy_ter, 900, .inl f_ter)), (h_bd, .inr (1, (mo9 v_bd (.ref h_td) (.ref h_bnd)))), (h_bnd, .inl (cy_bnd, 256, .inl f_bnd)), (h_td, .inr (5, (mo21 v_td (.ref h_nam) (.ref h_var) (.ref h_trm) (.ref h_ter)))), (h_var, .inl (cy_var, 300, .inl f_var))] := by rw [evq53]; exact hD
                have hPc := hP.sub (ws' := [(h_wr, .inr (6, (mo38 vq53 (.ref h_td) (.ref h_wd) (.int x4) (.ref h_wh) (.int z46)))), (h_wd, .inl (cy_wd, 616, .inl f6)), (h_wh, .inl (cy_wh, 2048, .inl f7)), (h_td, .inr (5, (mo21 v_td (.ref h_nam) (.ref h_var) (.ref h_trm) (.ref h_ter)))), (h_nam, .inl (cy_nam, 300, .inr (.inl f_nam))), (h_var, .inl (cy_var, 300, .inl f_var)), (h_trm, .inl (cy_trm, 300, .inl f_trm)), (h_ter, .inl (cy_ter, 900, .inl f_ter))]) [0, 2, 3, 9, 4, 10, 5, 6] rfl
                have hDc := hD.sub (ws' := [(h_wr, .inr (6, (mo38 vq53 (.ref h_td) (.ref h_wd) (.int x4) (.ref h_wh) (.int z46)))), (h_wd, .inl (cy_wd, 616, .inl f6)), (h_wh, .inl (cy_wh, 2048, .inl f7)), (h_td, .inr (5, (mo21 v_td (.ref h_nam) (.ref h_var) (.ref h_trm) (.ref h_ter)))), (h_nam, .inl (cy_nam, 300, .inr (.inl f_nam))), (h_var, .inl (cy_var, 300, .inl f_var)), (h_trm, .inl (cy_trm, 300, .inl f_trm)), (h_ter, .inl (cy_ter, 900, .inl f_ter))]) [0, 2, 3, 9, 4, 10, 5, 6] (by decide) rfl
                have hKc := hK.sub (tys' := [(cy_wd, .int), (cy_wh, .int), (cy_nam, .long), (cy_var, .int), (cy_trm, .int), (cy_ter, .int)]) [1, 2, 4, 5, 6, 7] rfl
                have hFc := va_free (wc := [(h_wr, .inr (6, (mo38 vq53 (.ref h_td) (.ref h_wd) (.int x4) (.ref h_wh) (.int z46)))), (h_wd, .inl (cy_wd, 616, .inl f6)), (h_wh, .inl (cy_wh, 2048, .inl f7)), (h_td, .inr (5, (mo21 v_td (.ref h_nam) (.ref h_var) (.ref h_trm) (.ref h_ter)))), (h_nam, .inl (cy_nam, 300, .inr (.inl f_nam))), (h_var, .inl (cy_var, 300, .inl f_var)), (h_trm, .inl (cy_trm, 300, .inl f_trm)), (h_ter, .inl (cy_ter, 900, .inl f_ter))]) hD hS hA [0, 2, 3, 9, 4, 10, 5, 6] rfl
                refine va_callv (va_runV (As := [.int r51]) (rest := []) ⟨hx, hb, hml, hown, hts⟩ (c_X9_putPart l dC dI H.size h_wr h_wd h_wh h_td h_nam h_var h_trm h_ter vq53 x4 z46 cy_wd f6 cy_wh f7 v_td cy_nam f_nam cy_var f_var cy_trm f_trm cy_ter f_ter r51 (by first | exact klp8_1 | omega) (by omega) hf7 hf_var hf_trm hf_ter (by first | exact k52 | omega)) (cwV 1 hts (gv hT w_m_X9_47 w_instanceMethod_X9_putPart ws_sel_X9_putPart w_ini_X9 w_code_X9_putPart) rfl rfl rfl (by decide +kernel) ⟨(Nat.le_of_ble_eq_true rfl), (Nat.le_of_ble_eq_true rfl)⟩) ⟨pre_blind, va_recv hK hP (ci := 6) (q0 := 0) rfl rfl, pre_of hPc hKc hDc hN⟩ rfl rfl hl.1 rfl (lv_room (Nat.le_of_ble_eq_true rfl)) dX9_write_108 ⟨(Nat.le_of_ble_eq_true rfl), (Nat.le_of_ble_eq_true rfl)⟩) hS (fun q _ h => hFc q h) hFc (fun u t H locs ht hvm hq hB hz1 hk1 hS9 => ?_)
                obtain ⟨z55, z56, f57, f58⟩ := u
                obtain ⟨hP1, hD1⟩ := hB
                rw [ht] at hP1
                obtain ⟨hP9, hD9⟩ := va_join (wr := [(h_wb, .inl (cy_wb, 600, .inl f_wb)), (h_bd, .inr (1, (mo9 v_bd (.ref h_td) (.ref h_bnd)))), (h_bnd, .inl (cy_bnd, 256, .inl f_bnd))]) (w1 := [(h_wr, .inr (6, (mo38 vq53 (.ref h_td) (.ref h_wd) (.int z55) (.ref h_wh) (.int z56)))), (h_wd, .inl (cy_wd, 616, .inl f57)), (h_wh, .inl (cy_wh, 2048, .inl f58)), (h_td, .inr (5, (mo21 v_td (.ref h_nam) (.ref h_var) (.ref h_trm) (.ref h_ter)))), (h_nam, .inl (cy_nam, 300, .inr (.inl f_nam))), (h_var, .inl (cy_var, 300, .inl f_var)), (h_trm, .inl (cy_trm, 300, .inl f_trm)), (h_ter, .inl (cy_ter, 900, .inl f_ter))]) hP hD [0, 2, 3, 9, 4, 10, 5, 6] [1, 7, 8] rfl rfl (by decide) (by decide) hk1 hFc hP1 hD1
                clear hP hD hS hPc hDc hKc hFc hP1 hD1 hk1 hz1 ht hvm
                have hP : va_P (dC, dI) cls [(h_wb, .inl (cy_wb, 600, .inl f_wb)), (h_bd, .inr (1, (mo9 v_bd (.ref h_td) (.ref h_bnd)))), (h_bnd, .inl (cy_bnd, 256, .inl f_bnd)), (h_wr, .inr (6, (mo38 vq53 (.ref h_td) (.ref h_wd) (.int z55) (.ref h_wh) (.int z56)))), (h_wd, .inl (cy_wd, 616, .inl f57)), (h_wh, .inl (cy_wh, 2048, .inl f58)), (h_td, .inr (5, (mo21 v_td (.ref h_nam) (.ref h_var) (.ref h_trm) (.ref h_ter)))), (h_nam, .inl (cy_nam, 300, .inr (.inl f_nam))), (h_var, .inl (cy_var, 300, .inl f_var)), (h_trm, .inl (cy_trm, 300, .inl f_trm)), (h_ter, .inl (cy_ter, 900, .inl f_ter))] H := hP9
                have hD : va_D A [(h_wb, .inl (cy_wb, 600, .inl f_wb)), (h_bd, .inr (1, (mo9 v_bd (.ref h_td) (.ref h_bnd)))), (h_bnd, .inl (cy_bnd, 256, .inl f_bnd)), (h_wr, .inr (6, (mo38 vq53 (.ref h_td) (.ref h_wd) (.int z55) (.ref h_wh) (.int z56)))), (h_wd, .inl (cy_wd, 616, .inl f57)), (h_wh, .inl (cy_wh, 2048, .inl f58)), (h_td, .inr (5, (mo21 v_td (.ref h_nam) (.ref h_var) (.ref h_trm) (.ref h_ter)))), (h_nam, .inl (cy_nam, 300, .inr (.inl f_nam))), (h_var, .inl (cy_var, 300, .inl f_var)), (h_trm, .inl (cy_trm, 300, .inl f_trm)), (h_ter, .inl (cy_ter, 900, .inl f_ter))] := hD9
                have hS := hS9
                clear hP9 hD9 hS9
                rw [evq53] at hP hD
                replace hP : va_P (dC, dI) cls [(h_wb, .inl (cy_wb, 600, .inl f_wb)), (h_bd, .inr (1, (mo9 v_bd (.ref h_td) (.ref h_bnd)))), (h_bnd, .inl (cy_bnd, 256, .inl f_bnd)), (h_wr, .inr (6, (mo39 (.ref h_td) (.ref h_bd) (.ref h_wb) (.int x_wr_length) (.ref h_wd) (.int z55) (.ref h_wh) (.int z56)))), (h_wd, .inl (cy_wd, 616, .inl f57)), (h_wh, .inl (cy_wh, 2048, .inl f58)), (h_td, .inr (5, (mo21 v_td (.ref h_nam) (.ref h_var) (.ref h_trm) (.ref h_ter)))), (h_nam, .inl (cy_nam, 300, .inr (.inl f_nam))), (h_var, .inl (cy_var, 300, .inl f_var)), (h_trm, .inl (cy_trm, 300, .inl f_trm)), (h_ter, .inl (cy_ter, 900, .inl f_ter))] H := hP
                replace hD : va_D A [(h_wb, .inl (cy_wb, 600, .inl f_wb)), (h_bd, .inr (1, (mo9 v_bd (.ref h_td) (.ref h_bnd)))), (h_bnd, .inl (cy_bnd, 256, .inl f_bnd)), (h_wr, .inr (6, (mo39 (.ref h_td) (.ref h_bd) (.ref h_wb) (.int x_wr_length) (.ref h_wd) (.int z55) (.ref h_wh) (.int z56)))), (h_wd, .inl (cy_wd, 616, .inl f57)), (h_wh, .inl (cy_wh, 2048, .inl f58)), (h_td, .inr (5, (mo21 v_td (.ref h_nam) (.ref h_var) (.ref h_trm) (.ref h_ter)))), (h_nam, .inl (cy_nam, 300, .inr (.inl f_nam))), (h_var, .inl (cy_var, 300, .inl f_var)), (h_trm, .inl (cy_trm, 300, .inl f_trm)), (h_ter, .inl (cy_ter, 900, .inl f_ter))] := hD
                clear evq53 
                obtain ⟨k59, k60, hf58⟩ := hq
                replace k59 : 0 ≤ ((z55)).toInt ∧ ((z55)).toInt ≤ 616 := k59
                replace k60 : 0 ≤ ((z56)).toInt ∧ ((z56)).toInt ≤ 2048 := k60
                replace hf58 : Rg (-127) 9599 (f58) := hf58
                obtain ⟨z61, ez61⟩ : ∃ y : Int32, y = x3 + 1 := ⟨_, rfl⟩
                have tz61 : (z61).toInt = (x3).toInt + 1 := by rw [ez61]; exact i_add rfl (by decide) (by omega)
                refine lv_iinc (v := z61) (lv' := [(4, .int z61), (0, .ref h_wr), (1, .int p1), (2, .int p2), (3, .int p3)]) hx hb dX9_write_111 hl (k := 4) rfl (by rw [ez61]; rfl) (by decide) rfl (fun ls hl => ?_)
                refine lv_goto (tgt := 30) hx hb dX9_write_114 (by decide) ?_
                replace hP : va_P (dC, dI) cls [(h_wr, .inr (6, (mo39 (.ref h_td) (.ref h_bd) (.ref h_wb) (.int x_wr_length) (.ref h_wd) (.int z55) (.ref h_wh) (.int z56)))), (h_wb, .inl (cy_wb, 600, .inl f_wb)), (h_wd, .inl (cy_wd, 616, .inl f57)), (h_wh, .inl (cy_wh, 2048, .inl f58)), (h_bd, .inr (1, (mo9 v_bd (.ref h_td) (.ref h_bnd)))), (h_bnd, .inl (cy_bnd, 256, .inl f_bnd)), (h_td, .inr (5, (mo21 v_td (.ref h_nam) (.ref h_var) (.ref h_trm) (.ref h_ter)))), (h_nam, .inl (cy_nam, 300, .inr (.inl f_nam))), (h_var, .inl (cy_var, 300, .inl f_var)), (h_trm, .inl (cy_trm, 300, .inl f_trm)), (h_ter, .inl (cy_ter, 900, .inl f_ter))] H := hP.sub [3, 0, 4, 5, 1, 2, 6, 7, 8, 9, 10] rfl
                replace hD : va_D A [(h_wr, .inr (6, (mo39 (.ref h_td) (.ref h_bd) (.ref h_wb) (.int x_wr_length) (.ref h_wd) (.int z55) (.ref h_wh) (.int z56)))), (h_wb, .inl (cy_wb, 600, .inl f_wb)), (h_wd, .inl (cy_wd, 616, .inl f57)), (h_wh, .inl (cy_wh, 2048, .inl f58)), (h_bd, .inr (1, (mo9 v_bd (.ref h_td) (.ref h_bnd)))), (h_bnd, .inl (cy_bnd, 256, .inl f_bnd)), (h_td, .inr (5, (mo21 v_td (.ref h_nam) (.ref h_var) (.ref h_trm) (.ref h_ter)))), (h_nam, .inl (cy_nam, 300, .inr (.inl f_nam))), (h_var, .inl (cy_var, 300, .inl f_var)), (h_trm, .inl (cy_trm, 300, .inl f_trm)), (h_ter, .inl (cy_ter, 900, .inl f_ter))] := hD.sub [3, 0, 4, 5, 1, 2, 6, 7, 8, 9, 10] (by decide) rfl
                exact ih9 (z61) (z55) (z56) (f57) (f58) _ _ _ (by omega) (by first | exact k59 | omega) (by first | exact k60 | omega) hf58 (by omega) hP hD hS (lv_sub hl [1, 2, 3, 4, 0] rfl)
              · have kc48 := (not_congr (cv_le (by decide : (0 : Int32).toInt = 0) (rfl : (z47).toInt = (z47).toInt))).mp c48
                refine lv_aload_n hx hb dX9_write_74 rfl (lv_at hl 0 rfl) ?_
                refine lv_aload_n hx hb dX9_write_75 rfl (lv_at hl 0 rfl) ?_
                refine va_get (D := (dC, dI)) (ci := 6) (v := .ref h_wh) (C := RX9) (T := TX9) (N := 8) hx hb hw iwX9 hown hK hP 0 rfl rfl 6 (by decide) (hw _ w_f_X9_18) (fun _ h9 => h9) rfl dX9_write_76 ?_
                refine lv_aload_n hx hb dX9_write_79 rfl (lv_at hl 0 rfl) ?_
                refine va_get (D := (dC, dI)) (ci := 6) (v := .int z46) (C := RX9) (T := TX9) (N := 8) hx hb hw iwX9 hown hK hP 0 rfl rfl 7 (by decide) (hw _ w_f_X9_37) (fun _ h9 => h9) rfl dX9_write_80 ?_
                refine va_iald hx hb hK hP 3 2 rfl rfl (i := z46) (vp_in_iff.mpr (by omega)) dX9_write_83 ?_
                refine lv_topi (fun z62 ez62 => ?_)
                have qz62 : (z62).toInt = (z47).toInt := by rw [ez62, ez47]
                have rz62 : -127 ≤ (z62).toInt ∧ (z62).toInt ≤ 9599 := by rw [ez62]; exact hf7 _
                refine lv_ineg hx hb dX9_write_84 ?_
                refine lv_topi (fun z63 ez63 => ?_)
                have tz63 : (z63).toInt = -((z62).toInt) := by rw [ez63]; exact i_neg rfl (by omega)
                obtain ⟨vq64, evq64⟩ := mq39_36 (.ref h_td) (.ref h_bd) (.ref h_wb) (.int x_wr_length) (.ref h_wh) (.int z46)
                replace hP : va_P (dC, dI) cls [(h_wr, .inr (6, (mo36 vq64 (.ref h_wd) (.int x4)))), (h_wb, .inl (cy_wb, 600, .inl f_wb)), (h_wd, .inl (cy_wd, 616, .inl f6)), (h_wh, .inl (cy_wh, 2048, .inl f7)), (h_bd, .inr (1, (mo9 v_bd (.ref h_td) (.ref h_bnd)))), (h_bnd, .inl (cy_bnd, 256, .inl f_bnd)), (h_td, .inr (5, (mo21 v_td (.ref h_nam) (.ref h_var) (.ref h_trm) (.ref h_ter)))), (h_nam, .inl (cy_nam, 300, .inr (.inl f_nam))), (h_var, .inl (cy_var, 300, .inl f_var)), (h_trm, .inl (cy_trm, 300, .inl f_trm)), (h_ter, .inl (cy_ter, 900, .inl f_ter))] H := by rw [evq64]; exact hP
                replace hD : va_D A [(h_wr, .inr (6, (mo36 vq64 (.ref h_wd) (.int x4)))), (h_wb, .inl (cy_wb, 600, .inl f_wb)), (h_wd, .inl (cy_wd, 616, .inl f6)), (h_wh, .inl (cy_wh, 2048, .inl f7)), (h_bd, .inr (1, (mo9 v_bd (.ref h_td) (.ref h_bnd)))), (h_bnd, .inl (cy_bnd, 256, .inl f_bnd)), (h_td, .inr (5, (mo21 v_td (.ref h_nam) (.ref h_var) (.ref h_trm) (.ref h_ter)))), (h_nam, .inl (cy_nam, 300, .inr (.inl f_nam))), (h_var, .inl (cy_var, 300, .inl f_var)), (h_trm, .inl (cy_trm, 300, .inl f_trm)), (h_ter, .inl (cy_ter, 900, .inl f_ter))] := by rw [evq64]; exact hD
                have hPc := hP.sub (ws' := [(h_wr, .inr (6, (mo36 vq64 (.ref h_wd) (.int x4)))), (h_wd, .inl (cy_wd, 616, .inl f6))]) [0, 2] rfl
                have hDc := hD.sub (ws' := [(h_wr, .inr (6, (mo36 vq64 (.ref h_wd) (.int x4)))), (h_wd, .inl (cy_wd, 616, .inl f6))]) [0, 2] (by decide) rfl
                have hKc := hK.sub (tys' := [(cy_wd, .int)]) [1] rfl
                have hFc := va_free (wc := [(h_wr, .inr (6, (mo36 vq64 (.ref h_wd) (.int x4)))), (h_wd, .inl (cy_wd, 616, .inl f6))]) hD hS hA [0, 2] rfl
                refine va_callv (va_runV (As := [.int z63]) (rest := []) ⟨hx, hb, hml, hown, hts⟩ (c_X9_put l dC dI H.size h_wr h_wd vq64 x4 cy_wd f6 z63 (by first | exact klp8_1 | omega)) (cwV 1 hts (gv hT w_m_X9_33 w_instanceMethod_X9_put ws_sel_X9_put w_ini_X9 w_code_X9_put) rfl rfl rfl (by decide +kernel) ⟨(Nat.le_of_ble_eq_true rfl), (Nat.le_of_ble_eq_true rfl)⟩) ⟨pre_blind, va_recv hK hP (ci := 6) (q0 := 0) rfl rfl, pre_of hPc hKc hDc hN⟩ rfl rfl hl.1 rfl (lv_room (Nat.le_of_ble_eq_true rfl)) dX9_write_85 ⟨(Nat.le_of_ble_eq_true rfl), (Nat.le_of_ble_eq_true rfl)⟩) hS (fun q _ h => hFc q h) hFc (fun u t H locs ht hvm hq hB hz1 hk1 hS9 => ?_)
                obtain ⟨z66, f67⟩ := u
                obtain ⟨hP1, hD1⟩ := hB
                rw [ht] at hP1
                obtain ⟨hP9, hD9⟩ := va_join (wr := [(h_wb, .inl (cy_wb, 600, .inl f_wb)), (h_wh, .inl (cy_wh, 2048, .inl f7)), (h_bd, .inr (1, (mo9 v_bd (.ref h_td) (.ref h_bnd)))), (h_bnd, .inl (cy_bnd, 256, .inl f_bnd)), (h_td, .inr (5, (mo21 v_td (.ref h_nam) (.ref h_var) (.ref h_trm) (.ref h_ter)))), (h_nam, .inl (cy_nam, 300, .inr (.inl f_nam))), (h_var, .inl (cy_var, 300, .inl f_var)), (h_trm, .inl (cy_trm, 300, .inl f_trm)), (h_ter, .inl (cy_ter, 900, .inl f_ter))]) (w1 := [(h_wr, .inr (6, (mo36 vq64 (.ref h_wd) (.int z66)))), (h_wd, .inl (cy_wd, 616, .inl f67))]) hP hD [0, 2] [1, 3, 4, 5, 6, 7, 8, 9, 10] rfl rfl (by decide) (by decide) hk1 hFc hP1 hD1
                clear hP hD hS hPc hDc hKc hFc hP1 hD1 hk1 hz1 ht hvm
                have hP : va_P (dC, dI) cls [(h_wb, .inl (cy_wb, 600, .inl f_wb)), (h_wh, .inl (cy_wh, 2048, .inl f7)), (h_bd, .inr (1, (mo9 v_bd (.ref h_td) (.ref h_bnd)))), (h_bnd, .inl (cy_bnd, 256, .inl f_bnd)), (h_td, .inr (5, (mo21 v_td (.ref h_nam) (.ref h_var) (.ref h_trm) (.ref h_ter)))), (h_nam, .inl (cy_nam, 300, .inr (.inl f_nam))), (h_var, .inl (cy_var, 300, .inl f_var)), (h_trm, .inl (cy_trm, 300, .inl f_trm)), (h_ter, .inl (cy_ter, 900, .inl f_ter)), (h_wr, .inr (6, (mo36 vq64 (.ref h_wd) (.int z66)))), (h_wd, .inl (cy_wd, 616, .inl f67))] H := hP9
                have hD : va_D A [(h_wb, .inl (cy_wb, 600, .inl f_wb)), (h_wh, .inl (cy_wh, 2048, .inl f7)), (h_bd, .inr (1, (mo9 v_bd (.ref h_td) (.ref h_bnd)))), (h_bnd, .inl (cy_bnd, 256, .inl f_bnd)), (h_td, .inr (5, (mo21 v_td (.ref h_nam) (.ref h_var) (.ref h_trm) (.ref h_ter)))), (h_nam, .inl (cy_nam, 300, .inr (.inl f_nam))), (h_var, .inl (cy_var, 300, .inl f_var)), (h_trm, .inl (cy_trm, 300, .inl f_trm)), (h_ter, .inl (cy_ter, 900, .inl f_ter)), (h_wr, .inr (6, (mo36 vq64 (.ref h_wd) (.int z66)))), (h_wd, .inl (cy_wd, 616, .inl f67))] := hD9
                have hS := hS9
                clear hP9 hD9 hS9
                rw [evq64] at hP hD
                replace hP : va_P (dC, dI) cls [(h_wb, .inl (cy_wb, 600, .inl f_wb)), (h_wh, .inl (cy_wh, 2048, .inl f7)), (h_bd, .inr (1, (mo9 v_bd (.ref h_td) (.ref h_bnd)))), (h_bnd, .inl (cy_bnd, 256, .inl f_bnd)), (h_td, .inr (5, (mo21 v_td (.ref h_nam) (.ref h_var) (.ref h_trm) (.ref h_ter)))), (h_nam, .inl (cy_nam, 300, .inr (.inl f_nam))), (h_var, .inl (cy_var, 300, .inl f_var)), (h_trm, .inl (cy_trm, 300, .inl f_trm)), (h_ter, .inl (cy_ter, 900, .inl f_ter)), (h_wr, .inr (6, (mo39 (.ref h_td) (.ref h_bd) (.ref h_wb) (.int x_wr_length) (.ref h_wd) (.int z66) (.ref h_wh) (.int z46)))), (h_wd, .inl (cy_wd, 616, .inl f67))] H := hP
                replace hD : va_D A [(h_wb, .inl (cy_wb, 600, .inl f_wb)), (h_wh, .inl (cy_wh, 2048, .inl f7)), (h_bd, .inr (1, (mo9 v_bd (.ref h_td) (.ref h_bnd)))), (h_bnd, .inl (cy_bnd, 256, .inl f_bnd)), (h_td, .inr (5, (mo21 v_td (.ref h_nam) (.ref h_var) (.ref h_trm) (.ref h_ter)))), (h_nam, .inl (cy_nam, 300, .inr (.inl f_nam))), (h_var, .inl (cy_var, 300, .inl f_var)), (h_trm, .inl (cy_trm, 300, .inl f_trm)), (h_ter, .inl (cy_ter, 900, .inl f_ter)), (h_wr, .inr (6, (mo39 (.ref h_td) (.ref h_bd) (.ref h_wb) (.int x_wr_length) (.ref h_wd) (.int z66) (.ref h_wh) (.int z46)))), (h_wd, .inl (cy_wd, 616, .inl f67))] := hD
                clear evq64 
                obtain ⟨k68, k69⟩ := hq
                replace k68 : 0 ≤ ((z66)).toInt ∧ ((z66)).toInt ≤ 616 := k68
                replace k69 : (616 ≤ ((x4)).toInt ∧ ((z66)).toInt = ((x4)).toInt) ∨ (((x4)).toInt < 616 ∧ ((z66)).toInt = ((x4)).toInt + 1) := k69
                refine lv_goto (tgt := 111) hx hb dX9_write_88 (by decide) ?_
                obtain ⟨z70, ez70⟩ : ∃ y : Int32, y = x3 + 1 := ⟨_, rfl⟩
                have tz70 : (z70).toInt = (x3).toInt + 1 := by rw [ez70]; exact i_add rfl (by decide) (by omega)
                refine lv_iinc (v := z70) (lv' := [(4, .int z70), (0, .ref h_wr), (1, .int p1), (2, .int p2), (3, .int p3)]) hx hb dX9_write_111 hl (k := 4) rfl (by rw [ez70]; rfl) (by decide) rfl (fun ls hl => ?_)
                refine lv_goto (tgt := 30) hx hb dX9_write_114 (by decide) ?_
                replace hP : va_P (dC, dI) cls [(h_wr, .inr (6, (mo39 (.ref h_td) (.ref h_bd) (.ref h_wb) (.int x_wr_length) (.ref h_wd) (.int z66) (.ref h_wh) (.int z46)))), (h_wb, .inl (cy_wb, 600, .inl f_wb)), (h_wd, .inl (cy_wd, 616, .inl f67)), (h_wh, .inl (cy_wh, 2048, .inl f7)), (h_bd, .inr (1, (mo9 v_bd (.ref h_td) (.ref h_bnd)))), (h_bnd, .inl (cy_bnd, 256, .inl f_bnd)), (h_td, .inr (5, (mo21 v_td (.ref h_nam) (.ref h_var) (.ref h_trm) (.ref h_ter)))), (h_nam, .inl (cy_nam, 300, .inr (.inl f_nam))), (h_var, .inl (cy_var, 300, .inl f_var)), (h_trm, .inl (cy_trm, 300, .inl f_trm)), (h_ter, .inl (cy_ter, 900, .inl f_ter))] H := hP.sub [9, 0, 10, 1, 2, 3, 4, 5, 6, 7, 8] rfl
                replace hD : va_D A [(h_wr, .inr (6, (mo39 (.ref h_td) (.ref h_bd) (.ref h_wb) (.int x_wr_length) (.ref h_wd) (.int z66) (.ref h_wh) (.int z46)))), (h_wb, .inl (cy_wb, 600, .inl f_wb)), (h_wd, .inl (cy_wd, 616, .inl f67)), (h_wh, .inl (cy_wh, 2048, .inl f7)), (h_bd, .inr (1, (mo9 v_bd (.ref h_td) (.ref h_bnd)))), (h_bnd, .inl (cy_bnd, 256, .inl f_bnd)), (h_td, .inr (5, (mo21 v_td (.ref h_nam) (.ref h_var) (.ref h_trm) (.ref h_ter)))), (h_nam, .inl (cy_nam, 300, .inr (.inl f_nam))), (h_var, .inl (cy_var, 300, .inl f_var)), (h_trm, .inl (cy_trm, 300, .inl f_trm)), (h_ter, .inl (cy_ter, 900, .inl f_ter))] := hD.sub [9, 0, 10, 1, 2, 3, 4, 5, 6, 7, 8] (by decide) rfl
                exact ih9 (z70) (z66) (z46) (f67) (f7) _ _ _ (by omega) (by first | exact k68 | omega) (by omega) hf7 (by omega) hP hD hS (lv_sub hl [1, 2, 3, 4, 0] rfl)
    have cst0 : (0 : Int32).toInt = 0 := by decide
    have cst1 : (1 : Int32).toInt = 1 := by decide
    exact lp8 _ (0) (0) (1) (f_wd) (f2) _ _ _ (by decide) (by decide) (by decide) hf2 (Nat.le_refl _) hP hD hS (lv_sub hl [1, 2, 3, 4, 0] rfl)
  · have kc1 := (not_congr (cv_eq (rfl : (p2).toInt = (p2).toInt) (by decide : (0 : Int32).toInt = 0))).mp c1
    refine lv_aload_n hx hb dX9_write_9 rfl (lv_at hl 0 rfl) ?_
    refine lv_bipush (v := 45) hx hb dX9_write_10 (by decide) ?_
    obtain ⟨vq71, evq71⟩ := mq39_36 (.ref h_td) (.ref h_bd) (.ref h_wb) (.int x_wr_length) (.ref h_wh) (.int x_wr_held)
    replace hP : va_P (dC, dI) cls [(h_wr, .inr (6, (mo36 vq71 (.ref h_wd) (.int 0)))), (h_wb, .inl (cy_wb, 600, .inl f_wb)), (h_wd, .inl (cy_wd, 616, .inl f_wd)), (h_wh, .inl (cy_wh, 2048, .inl f_wh)), (h_bd, .inr (1, (mo9 v_bd (.ref h_td) (.ref h_bnd)))), (h_bnd, .inl (cy_bnd, 256, .inl f_bnd)), (h_td, .inr (5, (mo21 v_td (.ref h_nam) (.ref h_var) (.ref h_trm) (.ref h_ter)))), (h_nam, .inl (cy_nam, 300, .inr (.inl f_nam))), (h_var, .inl (cy_var, 300, .inl f_var)), (h_trm, .inl (cy_trm, 300, .inl f_trm)), (h_ter, .inl (cy_ter, 900, .inl f_ter))] H := by rw [evq71]; exact hP
    replace hD : va_D A [(h_wr, .inr (6, (mo36 vq71 (.ref h_wd) (.int 0)))), (h_wb, .inl (cy_wb, 600, .inl f_wb)), (h_wd, .inl (cy_wd, 616, .inl f_wd)), (h_wh, .inl (cy_wh, 2048, .inl f_wh)), (h_bd, .inr (1, (mo9 v_bd (.ref h_td) (.ref h_bnd)))), (h_bnd, .inl (cy_bnd, 256, .inl f_bnd)), (h_td, .inr (5, (mo21 v_td (.ref h_nam) (.ref h_var) (.ref h_trm) (.ref h_ter)))), (h_nam, .inl (cy_nam, 300, .inr (.inl f_nam))), (h_var, .inl (cy_var, 300, .inl f_var)), (h_trm, .inl (cy_trm, 300, .inl f_trm)), (h_ter, .inl (cy_ter, 900, .inl f_ter))] := by rw [evq71]; exact hD
    have cst45 : (45 : Int32).toInt = 45 := by decide
    have hPc := hP.sub (ws' := [(h_wr, .inr (6, (mo36 vq71 (.ref h_wd) (.int 0)))), (h_wd, .inl (cy_wd, 616, .inl f_wd))]) [0, 2] rfl
    have hDc := hD.sub (ws' := [(h_wr, .inr (6, (mo36 vq71 (.ref h_wd) (.int 0)))), (h_wd, .inl (cy_wd, 616, .inl f_wd))]) [0, 2] (by decide) rfl
    have hKc := hK.sub (tys' := [(cy_wd, .int)]) [1] rfl
    have hFc := va_free (wc := [(h_wr, .inr (6, (mo36 vq71 (.ref h_wd) (.int 0)))), (h_wd, .inl (cy_wd, 616, .inl f_wd))]) hD hS hA [0, 2] rfl
    refine va_callv (va_runV (As := [.int 45]) (rest := []) ⟨hx, hb, hml, hown, hts⟩ (c_X9_put l dC dI H.size h_wr h_wd vq71 0 cy_wd f_wd 45 (by decide)) (cwV 1 hts (gv hT w_m_X9_33 w_instanceMethod_X9_put ws_sel_X9_put w_ini_X9 w_code_X9_put) rfl rfl rfl (by decide +kernel) ⟨(Nat.le_of_ble_eq_true rfl), (Nat.le_of_ble_eq_true rfl)⟩) ⟨pre_blind, va_recv hK hP (ci := 6) (q0 := 0) rfl rfl, pre_of hPc hKc hDc hN⟩ rfl rfl hl.1 rfl (lv_room (Nat.le_of_ble_eq_true rfl)) dX9_write_12 ⟨(Nat.le_of_ble_eq_true rfl), (Nat.le_of_ble_eq_true rfl)⟩) hS (fun q _ h => hFc q h) hFc (fun u t H locs ht hvm hq hB hz1 hk1 hS9 => ?_)
    obtain ⟨z73, f74⟩ := u
    obtain ⟨hP1, hD1⟩ := hB
    rw [ht] at hP1
    obtain ⟨hP9, hD9⟩ := va_join (wr := [(h_wb, .inl (cy_wb, 600, .inl f_wb)), (h_wh, .inl (cy_wh, 2048, .inl f_wh)), (h_bd, .inr (1, (mo9 v_bd (.ref h_td) (.ref h_bnd)))), (h_bnd, .inl (cy_bnd, 256, .inl f_bnd)), (h_td, .inr (5, (mo21 v_td (.ref h_nam) (.ref h_var) (.ref h_trm) (.ref h_ter)))), (h_nam, .inl (cy_nam, 300, .inr (.inl f_nam))), (h_var, .inl (cy_var, 300, .inl f_var)), (h_trm, .inl (cy_trm, 300, .inl f_trm)), (h_ter, .inl (cy_ter, 900, .inl f_ter))]) (w1 := [(h_wr, .inr (6, (mo36 vq71 (.ref h_wd) (.int z73)))), (h_wd, .inl (cy_wd, 616, .inl f74))]) hP hD [0, 2] [1, 3, 4, 5, 6, 7, 8, 9, 10] rfl rfl (by decide) (by decide) hk1 hFc hP1 hD1
    clear hP hD hS hPc hDc hKc hFc hP1 hD1 hk1 hz1 ht hvm
    have hP : va_P (dC, dI) cls [(h_wb, .inl (cy_wb, 600, .inl f_wb)), (h_wh, .inl (cy_wh, 2048, .inl f_wh)), (h_bd, .inr (1, (mo9 v_bd (.ref h_td) (.ref h_bnd)))), (h_bnd, .inl (cy_bnd, 256, .inl f_bnd)), (h_td, .inr (5, (mo21 v_td (.ref h_nam) (.ref h_var) (.ref h_trm) (.ref h_ter)))), (h_nam, .inl (cy_nam, 300, .inr (.inl f_nam))), (h_var, .inl (cy_var, 300, .inl f_var)), (h_trm, .inl (cy_trm, 300, .inl f_trm)), (h_ter, .inl (cy_ter, 900, .inl f_ter)), (h_wr, .inr (6, (mo36 vq71 (.ref h_wd) (.int z73)))), (h_wd, .inl (cy_wd, 616, .inl f74))] H := hP9
    have hD : va_D A [(h_wb, .inl (cy_wb, 600, .inl f_wb)), (h_wh, .inl (cy_wh, 2048, .inl f_wh)), (h_bd, .inr (1, (mo9 v_bd (.ref h_td) (.ref h_bnd)))), (h_bnd, .inl (cy_bnd, 256, .inl f_bnd)), (h_td, .inr (5, (mo21 v_td (.ref h_nam) (.ref h_var) (.ref h_trm) (.ref h_ter)))), (h_nam, .inl (cy_nam, 300, .inr (.inl f_nam))), (h_var, .inl (cy_var, 300, .inl f_var)), (h_trm, .inl (cy_trm, 300, .inl f_trm)), (h_ter, .inl (cy_ter, 900, .inl f_ter)), (h_wr, .inr (6, (mo36 vq71 (.ref h_wd) (.int z73)))), (h_wd, .inl (cy_wd, 616, .inl f74))] := hD9
    have hS := hS9
    clear hP9 hD9 hS9
    rw [evq71] at hP hD
    replace hP : va_P (dC, dI) cls [(h_wb, .inl (cy_wb, 600, .inl f_wb)), (h_wh, .inl (cy_wh, 2048, .inl f_wh)), (h_bd, .inr (1, (mo9 v_bd (.ref h_td) (.ref h_bnd)))), (h_bnd, .inl (cy_bnd, 256, .inl f_bnd)), (h_td, .inr (5, (mo21 v_td (.ref h_nam) (.ref h_var) (.ref h_trm) (.ref h_ter)))), (h_nam, .inl (cy_nam, 300, .inr (.inl f_nam))), (h_var, .inl (cy_var, 300, .inl f_var)), (h_trm, .inl (cy_trm, 300, .inl f_trm)), (h_ter, .inl (cy_ter, 900, .inl f_ter)), (h_wr, .inr (6, (mo39 (.ref h_td) (.ref h_bd) (.ref h_wb) (.int x_wr_length) (.ref h_wd) (.int z73) (.ref h_wh) (.int x_wr_held)))), (h_wd, .inl (cy_wd, 616, .inl f74))] H := hP
    replace hD : va_D A [(h_wb, .inl (cy_wb, 600, .inl f_wb)), (h_wh, .inl (cy_wh, 2048, .inl f_wh)), (h_bd, .inr (1, (mo9 v_bd (.ref h_td) (.ref h_bnd)))), (h_bnd, .inl (cy_bnd, 256, .inl f_bnd)), (h_td, .inr (5, (mo21 v_td (.ref h_nam) (.ref h_var) (.ref h_trm) (.ref h_ter)))), (h_nam, .inl (cy_nam, 300, .inr (.inl f_nam))), (h_var, .inl (cy_var, 300, .inl f_var)), (h_trm, .inl (cy_trm, 300, .inl f_trm)), (h_ter, .inl (cy_ter, 900, .inl f_ter)), (h_wr, .inr (6, (mo39 (.ref h_td) (.ref h_bd) (.ref h_wb) (.int x_wr_length) (.ref h_wd) (.int z73) (.ref h_wh) (.int x_wr_held)))), (h_wd, .inl (cy_wd, 616, .inl f74))] := hD
    clear evq71 
    obtain ⟨k75, k76⟩ := hq
    replace k75 : 0 ≤ ((z73)).toInt ∧ ((z73)).toInt ≤ 616 := k75
    replace k76 : (616 ≤ ((0 : Int32)).toInt ∧ ((z73)).toInt = ((0 : Int32)).toInt) ∨ (((0 : Int32)).toInt < 616 ∧ ((z73)).toInt = ((0 : Int32)).toInt + 1) := k76
    refine lv_aload_n hx hb dX9_write_15 rfl (lv_at hl 0 rfl) ?_
    refine va_get (D := (dC, dI)) (ci := 6) (v := .ref h_wh) (C := RX9) (T := TX9) (N := 8) hx hb hw iwX9 hown hK hP 9 rfl rfl 6 (by decide) (hw _ w_f_X9_18) (fun _ h9 => h9) rfl dX9_write_16 ?_
    refine lv_iconst (v := 0) hx hb dX9_write_19 (by decide) ?_
    refine lv_iload_n hx hb dX9_write_20 rfl (lv_at hl 1 rfl) ?_
    refine va_iast hx hb hK hP hD hS 1 2 rfl rfl (i := 0) (x := p1) (show ¬ _ from by decide) dX9_write_21 (fun H locs hP9 hD9 hS9 => ?_)
    obtain ⟨f77, ef77⟩ : ∃ g : Nat → Int32, g = upd f_wh (Int32.toNatClampNeg 0) p1 := ⟨_, rfl⟩
    clear hP hD hS
    have hP : va_P (dC, dI) cls [(h_wb, .inl (cy_wb, 600, .inl f_wb)), (h_wh, .inl (cy_wh, 2048, .inl f77)), (h_bd, .inr (1, (mo9 v_bd (.ref h_td) (.ref h_bnd)))), (h_bnd, .inl (cy_bnd, 256, .inl f_bnd)), (h_td, .inr (5, (mo21 v_td (.ref h_nam) (.ref h_var) (.ref h_trm) (.ref h_ter)))), (h_nam, .inl (cy_nam, 300, .inr (.inl f_nam))), (h_var, .inl (cy_var, 300, .inl f_var)), (h_trm, .inl (cy_trm, 300, .inl f_trm)), (h_ter, .inl (cy_ter, 900, .inl f_ter)), (h_wr, .inr (6, (mo39 (.ref h_td) (.ref h_bd) (.ref h_wb) (.int x_wr_length) (.ref h_wd) (.int z73) (.ref h_wh) (.int x_wr_held)))), (h_wd, .inl (cy_wd, 616, .inl f74))] H := by rw [ef77]; exact hP9
    have hD : va_D A [(h_wb, .inl (cy_wb, 600, .inl f_wb)), (h_wh, .inl (cy_wh, 2048, .inl f77)), (h_bd, .inr (1, (mo9 v_bd (.ref h_td) (.ref h_bnd)))), (h_bnd, .inl (cy_bnd, 256, .inl f_bnd)), (h_td, .inr (5, (mo21 v_td (.ref h_nam) (.ref h_var) (.ref h_trm) (.ref h_ter)))), (h_nam, .inl (cy_nam, 300, .inr (.inl f_nam))), (h_var, .inl (cy_var, 300, .inl f_var)), (h_trm, .inl (cy_trm, 300, .inl f_trm)), (h_ter, .inl (cy_ter, 900, .inl f_ter)), (h_wr, .inr (6, (mo39 (.ref h_td) (.ref h_bd) (.ref h_wb) (.int x_wr_length) (.ref h_wd) (.int z73) (.ref h_wh) (.int x_wr_held)))), (h_wd, .inl (cy_wd, 616, .inl f74))] := by rw [ef77]; exact hD9
    have hS := hS9
    clear hP9 hD9 hS9
    have hf77 : Rg (-127) 9599 f77 := by rw [ef77]; exact rg_upd hf_wh (by omega)
    clear ef77
    refine lv_aload_n hx hb dX9_write_22 rfl (lv_at hl 0 rfl) ?_
    refine lv_iconst (v := 1) hx hb dX9_write_23 (by decide) ?_
    refine va_put (D := (dC, dI)) (ci := 6) (v := .int 1) (ty := tyX9 7) (C := RX9) (T := TX9) (N := 8) hx hb hw iwX9 tyX9 tyX9_ok nmX9 hown hK hP hD hS 9 rfl rfl 7 (by decide) (hw _ w_f_X9_37) (fun _ h9 => h9) rfl (tyX9_ok 7 (by decide)) rfl rfl (Nat.le_of_ble_eq_true rfl) dX9_write_24 (fun H locs hP9 hD9 hS9 => ?_)
    clear hP hD hS
    have hP : va_P (dC, dI) cls [(h_wb, .inl (cy_wb, 600, .inl f_wb)), (h_wh, .inl (cy_wh, 2048, .inl f77)), (h_bd, .inr (1, (mo9 v_bd (.ref h_td) (.ref h_bnd)))), (h_bnd, .inl (cy_bnd, 256, .inl f_bnd)), (h_td, .inr (5, (mo21 v_td (.ref h_nam) (.ref h_var) (.ref h_trm) (.ref h_ter)))), (h_nam, .inl (cy_nam, 300, .inr (.inl f_nam))), (h_var, .inl (cy_var, 300, .inl f_var)), (h_trm, .inl (cy_trm, 300, .inl f_trm)), (h_ter, .inl (cy_ter, 900, .inl f_ter)), (h_wr, .inr (6, (mo39 (.ref h_td) (.ref h_bd) (.ref h_wb) (.int x_wr_length) (.ref h_wd) (.int z73) (.ref h_wh) (.int 1)))), (h_wd, .inl (cy_wd, 616, .inl f74))] H := hP9
    have hD : va_D A [(h_wb, .inl (cy_wb, 600, .inl f_wb)), (h_wh, .inl (cy_wh, 2048, .inl f77)), (h_bd, .inr (1, (mo9 v_bd (.ref h_td) (.ref h_bnd)))), (h_bnd, .inl (cy_bnd, 256, .inl f_bnd)), (h_td, .inr (5, (mo21 v_td (.ref h_nam) (.ref h_var) (.ref h_trm) (.ref h_ter)))), (h_nam, .inl (cy_nam, 300, .inr (.inl f_nam))), (h_var, .inl (cy_var, 300, .inl f_var)), (h_trm, .inl (cy_trm, 300, .inl f_trm)), (h_ter, .inl (cy_ter, 900, .inl f_ter)), (h_wr, .inr (6, (mo39 (.ref h_td) (.ref h_bd) (.ref h_wb) (.int x_wr_length) (.ref h_wd) (.int z73) (.ref h_wh) (.int 1)))), (h_wd, .inl (cy_wd, 616, .inl f74))] := hD9
    have hS := hS9
    clear hP9 hD9 hS9
    refine lv_iconst (v := 0) hx hb dX9_write_27 (by decide) ?_
    refine lv_istore (lv' := [(4, .int 0), (0, .ref h_wr), (1, .int p1), (2, .int p2), (3, .int p3)]) hx hb dX9_write_28 hl (by decide) rfl (fun ls hl => ?_)
    have lp83 : ∀ (n : Nat) (x78 : Int32) (f79 : Nat → Int32) (x80 : Int32) (x81 : Int32) (f82 : Nat → Int32) (H : Heap) (locs : List Loc) (ls : Array Slot), (0 ≤ (x78).toInt ∧ (x78).toInt ≤ 1000000) → (Rg (-127) 9599 f79) → (0 ≤ (x80).toInt ∧ (x80).toInt ≤ 616) → (0 ≤ (x81).toInt ∧ (x81).toInt ≤ 2048) → (1000000 - (x78).toInt).toNat + 1 ≤ n → va_P (dC, dI) cls [(h_wb, .inl (cy_wb, 600, .inl f_wb)), (h_wh, .inl (cy_wh, 2048, .inl f79)), (h_bd, .inr (1, (mo9 v_bd (.ref h_td) (.ref h_bnd)))), (h_bnd, .inl (cy_bnd, 256, .inl f_bnd)), (h_td, .inr (5, (mo21 v_td (.ref h_nam) (.ref h_var) (.ref h_trm) (.ref h_ter)))), (h_nam, .inl (cy_nam, 300, .inr (.inl f_nam))), (h_var, .inl (cy_var, 300, .inl f_var)), (h_trm, .inl (cy_trm, 300, .inl f_trm)), (h_ter, .inl (cy_ter, 900, .inl f_ter)), (h_wr, .inr (6, (mo39 (.ref h_td) (.ref h_bd) (.ref h_wb) (.int x_wr_length) (.ref h_wd) (.int x80) (.ref h_wh) (.int x81)))), (h_wd, .inl (cy_wd, 616, .inl f82))] H → va_D A [(h_wb, .inl (cy_wb, 600, .inl f_wb)), (h_wh, .inl (cy_wh, 2048, .inl f79)), (h_bd, .inr (1, (mo9 v_bd (.ref h_td) (.ref h_bnd)))), (h_bnd, .inl (cy_bnd, 256, .inl f_bnd)), (h_td, .inr (5, (mo21 v_td (.ref h_nam) (.ref h_var) (.ref h_trm) (.ref h_ter)))), (h_nam, .inl (cy_nam, 300, .inr (.inl f_nam))), (h_var, .inl (cy_var, 300, .inl f_var)), (h_trm, .inl (cy_trm, 300, .inl f_trm)), (h_ter, .inl (cy_ter, 900, .inl f_ter)), (h_wr, .inr (6, (mo39 (.ref h_td) (.ref h_bd) (.ref h_wb) (.int x_wr_length) (.ref h_wd) (.int x80) (.ref h_wh) (.int x81)))), (h_wd, .inl (cy_wd, 616, .inl f82))] → va_S A s.heap H locs → lv_has ls 5 [(0, .ref h_wr), (1, .int p1), (2, .int p2), (3, .int p3), (4, .int x78)] → W p l e ({ frames := 3, cells := 0, slots := 0, locals := 80 } : Room) s m ([.ref h_wr, .int p1, .int p2, .int p3] : List Value).toArray below meth c H locs 0 0 (MQ below (va_Qi (fun (r : Int32) (u : (Int32) × (Int32) × (Int32) × (Nat → Int32) × (Nat → Int32) × (Nat → Int32)) => (0 ≤ (u.1).toInt ∧ (u.1).toInt ≤ 600) ∧ (0 ≤ (u.2.1).toInt ∧ (u.2.1).toInt ≤ 616) ∧ (0 ≤ (u.2.2.1).toInt ∧ (u.2.2.1).toInt ≤ 2048) ∧ (Rg (-127) 9599 u.2.2.2.2.2)) (fun (u : (Int32) × (Int32) × (Int32) × (Nat → Int32) × (Nat → Int32) × (Nat → Int32)) (t : State) => va_P (dC, dI) cls [(h_wr, .inr (6, (mo39 (.ref h_td) (.ref h_bd) (.ref h_wb) (.int u.1) (.ref h_wd) (.int u.2.1) (.ref h_wh) (.int u.2.2.1)))), (h_wb, .inl (cy_wb, 600, .inl u.2.2.2.1)), (h_wd, .inl (cy_wd, 616, .inl u.2.2.2.2.1)), (h_wh, .inl (cy_wh, 2048, .inl u.2.2.2.2.2)), (h_bd, .inr (1, (mo9 v_bd (.ref h_td) (.ref h_bnd)))), (h_bnd, .inl (cy_bnd, 256, .inl f_bnd)), (h_td, .inr (5, (mo21 v_td (.ref h_nam) (.ref h_var) (.ref h_trm) (.ref h_ter)))), (h_nam, .inl (cy_nam, 300, .inr (.inl f_nam))), (h_var, .inl (cy_var, 300, .inl f_var)), (h_trm, .inl (cy_trm, 300, .inl f_trm)), (h_ter, .inl (cy_ter, 900, .inl f_ter))] t.heap ∧ va_D A [(h_wr, .inr (6, (mo39 (.ref h_td) (.ref h_bd) (.ref h_wb) (.int u.1) (.ref h_wd) (.int u.2.1) (.ref h_wh) (.int u.2.2.1)))), (h_wb, .inl (cy_wb, 600, .inl u.2.2.2.1)), (h_wd, .inl (cy_wd, 616, .inl u.2.2.2.2.1)), (h_wh, .inl (cy_wh, 2048, .inl u.2.2.2.2.2)), (h_bd, .inr (1, (mo9 v_bd (.ref h_td) (.ref h_bnd)))), (h_bnd, .inl (cy_bnd, 256, .inl f_bnd)), (h_td, .inr (5, (mo21 v_td (.ref h_nam) (.ref h_var) (.ref h_trm) (.ref h_ter)))), (h_nam, .inl (cy_nam, 300, .inr (.inl f_nam))), (h_var, .inl (cy_var, 300, .inl f_var)), (h_trm, .inl (cy_trm, 300, .inl f_trm)), (h_ter, .inl (cy_ter, 900, .inl f_ter))]) A) ([.ref h_wr, .int p1, .int p2, .int p3] : List Value).toArray s 0 0 A) (F0 m 30 ls []) := by
      clear hP hD hS hl
      intro n
      induction n with
      | zero => intro x78 f79 x80 x81 f82 H locs ls klp83_0 hf79 klp83_2 klp83_3 hm hP hD hS hl; exact False.elim (by omega)
      | succ n ih => 
        intro x78 f79 x80 x81 f82 H locs ls klp83_0 hf79 klp83_2 klp83_3 hm hP hD hS hl
        have ih84 := ih
        clear ih
        refine lv_iload hx hb dX9_write_30 (lv_at hl 4 rfl) ?_
        refine lv_ldc (v := 1000000) hx hb hown (hw _ w_k_X9_40) dX9_write_32 ?_
        refine lv_icmp_ge (tgt := 117) hx hb dX9_write_34 (by decide) (fun c85 => ?_) (fun c85 => ?_)
        · have kc85 := (cv_le (by decide : (1000000 : Int32).toInt = 1000000) (rfl : (x78).toInt = (x78).toInt)).mp c85
          refine lv_aload_n hx hb dX9_write_117 rfl (lv_at hl 0 rfl) ?_
          refine va_get (D := (dC, dI)) (ci := 6) (v := .int x81) (C := RX9) (T := TX9) (N := 8) hx hb hw iwX9 hown hK hP 9 rfl rfl 7 (by decide) (hw _ w_f_X9_37) (fun _ h9 => h9) rfl dX9_write_118 ?_
          refine lv_if_gt (tgt := 142) hx hb dX9_write_121 (by decide) (fun c86 => ?_) (fun c86 => ?_)
          · have kc86 := (cv_lt (by decide : (0 : Int32).toInt = 0) (rfl : (x81).toInt = (x81).toInt)).mp c86
            refine lv_iconst (v := (-1)) hx hb dX9_write_142 (by decide) ?_
            replace hP : va_P (dC, dI) cls [(h_wr, .inr (6, (mo39 (.ref h_td) (.ref h_bd) (.ref h_wb) (.int x_wr_length) (.ref h_wd) (.int x80) (.ref h_wh) (.int x81)))), (h_wb, .inl (cy_wb, 600, .inl f_wb)), (h_wd, .inl (cy_wd, 616, .inl f82)), (h_wh, .inl (cy_wh, 2048, .inl f79)), (h_bd, .inr (1, (mo9 v_bd (.ref h_td) (.ref h_bnd)))), (h_bnd, .inl (cy_bnd, 256, .inl f_bnd)), (h_td, .inr (5, (mo21 v_td (.ref h_nam) (.ref h_var) (.ref h_trm) (.ref h_ter)))), (h_nam, .inl (cy_nam, 300, .inr (.inl f_nam))), (h_var, .inl (cy_var, 300, .inl f_var)), (h_trm, .inl (cy_trm, 300, .inl f_trm)), (h_ter, .inl (cy_ter, 900, .inl f_ter))] H := hP.sub [9, 0, 10, 1, 2, 3, 4, 5, 6, 7, 8] rfl
            replace hD : va_D A [(h_wr, .inr (6, (mo39 (.ref h_td) (.ref h_bd) (.ref h_wb) (.int x_wr_length) (.ref h_wd) (.int x80) (.ref h_wh) (.int x81)))), (h_wb, .inl (cy_wb, 600, .inl f_wb)), (h_wd, .inl (cy_wd, 616, .inl f82)), (h_wh, .inl (cy_wh, 2048, .inl f79)), (h_bd, .inr (1, (mo9 v_bd (.ref h_td) (.ref h_bnd)))), (h_bnd, .inl (cy_bnd, 256, .inl f_bnd)), (h_td, .inr (5, (mo21 v_td (.ref h_nam) (.ref h_var) (.ref h_trm) (.ref h_ter)))), (h_nam, .inl (cy_nam, 300, .inr (.inl f_nam))), (h_var, .inl (cy_var, 300, .inl f_var)), (h_trm, .inl (cy_trm, 300, .inl f_trm)), (h_ter, .inl (cy_ter, 900, .inl f_ter))] := hD.sub [9, 0, 10, 1, 2, 3, 4, 5, 6, 7, 8] (by decide) rfl
            refine W.widen (k := 0) (n := 0) (Nat.le_of_ble_eq_true rfl) (Nat.le_of_ble_eq_true rfl) ?_
            have cstm1 : ((-1) : Int32).toInt = -1 := by decide
            have w87 : 0 ≤ ((x_wr_length)).toInt ∧ ((x_wr_length)).toInt ≤ 600 := by first | exact hx_wr_length | omega
            have w88 : 0 ≤ ((x80)).toInt ∧ ((x80)).toInt ≤ 616 := by first | exact klp83_2 | omega
            have w89 : 0 ≤ ((x81)).toInt ∧ ((x81)).toInt ≤ 2048 := by first | exact klp83_3 | omega
            exact W.iret (v := (-1)) hx hb hr (fun t ht hW => ⟨⟨(-1), (x_wr_length, x80, x81, f_wb, f82, f79), rfl, ⟨w87, w88, w89, hf79⟩, by rw [ht]; exact hP, hD⟩, hS.F ht⟩) hS.2.2 dX9_write_143
          · have kc86 := (not_congr (cv_lt (by decide : (0 : Int32).toInt = 0) (rfl : (x81).toInt = (x81).toInt))).mp c86
            refine lv_aload_n hx hb dX9_write_124 rfl (lv_at hl 0 rfl) ?_
            refine va_get (D := (dC, dI)) (ci := 6) (v := .int x80) (C := RX9) (T := TX9) (N := 8) hx hb hw iwX9 hown hK hP 9 rfl rfl 5 (by decide) (hw _ w_f_X9_29) (fun _ h9 => h9) rfl dX9_write_125 ?_
            refine lv_iload_n hx hb dX9_write_128 rfl (lv_at hl 3 rfl) ?_
            refine lv_icmp_gt (tgt := 142) hx hb dX9_write_129 (by decide) (fun c90 => ?_) (fun c90 => ?_)
            · have kc90 := (cv_lt (rfl : (p3).toInt = (p3).toInt) (rfl : (x80).toInt = (x80).toInt)).mp c90
              refine lv_iconst (v := (-1)) hx hb dX9_write_142 (by decide) ?_
              replace hP : va_P (dC, dI) cls [(h_wr, .inr (6, (mo39 (.ref h_td) (.ref h_bd) (.ref h_wb) (.int x_wr_length) (.ref h_wd) (.int x80) (.ref h_wh) (.int x81)))), (h_wb, .inl (cy_wb, 600, .inl f_wb)), (h_wd, .inl (cy_wd, 616, .inl f82)), (h_wh, .inl (cy_wh, 2048, .inl f79)), (h_bd, .inr (1, (mo9 v_bd (.ref h_td) (.ref h_bnd)))), (h_bnd, .inl (cy_bnd, 256, .inl f_bnd)), (h_td, .inr (5, (mo21 v_td (.ref h_nam) (.ref h_var) (.ref h_trm) (.ref h_ter)))), (h_nam, .inl (cy_nam, 300, .inr (.inl f_nam))), (h_var, .inl (cy_var, 300, .inl f_var)), (h_trm, .inl (cy_trm, 300, .inl f_trm)), (h_ter, .inl (cy_ter, 900, .inl f_ter))] H := hP.sub [9, 0, 10, 1, 2, 3, 4, 5, 6, 7, 8] rfl
              replace hD : va_D A [(h_wr, .inr (6, (mo39 (.ref h_td) (.ref h_bd) (.ref h_wb) (.int x_wr_length) (.ref h_wd) (.int x80) (.ref h_wh) (.int x81)))), (h_wb, .inl (cy_wb, 600, .inl f_wb)), (h_wd, .inl (cy_wd, 616, .inl f82)), (h_wh, .inl (cy_wh, 2048, .inl f79)), (h_bd, .inr (1, (mo9 v_bd (.ref h_td) (.ref h_bnd)))), (h_bnd, .inl (cy_bnd, 256, .inl f_bnd)), (h_td, .inr (5, (mo21 v_td (.ref h_nam) (.ref h_var) (.ref h_trm) (.ref h_ter)))), (h_nam, .inl (cy_nam, 300, .inr (.inl f_nam))), (h_var, .inl (cy_var, 300, .inl f_var)), (h_trm, .inl (cy_trm, 300, .inl f_trm)), (h_ter, .inl (cy_ter, 900, .inl f_ter))] := hD.sub [9, 0, 10, 1, 2, 3, 4, 5, 6, 7, 8] (by decide) rfl
              refine W.widen (k := 0) (n := 0) (Nat.le_of_ble_eq_true rfl) (Nat.le_of_ble_eq_true rfl) ?_
              have cstm1 : ((-1) : Int32).toInt = -1 := by decide
              have w91 : 0 ≤ ((x_wr_length)).toInt ∧ ((x_wr_length)).toInt ≤ 600 := by first | exact hx_wr_length | omega
              have w92 : 0 ≤ ((x80)).toInt ∧ ((x80)).toInt ≤ 616 := by first | exact klp83_2 | omega
              have w93 : 0 ≤ ((x81)).toInt ∧ ((x81)).toInt ≤ 2048 := by first | exact klp83_3 | omega
              exact W.iret (v := (-1)) hx hb hr (fun t ht hW => ⟨⟨(-1), (x_wr_length, x80, x81, f_wb, f82, f79), rfl, ⟨w91, w92, w93, hf79⟩, by rw [ht]; exact hP, hD⟩, hS.F ht⟩) hS.2.2 dX9_write_143
            · have kc90 := (not_congr (cv_lt (rfl : (p3).toInt = (p3).toInt) (rfl : (x80).toInt = (x80).toInt))).mp c90
              refine lv_aload_n hx hb dX9_write_132 rfl (lv_at hl 0 rfl) ?_
              refine va_get (D := (dC, dI)) (ci := 6) (v := .int x80) (C := RX9) (T := TX9) (N := 8) hx hb hw iwX9 hown hK hP 9 rfl rfl 5 (by decide) (hw _ w_f_X9_29) (fun _ h9 => h9) rfl dX9_write_133 ?_
              refine lv_sipush (v := 600) hx hb dX9_write_136 (by decide) ?_
              refine lv_icmp_le (tgt := 144) hx hb dX9_write_139 (by decide) (fun c94 => ?_) (fun c94 => ?_)
              · have kc94 := (cv_le (rfl : (x80).toInt = (x80).toInt) (by decide : (600 : Int32).toInt = 600)).mp c94
                refine lv_aload_n hx hb dX9_write_144 rfl (lv_at hl 0 rfl) ?_
                refine va_get (D := (dC, dI)) (ci := 6) (v := .ref h_wd) (C := RX9) (T := TX9) (N := 8) hx hb hw iwX9 hown hK hP 9 rfl rfl 4 (by decide) (hw _ w_f_X9_15) (fun _ h9 => h9) rfl dX9_write_145 ?_
                refine lv_iconst (v := 0) hx hb dX9_write_148 (by decide) ?_
                refine lv_aload_n hx hb dX9_write_149 rfl (lv_at hl 0 rfl) ?_
                refine va_get (D := (dC, dI)) (ci := 6) (v := .ref h_wb) (C := RX9) (T := TX9) (N := 8) hx hb hw iwX9 hown hK hP 9 rfl rfl 2 (by decide) (hw _ w_f_X9_9) (fun _ h9 => h9) rfl dX9_write_150 ?_
                refine lv_iconst (v := 0) hx hb dX9_write_153 (by decide) ?_
                refine lv_aload_n hx hb dX9_write_154 rfl (lv_at hl 0 rfl) ?_
                refine va_get (D := (dC, dI)) (ci := 6) (v := .int x80) (C := RX9) (T := TX9) (N := 8) hx hb hw iwX9 hown hK hP 9 rfl rfl 5 (by decide) (hw _ w_f_X9_29) (fun _ h9 => h9) rfl dX9_write_155 ?_
                refine va_copyi hx hb (hml.trans hl.1.symm) hown (hw _ w_m_X9_50) (hw _ w_acn) (hw _ w_acs) (hw _ w_ini_System) hK hP hD hS 10 0 1 0 (sp := 0) (dp := 0) (n := x80) rfl rfl rfl rfl rfl (by decide) (by decide) (fun q => by have := (cv_lt (rfl : (x80).toInt = (x80).toInt) (by decide : (0 : Int32).toInt = 0)).mp q; omega) (by have : (0 : Int32).toNatClampNeg = 0 := (by decide); have := clamp_toInt (i := x80) (by omega); omega) (by have : (0 : Int32).toNatClampNeg = 0 := (by decide); have := clamp_toInt (i := x80) (by omega); omega) (fun _ _ => rfl) (Nat.le_of_ble_eq_true rfl) (Nat.le_of_ble_eq_true rfl) dX9_write_158 (fun H locs hP hD hS => ?_)
                obtain ⟨f95, ef95⟩ : ∃ g : Nat → Int32, g = va_cpy f82 f_wb (Int32.toNatClampNeg 0) (Int32.toNatClampNeg 0) (Int32.toNatClampNeg x80) := ⟨_, rfl⟩
                have hP : va_P (dC, dI) cls [(h_wb, .inl (cy_wb, 600, .inl f95)), (h_wh, .inl (cy_wh, 2048, .inl f79)), (h_bd, .inr (1, (mo9 v_bd (.ref h_td) (.ref h_bnd)))), (h_bnd, .inl (cy_bnd, 256, .inl f_bnd)), (h_td, .inr (5, (mo21 v_td (.ref h_nam) (.ref h_var) (.ref h_trm) (.ref h_ter)))), (h_nam, .inl (cy_nam, 300, .inr (.inl f_nam))), (h_var, .inl (cy_var, 300, .inl f_var)), (h_trm, .inl (cy_trm, 300, .inl f_trm)), (h_ter, .inl (cy_ter, 900, .inl f_ter)), (h_wr, .inr (6, (mo39 (.ref h_td) (.ref h_bd) (.ref h_wb) (.int x_wr_length) (.ref h_wd) (.int x80) (.ref h_wh) (.int x81)))), (h_wd, .inl (cy_wd, 616, .inl f82))] H := by rw [ef95]; exact hP
                have hD : va_D A [(h_wb, .inl (cy_wb, 600, .inl f95)), (h_wh, .inl (cy_wh, 2048, .inl f79)), (h_bd, .inr (1, (mo9 v_bd (.ref h_td) (.ref h_bnd)))), (h_bnd, .inl (cy_bnd, 256, .inl f_bnd)), (h_td, .inr (5, (mo21 v_td (.ref h_nam) (.ref h_var) (.ref h_trm) (.ref h_ter)))), (h_nam, .inl (cy_nam, 300, .inr (.inl f_nam))), (h_var, .inl (cy_var, 300, .inl f_var)), (h_trm, .inl (cy_trm, 300, .inl f_trm)), (h_ter, .inl (cy_ter, 900, .inl f_ter)), (h_wr, .inr (6, (mo39 (.ref h_td) (.ref h_bd) (.ref h_wb) (.int x_wr_length) (.ref h_wd) (.int x80) (.ref h_wh) (.int x81)))), (h_wd, .inl (cy_wd, 616, .inl f82))] := by rw [ef95]; exact hD
                clear ef95
                refine lv_aload_n hx hb dX9_write_161 rfl (lv_at hl 0 rfl) ?_
                refine lv_aload_n hx hb dX9_write_162 rfl (lv_at hl 0 rfl) ?_
                refine va_get (D := (dC, dI)) (ci := 6) (v := .int x80) (C := RX9) (T := TX9) (N := 8) hx hb hw iwX9 hown hK hP 9 rfl rfl 5 (by decide) (hw _ w_f_X9_29) (fun _ h9 => h9) rfl dX9_write_163 ?_
                refine va_put (D := (dC, dI)) (ci := 6) (v := .int x80) (ty := tyX9 3) (C := RX9) (T := TX9) (N := 8) hx hb hw iwX9 tyX9 tyX9_ok nmX9 hown hK hP hD hS 9 rfl rfl 3 (by decide) (hw _ w_f_X9_56) (fun _ h9 => h9) rfl (tyX9_ok 3 (by decide)) rfl rfl (Nat.le_of_ble_eq_true rfl) dX9_write_166 (fun H locs hP9 hD9 hS9 => ?_)
                clear hP hD hS
                have hP : va_P (dC, dI) cls [(h_wb, .inl (cy_wb, 600, .inl f95)), (h_wh, .inl (cy_wh, 2048, .inl f79)), (h_bd, .inr (1, (mo9 v_bd (.ref h_td) (.ref h_bnd)))), (h_bnd, .inl (cy_bnd, 256, .inl f_bnd)), (h_td, .inr (5, (mo21 v_td (.ref h_nam) (.ref h_var) (.ref h_trm) (.ref h_ter)))), (h_nam, .inl (cy_nam, 300, .inr (.inl f_nam))), (h_var, .inl (cy_var, 300, .inl f_var)), (h_trm, .inl (cy_trm, 300, .inl f_trm)), (h_ter, .inl (cy_ter, 900, .inl f_ter)), (h_wr, .inr (6, (mo39 (.ref h_td) (.ref h_bd) (.ref h_wb) (.int x80) (.ref h_wd) (.int x80) (.ref h_wh) (.int x81)))), (h_wd, .inl (cy_wd, 616, .inl f82))] H := hP9
                have hD : va_D A [(h_wb, .inl (cy_wb, 600, .inl f95)), (h_wh, .inl (cy_wh, 2048, .inl f79)), (h_bd, .inr (1, (mo9 v_bd (.ref h_td) (.ref h_bnd)))), (h_bnd, .inl (cy_bnd, 256, .inl f_bnd)), (h_td, .inr (5, (mo21 v_td (.ref h_nam) (.ref h_var) (.ref h_trm) (.ref h_ter)))), (h_nam, .inl (cy_nam, 300, .inr (.inl f_nam))), (h_var, .inl (cy_var, 300, .inl f_var)), (h_trm, .inl (cy_trm, 300, .inl f_trm)), (h_ter, .inl (cy_ter, 900, .inl f_ter)), (h_wr, .inr (6, (mo39 (.ref h_td) (.ref h_bd) (.ref h_wb) (.int x80) (.ref h_wd) (.int x80) (.ref h_wh) (.int x81)))), (h_wd, .inl (cy_wd, 616, .inl f82))] := hD9
                have hS := hS9
                clear hP9 hD9 hS9
                refine lv_aload_n hx hb dX9_write_169 rfl (lv_at hl 0 rfl) ?_
                refine va_get (D := (dC, dI)) (ci := 6) (v := .int x80) (C := RX9) (T := TX9) (N := 8) hx hb hw iwX9 hown hK hP 9 rfl rfl 3 (by decide) (hw _ w_f_X9_56) (fun _ h9 => h9) rfl dX9_write_170 ?_
                replace hP : va_P (dC, dI) cls [(h_wr, .inr (6, (mo39 (.ref h_td) (.ref h_bd) (.ref h_wb) (.int x80) (.ref h_wd) (.int x80) (.ref h_wh) (.int x81)))), (h_wb, .inl (cy_wb, 600, .inl f95)), (h_wd, .inl (cy_wd, 616, .inl f82)), (h_wh, .inl (cy_wh, 2048, .inl f79)), (h_bd, .inr (1, (mo9 v_bd (.ref h_td) (.ref h_bnd)))), (h_bnd, .inl (cy_bnd, 256, .inl f_bnd)), (h_td, .inr (5, (mo21 v_td (.ref h_nam) (.ref h_var) (.ref h_trm) (.ref h_ter)))), (h_nam, .inl (cy_nam, 300, .inr (.inl f_nam))), (h_var, .inl (cy_var, 300, .inl f_var)), (h_trm, .inl (cy_trm, 300, .inl f_trm)), (h_ter, .inl (cy_ter, 900, .inl f_ter))] H := hP.sub [9, 0, 10, 1, 2, 3, 4, 5, 6, 7, 8] rfl
                replace hD : va_D A [(h_wr, .inr (6, (mo39 (.ref h_td) (.ref h_bd) (.ref h_wb) (.int x80) (.ref h_wd) (.int x80) (.ref h_wh) (.int x81)))), (h_wb, .inl (cy_wb, 600, .inl f95)), (h_wd, .inl (cy_wd, 616, .inl f82)), (h_wh, .inl (cy_wh, 2048, .inl f79)), (h_bd, .inr (1, (mo9 v_bd (.ref h_td) (.ref h_bnd)))), (h_bnd, .inl (cy_bnd, 256, .inl f_bnd)), (h_td, .inr (5, (mo21 v_td (.ref h_nam) (.ref h_var) (.ref h_trm) (.ref h_ter)))), (h_nam, .inl (cy_nam, 300, .inr (.inl f_nam))), (h_var, .inl (cy_var, 300, .inl f_var)), (h_trm, .inl (cy_trm, 300, .inl f_trm)), (h_ter, .inl (cy_ter, 900, .inl f_ter))] := hD.sub [9, 0, 10, 1, 2, 3, 4, 5, 6, 7, 8] (by decide) rfl
                refine W.widen (k := 0) (n := 0) (Nat.le_of_ble_eq_true rfl) (Nat.le_of_ble_eq_true rfl) ?_
                have w96 : 0 ≤ ((x80)).toInt ∧ ((x80)).toInt ≤ 600 := by omega
                have w97 : 0 ≤ ((x80)).toInt ∧ ((x80)).toInt ≤ 616 := by first | exact klp83_2 | omega
                have w98 : 0 ≤ ((x81)).toInt ∧ ((x81)).toInt ≤ 2048 := by first | exact klp83_3 | omega
                exact W.iret (v := x80) hx hb hr (fun t ht hW => ⟨⟨x80, (x80, x80, x81, f95, f82, f79), rfl, ⟨w96, w97, w98, hf79⟩, by rw [ht]; exact hP, hD⟩, hS.F ht⟩) hS.2.2 dX9_write_173
              · have kc94 := (not_congr (cv_le (rfl : (x80).toInt = (x80).toInt) (by decide : (600 : Int32).toInt = 600))).mp c94
                refine lv_iconst (v := (-1)) hx hb dX9_write_142 (by decide) ?_
                replace hP : va_P (dC, dI) cls [(h_wr, .inr (6, (mo39 (.ref h_td) (.ref h_bd) (.ref h_wb) (.int x_wr_length) (.ref h_wd) (.int x80) (.ref h_wh) (.int x81)))), (h_wb, .inl (cy_wb, 600, .inl f_wb)), (h_wd, .inl (cy_wd, 616, .inl f82)), (h_wh, .inl (cy_wh, 2048, .inl f79)), (h_bd, .inr (1, (mo9 v_bd (.ref h_td) (.ref h_bnd)))), (h_bnd, .inl (cy_bnd, 256, .inl f_bnd)), (h_td, .inr (5, (mo21 v_td (.ref h_nam) (.ref h_var) (.ref h_trm) (.ref h_ter)))), (h_nam, .inl (cy_nam, 300, .inr (.inl f_nam))), (h_var, .inl (cy_var, 300, .inl f_var)), (h_trm, .inl (cy_trm, 300, .inl f_trm)), (h_ter, .inl (cy_ter, 900, .inl f_ter))] H := hP.sub [9, 0, 10, 1, 2, 3, 4, 5, 6, 7, 8] rfl
                replace hD : va_D A [(h_wr, .inr (6, (mo39 (.ref h_td) (.ref h_bd) (.ref h_wb) (.int x_wr_length) (.ref h_wd) (.int x80) (.ref h_wh) (.int x81)))), (h_wb, .inl (cy_wb, 600, .inl f_wb)), (h_wd, .inl (cy_wd, 616, .inl f82)), (h_wh, .inl (cy_wh, 2048, .inl f79)), (h_bd, .inr (1, (mo9 v_bd (.ref h_td) (.ref h_bnd)))), (h_bnd, .inl (cy_bnd, 256, .inl f_bnd)), (h_td, .inr (5, (mo21 v_td (.ref h_nam) (.ref h_var) (.ref h_trm) (.ref h_ter)))), (h_nam, .inl (cy_nam, 300, .inr (.inl f_nam))), (h_var, .inl (cy_var, 300, .inl f_var)), (h_trm, .inl (cy_trm, 300, .inl f_trm)), (h_ter, .inl (cy_ter, 900, .inl f_ter))] := hD.sub [9, 0, 10, 1, 2, 3, 4, 5, 6, 7, 8] (by decide) rfl
                refine W.widen (k := 0) (n := 0) (Nat.le_of_ble_eq_true rfl) (Nat.le_of_ble_eq_true rfl) ?_
                have cstm1 : ((-1) : Int32).toInt = -1 := by decide
                have w99 : 0 ≤ ((x_wr_length)).toInt ∧ ((x_wr_length)).toInt ≤ 600 := by first | exact hx_wr_length | omega
                have w100 : 0 ≤ ((x80)).toInt ∧ ((x80)).toInt ≤ 616 := by first | exact klp83_2 | omega
                have w101 : 0 ≤ ((x81)).toInt ∧ ((x81)).toInt ≤ 2048 := by first | exact klp83_3 | omega
                exact W.iret (v := (-1)) hx hb hr (fun t ht hW => ⟨⟨(-1), (x_wr_length, x80, x81, f_wb, f82, f79), rfl, ⟨w99, w100, w101, hf79⟩, by rw [ht]; exact hP, hD⟩, hS.F ht⟩) hS.2.2 dX9_write_143
        · have kc85 := (not_congr (cv_le (by decide : (1000000 : Int32).toInt = 1000000) (rfl : (x78).toInt = (x78).toInt))).mp c85
          refine lv_aload_n hx hb dX9_write_37 rfl (lv_at hl 0 rfl) ?_
          refine va_get (D := (dC, dI)) (ci := 6) (v := .int x81) (C := RX9) (T := TX9) (N := 8) hx hb hw iwX9 hown hK hP 9 rfl rfl 7 (by decide) (hw _ w_f_X9_37) (fun _ h9 => h9) rfl dX9_write_38 ?_
          refine lv_if_le (tgt := 117) hx hb dX9_write_41 (by decide) (fun c102 => ?_) (fun c102 => ?_)
          · have kc102 := (cv_le (rfl : (x81).toInt = (x81).toInt) (by decide : (0 : Int32).toInt = 0)).mp c102
            refine lv_aload_n hx hb dX9_write_117 rfl (lv_at hl 0 rfl) ?_
            refine va_get (D := (dC, dI)) (ci := 6) (v := .int x81) (C := RX9) (T := TX9) (N := 8) hx hb hw iwX9 hown hK hP 9 rfl rfl 7 (by decide) (hw _ w_f_X9_37) (fun _ h9 => h9) rfl dX9_write_118 ?_
            refine lv_if_gt (tgt := 142) hx hb dX9_write_121 (by decide) (fun c103 => False.elim (by have kc103 := (cv_lt (by decide : (0 : Int32).toInt = 0) (rfl : (x81).toInt = (x81).toInt)).mp c103; omega)) (fun _ => ?_)
            refine lv_aload_n hx hb dX9_write_124 rfl (lv_at hl 0 rfl) ?_
            refine va_get (D := (dC, dI)) (ci := 6) (v := .int x80) (C := RX9) (T := TX9) (N := 8) hx hb hw iwX9 hown hK hP 9 rfl rfl 5 (by decide) (hw _ w_f_X9_29) (fun _ h9 => h9) rfl dX9_write_125 ?_
            refine lv_iload_n hx hb dX9_write_128 rfl (lv_at hl 3 rfl) ?_
            refine lv_icmp_gt (tgt := 142) hx hb dX9_write_129 (by decide) (fun c104 => ?_) (fun c104 => ?_)
            · have kc104 := (cv_lt (rfl : (p3).toInt = (p3).toInt) (rfl : (x80).toInt = (x80).toInt)).mp c104
              refine lv_iconst (v := (-1)) hx hb dX9_write_142 (by decide) ?_
              replace hP : va_P (dC, dI) cls [(h_wr, .inr (6, (mo39 (.ref h_td) (.ref h_bd) (.ref h_wb) (.int x_wr_length) (.ref h_wd) (.int x80) (.ref h_wh) (.int x81)))), (h_wb, .inl (cy_wb, 600, .inl f_wb)), (h_wd, .inl (cy_wd, 616, .inl f82)), (h_wh, .inl (cy_wh, 2048, .inl f79)), (h_bd, .inr (1, (mo9 v_bd (.ref h_td) (.ref h_bnd)))), (h_bnd, .inl (cy_bnd, 256, .inl f_bnd)), (h_td, .inr (5, (mo21 v_td (.ref h_nam) (.ref h_var) (.ref h_trm) (.ref h_ter)))), (h_nam, .inl (cy_nam, 300, .inr (.inl f_nam))), (h_var, .inl (cy_var, 300, .inl f_var)), (h_trm, .inl (cy_trm, 300, .inl f_trm)), (h_ter, .inl (cy_ter, 900, .inl f_ter))] H := hP.sub [9, 0, 10, 1, 2, 3, 4, 5, 6, 7, 8] rfl
              replace hD : va_D A [(h_wr, .inr (6, (mo39 (.ref h_td) (.ref h_bd) (.ref h_wb) (.int x_wr_length) (.ref h_wd) (.int x80) (.ref h_wh) (.int x81)))), (h_wb, .inl (cy_wb, 600, .inl f_wb)), (h_wd, .inl (cy_wd, 616, .inl f82)), (h_wh, .inl (cy_wh, 2048, .inl f79)), (h_bd, .inr (1, (mo9 v_bd (.ref h_td) (.ref h_bnd)))), (h_bnd, .inl (cy_bnd, 256, .inl f_bnd)), (h_td, .inr (5, (mo21 v_td (.ref h_nam) (.ref h_var) (.ref h_trm) (.ref h_ter)))), (h_nam, .inl (cy_nam, 300, .inr (.inl f_nam))), (h_var, .inl (cy_var, 300, .inl f_var)), (h_trm, .inl (cy_trm, 300, .inl f_trm)), (h_ter, .inl (cy_ter, 900, .inl f_ter))] := hD.sub [9, 0, 10, 1, 2, 3, 4, 5, 6, 7, 8] (by decide) rfl
              refine W.widen (k := 0) (n := 0) (Nat.le_of_ble_eq_true rfl) (Nat.le_of_ble_eq_true rfl) ?_
              have cstm1 : ((-1) : Int32).toInt = -1 := by decide
              have w105 : 0 ≤ ((x_wr_length)).toInt ∧ ((x_wr_length)).toInt ≤ 600 := by first | exact hx_wr_length | omega
              have w106 : 0 ≤ ((x80)).toInt ∧ ((x80)).toInt ≤ 616 := by first | exact klp83_2 | omega
              have w107 : 0 ≤ ((x81)).toInt ∧ ((x81)).toInt ≤ 2048 := by first | exact klp83_3 | omega
              exact W.iret (v := (-1)) hx hb hr (fun t ht hW => ⟨⟨(-1), (x_wr_length, x80, x81, f_wb, f82, f79), rfl, ⟨w105, w106, w107, hf79⟩, by rw [ht]; exact hP, hD⟩, hS.F ht⟩) hS.2.2 dX9_write_143
            · have kc104 := (not_congr (cv_lt (rfl : (p3).toInt = (p3).toInt) (rfl : (x80).toInt = (x80).toInt))).mp c104
              refine lv_aload_n hx hb dX9_write_132 rfl (lv_at hl 0 rfl) ?_
              refine va_get (D := (dC, dI)) (ci := 6) (v := .int x80) (C := RX9) (T := TX9) (N := 8) hx hb hw iwX9 hown hK hP 9 rfl rfl 5 (by decide) (hw _ w_f_X9_29) (fun _ h9 => h9) rfl dX9_write_133 ?_
              refine lv_sipush (v := 600) hx hb dX9_write_136 (by decide) ?_
              refine lv_icmp_le (tgt := 144) hx hb dX9_write_139 (by decide) (fun c108 => ?_) (fun c108 => ?_)
              · have kc108 := (cv_le (rfl : (x80).toInt = (x80).toInt) (by decide : (600 : Int32).toInt = 600)).mp c108
                refine lv_aload_n hx hb dX9_write_144 rfl (lv_at hl 0 rfl) ?_
                refine va_get (D := (dC, dI)) (ci := 6) (v := .ref h_wd) (C := RX9) (T := TX9) (N := 8) hx hb hw iwX9 hown hK hP 9 rfl rfl 4 (by decide) (hw _ w_f_X9_15) (fun _ h9 => h9) rfl dX9_write_145 ?_
                refine lv_iconst (v := 0) hx hb dX9_write_148 (by decide) ?_
                refine lv_aload_n hx hb dX9_write_149 rfl (lv_at hl 0 rfl) ?_
                refine va_get (D := (dC, dI)) (ci := 6) (v := .ref h_wb) (C := RX9) (T := TX9) (N := 8) hx hb hw iwX9 hown hK hP 9 rfl rfl 2 (by decide) (hw _ w_f_X9_9) (fun _ h9 => h9) rfl dX9_write_150 ?_
                refine lv_iconst (v := 0) hx hb dX9_write_153 (by decide) ?_
                refine lv_aload_n hx hb dX9_write_154 rfl (lv_at hl 0 rfl) ?_
                refine va_get (D := (dC, dI)) (ci := 6) (v := .int x80) (C := RX9) (T := TX9) (N := 8) hx hb hw iwX9 hown hK hP 9 rfl rfl 5 (by decide) (hw _ w_f_X9_29) (fun _ h9 => h9) rfl dX9_write_155 ?_
                refine va_copyi hx hb (hml.trans hl.1.symm) hown (hw _ w_m_X9_50) (hw _ w_acn) (hw _ w_acs) (hw _ w_ini_System) hK hP hD hS 10 0 1 0 (sp := 0) (dp := 0) (n := x80) rfl rfl rfl rfl rfl (by decide) (by decide) (fun q => by have := (cv_lt (rfl : (x80).toInt = (x80).toInt) (by decide : (0 : Int32).toInt = 0)).mp q; omega) (by have : (0 : Int32).toNatClampNeg = 0 := (by decide); have := clamp_toInt (i := x80) (by omega); omega) (by have : (0 : Int32).toNatClampNeg = 0 := (by decide); have := clamp_toInt (i := x80) (by omega); omega) (fun _ _ => rfl) (Nat.le_of_ble_eq_true rfl) (Nat.le_of_ble_eq_true rfl) dX9_write_158 (fun H locs hP hD hS => ?_)
                obtain ⟨f109, ef109⟩ : ∃ g : Nat → Int32, g = va_cpy f82 f_wb (Int32.toNatClampNeg 0) (Int32.toNatClampNeg 0) (Int32.toNatClampNeg x80) := ⟨_, rfl⟩
                have hP : va_P (dC, dI) cls [(h_wb, .inl (cy_wb, 600, .inl f109)), (h_wh, .inl (cy_wh, 2048, .inl f79)), (h_bd, .inr (1, (mo9 v_bd (.ref h_td) (.ref h_bnd)))), (h_bnd, .inl (cy_bnd, 256, .inl f_bnd)), (h_td, .inr (5, (mo21 v_td (.ref h_nam) (.ref h_var) (.ref h_trm) (.ref h_ter)))), (h_nam, .inl (cy_nam, 300, .inr (.inl f_nam))), (h_var, .inl (cy_var, 300, .inl f_var)), (h_trm, .inl (cy_trm, 300, .inl f_trm)), (h_ter, .inl (cy_ter, 900, .inl f_ter)), (h_wr, .inr (6, (mo39 (.ref h_td) (.ref h_bd) (.ref h_wb) (.int x_wr_length) (.ref h_wd) (.int x80) (.ref h_wh) (.int x81)))), (h_wd, .inl (cy_wd, 616, .inl f82))] H := by rw [ef109]; exact hP
                have hD : va_D A [(h_wb, .inl (cy_wb, 600, .inl f109)), (h_wh, .inl (cy_wh, 2048, .inl f79)), (h_bd, .inr (1, (mo9 v_bd (.ref h_td) (.ref h_bnd)))), (h_bnd, .inl (cy_bnd, 256, .inl f_bnd)), (h_td, .inr (5, (mo21 v_td (.ref h_nam) (.ref h_var) (.ref h_trm) (.ref h_ter)))), (h_nam, .inl (cy_nam, 300, .inr (.inl f_nam))), (h_var, .inl (cy_var, 300, .inl f_var)), (h_trm, .inl (cy_trm, 300, .inl f_trm)), (h_ter, .inl (cy_ter, 900, .inl f_ter)), (h_wr, .inr (6, (mo39 (.ref h_td) (.ref h_bd) (.ref h_wb) (.int x_wr_length) (.ref h_wd) (.int x80) (.ref h_wh) (.int x81)))), (h_wd, .inl (cy_wd, 616, .inl f82))] := by rw [ef109]; exact hD
                clear ef109
                refine lv_aload_n hx hb dX9_write_161 rfl (lv_at hl 0 rfl) ?_
                refine lv_aload_n hx hb dX9_write_162 rfl (lv_at hl 0 rfl) ?_
                refine va_get (D := (dC, dI)) (ci := 6) (v := .int x80) (C := RX9) (T := TX9) (N := 8) hx hb hw iwX9 hown hK hP 9 rfl rfl 5 (by decide) (hw _ w_f_X9_29) (fun _ h9 => h9) rfl dX9_write_163 ?_
                refine va_put (D := (dC, dI)) (ci := 6) (v := .int x80) (ty := tyX9 3) (C := RX9) (T := TX9) (N := 8) hx hb hw iwX9 tyX9 tyX9_ok nmX9 hown hK hP hD hS 9 rfl rfl 3 (by decide) (hw _ w_f_X9_56) (fun _ h9 => h9) rfl (tyX9_ok 3 (by decide)) rfl rfl (Nat.le_of_ble_eq_true rfl) dX9_write_166 (fun H locs hP9 hD9 hS9 => ?_)
                clear hP hD hS
                have hP : va_P (dC, dI) cls [(h_wb, .inl (cy_wb, 600, .inl f109)), (h_wh, .inl (cy_wh, 2048, .inl f79)), (h_bd, .inr (1, (mo9 v_bd (.ref h_td) (.ref h_bnd)))), (h_bnd, .inl (cy_bnd, 256, .inl f_bnd)), (h_td, .inr (5, (mo21 v_td (.ref h_nam) (.ref h_var) (.ref h_trm) (.ref h_ter)))), (h_nam, .inl (cy_nam, 300, .inr (.inl f_nam))), (h_var, .inl (cy_var, 300, .inl f_var)), (h_trm, .inl (cy_trm, 300, .inl f_trm)), (h_ter, .inl (cy_ter, 900, .inl f_ter)), (h_wr, .inr (6, (mo39 (.ref h_td) (.ref h_bd) (.ref h_wb) (.int x80) (.ref h_wd) (.int x80) (.ref h_wh) (.int x81)))), (h_wd, .inl (cy_wd, 616, .inl f82))] H := hP9
                have hD : va_D A [(h_wb, .inl (cy_wb, 600, .inl f109)), (h_wh, .inl (cy_wh, 2048, .inl f79)), (h_bd, .inr (1, (mo9 v_bd (.ref h_td) (.ref h_bnd)))), (h_bnd, .inl (cy_bnd, 256, .inl f_bnd)), (h_td, .inr (5, (mo21 v_td (.ref h_nam) (.ref h_var) (.ref h_trm) (.ref h_ter)))), (h_nam, .inl (cy_nam, 300, .inr (.inl f_nam))), (h_var, .inl (cy_var, 300, .inl f_var)), (h_trm, .inl (cy_trm, 300, .inl f_trm)), (h_ter, .inl (cy_ter, 900, .inl f_ter)), (h_wr, .inr (6, (mo39 (.ref h_td) (.ref h_bd) (.ref h_wb) (.int x80) (.ref h_wd) (.int x80) (.ref h_wh) (.int x81)))), (h_wd, .inl (cy_wd, 616, .inl f82))] := hD9
                have hS := hS9
                clear hP9 hD9 hS9
                refine lv_aload_n hx hb dX9_write_169 rfl (lv_at hl 0 rfl) ?_
                refine va_get (D := (dC, dI)) (ci := 6) (v := .int x80) (C := RX9) (T := TX9) (N := 8) hx hb hw iwX9 hown hK hP 9 rfl rfl 3 (by decide) (hw _ w_f_X9_56) (fun _ h9 => h9) rfl dX9_write_170 ?_
                replace hP : va_P (dC, dI) cls [(h_wr, .inr (6, (mo39 (.ref h_td) (.ref h_bd) (.ref h_wb) (.int x80) (.ref h_wd) (.int x80) (.ref h_wh) (.int x81)))), (h_wb, .inl (cy_wb, 600, .inl f109)), (h_wd, .inl (cy_wd, 616, .inl f82)), (h_wh, .inl (cy_wh, 2048, .inl f79)), (h_bd, .inr (1, (mo9 v_bd (.ref h_td) (.ref h_bnd)))), (h_bnd, .inl (cy_bnd, 256, .inl f_bnd)), (h_td, .inr (5, (mo21 v_td (.ref h_nam) (.ref h_var) (.ref h_trm) (.ref h_ter)))), (h_nam, .inl (cy_nam, 300, .inr (.inl f_nam))), (h_var, .inl (cy_var, 300, .inl f_var)), (h_trm, .inl (cy_trm, 300, .inl f_trm)), (h_ter, .inl (cy_ter, 900, .inl f_ter))] H := hP.sub [9, 0, 10, 1, 2, 3, 4, 5, 6, 7, 8] rfl
                replace hD : va_D A [(h_wr, .inr (6, (mo39 (.ref h_td) (.ref h_bd) (.ref h_wb) (.int x80) (.ref h_wd) (.int x80) (.ref h_wh) (.int x81)))), (h_wb, .inl (cy_wb, 600, .inl f109)), (h_wd, .inl (cy_wd, 616, .inl f82)), (h_wh, .inl (cy_wh, 2048, .inl f79)), (h_bd, .inr (1, (mo9 v_bd (.ref h_td) (.ref h_bnd)))), (h_bnd, .inl (cy_bnd, 256, .inl f_bnd)), (h_td, .inr (5, (mo21 v_td (.ref h_nam) (.ref h_var) (.ref h_trm) (.ref h_ter)))), (h_nam, .inl (cy_nam, 300, .inr (.inl f_nam))), (h_var, .inl (cy_var, 300, .inl f_var)), (h_trm, .inl (cy_trm, 300, .inl f_trm)), (h_ter, .inl (cy_ter, 900, .inl f_ter))] := hD.sub [9, 0, 10, 1, 2, 3, 4, 5, 6, 7, 8] (by decide) rfl
                refine W.widen (k := 0) (n := 0) (Nat.le_of_ble_eq_true rfl) (Nat.le_of_ble_eq_true rfl) ?_
                have w110 : 0 ≤ ((x80)).toInt ∧ ((x80)).toInt ≤ 600 := by omega
                have w111 : 0 ≤ ((x80)).toInt ∧ ((x80)).toInt ≤ 616 := by first | exact klp83_2 | omega
                have w112 : 0 ≤ ((x81)).toInt ∧ ((x81)).toInt ≤ 2048 := by first | exact klp83_3 | omega
                exact W.iret (v := x80) hx hb hr (fun t ht hW => ⟨⟨x80, (x80, x80, x81, f109, f82, f79), rfl, ⟨w110, w111, w112, hf79⟩, by rw [ht]; exact hP, hD⟩, hS.F ht⟩) hS.2.2 dX9_write_173
              · have kc108 := (not_congr (cv_le (rfl : (x80).toInt = (x80).toInt) (by decide : (600 : Int32).toInt = 600))).mp c108
                refine lv_iconst (v := (-1)) hx hb dX9_write_142 (by decide) ?_
                replace hP : va_P (dC, dI) cls [(h_wr, .inr (6, (mo39 (.ref h_td) (.ref h_bd) (.ref h_wb) (.int x_wr_length) (.ref h_wd) (.int x80) (.ref h_wh) (.int x81)))), (h_wb, .inl (cy_wb, 600, .inl f_wb)), (h_wd, .inl (cy_wd, 616, .inl f82)), (h_wh, .inl (cy_wh, 2048, .inl f79)), (h_bd, .inr (1, (mo9 v_bd (.ref h_td) (.ref h_bnd)))), (h_bnd, .inl (cy_bnd, 256, .inl f_bnd)), (h_td, .inr (5, (mo21 v_td (.ref h_nam) (.ref h_var) (.ref h_trm) (.ref h_ter)))), (h_nam, .inl (cy_nam, 300, .inr (.inl f_nam))), (h_var, .inl (cy_var, 300, .inl f_var)), (h_trm, .inl (cy_trm, 300, .inl f_trm)), (h_ter, .inl (cy_ter, 900, .inl f_ter))] H := hP.sub [9, 0, 10, 1, 2, 3, 4, 5, 6, 7, 8] rfl
                replace hD : va_D A [(h_wr, .inr (6, (mo39 (.ref h_td) (.ref h_bd) (.ref h_wb) (.int x_wr_length) (.ref h_wd) (.int x80) (.ref h_wh) (.int x81)))), (h_wb, .inl (cy_wb, 600, .inl f_wb)), (h_wd, .inl (cy_wd, 616, .inl f82)), (h_wh, .inl (cy_wh, 2048, .inl f79)), (h_bd, .inr (1, (mo9 v_bd (.ref h_td) (.ref h_bnd)))), (h_bnd, .inl (cy_bnd, 256, .inl f_bnd)), (h_td, .inr (5, (mo21 v_td (.ref h_nam) (.ref h_var) (.ref h_trm) (.ref h_ter)))), (h_nam, .inl (cy_nam, 300, .inr (.inl f_nam))), (h_var, .inl (cy_var, 300, .inl f_var)), (h_trm, .inl (cy_trm, 300, .inl f_trm)), (h_ter, .inl (cy_ter, 900, .inl f_ter))] := hD.sub [9, 0, 10, 1, 2, 3, 4, 5, 6, 7, 8] (by decide) rfl
                refine W.widen (k := 0) (n := 0) (Nat.le_of_ble_eq_true rfl) (Nat.le_of_ble_eq_true rfl) ?_
                have cstm1 : ((-1) : Int32).toInt = -1 := by decide
                have w113 : 0 ≤ ((x_wr_length)).toInt ∧ ((x_wr_length)).toInt ≤ 600 := by first | exact hx_wr_length | omega
                have w114 : 0 ≤ ((x80)).toInt ∧ ((x80)).toInt ≤ 616 := by first | exact klp83_2 | omega
                have w115 : 0 ≤ ((x81)).toInt ∧ ((x81)).toInt ≤ 2048 := by first | exact klp83_3 | omega
                exact W.iret (v := (-1)) hx hb hr (fun t ht hW => ⟨⟨(-1), (x_wr_length, x80, x81, f_wb, f82, f79), rfl, ⟨w113, w114, w115, hf79⟩, by rw [ht]; exact hP, hD⟩, hS.F ht⟩) hS.2.2 dX9_write_143
          · have kc102 := (not_congr (cv_le (rfl : (x81).toInt = (x81).toInt) (by decide : (0 : Int32).toInt = 0))).mp c102
            refine lv_aload_n hx hb dX9_write_44 rfl (lv_at hl 0 rfl) ?_
            refine va_get (D := (dC, dI)) (ci := 6) (v := .int x80) (C := RX9) (T := TX9) (N := 8) hx hb hw iwX9 hown hK hP 9 rfl rfl 5 (by decide) (hw _ w_f_X9_29) (fun _ h9 => h9) rfl dX9_write_45 ?_
            refine lv_iload_n hx hb dX9_write_48 rfl (lv_at hl 3 rfl) ?_
            refine lv_icmp_gt (tgt := 117) hx hb dX9_write_49 (by decide) (fun c116 => ?_) (fun c116 => ?_)
            · have kc116 := (cv_lt (rfl : (p3).toInt = (p3).toInt) (rfl : (x80).toInt = (x80).toInt)).mp c116
              refine lv_aload_n hx hb dX9_write_117 rfl (lv_at hl 0 rfl) ?_
              refine va_get (D := (dC, dI)) (ci := 6) (v := .int x81) (C := RX9) (T := TX9) (N := 8) hx hb hw iwX9 hown hK hP 9 rfl rfl 7 (by decide) (hw _ w_f_X9_37) (fun _ h9 => h9) rfl dX9_write_118 ?_
              refine lv_if_gt (tgt := 142) hx hb dX9_write_121 (by decide) (fun _ => ?_) (fun c117 => False.elim (by have kc117 := (not_congr (cv_lt (by decide : (0 : Int32).toInt = 0) (rfl : (x81).toInt = (x81).toInt))).mp c117; omega))
              refine lv_iconst (v := (-1)) hx hb dX9_write_142 (by decide) ?_
              replace hP : va_P (dC, dI) cls [(h_wr, .inr (6, (mo39 (.ref h_td) (.ref h_bd) (.ref h_wb) (.int x_wr_length) (.ref h_wd) (.int x80) (.ref h_wh) (.int x81)))), (h_wb, .inl (cy_wb, 600, .inl f_wb)), (h_wd, .inl (cy_wd, 616, .inl f82)), (h_wh, .inl (cy_wh, 2048, .inl f79)), (h_bd, .inr (1, (mo9 v_bd (.ref h_td) (.ref h_bnd)))), (h_bnd, .inl (cy_bnd, 256, .inl f_bnd)), (h_td, .inr (5, (mo21 v_td (.ref h_nam) (.ref h_var) (.ref h_trm) (.ref h_ter)))), (h_nam, .inl (cy_nam, 300, .inr (.inl f_nam))), (h_var, .inl (cy_var, 300, .inl f_var)), (h_trm, .inl (cy_trm, 300, .inl f_trm)), (h_ter, .inl (cy_ter, 900, .inl f_ter))] H := hP.sub [9, 0, 10, 1, 2, 3, 4, 5, 6, 7, 8] rfl
              replace hD : va_D A [(h_wr, .inr (6, (mo39 (.ref h_td) (.ref h_bd) (.ref h_wb) (.int x_wr_length) (.ref h_wd) (.int x80) (.ref h_wh) (.int x81)))), (h_wb, .inl (cy_wb, 600, .inl f_wb)), (h_wd, .inl (cy_wd, 616, .inl f82)), (h_wh, .inl (cy_wh, 2048, .inl f79)), (h_bd, .inr (1, (mo9 v_bd (.ref h_td) (.ref h_bnd)))), (h_bnd, .inl (cy_bnd, 256, .inl f_bnd)), (h_td, .inr (5, (mo21 v_td (.ref h_nam) (.ref h_var) (.ref h_trm) (.ref h_ter)))), (h_nam, .inl (cy_nam, 300, .inr (.inl f_nam))), (h_var, .inl (cy_var, 300, .inl f_var)), (h_trm, .inl (cy_trm, 300, .inl f_trm)), (h_ter, .inl (cy_ter, 900, .inl f_ter))] := hD.sub [9, 0, 10, 1, 2, 3, 4, 5, 6, 7, 8] (by decide) rfl
              refine W.widen (k := 0) (n := 0) (Nat.le_of_ble_eq_true rfl) (Nat.le_of_ble_eq_true rfl) ?_
              have cstm1 : ((-1) : Int32).toInt = -1 := by decide
              have w118 : 0 ≤ ((x_wr_length)).toInt ∧ ((x_wr_length)).toInt ≤ 600 := by first | exact hx_wr_length | omega
              have w119 : 0 ≤ ((x80)).toInt ∧ ((x80)).toInt ≤ 616 := by first | exact klp83_2 | omega
              have w120 : 0 ≤ ((x81)).toInt ∧ ((x81)).toInt ≤ 2048 := by first | exact klp83_3 | omega
              exact W.iret (v := (-1)) hx hb hr (fun t ht hW => ⟨⟨(-1), (x_wr_length, x80, x81, f_wb, f82, f79), rfl, ⟨w118, w119, w120, hf79⟩, by rw [ht]; exact hP, hD⟩, hS.F ht⟩) hS.2.2 dX9_write_143
            · have kc116 := (not_congr (cv_lt (rfl : (p3).toInt = (p3).toInt) (rfl : (x80).toInt = (x80).toInt))).mp c116
              refine lv_aload_n hx hb dX9_write_52 rfl (lv_at hl 0 rfl) ?_
              refine lv_dup hx hb dX9_write_53 rfl ?_
              refine va_get (D := (dC, dI)) (ci := 6) (v := .int x81) (C := RX9) (T := TX9) (N := 8) hx hb hw iwX9 hown hK hP 9 rfl rfl 7 (by decide) (hw _ w_f_X9_37) (fun _ h9 => h9) rfl dX9_write_54 ?_
              refine lv_iconst (v := 1) hx hb dX9_write_57 (by decide) ?_
              refine lv_isub hx hb dX9_write_58 ?_
              refine lv_topi (fun z121 ez121 => ?_)
              have tz121 : (z121).toInt = (x81).toInt - 1 := by rw [ez121]; exact i_sub rfl (by decide) (by omega)
              refine va_put (D := (dC, dI)) (ci := 6) (v := .int z121) (ty := tyX9 7) (C := RX9) (T := TX9) (N := 8) hx hb hw iwX9 tyX9 tyX9_ok nmX9 hown hK hP hD hS 9 rfl rfl 7 (by decide) (hw _ w_f_X9_37) (fun _ h9 => h9) rfl (tyX9_ok 7 (by decide)) rfl rfl (Nat.le_of_ble_eq_true rfl) dX9_write_59 (fun H locs hP9 hD9 hS9 => ?_)
              clear hP hD hS
              have hP : va_P (dC, dI) cls [(h_wb, .inl (cy_wb, 600, .inl f_wb)), (h_wh, .inl (cy_wh, 2048, .inl f79)), (h_bd, .inr (1, (mo9 v_bd (.ref h_td) (.ref h_bnd)))), (h_bnd, .inl (cy_bnd, 256, .inl f_bnd)), (h_td, .inr (5, (mo21 v_td (.ref h_nam) (.ref h_var) (.ref h_trm) (.ref h_ter)))), (h_nam, .inl (cy_nam, 300, .inr (.inl f_nam))), (h_var, .inl (cy_var, 300, .inl f_var)), (h_trm, .inl (cy_trm, 300, .inl f_trm)), (h_ter, .inl (cy_ter, 900, .inl f_ter)), (h_wr, .inr (6, (mo39 (.ref h_td) (.ref h_bd) (.ref h_wb) (.int x_wr_length) (.ref h_wd) (.int x80) (.ref h_wh) (.int z121)))), (h_wd, .inl (cy_wd, 616, .inl f82))] H := hP9
              have hD : va_D A [(h_wb, .inl (cy_wb, 600, .inl f_wb)), (h_wh, .inl (cy_wh, 2048, .inl f79)), (h_bd, .inr (1, (mo9 v_bd (.ref h_td) (.ref h_bnd)))), (h_bnd, .inl (cy_bnd, 256, .inl f_bnd)), (h_td, .inr (5, (mo21 v_td (.ref h_nam) (.ref h_var) (.ref h_trm) (.ref h_ter)))), (h_nam, .inl (cy_nam, 300, .inr (.inl f_nam))), (h_var, .inl (cy_var, 300, .inl f_var)), (h_trm, .inl (cy_trm, 300, .inl f_trm)), (h_ter, .inl (cy_ter, 900, .inl f_ter)), (h_wr, .inr (6, (mo39 (.ref h_td) (.ref h_bd) (.ref h_wb) (.int x_wr_length) (.ref h_wd) (.int x80) (.ref h_wh) (.int z121)))), (h_wd, .inl (cy_wd, 616, .inl f82))] := hD9
              have hS := hS9
              clear hP9 hD9 hS9
              refine lv_aload_n hx hb dX9_write_62 rfl (lv_at hl 0 rfl) ?_
              refine va_get (D := (dC, dI)) (ci := 6) (v := .ref h_wh) (C := RX9) (T := TX9) (N := 8) hx hb hw iwX9 hown hK hP 9 rfl rfl 6 (by decide) (hw _ w_f_X9_18) (fun _ h9 => h9) rfl dX9_write_63 ?_
              refine lv_aload_n hx hb dX9_write_66 rfl (lv_at hl 0 rfl) ?_
              refine va_get (D := (dC, dI)) (ci := 6) (v := .int z121) (C := RX9) (T := TX9) (N := 8) hx hb hw iwX9 hown hK hP 9 rfl rfl 7 (by decide) (hw _ w_f_X9_37) (fun _ h9 => h9) rfl dX9_write_67 ?_
              refine va_iald hx hb hK hP 1 2 rfl rfl (i := z121) (vp_in_iff.mpr (by omega)) dX9_write_70 ?_
              refine lv_topi (fun z122 ez122 => ?_)
              have rz122 : -127 ≤ (z122).toInt ∧ (z122).toInt ≤ 9599 := by rw [ez122]; exact hf79 _
              refine lv_if_ge (tgt := 91) hx hb dX9_write_71 (by decide) (fun c123 => ?_) (fun c123 => ?_)
              · have kc123 := (cv_le (by decide : (0 : Int32).toInt = 0) (rfl : (z122).toInt = (z122).toInt)).mp c123
                refine lv_aload_n hx hb dX9_write_91 rfl (lv_at hl 0 rfl) ?_
                refine lv_aload_n hx hb dX9_write_92 rfl (lv_at hl 0 rfl) ?_
                refine va_get (D := (dC, dI)) (ci := 6) (v := .ref h_bd) (C := RX9) (T := TX9) (N := 8) hx hb hw iwX9 hown hK hP 9 rfl rfl 1 (by decide) (hw _ w_f_X9_25) (fun _ h9 => h9) rfl dX9_write_93 ?_
                refine lv_aload_n hx hb dX9_write_96 rfl (lv_at hl 0 rfl) ?_
                refine va_get (D := (dC, dI)) (ci := 6) (v := .ref h_wh) (C := RX9) (T := TX9) (N := 8) hx hb hw iwX9 hown hK hP 9 rfl rfl 6 (by decide) (hw _ w_f_X9_18) (fun _ h9 => h9) rfl dX9_write_97 ?_
                refine lv_aload_n hx hb dX9_write_100 rfl (lv_at hl 0 rfl) ?_
                refine va_get (D := (dC, dI)) (ci := 6) (v := .int z121) (C := RX9) (T := TX9) (N := 8) hx hb hw iwX9 hown hK hP 9 rfl rfl 7 (by decide) (hw _ w_f_X9_37) (fun _ h9 => h9) rfl dX9_write_101 ?_
                refine va_iald hx hb hK hP 1 2 rfl rfl (i := z121) (vp_in_iff.mpr (by omega)) dX9_write_104 ?_
                refine lv_topi (fun z124 ez124 => ?_)
                have qz124 : (z124).toInt = (z122).toInt := by rw [ez124, ez122]
                have rz124 : -127 ≤ (z124).toInt ∧ (z124).toInt ≤ 9599 := by rw [ez124]; exact hf79 _
                obtain ⟨vq125, evq125⟩ := mq21_8 v_td (.ref h_nam) (.ref h_trm) (.ref h_ter)
                replace hP : va_P (dC, dI) cls [(h_wb, .inl (cy_wb, 600, .inl f_wb)), (h_wh, .inl (cy_wh, 2048, .inl f79)), (h_bd, .inr (1, (mo9 v_bd (.ref h_td) (.ref h_bnd)))), (h_bnd, .inl (cy_bnd, 256, .inl f_bnd)), (h_td, .inr (5, (mo8 vq125 (.ref h_var)))), (h_nam, .inl (cy_nam, 300, .inr (.inl f_nam))), (h_var, .inl (cy_var, 300, .inl f_var)), (h_trm, .inl (cy_trm, 300, .inl f_trm)), (h_ter, .inl (cy_ter, 900, .inl f_ter)), (h_wr, .inr (6, (mo39 (.ref h_td) (.ref h_bd) (.ref h_wb) (.int x_wr_length) (.ref h_wd) (.int x80) (.ref h_wh) (.int z121)))), (h_wd, .inl (cy_wd, 616, .inl f82))] H := by rw [evq125]; exact hP
                replace hD : va_D A [(h_wb, .inl (cy_wb, 600, .inl f_wb)), (h_wh, .inl (cy_wh, 2048, .inl f79)), (h_bd, .inr (1, (mo9 v_bd (.ref h_td) (.ref h_bnd)))), (h_bnd, .inl (cy_bnd, 256, .inl f_bnd)), (h_td, .inr (5, (mo8 vq125 (.ref h_var)))), (h_nam, .inl (cy_nam, 300, .inr (.inl f_nam))), (h_var, .inl (cy_var, 300, .inl f_var)), (h_trm, .inl (cy_trm, 300, .inl f_trm)), (h_ter, .inl (cy_ter, 900, .inl f_ter)), (h_wr, .inr (6, (mo39 (.ref h_td) (.ref h_bd) (.ref h_wb) (.int x_wr_length) (.ref h_wd) (.int x80) (.ref h_wh) (.int z121)))), (h_wd, .inl (cy_wd, 616, .inl f82))] := by rw [evq125]; exact hD
                have hPc := hP.sub (ws' := [(h_bd, .inr (1, (mo9 v_bd (.ref h_td) (.ref h_bnd)))), (h_bnd, .inl (cy_bnd, 256, .inl f_bnd)), (h_td, .inr (5, (mo8 vq125 (.ref h_var)))), (h_var, .inl (cy_var, 300, .inl f_var))]) [2, 3, 4, 6] rfl
                have hDc := hD.sub (ws' := [(h_bd, .inr (1, (mo9 v_bd (.ref h_td) (.ref h_bnd)))), (h_bnd, .inl (cy_bnd, 256, .inl f_bnd)), (h_td, .inr (5, (mo8 vq125 (.ref h_var)))), (h_var, .inl (cy_var, 300, .inl f_var))]) [2, 3, 4, 6] (by decide) rfl
                have hKc := hK.sub (tys' := [(cy_bnd, .int), (cy_var, .int)]) [3, 5] rfl
                have hFc := va_free (wc := [(h_bd, .inr (1, (mo9 v_bd (.ref h_td) (.ref h_bnd)))), (h_bnd, .inl (cy_bnd, 256, .inl f_bnd)), (h_td, .inr (5, (mo8 vq125 (.ref h_var)))), (h_var, .inl (cy_var, 300, .inl f_var))]) hD hS hA [2, 3, 4, 6] rfl
                refine va_calli (va_runVN (As := [.int z124]) (rest := [.ref h_wr]) ⟨hx, hb, hml, hown, hts⟩ (c_X1_bare l dC dI H.size h_bd h_bnd h_td h_var v_bd cy_bnd f_bnd vq125 cy_var f_var z124 hf_bnd hf_var (by omega)) ⟨va_cnB (host := "OppositePairs") 1 hts (gd hT w_code_X1_bare) rfl rfl rfl (hN _ n_m_X9_41) (hw _ w_ini_X1) (by decide +kernel) ⟨(Nat.le_of_ble_eq_true rfl), (Nat.le_of_ble_eq_true rfl)⟩, hw _ w_instanceMethod_X1_bare, hw _ ws_sel_X1_bare⟩ ⟨pre_blind, va_recv hK hP (ci := 1) (q0 := 2) rfl rfl, pre_of hPc hKc hDc hN⟩ rfl rfl hl.1 rfl (lv_room (Nat.le_of_ble_eq_true rfl)) dX9_write_105 ⟨(Nat.le_of_ble_eq_true rfl), (Nat.le_of_ble_eq_true rfl)⟩) hS (fun q _ h => hFc q h) hFc (fun r126 u t H locs ht hvm hq hB hz1 hk1 hS9 => ?_)
                obtain ⟨hP1, hD1⟩ := hB
                rw [ht] at hP1
                obtain ⟨hP9, hD9⟩ := va_join (wr := [(h_wb, .inl (cy_wb, 600, .inl f_wb)), (h_wh, .inl (cy_wh, 2048, .inl f79)), (h_nam, .inl (cy_nam, 300, .inr (.inl f_nam))), (h_trm, .inl (cy_trm, 300, .inl f_trm)), (h_ter, .inl (cy_ter, 900, .inl f_ter)), (h_wr, .inr (6, (mo39 (.ref h_td) (.ref h_bd) (.ref h_wb) (.int x_wr_length) (.ref h_wd) (.int x80) (.ref h_wh) (.int z121)))), (h_wd, .inl (cy_wd, 616, .inl f82))]) (w1 := [(h_bd, .inr (1, (mo9 v_bd (.ref h_td) (.ref h_bnd)))), (h_bnd, .inl (cy_bnd, 256, .inl f_bnd)), (h_td, .inr (5, (mo8 vq125 (.ref h_var)))), (h_var, .inl (cy_var, 300, .inl f_var))]) hP hD [2, 3, 4, 6] [0, 1, 5, 7, 8, 9, 10] rfl rfl (by decide) (by decide) hk1 hFc hP1 hD1
                clear hP hD hS hPc hDc hKc hFc hP1 hD1 hk1 hz1 ht hvm
                have hP : va_P (dC, dI) cls [(h_wb, .inl (cy_wb, 600, .inl f_wb)), (h_wh, .inl (cy_wh, 2048, .inl f79)), (h_nam, .inl (cy_nam, 300, .inr (.inl f_nam))), (h_trm, .inl (cy_trm, 300, .inl f_trm)), (h_ter, .inl (cy_ter, 900, .inl f_ter)), (h_wr, .inr (6, (mo39 (.ref h_td) (.ref h_bd) (.ref h_wb) (.int x_wr_length) (.ref h_wd) (.int x80) (.ref h_wh) (.int z121)))), (h_wd, .inl (cy_wd, 616, .inl f82)), (h_bd, .inr (1, (mo9 v_bd (.ref h_td) (.ref h_bnd)))), (h_bnd, .inl (cy_bnd, 256, .inl f_bnd)), (h_td, .inr (5, (mo8 vq125 (.ref h_var)))), (h_var, .inl (cy_var, 300, .inl f_var))] H := hP9
                have hD : va_D A [(h_wb, .inl (cy_wb, 600, .inl f_wb)), (h_wh, .inl (cy_wh, 2048, .inl f79)), (h_nam, .inl (cy_nam, 300, .inr (.inl f_nam))), (h_trm, .inl (cy_trm, 300, .inl f_trm)), (h_ter, .inl (cy_ter, 900, .inl f_ter)), (h_wr, .inr (6, (mo39 (.ref h_td) (.ref h_bd) (.ref h_wb) (.int x_wr_length) (.ref h_wd) (.int x80) (.ref h_wh) (.int z121)))), (h_wd, .inl (cy_wd, 616, .inl f82)), (h_bd, .inr (1, (mo9 v_bd (.ref h_td) (.ref h_bnd)))), (h_bnd, .inl (cy_bnd, 256, .inl f_bnd)), (h_td, .inr (5, (mo8 vq125 (.ref h_var)))), (h_var, .inl (cy_var, 300, .inl f_var))] := hD9
                have hS := hS9
                clear hP9 hD9 hS9
                rw [evq125] at hP hD
                replace hP : va_P (dC, dI) cls [(h_wb, .inl (cy_wb, 600, .inl f_wb)), (h_wh, .inl (cy_wh, 2048, .inl f79)), (h_nam, .inl (cy_nam, 300, .inr (.inl f_nam))), (h_trm, .inl (cy_trm, 300, .inl f_trm)), (h_ter, .inl (cy_ter, 900, .inl f_ter)), (h_wr, .inr (6, (mo39 (.ref h_td) (.ref h_bd) (.ref h_wb) (.int x_wr_length) (.ref h_wd) (.int x80) (.ref h_wh) (.int z121)))), (h_wd, .inl (cy_wd, 616, .inl f82)), (h_bd, .inr (1, (mo9 v_bd (.ref h_td) (.ref h_bnd)))), (h_bnd, .inl (cy_bnd, 256, .inl f_bnd)), (h_td, .inr (5, (mo21 v_td (.ref h_nam) (.ref h_var) (.ref h_trm) (.ref h_ter)))), (h_var, .inl (cy_var, 300, .inl f_var))] H := hP
                replace hD : va_D A [(h_wb, .inl (cy_wb, 600, .inl f_wb)), (h_wh, .inl (cy_wh, 2048, .inl f79)), (h_nam, .inl (cy_nam, 300, .inr (.inl f_nam))), (h_trm, .inl (cy_trm, 300, .inl f_trm)), (h_ter, .inl (cy_ter, 900, .inl f_ter)), (h_wr, .inr (6, (mo39 (.ref h_td) (.ref h_bd) (.ref h_wb) (.int x_wr_length) (.ref h_wd) (.int x80) (.ref h_wh) (.int z121)))), (h_wd, .inl (cy_wd, 616, .inl f82)), (h_bd, .inr (1, (mo9 v_bd (.ref h_td) (.ref h_bnd)))), (h_bnd, .inl (cy_bnd, 256, .inl f_bnd)), (h_td, .inr (5, (mo21 v_td (.ref h_nam) (.ref h_var) (.ref h_trm) (.ref h_ter)))), (h_var, .inl (cy_var, 300, .inl f_var))] := hD
                clear evq125 
                have k127 : 0 ≤ (r126).toInt ∧ (r126).toInt ≤ 9599 := hq
                clear hq
                obtain ⟨vq128, evq128⟩ := mq39_38 (.ref h_bd) (.ref h_wb) (.int x_wr_length)
                replace hP : va_P (dC, dI) cls [(h_wb, .inl (cy_wb, 600, .inl f_wb)), (h_wh, .inl (cy_wh, 2048, .inl f79)), (h_nam, .inl (cy_nam, 300, .inr (.inl f_nam))), (h_trm, .inl (cy_trm, 300, .inl f_trm)), (h_ter, .inl (cy_ter, 900, .inl f_ter)), (h_wr, .inr (6, (mo38 vq128 (.ref h_td) (.ref h_wd) (.int x80) (.ref h_wh) (.int z121)))), (h_wd, .inl (cy_wd, 616, .inl f82)), (h_bd, .inr (1, (mo9 v_bd (.ref h_td) (.ref h_bnd)))), (h_bnd, .inl (cy_bnd, 256, .inl f_bnd)), (h_td, .inr (5, (mo21 v_td (.ref h_nam) (.ref h_var) (.ref h_trm) (.ref h_ter)))), (h_var, .inl (cy_var, 300, .inl f_var))] H := by rw [evq128]; exact hP
                replace hD : va_D A [(h_wb, .inl (cy_wb, 600, .inl f_wb)), (h_wh, .inl (cy_wh, 2048, .inl f79)), (h_nam, .inl (cy_nam, 300, .inr (.inl f_nam))), (h_trm, .inl (cy_trm, 300, .inl f_trm)), (h_ter, .inl (cy_ter, 900, .inl f_ter)), (h_wr, .inr (6, (mo38 vq128 (.ref h_td) (.ref h_wd) (.int x80) (.ref h_wh) (.int z121)))), (h_wd, .inl (cy_wd, 616, .inl f82)), (h_bd, .inr (1, (mo9 v_bd (.ref h_td) (.ref h_bnd)))), (h_bnd, .inl (cy_bnd, 256, .inl f_bnd)), (h_td, .inr (5, (mo21 v_td (.ref h_nam) (.ref h_var) (.ref h_trm) (.ref h_ter)))), (h_var, .inl (cy_var, 300, .inl f_var))] := by rw [evq128]; exact hD
                have hPc := hP.sub (ws' := [(h_wr, .inr (6, (mo38 vq128 (.ref h_td) (.ref h_wd) (.int x80) (.ref h_wh) (.int z121)))), (h_wd, .inl (cy_wd, 616, .inl f82)), (h_wh, .inl (cy_wh, 2048, .inl f79)), (h_td, .inr (5, (mo21 v_td (.ref h_nam) (.ref h_var) (.ref h_trm) (.ref h_ter)))), (h_nam, .inl (cy_nam, 300, .inr (.inl f_nam))), (h_var, .inl (cy_var, 300, .inl f_var)), (h_trm, .inl (cy_trm, 300, .inl f_trm)), (h_ter, .inl (cy_ter, 900, .inl f_ter))]) [5, 6, 1, 9, 2, 10, 3, 4] rfl
                have hDc := hD.sub (ws' := [(h_wr, .inr (6, (mo38 vq128 (.ref h_td) (.ref h_wd) (.int x80) (.ref h_wh) (.int z121)))), (h_wd, .inl (cy_wd, 616, .inl f82)), (h_wh, .inl (cy_wh, 2048, .inl f79)), (h_td, .inr (5, (mo21 v_td (.ref h_nam) (.ref h_var) (.ref h_trm) (.ref h_ter)))), (h_nam, .inl (cy_nam, 300, .inr (.inl f_nam))), (h_var, .inl (cy_var, 300, .inl f_var)), (h_trm, .inl (cy_trm, 300, .inl f_trm)), (h_ter, .inl (cy_ter, 900, .inl f_ter))]) [5, 6, 1, 9, 2, 10, 3, 4] (by decide) rfl
                have hKc := hK.sub (tys' := [(cy_wd, .int), (cy_wh, .int), (cy_nam, .long), (cy_var, .int), (cy_trm, .int), (cy_ter, .int)]) [1, 2, 4, 5, 6, 7] rfl
                have hFc := va_free (wc := [(h_wr, .inr (6, (mo38 vq128 (.ref h_td) (.ref h_wd) (.int x80) (.ref h_wh) (.int z121)))), (h_wd, .inl (cy_wd, 616, .inl f82)), (h_wh, .inl (cy_wh, 2048, .inl f79)), (h_td, .inr (5, (mo21 v_td (.ref h_nam) (.ref h_var) (.ref h_trm) (.ref h_ter)))), (h_nam, .inl (cy_nam, 300, .inr (.inl f_nam))), (h_var, .inl (cy_var, 300, .inl f_var)), (h_trm, .inl (cy_trm, 300, .inl f_trm)), (h_ter, .inl (cy_ter, 900, .inl f_ter))]) hD hS hA [5, 6, 1, 9, 2, 10, 3, 4] rfl
                refine va_callv (va_runV (As := [.int r126]) (rest := []) ⟨hx, hb, hml, hown, hts⟩ (c_X9_putPart l dC dI H.size h_wr h_wd h_wh h_td h_nam h_var h_trm h_ter vq128 x80 z121 cy_wd f82 cy_wh f79 v_td cy_nam f_nam cy_var f_var cy_trm f_trm cy_ter f_ter r126 (by first | exact klp83_2 | omega) (by omega) hf79 hf_var hf_trm hf_ter (by first | exact k127 | omega)) (cwV 1 hts (gv hT w_m_X9_47 w_instanceMethod_X9_putPart ws_sel_X9_putPart w_ini_X9 w_code_X9_putPart) rfl rfl rfl (by decide +kernel) ⟨(Nat.le_of_ble_eq_true rfl), (Nat.le_of_ble_eq_true rfl)⟩) ⟨pre_blind, va_recv hK hP (ci := 6) (q0 := 5) rfl rfl, pre_of hPc hKc hDc hN⟩ rfl rfl hl.1 rfl (lv_room (Nat.le_of_ble_eq_true rfl)) dX9_write_108 ⟨(Nat.le_of_ble_eq_true rfl), (Nat.le_of_ble_eq_true rfl)⟩) hS (fun q _ h => hFc q h) hFc (fun u t H locs ht hvm hq hB hz1 hk1 hS9 => ?_)
                obtain ⟨z130, z131, f132, f133⟩ := u
                obtain ⟨hP1, hD1⟩ := hB
                rw [ht] at hP1
                obtain ⟨hP9, hD9⟩ := va_join (wr := [(h_wb, .inl (cy_wb, 600, .inl f_wb)), (h_bd, .inr (1, (mo9 v_bd (.ref h_td) (.ref h_bnd)))), (h_bnd, .inl (cy_bnd, 256, .inl f_bnd))]) (w1 := [(h_wr, .inr (6, (mo38 vq128 (.ref h_td) (.ref h_wd) (.int z130) (.ref h_wh) (.int z131)))), (h_wd, .inl (cy_wd, 616, .inl f132)), (h_wh, .inl (cy_wh, 2048, .inl f133)), (h_td, .inr (5, (mo21 v_td (.ref h_nam) (.ref h_var) (.ref h_trm) (.ref h_ter)))), (h_nam, .inl (cy_nam, 300, .inr (.inl f_nam))), (h_var, .inl (cy_var, 300, .inl f_var)), (h_trm, .inl (cy_trm, 300, .inl f_trm)), (h_ter, .inl (cy_ter, 900, .inl f_ter))]) hP hD [5, 6, 1, 9, 2, 10, 3, 4] [0, 7, 8] rfl rfl (by decide) (by decide) hk1 hFc hP1 hD1
                clear hP hD hS hPc hDc hKc hFc hP1 hD1 hk1 hz1 ht hvm
                have hP : va_P (dC, dI) cls [(h_wb, .inl (cy_wb, 600, .inl f_wb)), (h_bd, .inr (1, (mo9 v_bd (.ref h_td) (.ref h_bnd)))), (h_bnd, .inl (cy_bnd, 256, .inl f_bnd)), (h_wr, .inr (6, (mo38 vq128 (.ref h_td) (.ref h_wd) (.int z130) (.ref h_wh) (.int z131)))), (h_wd, .inl (cy_wd, 616, .inl f132)), (h_wh, .inl (cy_wh, 2048, .inl f133)), (h_td, .inr (5, (mo21 v_td (.ref h_nam) (.ref h_var) (.ref h_trm) (.ref h_ter)))), (h_nam, .inl (cy_nam, 300, .inr (.inl f_nam))), (h_var, .inl (cy_var, 300, .inl f_var)), (h_trm, .inl (cy_trm, 300, .inl f_trm)), (h_ter, .inl (cy_ter, 900, .inl f_ter))] H := hP9
                have hD : va_D A [(h_wb, .inl (cy_wb, 600, .inl f_wb)), (h_bd, .inr (1, (mo9 v_bd (.ref h_td) (.ref h_bnd)))), (h_bnd, .inl (cy_bnd, 256, .inl f_bnd)), (h_wr, .inr (6, (mo38 vq128 (.ref h_td) (.ref h_wd) (.int z130) (.ref h_wh) (.int z131)))), (h_wd, .inl (cy_wd, 616, .inl f132)), (h_wh, .inl (cy_wh, 2048, .inl f133)), (h_td, .inr (5, (mo21 v_td (.ref h_nam) (.ref h_var) (.ref h_trm) (.ref h_ter)))), (h_nam, .inl (cy_nam, 300, .inr (.inl f_nam))), (h_var, .inl (cy_var, 300, .inl f_var)), (h_trm, .inl (cy_trm, 300, .inl f_trm)), (h_ter, .inl (cy_ter, 900, .inl f_ter))] := hD9
                have hS := hS9
                clear hP9 hD9 hS9
                rw [evq128] at hP hD
                replace hP : va_P (dC, dI) cls [(h_wb, .inl (cy_wb, 600, .inl f_wb)), (h_bd, .inr (1, (mo9 v_bd (.ref h_td) (.ref h_bnd)))), (h_bnd, .inl (cy_bnd, 256, .inl f_bnd)), (h_wr, .inr (6, (mo39 (.ref h_td) (.ref h_bd) (.ref h_wb) (.int x_wr_length) (.ref h_wd) (.int z130) (.ref h_wh) (.int z131)))), (h_wd, .inl (cy_wd, 616, .inl f132)), (h_wh, .inl (cy_wh, 2048, .inl f133)), (h_td, .inr (5, (mo21 v_td (.ref h_nam) (.ref h_var) (.ref h_trm) (.ref h_ter)))), (h_nam, .inl (cy_nam, 300, .inr (.inl f_nam))), (h_var, .inl (cy_var, 300, .inl f_var)), (h_trm, .inl (cy_trm, 300, .inl f_trm)), (h_ter, .inl (cy_ter, 900, .inl f_ter))] H := hP
                replace hD : va_D A [(h_wb, .inl (cy_wb, 600, .inl f_wb)), (h_bd, .inr (1, (mo9 v_bd (.ref h_td) (.ref h_bnd)))), (h_bnd, .inl (cy_bnd, 256, .inl f_bnd)), (h_wr, .inr (6, (mo39 (.ref h_td) (.ref h_bd) (.ref h_wb) (.int x_wr_length) (.ref h_wd) (.int z130) (.ref h_wh) (.int z131)))), (h_wd, .inl (cy_wd, 616, .inl f132)), (h_wh, .inl (cy_wh, 2048, .inl f133)), (h_td, .inr (5, (mo21 v_td (.ref h_nam) (.ref h_var) (.ref h_trm) (.ref h_ter)))), (h_nam, .inl (cy_nam, 300, .inr (.inl f_nam))), (h_var, .inl (cy_var, 300, .inl f_var)), (h_trm, .inl (cy_trm, 300, .inl f_trm)), (h_ter, .inl (cy_ter, 900, .inl f_ter))] := hD
                clear evq128 
                obtain ⟨k134, k135, hf133⟩ := hq
                replace k134 : 0 ≤ ((z130)).toInt ∧ ((z130)).toInt ≤ 616 := k134
                replace k135 : 0 ≤ ((z131)).toInt ∧ ((z131)).toInt ≤ 2048 := k135
                replace hf133 : Rg (-127) 9599 (f133) := hf133
                obtain ⟨z136, ez136⟩ : ∃ y : Int32, y = x78 + 1 := ⟨_, rfl⟩
                have tz136 : (z136).toInt = (x78).toInt + 1 := by rw [ez136]; exact i_add rfl (by decide) (by omega)
                refine lv_iinc (v := z136) (lv' := [(4, .int z136), (0, .ref h_wr), (1, .int p1), (2, .int p2), (3, .int p3)]) hx hb dX9_write_111 hl (k := 4) rfl (by rw [ez136]; rfl) (by decide) rfl (fun ls hl => ?_)
                refine lv_goto (tgt := 30) hx hb dX9_write_114 (by decide) ?_
                replace hP : va_P (dC, dI) cls [(h_wb, .inl (cy_wb, 600, .inl f_wb)), (h_wh, .inl (cy_wh, 2048, .inl f133)), (h_bd, .inr (1, (mo9 v_bd (.ref h_td) (.ref h_bnd)))), (h_bnd, .inl (cy_bnd, 256, .inl f_bnd)), (h_td, .inr (5, (mo21 v_td (.ref h_nam) (.ref h_var) (.ref h_trm) (.ref h_ter)))), (h_nam, .inl (cy_nam, 300, .inr (.inl f_nam))), (h_var, .inl (cy_var, 300, .inl f_var)), (h_trm, .inl (cy_trm, 300, .inl f_trm)), (h_ter, .inl (cy_ter, 900, .inl f_ter)), (h_wr, .inr (6, (mo39 (.ref h_td) (.ref h_bd) (.ref h_wb) (.int x_wr_length) (.ref h_wd) (.int z130) (.ref h_wh) (.int z131)))), (h_wd, .inl (cy_wd, 616, .inl f132))] H := hP.sub [0, 5, 1, 2, 6, 7, 8, 9, 10, 3, 4] rfl
                replace hD : va_D A [(h_wb, .inl (cy_wb, 600, .inl f_wb)), (h_wh, .inl (cy_wh, 2048, .inl f133)), (h_bd, .inr (1, (mo9 v_bd (.ref h_td) (.ref h_bnd)))), (h_bnd, .inl (cy_bnd, 256, .inl f_bnd)), (h_td, .inr (5, (mo21 v_td (.ref h_nam) (.ref h_var) (.ref h_trm) (.ref h_ter)))), (h_nam, .inl (cy_nam, 300, .inr (.inl f_nam))), (h_var, .inl (cy_var, 300, .inl f_var)), (h_trm, .inl (cy_trm, 300, .inl f_trm)), (h_ter, .inl (cy_ter, 900, .inl f_ter)), (h_wr, .inr (6, (mo39 (.ref h_td) (.ref h_bd) (.ref h_wb) (.int x_wr_length) (.ref h_wd) (.int z130) (.ref h_wh) (.int z131)))), (h_wd, .inl (cy_wd, 616, .inl f132))] := hD.sub [0, 5, 1, 2, 6, 7, 8, 9, 10, 3, 4] (by decide) rfl
                exact ih84 (z136) (f133) (z130) (z131) (f132) _ _ _ (by omega) hf133 (by first | exact k134 | omega) (by first | exact k135 | omega) (by omega) hP hD hS (lv_sub hl [1, 2, 3, 4, 0] rfl)
              · have kc123 := (not_congr (cv_le (by decide : (0 : Int32).toInt = 0) (rfl : (z122).toInt = (z122).toInt))).mp c123
                refine lv_aload_n hx hb dX9_write_74 rfl (lv_at hl 0 rfl) ?_
                refine lv_aload_n hx hb dX9_write_75 rfl (lv_at hl 0 rfl) ?_
                refine va_get (D := (dC, dI)) (ci := 6) (v := .ref h_wh) (C := RX9) (T := TX9) (N := 8) hx hb hw iwX9 hown hK hP 9 rfl rfl 6 (by decide) (hw _ w_f_X9_18) (fun _ h9 => h9) rfl dX9_write_76 ?_
                refine lv_aload_n hx hb dX9_write_79 rfl (lv_at hl 0 rfl) ?_
                refine va_get (D := (dC, dI)) (ci := 6) (v := .int z121) (C := RX9) (T := TX9) (N := 8) hx hb hw iwX9 hown hK hP 9 rfl rfl 7 (by decide) (hw _ w_f_X9_37) (fun _ h9 => h9) rfl dX9_write_80 ?_
                refine va_iald hx hb hK hP 1 2 rfl rfl (i := z121) (vp_in_iff.mpr (by omega)) dX9_write_83 ?_
                refine lv_topi (fun z137 ez137 => ?_)
                have qz137 : (z137).toInt = (z122).toInt := by rw [ez137, ez122]
                have rz137 : -127 ≤ (z137).toInt ∧ (z137).toInt ≤ 9599 := by rw [ez137]; exact hf79 _
                refine lv_ineg hx hb dX9_write_84 ?_
                refine lv_topi (fun z138 ez138 => ?_)
                have tz138 : (z138).toInt = -((z137).toInt) := by rw [ez138]; exact i_neg rfl (by omega)
                obtain ⟨vq139, evq139⟩ := mq39_36 (.ref h_td) (.ref h_bd) (.ref h_wb) (.int x_wr_length) (.ref h_wh) (.int z121)
                replace hP : va_P (dC, dI) cls [(h_wb, .inl (cy_wb, 600, .inl f_wb)), (h_wh, .inl (cy_wh, 2048, .inl f79)), (h_bd, .inr (1, (mo9 v_bd (.ref h_td) (.ref h_bnd)))), (h_bnd, .inl (cy_bnd, 256, .inl f_bnd)), (h_td, .inr (5, (mo21 v_td (.ref h_nam) (.ref h_var) (.ref h_trm) (.ref h_ter)))), (h_nam, .inl (cy_nam, 300, .inr (.inl f_nam))), (h_var, .inl (cy_var, 300, .inl f_var)), (h_trm, .inl (cy_trm, 300, .inl f_trm)), (h_ter, .inl (cy_ter, 900, .inl f_ter)), (h_wr, .inr (6, (mo36 vq139 (.ref h_wd) (.int x80)))), (h_wd, .inl (cy_wd, 616, .inl f82))] H := by rw [evq139]; exact hP
                replace hD : va_D A [(h_wb, .inl (cy_wb, 600, .inl f_wb)), (h_wh, .inl (cy_wh, 2048, .inl f79)), (h_bd, .inr (1, (mo9 v_bd (.ref h_td) (.ref h_bnd)))), (h_bnd, .inl (cy_bnd, 256, .inl f_bnd)), (h_td, .inr (5, (mo21 v_td (.ref h_nam) (.ref h_var) (.ref h_trm) (.ref h_ter)))), (h_nam, .inl (cy_nam, 300, .inr (.inl f_nam))), (h_var, .inl (cy_var, 300, .inl f_var)), (h_trm, .inl (cy_trm, 300, .inl f_trm)), (h_ter, .inl (cy_ter, 900, .inl f_ter)), (h_wr, .inr (6, (mo36 vq139 (.ref h_wd) (.int x80)))), (h_wd, .inl (cy_wd, 616, .inl f82))] := by rw [evq139]; exact hD
                have hPc := hP.sub (ws' := [(h_wr, .inr (6, (mo36 vq139 (.ref h_wd) (.int x80)))), (h_wd, .inl (cy_wd, 616, .inl f82))]) [9, 10] rfl
                have hDc := hD.sub (ws' := [(h_wr, .inr (6, (mo36 vq139 (.ref h_wd) (.int x80)))), (h_wd, .inl (cy_wd, 616, .inl f82))]) [9, 10] (by decide) rfl
                have hKc := hK.sub (tys' := [(cy_wd, .int)]) [1] rfl
                have hFc := va_free (wc := [(h_wr, .inr (6, (mo36 vq139 (.ref h_wd) (.int x80)))), (h_wd, .inl (cy_wd, 616, .inl f82))]) hD hS hA [9, 10] rfl
                refine va_callv (va_runV (As := [.int z138]) (rest := []) ⟨hx, hb, hml, hown, hts⟩ (c_X9_put l dC dI H.size h_wr h_wd vq139 x80 cy_wd f82 z138 (by first | exact klp83_2 | omega)) (cwV 1 hts (gv hT w_m_X9_33 w_instanceMethod_X9_put ws_sel_X9_put w_ini_X9 w_code_X9_put) rfl rfl rfl (by decide +kernel) ⟨(Nat.le_of_ble_eq_true rfl), (Nat.le_of_ble_eq_true rfl)⟩) ⟨pre_blind, va_recv hK hP (ci := 6) (q0 := 9) rfl rfl, pre_of hPc hKc hDc hN⟩ rfl rfl hl.1 rfl (lv_room (Nat.le_of_ble_eq_true rfl)) dX9_write_85 ⟨(Nat.le_of_ble_eq_true rfl), (Nat.le_of_ble_eq_true rfl)⟩) hS (fun q _ h => hFc q h) hFc (fun u t H locs ht hvm hq hB hz1 hk1 hS9 => ?_)
                obtain ⟨z141, f142⟩ := u
                obtain ⟨hP1, hD1⟩ := hB
                rw [ht] at hP1
                obtain ⟨hP9, hD9⟩ := va_join (wr := [(h_wb, .inl (cy_wb, 600, .inl f_wb)), (h_wh, .inl (cy_wh, 2048, .inl f79)), (h_bd, .inr (1, (mo9 v_bd (.ref h_td) (.ref h_bnd)))), (h_bnd, .inl (cy_bnd, 256, .inl f_bnd)), (h_td, .inr (5, (mo21 v_td (.ref h_nam) (.ref h_var) (.ref h_trm) (.ref h_ter)))), (h_nam, .inl (cy_nam, 300, .inr (.inl f_nam))), (h_var, .inl (cy_var, 300, .inl f_var)), (h_trm, .inl (cy_trm, 300, .inl f_trm)), (h_ter, .inl (cy_ter, 900, .inl f_ter))]) (w1 := [(h_wr, .inr (6, (mo36 vq139 (.ref h_wd) (.int z141)))), (h_wd, .inl (cy_wd, 616, .inl f142))]) hP hD [9, 10] [0, 1, 2, 3, 4, 5, 6, 7, 8] rfl rfl (by decide) (by decide) hk1 hFc hP1 hD1
                clear hP hD hS hPc hDc hKc hFc hP1 hD1 hk1 hz1 ht hvm
                have hP : va_P (dC, dI) cls [(h_wb, .inl (cy_wb, 600, .inl f_wb)), (h_wh, .inl (cy_wh, 2048, .inl f79)), (h_bd, .inr (1, (mo9 v_bd (.ref h_td) (.ref h_bnd)))), (h_bnd, .inl (cy_bnd, 256, .inl f_bnd)), (h_td, .inr (5, (mo21 v_td (.ref h_nam) (.ref h_var) (.ref h_trm) (.ref h_ter)))), (h_nam, .inl (cy_nam, 300, .inr (.inl f_nam))), (h_var, .inl (cy_var, 300, .inl f_var)), (h_trm, .inl (cy_trm, 300, .inl f_trm)), (h_ter, .inl (cy_ter, 900, .inl f_ter)), (h_wr, .inr (6, (mo36 vq139 (.ref h_wd) (.int z141)))), (h_wd, .inl (cy_wd, 616, .inl f142))] H := hP9
                have hD : va_D A [(h_wb, .inl (cy_wb, 600, .inl f_wb)), (h_wh, .inl (cy_wh, 2048, .inl f79)), (h_bd, .inr (1, (mo9 v_bd (.ref h_td) (.ref h_bnd)))), (h_bnd, .inl (cy_bnd, 256, .inl f_bnd)), (h_td, .inr (5, (mo21 v_td (.ref h_nam) (.ref h_var) (.ref h_trm) (.ref h_ter)))), (h_nam, .inl (cy_nam, 300, .inr (.inl f_nam))), (h_var, .inl (cy_var, 300, .inl f_var)), (h_trm, .inl (cy_trm, 300, .inl f_trm)), (h_ter, .inl (cy_ter, 900, .inl f_ter)), (h_wr, .inr (6, (mo36 vq139 (.ref h_wd) (.int z141)))), (h_wd, .inl (cy_wd, 616, .inl f142))] := hD9
                have hS := hS9
                clear hP9 hD9 hS9
                rw [evq139] at hP hD
                replace hP : va_P (dC, dI) cls [(h_wb, .inl (cy_wb, 600, .inl f_wb)), (h_wh, .inl (cy_wh, 2048, .inl f79)), (h_bd, .inr (1, (mo9 v_bd (.ref h_td) (.ref h_bnd)))), (h_bnd, .inl (cy_bnd, 256, .inl f_bnd)), (h_td, .inr (5, (mo21 v_td (.ref h_nam) (.ref h_var) (.ref h_trm) (.ref h_ter)))), (h_nam, .inl (cy_nam, 300, .inr (.inl f_nam))), (h_var, .inl (cy_var, 300, .inl f_var)), (h_trm, .inl (cy_trm, 300, .inl f_trm)), (h_ter, .inl (cy_ter, 900, .inl f_ter)), (h_wr, .inr (6, (mo39 (.ref h_td) (.ref h_bd) (.ref h_wb) (.int x_wr_length) (.ref h_wd) (.int z141) (.ref h_wh) (.int z121)))), (h_wd, .inl (cy_wd, 616, .inl f142))] H := hP
                replace hD : va_D A [(h_wb, .inl (cy_wb, 600, .inl f_wb)), (h_wh, .inl (cy_wh, 2048, .inl f79)), (h_bd, .inr (1, (mo9 v_bd (.ref h_td) (.ref h_bnd)))), (h_bnd, .inl (cy_bnd, 256, .inl f_bnd)), (h_td, .inr (5, (mo21 v_td (.ref h_nam) (.ref h_var) (.ref h_trm) (.ref h_ter)))), (h_nam, .inl (cy_nam, 300, .inr (.inl f_nam))), (h_var, .inl (cy_var, 300, .inl f_var)), (h_trm, .inl (cy_trm, 300, .inl f_trm)), (h_ter, .inl (cy_ter, 900, .inl f_ter)), (h_wr, .inr (6, (mo39 (.ref h_td) (.ref h_bd) (.ref h_wb) (.int x_wr_length) (.ref h_wd) (.int z141) (.ref h_wh) (.int z121)))), (h_wd, .inl (cy_wd, 616, .inl f142))] := hD
                clear evq139 
                obtain ⟨k143, k144⟩ := hq
                replace k143 : 0 ≤ ((z141)).toInt ∧ ((z141)).toInt ≤ 616 := k143
                replace k144 : (616 ≤ ((x80)).toInt ∧ ((z141)).toInt = ((x80)).toInt) ∨ (((x80)).toInt < 616 ∧ ((z141)).toInt = ((x80)).toInt + 1) := k144
                refine lv_goto (tgt := 111) hx hb dX9_write_88 (by decide) ?_
                obtain ⟨z145, ez145⟩ : ∃ y : Int32, y = x78 + 1 := ⟨_, rfl⟩
                have tz145 : (z145).toInt = (x78).toInt + 1 := by rw [ez145]; exact i_add rfl (by decide) (by omega)
                refine lv_iinc (v := z145) (lv' := [(4, .int z145), (0, .ref h_wr), (1, .int p1), (2, .int p2), (3, .int p3)]) hx hb dX9_write_111 hl (k := 4) rfl (by rw [ez145]; rfl) (by decide) rfl (fun ls hl => ?_)
                refine lv_goto (tgt := 30) hx hb dX9_write_114 (by decide) ?_
                exact ih84 (z145) (f79) (z141) (z121) (f142) _ _ _ (by omega) hf79 (by first | exact k143 | omega) (by omega) (by omega) hP hD hS (lv_sub hl [1, 2, 3, 4, 0] rfl)
    have cst0 : (0 : Int32).toInt = 0 := by decide
    have cst1 : (1 : Int32).toInt = 1 := by decide
    exact lp83 _ (0) (f77) (z73) (1) (f74) _ _ _ (by decide) hf77 (by first | exact k75 | omega) (by decide) (Nat.le_refl _) hP hD hS (lv_sub hl [1, 2, 3, 4, 0] rfl)

set_option maxHeartbeats 8000000 in
set_option maxRecDepth 100000 in
theorem c_X9_write_a (l : Launch) (dC : Nat → ClassId) (dI : Nat → Nat → Nat) (sz : Nat) (h_wr : Nat) (h_wb : Nat) (h_wd : Nat) (h_wh : Nat) (h_bd : Nat) (h_bnd : Nat) (h_td : Nat) (h_nam : Nat) (h_var : Nat) (h_trm : Nat) (h_ter : Nat) (x_wr_length : Int32) (x_wr_drafted : Int32) (x_wr_held : Int32) (cy_wb : ClassId) (f_wb : Nat → Int32) (cy_wd : ClassId) (f_wd : Nat → Int32) (cy_wh : ClassId) (f_wh : Nat → Int32) (v_bd : Nat → Value) (cy_bnd : ClassId) (f_bnd : Nat → Int32) (v_td : Nat → Value) (cy_nam : ClassId) (f_nam : Nat → Int64) (cy_var : ClassId) (f_var : Nat → Int32) (cy_trm : ClassId) (f_trm : Nat → Int32) (cy_ter : ClassId) (f_ter : Nat → Int32) (p1 : Int32) (p2 : Int32) (hx_wr_length : 0 ≤ (x_wr_length).toInt ∧ (x_wr_length).toInt ≤ 600) (hx_wr_drafted : 0 ≤ (x_wr_drafted).toInt ∧ (x_wr_drafted).toInt ≤ 616) (hx_wr_held : 0 ≤ (x_wr_held).toInt ∧ (x_wr_held).toInt ≤ 2048) (hf_wh : Rg (-127) 9599 f_wh) (hf_bnd : Rg 0 9600 f_bnd) (hf_var : Rg (-1) 7 f_var) (hf_trm : Rg 0 3 f_trm) (hf_ter : Rg 0 299 f_ter) (q0 : 9000 ≤ (p1).toInt ∧ (p1).toInt ≤ 9299) (q1 : 0 ≤ (p2).toInt ∧ (p2).toInt ≤ 1) (q2 : (p2).toInt + lnX (nlQ 8) (CVW f_nam f_var f_trm f_ter) 7 ((p1).toInt - 9000).toNat ≤ 600) (hn_bhz : BHZ f_bnd) (hn_tz : TZG f_var f_trm) (hn_wgx : WGX (CVW f_nam f_var f_trm f_ter) 7 ((p1).toInt - 9000).toNat) : Met l yX9_write (Ws yX9_write cX9_write 5 (some .int)) (({ frames := 3, cells := 0, slots := 0, locals := 80 } : Room)) (PRE (dC, dI) cls [(cy_wb, .int), (cy_wd, .int), (cy_wh, .int), (cy_bnd, .int), (cy_nam, .long), (cy_var, .int), (cy_trm, .int), (cy_ter, .int)] [(h_wr, .inr (6, (mo39 (.ref h_td) (.ref h_bd) (.ref h_wb) (.int x_wr_length) (.ref h_wd) (.int x_wr_drafted) (.ref h_wh) (.int x_wr_held)))), (h_wb, .inl (cy_wb, 600, .inl f_wb)), (h_wd, .inl (cy_wd, 616, .inl f_wd)), (h_wh, .inl (cy_wh, 2048, .inl f_wh)), (h_bd, .inr (1, (mo9 v_bd (.ref h_td) (.ref h_bnd)))), (h_bnd, .inl (cy_bnd, 256, .inl f_bnd)), (h_td, .inr (5, (mo21 v_td (.ref h_nam) (.ref h_var) (.ref h_trm) (.ref h_ter)))), (h_nam, .inl (cy_nam, 300, .inr (.inl f_nam))), (h_var, .inl (cy_var, 300, .inl f_var)), (h_trm, .inl (cy_trm, 300, .inl f_trm)), (h_ter, .inl (cy_ter, 900, .inl f_ter))] sz [.ref h_wr, .int p1, .int p2, .int 600]) (va_Qi (fun (r : Int32) (u : (Int32) × (Int32) × (Int32) × (Nat → Int32) × (Nat → Int32) × (Nat → Int32)) => (0 ≤ (u.1).toInt ∧ (u.1).toInt ≤ 600) ∧ (0 ≤ (u.2.1).toInt ∧ (u.2.1).toInt ≤ 616) ∧ (0 ≤ (u.2.2.1).toInt ∧ (u.2.2.1).toInt ≤ 2048) ∧ (Rg (-127) 9599 u.2.2.2.2.2) ∧ ((r).toInt = (p2).toInt + lnX (nlQ 8) (CVW f_nam f_var f_trm f_ter) 7 ((p1).toInt - 9000).toNat)) (fun (u : (Int32) × (Int32) × (Int32) × (Nat → Int32) × (Nat → Int32) × (Nat → Int32)) (t : State) => va_P (dC, dI) cls [(h_wr, .inr (6, (mo39 (.ref h_td) (.ref h_bd) (.ref h_wb) (.int u.1) (.ref h_wd) (.int u.2.1) (.ref h_wh) (.int u.2.2.1)))), (h_wb, .inl (cy_wb, 600, .inl u.2.2.2.1)), (h_wd, .inl (cy_wd, 616, .inl u.2.2.2.2.1)), (h_wh, .inl (cy_wh, 2048, .inl u.2.2.2.2.2)), (h_bd, .inr (1, (mo9 v_bd (.ref h_td) (.ref h_bnd)))), (h_bnd, .inl (cy_bnd, 256, .inl f_bnd)), (h_td, .inr (5, (mo21 v_td (.ref h_nam) (.ref h_var) (.ref h_trm) (.ref h_ter)))), (h_nam, .inl (cy_nam, 300, .inr (.inl f_nam))), (h_var, .inl (cy_var, 300, .inl f_var)), (h_trm, .inl (cy_trm, 300, .inl f_trm)), (h_ter, .inl (cy_ter, 900, .inl f_ter))] t.heap ∧ va_D (va_A [(h_wr, .inr (6, (mo39 (.ref h_td) (.ref h_bd) (.ref h_wb) (.int x_wr_length) (.ref h_wd) (.int x_wr_drafted) (.ref h_wh) (.int x_wr_held)))), (h_wb, .inl (cy_wb, 600, .inl f_wb)), (h_wd, .inl (cy_wd, 616, .inl f_wd)), (h_wh, .inl (cy_wh, 2048, .inl f_wh)), (h_bd, .inr (1, (mo9 v_bd (.ref h_td) (.ref h_bnd)))), (h_bnd, .inl (cy_bnd, 256, .inl f_bnd)), (h_td, .inr (5, (mo21 v_td (.ref h_nam) (.ref h_var) (.ref h_trm) (.ref h_ter)))), (h_nam, .inl (cy_nam, 300, .inr (.inl f_nam))), (h_var, .inl (cy_var, 300, .inl f_var)), (h_trm, .inl (cy_trm, 300, .inl f_trm)), (h_ter, .inl (cy_ter, 900, .inl f_ter))] sz) [(h_wr, .inr (6, (mo39 (.ref h_td) (.ref h_bd) (.ref h_wb) (.int u.1) (.ref h_wd) (.int u.2.1) (.ref h_wh) (.int u.2.2.1)))), (h_wb, .inl (cy_wb, 600, .inl u.2.2.2.1)), (h_wd, .inl (cy_wd, 616, .inl u.2.2.2.2.1)), (h_wh, .inl (cy_wh, 2048, .inl u.2.2.2.2.2)), (h_bd, .inr (1, (mo9 v_bd (.ref h_td) (.ref h_bnd)))), (h_bnd, .inl (cy_bnd, 256, .inl f_bnd)), (h_td, .inr (5, (mo21 v_td (.ref h_nam) (.ref h_var) (.ref h_trm) (.ref h_ter)))), (h_nam, .inl (cy_nam, 300, .inr (.inl f_nam))), (h_var, .inl (cy_var, 300, .inl f_var)), (h_trm, .inl (cy_trm, 300, .inl f_trm)), (h_ter, .inl (cy_ter, 900, .inl f_ter))]) (va_A [(h_wr, .inr (6, (mo39 (.ref h_td) (.ref h_bd) (.ref h_wb) (.int x_wr_length) (.ref h_wd) (.int x_wr_drafted) (.ref h_wh) (.int x_wr_held)))), (h_wb, .inl (cy_wb, 600, .inl f_wb)), (h_wd, .inl (cy_wd, 616, .inl f_wd)), (h_wh, .inl (cy_wh, 2048, .inl f_wh)), (h_bd, .inr (1, (mo9 v_bd (.ref h_td) (.ref h_bnd)))), (h_bnd, .inl (cy_bnd, 256, .inl f_bnd)), (h_td, .inr (5, (mo21 v_td (.ref h_nam) (.ref h_var) (.ref h_trm) (.ref h_ter)))), (h_nam, .inl (cy_nam, 300, .inr (.inl f_nam))), (h_var, .inl (cy_var, 300, .inl f_var)), (h_trm, .inl (cy_trm, 300, .inl f_trm)), (h_ter, .inl (cy_ter, 900, .inl f_ter))] sz)) 0 0 (va_A [(h_wr, .inr (6, (mo39 (.ref h_td) (.ref h_bd) (.ref h_wb) (.int x_wr_length) (.ref h_wd) (.int x_wr_drafted) (.ref h_wh) (.int x_wr_held)))), (h_wb, .inl (cy_wb, 600, .inl f_wb)), (h_wd, .inl (cy_wd, 616, .inl f_wd)), (h_wh, .inl (cy_wh, 2048, .inl f_wh)), (h_bd, .inr (1, (mo9 v_bd (.ref h_td) (.ref h_bnd)))), (h_bnd, .inl (cy_bnd, 256, .inl f_bnd)), (h_td, .inr (5, (mo21 v_td (.ref h_nam) (.ref h_var) (.ref h_trm) (.ref h_ter)))), (h_nam, .inl (cy_nam, 300, .inr (.inl f_nam))), (h_var, .inl (cy_var, 300, .inl f_var)), (h_trm, .inl (cy_trm, 300, .inl f_trm)), (h_ter, .inl (cy_ter, 900, .inl f_ter))] sz) := by
  refine Met.ofW (cc := cX9_write) (maxL := 5) (ret := (some .int)) (by decide) rfl ?_
  intro p e s m args below meth c s₁ B hml hv
  obtain ⟨rfl, hsz, hP, hK, hD0, hN⟩ := hv
  have hx := B.exec
  have hb := B.bytes
  have hr := B.returns
  have hts := atoms_spec (ws := Ws yX9_write cX9_write 5 (some .int)) B.pre
  have hT : ∀ w ∈ WALL, w ∈ Ws yX9_write cX9_write 5 (some .int) := fun w h => List.mem_cons_of_mem _ h
  have hw := fun w (h : w ∈ WALL) => hts w (hT w h)
  have hown : s.vm.findClass RX9 = some m.cls := findClass_of_methodNamed B.named
  have hlocks := B.notSynchronized
  subst hsz
  have hD := hD0.self (sz := s.heap.size)
  generalize hAe : va_A [(h_wr, .inr (6, (mo39 (.ref h_td) (.ref h_bd) (.ref h_wb) (.int x_wr_length) (.ref h_wd) (.int x_wr_drafted) (.ref h_wh) (.int x_wr_held)))), (h_wb, .inl (cy_wb, 600, .inl f_wb)), (h_wd, .inl (cy_wd, 616, .inl f_wd)), (h_wh, .inl (cy_wh, 2048, .inl f_wh)), (h_bd, .inr (1, (mo9 v_bd (.ref h_td) (.ref h_bnd)))), (h_bnd, .inl (cy_bnd, 256, .inl f_bnd)), (h_td, .inr (5, (mo21 v_td (.ref h_nam) (.ref h_var) (.ref h_trm) (.ref h_ter)))), (h_nam, .inl (cy_nam, 300, .inr (.inl f_nam))), (h_var, .inl (cy_var, 300, .inl f_var)), (h_trm, .inl (cy_trm, 300, .inl f_trm)), (h_ter, .inl (cy_ter, 900, .inl f_ter))] s.heap.size = A at hD ⊢
  have hA : ∀ q : Nat, s.heap.size ≤ q → A q := fun q h => by rw [← hAe]; exact Or.inr h
  have hS : va_S A s.heap s.heap [] := va_S.rf
  have hl := lv_entry ([.ref h_wr, .int p1, .int p2, .int 600]) (n := 5) (Nat.le_of_ble_eq_true rfl)
  rw [lg_entry_eq]
  generalize (lg_sl ([.ref h_wr, .int p1, .int p2, .int 600]) ++ List.replicate (5 - (lg_sl ([.ref h_wr, .int p1, .int p2, .int 600])).length) Slot.unset).toArray = ls at hl ⊢
  have hl : lv_has ls 5 [(0, .ref h_wr), (1, .int p1), (2, .int p2), (3, .int 600)] := hl
  refine lv_aload_n hx hb dX9_write_0 rfl (lv_at hl 0 rfl) ?_
  refine lv_iconst (v := 0) hx hb dX9_write_1 (by decide) ?_
  refine va_put (D := (dC, dI)) (ci := 6) (v := .int 0) (ty := tyX9 5) (C := RX9) (T := TX9) (N := 8) hx hb hw iwX9 tyX9 tyX9_ok nmX9 hown hK hP hD hS 0 rfl rfl 5 (by decide) (hw _ w_f_X9_29) (fun _ h9 => h9) rfl (tyX9_ok 5 (by decide)) rfl rfl (Nat.le_of_ble_eq_true rfl) dX9_write_2 (fun H locs hP9 hD9 hS9 => ?_)
  clear hP hD hS
  have hP : va_P (dC, dI) cls [(h_wr, .inr (6, (mo39 (.ref h_td) (.ref h_bd) (.ref h_wb) (.int x_wr_length) (.ref h_wd) (.int 0) (.ref h_wh) (.int x_wr_held)))), (h_wb, .inl (cy_wb, 600, .inl f_wb)), (h_wd, .inl (cy_wd, 616, .inl f_wd)), (h_wh, .inl (cy_wh, 2048, .inl f_wh)), (h_bd, .inr (1, (mo9 v_bd (.ref h_td) (.ref h_bnd)))), (h_bnd, .inl (cy_bnd, 256, .inl f_bnd)), (h_td, .inr (5, (mo21 v_td (.ref h_nam) (.ref h_var) (.ref h_trm) (.ref h_ter)))), (h_nam, .inl (cy_nam, 300, .inr (.inl f_nam))), (h_var, .inl (cy_var, 300, .inl f_var)), (h_trm, .inl (cy_trm, 300, .inl f_trm)), (h_ter, .inl (cy_ter, 900, .inl f_ter))] H := hP9
  have hD : va_D A [(h_wr, .inr (6, (mo39 (.ref h_td) (.ref h_bd) (.ref h_wb) (.int x_wr_length) (.ref h_wd) (.int 0) (.ref h_wh) (.int x_wr_held)))), (h_wb, .inl (cy_wb, 600, .inl f_wb)), (h_wd, .inl (cy_wd, 616, .inl f_wd)), (h_wh, .inl (cy_wh, 2048, .inl f_wh)), (h_bd, .inr (1, (mo9 v_bd (.ref h_td) (.ref h_bnd)))), (h_bnd, .inl (cy_bnd, 256, .inl f_bnd)), (h_td, .inr (5, (mo21 v_td (.ref h_nam) (.ref h_var) (.ref h_trm) (.ref h_ter)))), (h_nam, .inl (cy_nam, 300, .inr (.inl f_nam))), (h_var, .inl (cy_var, 300, .inl f_var)), (h_trm, .inl (cy_trm, 300, .inl f_trm)), (h_ter, .inl (cy_ter, 900, .inl f_ter))] := hD9
  have hS := hS9
  clear hP9 hD9 hS9
  refine lv_iload_n hx hb dX9_write_5 rfl (lv_at hl 2 rfl) ?_
  refine lv_if_eq (tgt := 15) hx hb dX9_write_6 (by decide) (fun c1 => ?_) (fun c1 => ?_)
  · have kc1 := (cv_eq (rfl : (p2).toInt = (p2).toInt) (by decide : (0 : Int32).toInt = 0)).mp c1
    refine lv_aload_n hx hb dX9_write_15 rfl (lv_at hl 0 rfl) ?_
    refine va_get (D := (dC, dI)) (ci := 6) (v := .ref h_wh) (C := RX9) (T := TX9) (N := 8) hx hb hw iwX9 hown hK hP 0 rfl rfl 6 (by decide) (hw _ w_f_X9_18) (fun _ h9 => h9) rfl dX9_write_16 ?_
    refine lv_iconst (v := 0) hx hb dX9_write_19 (by decide) ?_
    refine lv_iload_n hx hb dX9_write_20 rfl (lv_at hl 1 rfl) ?_
    refine va_iast hx hb hK hP hD hS 3 2 rfl rfl (i := 0) (x := p1) (show ¬ _ from by decide) dX9_write_21 (fun H locs hP9 hD9 hS9 => ?_)
    obtain ⟨f2, ef2⟩ : ∃ g : Nat → Int32, g = upd f_wh (Int32.toNatClampNeg 0) p1 := ⟨_, rfl⟩
    clear hP hD hS
    have hP : va_P (dC, dI) cls [(h_wr, .inr (6, (mo39 (.ref h_td) (.ref h_bd) (.ref h_wb) (.int x_wr_length) (.ref h_wd) (.int 0) (.ref h_wh) (.int x_wr_held)))), (h_wb, .inl (cy_wb, 600, .inl f_wb)), (h_wd, .inl (cy_wd, 616, .inl f_wd)), (h_wh, .inl (cy_wh, 2048, .inl f2)), (h_bd, .inr (1, (mo9 v_bd (.ref h_td) (.ref h_bnd)))), (h_bnd, .inl (cy_bnd, 256, .inl f_bnd)), (h_td, .inr (5, (mo21 v_td (.ref h_nam) (.ref h_var) (.ref h_trm) (.ref h_ter)))), (h_nam, .inl (cy_nam, 300, .inr (.inl f_nam))), (h_var, .inl (cy_var, 300, .inl f_var)), (h_trm, .inl (cy_trm, 300, .inl f_trm)), (h_ter, .inl (cy_ter, 900, .inl f_ter))] H := by rw [ef2]; exact hP9
    have hD : va_D A [(h_wr, .inr (6, (mo39 (.ref h_td) (.ref h_bd) (.ref h_wb) (.int x_wr_length) (.ref h_wd) (.int 0) (.ref h_wh) (.int x_wr_held)))), (h_wb, .inl (cy_wb, 600, .inl f_wb)), (h_wd, .inl (cy_wd, 616, .inl f_wd)), (h_wh, .inl (cy_wh, 2048, .inl f2)), (h_bd, .inr (1, (mo9 v_bd (.ref h_td) (.ref h_bnd)))), (h_bnd, .inl (cy_bnd, 256, .inl f_bnd)), (h_td, .inr (5, (mo21 v_td (.ref h_nam) (.ref h_var) (.ref h_trm) (.ref h_ter)))), (h_nam, .inl (cy_nam, 300, .inr (.inl f_nam))), (h_var, .inl (cy_var, 300, .inl f_var)), (h_trm, .inl (cy_trm, 300, .inl f_trm)), (h_ter, .inl (cy_ter, 900, .inl f_ter))] := by rw [ef2]; exact hD9
    have hS := hS9
    clear hP9 hD9 hS9
    have hf2 : Rg (-127) 9599 f2 := by rw [ef2]; exact rg_upd hf_wh (by omega)
    obtain ⟨ok0, sm0⟩ := okl_one (V := (CVW f_nam f_var f_trm f_ter)) (i := 0) (by decide) ef2 (by omega) hn_wgx
    refine lv_aload_n hx hb dX9_write_22 rfl (lv_at hl 0 rfl) ?_
    refine lv_iconst (v := 1) hx hb dX9_write_23 (by decide) ?_
    refine va_put (D := (dC, dI)) (ci := 6) (v := .int 1) (ty := tyX9 7) (C := RX9) (T := TX9) (N := 8) hx hb hw iwX9 tyX9 tyX9_ok nmX9 hown hK hP hD hS 0 rfl rfl 7 (by decide) (hw _ w_f_X9_37) (fun _ h9 => h9) rfl (tyX9_ok 7 (by decide)) rfl rfl (Nat.le_of_ble_eq_true rfl) dX9_write_24 (fun H locs hP9 hD9 hS9 => ?_)
    clear hP hD hS
    have hP : va_P (dC, dI) cls [(h_wr, .inr (6, (mo39 (.ref h_td) (.ref h_bd) (.ref h_wb) (.int x_wr_length) (.ref h_wd) (.int 0) (.ref h_wh) (.int 1)))), (h_wb, .inl (cy_wb, 600, .inl f_wb)), (h_wd, .inl (cy_wd, 616, .inl f_wd)), (h_wh, .inl (cy_wh, 2048, .inl f2)), (h_bd, .inr (1, (mo9 v_bd (.ref h_td) (.ref h_bnd)))), (h_bnd, .inl (cy_bnd, 256, .inl f_bnd)), (h_td, .inr (5, (mo21 v_td (.ref h_nam) (.ref h_var) (.ref h_trm) (.ref h_ter)))), (h_nam, .inl (cy_nam, 300, .inr (.inl f_nam))), (h_var, .inl (cy_var, 300, .inl f_var)), (h_trm, .inl (cy_trm, 300, .inl f_trm)), (h_ter, .inl (cy_ter, 900, .inl f_ter))] H := hP9
    have hD : va_D A [(h_wr, .inr (6, (mo39 (.ref h_td) (.ref h_bd) (.ref h_wb) (.int x_wr_length) (.ref h_wd) (.int 0) (.ref h_wh) (.int 1)))), (h_wb, .inl (cy_wb, 600, .inl f_wb)), (h_wd, .inl (cy_wd, 616, .inl f_wd)), (h_wh, .inl (cy_wh, 2048, .inl f2)), (h_bd, .inr (1, (mo9 v_bd (.ref h_td) (.ref h_bnd)))), (h_bnd, .inl (cy_bnd, 256, .inl f_bnd)), (h_td, .inr (5, (mo21 v_td (.ref h_nam) (.ref h_var) (.ref h_trm) (.ref h_ter)))), (h_nam, .inl (cy_nam, 300, .inr (.inl f_nam))), (h_var, .inl (cy_var, 300, .inl f_var)), (h_trm, .inl (cy_trm, 300, .inl f_trm)), (h_ter, .inl (cy_ter, 900, .inl f_ter))] := hD9
    have hS := hS9
    clear hP9 hD9 hS9
    refine lv_iconst (v := 0) hx hb dX9_write_27 (by decide) ?_
    refine lv_istore (lv' := [(4, .int 0), (0, .ref h_wr), (1, .int p1), (2, .int p2), (3, .int 600)]) hx hb dX9_write_28 hl (by decide) rfl (fun ls hl => ?_)
    have se9 : smL (CVW f_nam f_var f_trm f_ter) (fun _ => 7) f2 (Int.toNat ((1 : Int32)).toInt) = smL (CVW f_nam f_var f_trm f_ter) (fun _ => 7) f2 1 := rfl
    have lp9 : ∀ (n : Nat) (x3 : Int32) (x4 : Int32) (x5 : Int32) (f6 : Nat → Int32) (f7 : Nat → Int32) (gh8 : Nat → Nat) (H : Heap) (locs : List Loc) (ls : Array Slot), (0 ≤ (x3).toInt ∧ (x3).toInt ≤ 600) → (0 ≤ (x4).toInt ∧ (x4).toInt ≤ 616) → (0 ≤ (x5).toInt ∧ (x5).toInt ≤ 2048) → (Rg (-127) 9599 f7) → ((x4).toInt + smL (CVW f_nam f_var f_trm f_ter) gh8 f7 (Int.toNat ((x5).toInt)) = (p2).toInt + lnX (nlQ 8) (CVW f_nam f_var f_trm f_ter) 7 ((p1).toInt - 9000).toNat) → (2 * (x5).toInt ≤ 2 + 5 * (x4).toInt) → ((x3).toInt ≤ (x4).toInt) → (OKL (CVW f_nam f_var f_trm f_ter) gh8 f7 (x5).toInt) → (1000000 - (x3).toInt).toNat + 1 ≤ n → va_P (dC, dI) cls [(h_wr, .inr (6, (mo39 (.ref h_td) (.ref h_bd) (.ref h_wb) (.int x_wr_length) (.ref h_wd) (.int x4) (.ref h_wh) (.int x5)))), (h_wb, .inl (cy_wb, 600, .inl f_wb)), (h_wd, .inl (cy_wd, 616, .inl f6)), (h_wh, .inl (cy_wh, 2048, .inl f7)), (h_bd, .inr (1, (mo9 v_bd (.ref h_td) (.ref h_bnd)))), (h_bnd, .inl (cy_bnd, 256, .inl f_bnd)), (h_td, .inr (5, (mo21 v_td (.ref h_nam) (.ref h_var) (.ref h_trm) (.ref h_ter)))), (h_nam, .inl (cy_nam, 300, .inr (.inl f_nam))), (h_var, .inl (cy_var, 300, .inl f_var)), (h_trm, .inl (cy_trm, 300, .inl f_trm)), (h_ter, .inl (cy_ter, 900, .inl f_ter))] H → va_D A [(h_wr, .inr (6, (mo39 (.ref h_td) (.ref h_bd) (.ref h_wb) (.int x_wr_length) (.ref h_wd) (.int x4) (.ref h_wh) (.int x5)))), (h_wb, .inl (cy_wb, 600, .inl f_wb)), (h_wd, .inl (cy_wd, 616, .inl f6)), (h_wh, .inl (cy_wh, 2048, .inl f7)), (h_bd, .inr (1, (mo9 v_bd (.ref h_td) (.ref h_bnd)))), (h_bnd, .inl (cy_bnd, 256, .inl f_bnd)), (h_td, .inr (5, (mo21 v_td (.ref h_nam) (.ref h_var) (.ref h_trm) (.ref h_ter)))), (h_nam, .inl (cy_nam, 300, .inr (.inl f_nam))), (h_var, .inl (cy_var, 300, .inl f_var)), (h_trm, .inl (cy_trm, 300, .inl f_trm)), (h_ter, .inl (cy_ter, 900, .inl f_ter))] → va_S A s.heap H locs → lv_has ls 5 [(0, .ref h_wr), (1, .int p1), (2, .int p2), (3, .int 600), (4, .int x3)] → W p l e ({ frames := 3, cells := 0, slots := 0, locals := 80 } : Room) s m ([.ref h_wr, .int p1, .int p2, .int 600] : List Value).toArray below meth c H locs 0 0 (MQ below (va_Qi (fun (r : Int32) (u : (Int32) × (Int32) × (Int32) × (Nat → Int32) × (Nat → Int32) × (Nat → Int32)) => (0 ≤ (u.1).toInt ∧ (u.1).toInt ≤ 600) ∧ (0 ≤ (u.2.1).toInt ∧ (u.2.1).toInt ≤ 616) ∧ (0 ≤ (u.2.2.1).toInt ∧ (u.2.2.1).toInt ≤ 2048) ∧ (Rg (-127) 9599 u.2.2.2.2.2) ∧ ((r).toInt = (p2).toInt + lnX (nlQ 8) (CVW f_nam f_var f_trm f_ter) 7 ((p1).toInt - 9000).toNat)) (fun (u : (Int32) × (Int32) × (Int32) × (Nat → Int32) × (Nat → Int32) × (Nat → Int32)) (t : State) => va_P (dC, dI) cls [(h_wr, .inr (6, (mo39 (.ref h_td) (.ref h_bd) (.ref h_wb) (.int u.1) (.ref h_wd) (.int u.2.1) (.ref h_wh) (.int u.2.2.1)))), (h_wb, .inl (cy_wb, 600, .inl u.2.2.2.1)), (h_wd, .inl (cy_wd, 616, .inl u.2.2.2.2.1)), (h_wh, .inl (cy_wh, 2048, .inl u.2.2.2.2.2)), (h_bd, .inr (1, (mo9 v_bd (.ref h_td) (.ref h_bnd)))), (h_bnd, .inl (cy_bnd, 256, .inl f_bnd)), (h_td, .inr (5, (mo21 v_td (.ref h_nam) (.ref h_var) (.ref h_trm) (.ref h_ter)))), (h_nam, .inl (cy_nam, 300, .inr (.inl f_nam))), (h_var, .inl (cy_var, 300, .inl f_var)), (h_trm, .inl (cy_trm, 300, .inl f_trm)), (h_ter, .inl (cy_ter, 900, .inl f_ter))] t.heap ∧ va_D A [(h_wr, .inr (6, (mo39 (.ref h_td) (.ref h_bd) (.ref h_wb) (.int u.1) (.ref h_wd) (.int u.2.1) (.ref h_wh) (.int u.2.2.1)))), (h_wb, .inl (cy_wb, 600, .inl u.2.2.2.1)), (h_wd, .inl (cy_wd, 616, .inl u.2.2.2.2.1)), (h_wh, .inl (cy_wh, 2048, .inl u.2.2.2.2.2)), (h_bd, .inr (1, (mo9 v_bd (.ref h_td) (.ref h_bnd)))), (h_bnd, .inl (cy_bnd, 256, .inl f_bnd)), (h_td, .inr (5, (mo21 v_td (.ref h_nam) (.ref h_var) (.ref h_trm) (.ref h_ter)))), (h_nam, .inl (cy_nam, 300, .inr (.inl f_nam))), (h_var, .inl (cy_var, 300, .inl f_var)), (h_trm, .inl (cy_trm, 300, .inl f_trm)), (h_ter, .inl (cy_ter, 900, .inl f_ter))]) A) ([.ref h_wr, .int p1, .int p2, .int 600] : List Value).toArray s 0 0 A) (F0 m 30 ls []) := by
      clear hP hD hS hl
      intro n
      induction n with
      | zero => intro x3 x4 x5 f6 f7 gh8 H locs ls klp9_0 klp9_1 klp9_2 hf7 klp9_4 klp9_5 klp9_6 klp9_7 hm hP hD hS hl; exact False.elim (by omega)
      | succ n ih => 
        intro x3 x4 x5 f6 f7 gh8 H locs ls klp9_0 klp9_1 klp9_2 hf7 klp9_4 klp9_5 klp9_6 klp9_7 hm hP hD hS hl
        have ih10 := ih
        clear ih
        refine lv_iload hx hb dX9_write_30 (lv_at hl 4 rfl) ?_
        have sg9 := smL_ge (V := (CVW f_nam f_var f_trm f_ter)) (ds := gh8) (h := f7) (Int.toNat (x5).toInt)
        refine lv_ldc (v := 1000000) hx hb hown (hw _ w_k_X9_40) dX9_write_32 ?_
        refine lv_icmp_ge (tgt := 117) hx hb dX9_write_34 (by decide) (fun c11 => False.elim (by have kc11 := (cv_le (by decide : (1000000 : Int32).toInt = 1000000) (rfl : (x3).toInt = (x3).toInt)).mp c11; omega)) (fun _ => ?_)
        refine lv_aload_n hx hb dX9_write_37 rfl (lv_at hl 0 rfl) ?_
        refine va_get (D := (dC, dI)) (ci := 6) (v := .int x5) (C := RX9) (T := TX9) (N := 8) hx hb hw iwX9 hown hK hP 0 rfl rfl 7 (by decide) (hw _ w_f_X9_37) (fun _ h9 => h9) rfl dX9_write_38 ?_
        refine lv_if_le (tgt := 117) hx hb dX9_write_41 (by decide) (fun c12 => ?_) (fun c12 => ?_)
        · have kc12 := (cv_le (rfl : (x5).toInt = (x5).toInt) (by decide : (0 : Int32).toInt = 0)).mp c12
          refine lv_aload_n hx hb dX9_write_117 rfl (lv_at hl 0 rfl) ?_
          refine va_get (D := (dC, dI)) (ci := 6) (v := .int x5) (C := RX9) (T := TX9) (N := 8) hx hb hw iwX9 hown hK hP 0 rfl rfl 7 (by decide) (hw _ w_f_X9_37) (fun _ h9 => h9) rfl dX9_write_118 ?_
          refine lv_if_gt (tgt := 142) hx hb dX9_write_121 (by decide) (fun c13 => False.elim (by have kc13 := (cv_lt (by decide : (0 : Int32).toInt = 0) (rfl : (x5).toInt = (x5).toInt)).mp c13; omega)) (fun _ => ?_)
          have sz9 : smL (CVW f_nam f_var f_trm f_ter) gh8 f7 (Int.toNat (x5).toInt) = 0 := by rw [show Int.toNat (x5).toInt = 0 by omega]; rfl
          refine lv_aload_n hx hb dX9_write_124 rfl (lv_at hl 0 rfl) ?_
          refine va_get (D := (dC, dI)) (ci := 6) (v := .int x4) (C := RX9) (T := TX9) (N := 8) hx hb hw iwX9 hown hK hP 0 rfl rfl 5 (by decide) (hw _ w_f_X9_29) (fun _ h9 => h9) rfl dX9_write_125 ?_
          refine lv_iload_n hx hb dX9_write_128 rfl (lv_at hl 3 rfl) ?_
          refine lv_icmp_gt (tgt := 142) hx hb dX9_write_129 (by decide) (fun c14 => False.elim (by have kc14 := (cv_lt (by decide : (600 : Int32).toInt = 600) (rfl : (x4).toInt = (x4).toInt)).mp c14; omega)) (fun _ => ?_)
          refine lv_aload_n hx hb dX9_write_132 rfl (lv_at hl 0 rfl) ?_
          refine va_get (D := (dC, dI)) (ci := 6) (v := .int x4) (C := RX9) (T := TX9) (N := 8) hx hb hw iwX9 hown hK hP 0 rfl rfl 5 (by decide) (hw _ w_f_X9_29) (fun _ h9 => h9) rfl dX9_write_133 ?_
          refine lv_sipush (v := 600) hx hb dX9_write_136 (by decide) ?_
          refine lv_icmp_le (tgt := 144) hx hb dX9_write_139 (by decide) (fun _ => ?_) (fun c15 => False.elim (by have kc15 := (not_congr (cv_le (rfl : (x4).toInt = (x4).toInt) (by decide : (600 : Int32).toInt = 600))).mp c15; omega))
          refine lv_aload_n hx hb dX9_write_144 rfl (lv_at hl 0 rfl) ?_
          refine va_get (D := (dC, dI)) (ci := 6) (v := .ref h_wd) (C := RX9) (T := TX9) (N := 8) hx hb hw iwX9 hown hK hP 0 rfl rfl 4 (by decide) (hw _ w_f_X9_15) (fun _ h9 => h9) rfl dX9_write_145 ?_
          refine lv_iconst (v := 0) hx hb dX9_write_148 (by decide) ?_
          refine lv_aload_n hx hb dX9_write_149 rfl (lv_at hl 0 rfl) ?_
          refine va_get (D := (dC, dI)) (ci := 6) (v := .ref h_wb) (C := RX9) (T := TX9) (N := 8) hx hb hw iwX9 hown hK hP 0 rfl rfl 2 (by decide) (hw _ w_f_X9_9) (fun _ h9 => h9) rfl dX9_write_150 ?_
          refine lv_iconst (v := 0) hx hb dX9_write_153 (by decide) ?_
          refine lv_aload_n hx hb dX9_write_154 rfl (lv_at hl 0 rfl) ?_
          refine va_get (D := (dC, dI)) (ci := 6) (v := .int x4) (C := RX9) (T := TX9) (N := 8) hx hb hw iwX9 hown hK hP 0 rfl rfl 5 (by decide) (hw _ w_f_X9_29) (fun _ h9 => h9) rfl dX9_write_155 ?_
          refine va_copyi hx hb (hml.trans hl.1.symm) hown (hw _ w_m_X9_50) (hw _ w_acn) (hw _ w_acs) (hw _ w_ini_System) hK hP hD hS 2 1 1 0 (sp := 0) (dp := 0) (n := x4) rfl rfl rfl rfl rfl (by decide) (by decide) (fun q => by have := (cv_lt (rfl : (x4).toInt = (x4).toInt) (by decide : (0 : Int32).toInt = 0)).mp q; omega) (by have : (0 : Int32).toNatClampNeg = 0 := (by decide); have := clamp_toInt (i := x4) (by omega); omega) (by have : (0 : Int32).toNatClampNeg = 0 := (by decide); have := clamp_toInt (i := x4) (by omega); omega) (fun _ _ => rfl) (Nat.le_of_ble_eq_true rfl) (Nat.le_of_ble_eq_true rfl) dX9_write_158 (fun H locs hP hD hS => ?_)
          obtain ⟨f16, ef16⟩ : ∃ g : Nat → Int32, g = va_cpy f6 f_wb (Int32.toNatClampNeg 0) (Int32.toNatClampNeg 0) (Int32.toNatClampNeg x4) := ⟨_, rfl⟩
          have hP : va_P (dC, dI) cls [(h_wr, .inr (6, (mo39 (.ref h_td) (.ref h_bd) (.ref h_wb) (.int x_wr_length) (.ref h_wd) (.int x4) (.ref h_wh) (.int x5)))), (h_wb, .inl (cy_wb, 600, .inl f16)), (h_wd, .inl (cy_wd, 616, .inl f6)), (h_wh, .inl (cy_wh, 2048, .inl f7)), (h_bd, .inr (1, (mo9 v_bd (.ref h_td) (.ref h_bnd)))), (h_bnd, .inl (cy_bnd, 256, .inl f_bnd)), (h_td, .inr (5, (mo21 v_td (.ref h_nam) (.ref h_var) (.ref h_trm) (.ref h_ter)))), (h_nam, .inl (cy_nam, 300, .inr (.inl f_nam))), (h_var, .inl (cy_var, 300, .inl f_var)), (h_trm, .inl (cy_trm, 300, .inl f_trm)), (h_ter, .inl (cy_ter, 900, .inl f_ter))] H := by rw [ef16]; exact hP
          have hD : va_D A [(h_wr, .inr (6, (mo39 (.ref h_td) (.ref h_bd) (.ref h_wb) (.int x_wr_length) (.ref h_wd) (.int x4) (.ref h_wh) (.int x5)))), (h_wb, .inl (cy_wb, 600, .inl f16)), (h_wd, .inl (cy_wd, 616, .inl f6)), (h_wh, .inl (cy_wh, 2048, .inl f7)), (h_bd, .inr (1, (mo9 v_bd (.ref h_td) (.ref h_bnd)))), (h_bnd, .inl (cy_bnd, 256, .inl f_bnd)), (h_td, .inr (5, (mo21 v_td (.ref h_nam) (.ref h_var) (.ref h_trm) (.ref h_ter)))), (h_nam, .inl (cy_nam, 300, .inr (.inl f_nam))), (h_var, .inl (cy_var, 300, .inl f_var)), (h_trm, .inl (cy_trm, 300, .inl f_trm)), (h_ter, .inl (cy_ter, 900, .inl f_ter))] := by rw [ef16]; exact hD
          clear ef16
          refine lv_aload_n hx hb dX9_write_161 rfl (lv_at hl 0 rfl) ?_
          refine lv_aload_n hx hb dX9_write_162 rfl (lv_at hl 0 rfl) ?_
          refine va_get (D := (dC, dI)) (ci := 6) (v := .int x4) (C := RX9) (T := TX9) (N := 8) hx hb hw iwX9 hown hK hP 0 rfl rfl 5 (by decide) (hw _ w_f_X9_29) (fun _ h9 => h9) rfl dX9_write_163 ?_
          refine va_put (D := (dC, dI)) (ci := 6) (v := .int x4) (ty := tyX9 3) (C := RX9) (T := TX9) (N := 8) hx hb hw iwX9 tyX9 tyX9_ok nmX9 hown hK hP hD hS 0 rfl rfl 3 (by decide) (hw _ w_f_X9_56) (fun _ h9 => h9) rfl (tyX9_ok 3 (by decide)) rfl rfl (Nat.le_of_ble_eq_true rfl) dX9_write_166 (fun H locs hP9 hD9 hS9 => ?_)
          clear hP hD hS
          have hP : va_P (dC, dI) cls [(h_wr, .inr (6, (mo39 (.ref h_td) (.ref h_bd) (.ref h_wb) (.int x4) (.ref h_wd) (.int x4) (.ref h_wh) (.int x5)))), (h_wb, .inl (cy_wb, 600, .inl f16)), (h_wd, .inl (cy_wd, 616, .inl f6)), (h_wh, .inl (cy_wh, 2048, .inl f7)), (h_bd, .inr (1, (mo9 v_bd (.ref h_td) (.ref h_bnd)))), (h_bnd, .inl (cy_bnd, 256, .inl f_bnd)), (h_td, .inr (5, (mo21 v_td (.ref h_nam) (.ref h_var) (.ref h_trm) (.ref h_ter)))), (h_nam, .inl (cy_nam, 300, .inr (.inl f_nam))), (h_var, .inl (cy_var, 300, .inl f_var)), (h_trm, .inl (cy_trm, 300, .inl f_trm)), (h_ter, .inl (cy_ter, 900, .inl f_ter))] H := hP9
          have hD : va_D A [(h_wr, .inr (6, (mo39 (.ref h_td) (.ref h_bd) (.ref h_wb) (.int x4) (.ref h_wd) (.int x4) (.ref h_wh) (.int x5)))), (h_wb, .inl (cy_wb, 600, .inl f16)), (h_wd, .inl (cy_wd, 616, .inl f6)), (h_wh, .inl (cy_wh, 2048, .inl f7)), (h_bd, .inr (1, (mo9 v_bd (.ref h_td) (.ref h_bnd)))), (h_bnd, .inl (cy_bnd, 256, .inl f_bnd)), (h_td, .inr (5, (mo21 v_td (.ref h_nam) (.ref h_var) (.ref h_trm) (.ref h_ter)))), (h_nam, .inl (cy_nam, 300, .inr (.inl f_nam))), (h_var, .inl (cy_var, 300, .inl f_var)), (h_trm, .inl (cy_trm, 300, .inl f_trm)), (h_ter, .inl (cy_ter, 900, .inl f_ter))] := hD9
          have hS := hS9
          clear hP9 hD9 hS9
          refine lv_aload_n hx hb dX9_write_169 rfl (lv_at hl 0 rfl) ?_
          refine va_get (D := (dC, dI)) (ci := 6) (v := .int x4) (C := RX9) (T := TX9) (N := 8) hx hb hw iwX9 hown hK hP 0 rfl rfl 3 (by decide) (hw _ w_f_X9_56) (fun _ h9 => h9) rfl dX9_write_170 ?_
          refine W.widen (k := 0) (n := 0) (Nat.le_of_ble_eq_true rfl) (Nat.le_of_ble_eq_true rfl) ?_
          have w17 : 0 ≤ ((x4)).toInt ∧ ((x4)).toInt ≤ 600 := by omega
          have w18 : 0 ≤ ((x4)).toInt ∧ ((x4)).toInt ≤ 616 := by first | exact klp9_1 | omega
          have w19 : 0 ≤ ((x5)).toInt ∧ ((x5)).toInt ≤ 2048 := by first | exact klp9_2 | omega
          have w20 : ((x4 : Int32)).toInt = (p2).toInt + lnX (nlQ 8) (CVW f_nam f_var f_trm f_ter) 7 ((p1).toInt - 9000).toNat := by omega
          exact W.iret (v := x4) hx hb hr (fun t ht hW => ⟨⟨x4, (x4, x4, x5, f16, f6, f7), rfl, ⟨w17, w18, w19, hf7, w20⟩, by rw [ht]; exact hP, hD⟩, hS.F ht⟩) hS.2.2 dX9_write_173
        · have kc12 := (not_congr (cv_le (rfl : (x5).toInt = (x5).toInt) (by decide : (0 : Int32).toInt = 0))).mp c12
          refine lv_aload_n hx hb dX9_write_44 rfl (lv_at hl 0 rfl) ?_
          refine va_get (D := (dC, dI)) (ci := 6) (v := .int x4) (C := RX9) (T := TX9) (N := 8) hx hb hw iwX9 hown hK hP 0 rfl rfl 5 (by decide) (hw _ w_f_X9_29) (fun _ h9 => h9) rfl dX9_write_45 ?_
          refine lv_iload_n hx hb dX9_write_48 rfl (lv_at hl 3 rfl) ?_
          refine lv_icmp_gt (tgt := 117) hx hb dX9_write_49 (by decide) (fun c21 => False.elim (by have kc21 := (cv_lt (by decide : (600 : Int32).toInt = 600) (rfl : (x4).toInt = (x4).toInt)).mp c21; omega)) (fun _ => ?_)
          refine lv_aload_n hx hb dX9_write_52 rfl (lv_at hl 0 rfl) ?_
          refine lv_dup hx hb dX9_write_53 rfl ?_
          refine va_get (D := (dC, dI)) (ci := 6) (v := .int x5) (C := RX9) (T := TX9) (N := 8) hx hb hw iwX9 hown hK hP 0 rfl rfl 7 (by decide) (hw _ w_f_X9_37) (fun _ h9 => h9) rfl dX9_write_54 ?_
          refine lv_iconst (v := 1) hx hb dX9_write_57 (by decide) ?_
          refine lv_isub hx hb dX9_write_58 ?_
          refine lv_topi (fun z22 ez22 => ?_)
          have tz22 : (z22).toInt = (x5).toInt - 1 := by rw [ez22]; exact i_sub rfl (by decide) (by omega)
          refine va_put (D := (dC, dI)) (ci := 6) (v := .int z22) (ty := tyX9 7) (C := RX9) (T := TX9) (N := 8) hx hb hw iwX9 tyX9 tyX9_ok nmX9 hown hK hP hD hS 0 rfl rfl 7 (by decide) (hw _ w_f_X9_37) (fun _ h9 => h9) rfl (tyX9_ok 7 (by decide)) rfl rfl (Nat.le_of_ble_eq_true rfl) dX9_write_59 (fun H locs hP9 hD9 hS9 => ?_)
          clear hP hD hS
          have hP : va_P (dC, dI) cls [(h_wr, .inr (6, (mo39 (.ref h_td) (.ref h_bd) (.ref h_wb) (.int x_wr_length) (.ref h_wd) (.int x4) (.ref h_wh) (.int z22)))), (h_wb, .inl (cy_wb, 600, .inl f_wb)), (h_wd, .inl (cy_wd, 616, .inl f6)), (h_wh, .inl (cy_wh, 2048, .inl f7)), (h_bd, .inr (1, (mo9 v_bd (.ref h_td) (.ref h_bnd)))), (h_bnd, .inl (cy_bnd, 256, .inl f_bnd)), (h_td, .inr (5, (mo21 v_td (.ref h_nam) (.ref h_var) (.ref h_trm) (.ref h_ter)))), (h_nam, .inl (cy_nam, 300, .inr (.inl f_nam))), (h_var, .inl (cy_var, 300, .inl f_var)), (h_trm, .inl (cy_trm, 300, .inl f_trm)), (h_ter, .inl (cy_ter, 900, .inl f_ter))] H := hP9
          have hD : va_D A [(h_wr, .inr (6, (mo39 (.ref h_td) (.ref h_bd) (.ref h_wb) (.int x_wr_length) (.ref h_wd) (.int x4) (.ref h_wh) (.int z22)))), (h_wb, .inl (cy_wb, 600, .inl f_wb)), (h_wd, .inl (cy_wd, 616, .inl f6)), (h_wh, .inl (cy_wh, 2048, .inl f7)), (h_bd, .inr (1, (mo9 v_bd (.ref h_td) (.ref h_bnd)))), (h_bnd, .inl (cy_bnd, 256, .inl f_bnd)), (h_td, .inr (5, (mo21 v_td (.ref h_nam) (.ref h_var) (.ref h_trm) (.ref h_ter)))), (h_nam, .inl (cy_nam, 300, .inr (.inl f_nam))), (h_var, .inl (cy_var, 300, .inl f_var)), (h_trm, .inl (cy_trm, 300, .inl f_trm)), (h_ter, .inl (cy_ter, 900, .inl f_ter))] := hD9
          have hS := hS9
          clear hP9 hD9 hS9
          refine lv_aload_n hx hb dX9_write_62 rfl (lv_at hl 0 rfl) ?_
          refine va_get (D := (dC, dI)) (ci := 6) (v := .ref h_wh) (C := RX9) (T := TX9) (N := 8) hx hb hw iwX9 hown hK hP 0 rfl rfl 6 (by decide) (hw _ w_f_X9_18) (fun _ h9 => h9) rfl dX9_write_63 ?_
          refine lv_aload_n hx hb dX9_write_66 rfl (lv_at hl 0 rfl) ?_
          refine va_get (D := (dC, dI)) (ci := 6) (v := .int z22) (C := RX9) (T := TX9) (N := 8) hx hb hw iwX9 hown hK hP 0 rfl rfl 7 (by decide) (hw _ w_f_X9_37) (fun _ h9 => h9) rfl dX9_write_67 ?_
          refine va_iald hx hb hK hP 3 2 rfl rfl (i := z22) (vp_in_iff.mpr (by omega)) dX9_write_70 ?_
          refine lv_topi (fun z23 ez23 => ?_)
          have rz23 : -127 ≤ (z23).toInt ∧ (z23).toInt ≤ 9599 := by rw [ez23]; exact hf7 _
          have oa9 := okl_at (i := z22) (z := z23) klp9_7 (by omega) ez23
          have sp9 := smL_pop (V := (CVW f_nam f_var f_trm f_ter)) (ds := gh8) (h := f7) (i := z22) (z := z23) (n := Int.toNat (x5).toInt) (by omega) (by omega) ez23
          have sq9 := smL_ge (V := (CVW f_nam f_var f_trm f_ter)) (ds := gh8) (h := f7) (z22).toInt.toNat
          have ol9 := okl_le (n' := (z22).toInt) klp9_7 (by omega)
          refine lv_if_ge (tgt := 91) hx hb dX9_write_71 (by decide) (fun c24 => ?_) (fun c24 => ?_)
          · have kc24 := (cv_le (by decide : (0 : Int32).toInt = 0) (rfl : (z23).toInt = (z23).toInt)).mp c24
            rw [wlX_pos (by omega)] at sp9
            obtain ⟨ob1, ob2, ob3⟩ := oa9.resolve_left (by omega)
            obtain ⟨d9, ed9⟩ := wgx_suc ob3
            rw [ed9] at sp9 ob3
            have lg9 := lnX_ge (fun y9 => (nlQ_ge 8 y9).1) (V := (CVW f_nam f_var f_trm f_ter)) (d9 + 1) ((z23).toInt - 9000).toNat
            refine lv_aload_n hx hb dX9_write_91 rfl (lv_at hl 0 rfl) ?_
            refine lv_aload_n hx hb dX9_write_92 rfl (lv_at hl 0 rfl) ?_
            refine va_get (D := (dC, dI)) (ci := 6) (v := .ref h_bd) (C := RX9) (T := TX9) (N := 8) hx hb hw iwX9 hown hK hP 0 rfl rfl 1 (by decide) (hw _ w_f_X9_25) (fun _ h9 => h9) rfl dX9_write_93 ?_
            refine lv_aload_n hx hb dX9_write_96 rfl (lv_at hl 0 rfl) ?_
            refine va_get (D := (dC, dI)) (ci := 6) (v := .ref h_wh) (C := RX9) (T := TX9) (N := 8) hx hb hw iwX9 hown hK hP 0 rfl rfl 6 (by decide) (hw _ w_f_X9_18) (fun _ h9 => h9) rfl dX9_write_97 ?_
            refine lv_aload_n hx hb dX9_write_100 rfl (lv_at hl 0 rfl) ?_
            refine va_get (D := (dC, dI)) (ci := 6) (v := .int z22) (C := RX9) (T := TX9) (N := 8) hx hb hw iwX9 hown hK hP 0 rfl rfl 7 (by decide) (hw _ w_f_X9_37) (fun _ h9 => h9) rfl dX9_write_101 ?_
            refine va_iald hx hb hK hP 3 2 rfl rfl (i := z22) (vp_in_iff.mpr (by omega)) dX9_write_104 ?_
            refine lv_topi (fun z25 ez25 => ?_)
            have qz25 : (z25).toInt = (z23).toInt := by rw [ez25, ez23]
            have rz25 : -127 ≤ (z25).toInt ∧ (z25).toInt ≤ 9599 := by rw [ez25]; exact hf7 _
            obtain ⟨vq26, evq26⟩ := mq21_8 v_td (.ref h_nam) (.ref h_trm) (.ref h_ter)
            replace hP : va_P (dC, dI) cls [(h_wr, .inr (6, (mo39 (.ref h_td) (.ref h_bd) (.ref h_wb) (.int x_wr_length) (.ref h_wd) (.int x4) (.ref h_wh) (.int z22)))), (h_wb, .inl (cy_wb, 600, .inl f_wb)), (h_wd, .inl (cy_wd, 616, .inl f6)), (h_wh, .inl (cy_wh, 2048, .inl f7)), (h_bd, .inr (1, (mo9 v_bd (.ref h_td) (.ref h_bnd)))), (h_bnd, .inl (cy_bnd, 256, .inl f_bnd)), (h_td, .inr (5, (mo8 vq26 (.ref h_var)))), (h_nam, .inl (cy_nam, 300, .inr (.inl f_nam))), (h_var, .inl (cy_var, 300, .inl f_var)), (h_trm, .inl (cy_trm, 300, .inl f_trm)), (h_ter, .inl (cy_ter, 900, .inl f_ter))] H := by rw [evq26]; exact hP
            replace hD : va_D A [(h_wr, .inr (6, (mo39 (.ref h_td) (.ref h_bd) (.ref h_wb) (.int x_wr_length) (.ref h_wd) (.int x4) (.ref h_wh) (.int z22)))), (h_wb, .inl (cy_wb, 600, .inl f_wb)), (h_wd, .inl (cy_wd, 616, .inl f6)), (h_wh, .inl (cy_wh, 2048, .inl f7)), (h_bd, .inr (1, (mo9 v_bd (.ref h_td) (.ref h_bnd)))), (h_bnd, .inl (cy_bnd, 256, .inl f_bnd)), (h_td, .inr (5, (mo8 vq26 (.ref h_var)))), (h_nam, .inl (cy_nam, 300, .inr (.inl f_nam))), (h_var, .inl (cy_var, 300, .inl f_var)), (h_trm, .inl (cy_trm, 300, .inl f_trm)), (h_ter, .inl (cy_ter, 900, .inl f_ter))] := by rw [evq26]; exact hD
            have hPc := hP.sub (ws' := [(h_bd, .inr (1, (mo9 v_bd (.ref h_td) (.ref h_bnd)))), (h_bnd, .inl (cy_bnd, 256, .inl f_bnd)), (h_td, .inr (5, (mo8 vq26 (.ref h_var)))), (h_var, .inl (cy_var, 300, .inl f_var))]) [4, 5, 6, 8] rfl
            have hDc := hD.sub (ws' := [(h_bd, .inr (1, (mo9 v_bd (.ref h_td) (.ref h_bnd)))), (h_bnd, .inl (cy_bnd, 256, .inl f_bnd)), (h_td, .inr (5, (mo8 vq26 (.ref h_var)))), (h_var, .inl (cy_var, 300, .inl f_var))]) [4, 5, 6, 8] (by decide) rfl
            have hKc := hK.sub (tys' := [(cy_bnd, .int), (cy_var, .int)]) [3, 5] rfl
            have hFc := va_free (wc := [(h_bd, .inr (1, (mo9 v_bd (.ref h_td) (.ref h_bnd)))), (h_bnd, .inl (cy_bnd, 256, .inl f_bnd)), (h_td, .inr (5, (mo8 vq26 (.ref h_var)))), (h_var, .inl (cy_var, 300, .inl f_var))]) hD hS hA [4, 5, 6, 8] rfl
            refine va_calli (va_runVN (As := [.int z25]) (rest := [.ref h_wr]) ⟨hx, hb, hml, hown, hts⟩ (c_X1_bare_a l dC dI H.size h_bd h_bnd h_td h_var v_bd cy_bnd f_bnd vq26 cy_var f_var z25 hf_bnd hf_var (by omega) (by omega) hn_bhz) ⟨va_cnB (host := "OppositePairs") 1 hts (gd hT w_code_X1_bare) rfl rfl rfl (hN _ n_m_X9_41) (hw _ w_ini_X1) (by decide +kernel) ⟨(Nat.le_of_ble_eq_true rfl), (Nat.le_of_ble_eq_true rfl)⟩, hw _ w_instanceMethod_X1_bare, hw _ ws_sel_X1_bare⟩ ⟨pre_blind, va_recv hK hP (ci := 1) (q0 := 4) rfl rfl, pre_of hPc hKc hDc hN⟩ rfl rfl hl.1 rfl (lv_room (Nat.le_of_ble_eq_true rfl)) dX9_write_105 ⟨(Nat.le_of_ble_eq_true rfl), (Nat.le_of_ble_eq_true rfl)⟩) hS (fun q _ h => hFc q h) hFc (fun r27 u t H locs ht hvm hq hB hz1 hk1 hS9 => ?_)
            obtain ⟨hP1, hD1⟩ := hB
            rw [ht] at hP1
            obtain ⟨hP9, hD9⟩ := va_join (wr := [(h_wr, .inr (6, (mo39 (.ref h_td) (.ref h_bd) (.ref h_wb) (.int x_wr_length) (.ref h_wd) (.int x4) (.ref h_wh) (.int z22)))), (h_wb, .inl (cy_wb, 600, .inl f_wb)), (h_wd, .inl (cy_wd, 616, .inl f6)), (h_wh, .inl (cy_wh, 2048, .inl f7)), (h_nam, .inl (cy_nam, 300, .inr (.inl f_nam))), (h_trm, .inl (cy_trm, 300, .inl f_trm)), (h_ter, .inl (cy_ter, 900, .inl f_ter))]) (w1 := [(h_bd, .inr (1, (mo9 v_bd (.ref h_td) (.ref h_bnd)))), (h_bnd, .inl (cy_bnd, 256, .inl f_bnd)), (h_td, .inr (5, (mo8 vq26 (.ref h_var)))), (h_var, .inl (cy_var, 300, .inl f_var))]) hP hD [4, 5, 6, 8] [0, 1, 2, 3, 7, 9, 10] rfl rfl (by decide) (by decide) hk1 hFc hP1 hD1
            clear hP hD hS hPc hDc hKc hFc hP1 hD1 hk1 hz1 ht hvm
            have hP : va_P (dC, dI) cls [(h_wr, .inr (6, (mo39 (.ref h_td) (.ref h_bd) (.ref h_wb) (.int x_wr_length) (.ref h_wd) (.int x4) (.ref h_wh) (.int z22)))), (h_wb, .inl (cy_wb, 600, .inl f_wb)), (h_wd, .inl (cy_wd, 616, .inl f6)), (h_wh, .inl (cy_wh, 2048, .inl f7)), (h_nam, .inl (cy_nam, 300, .inr (.inl f_nam))), (h_trm, .inl (cy_trm, 300, .inl f_trm)), (h_ter, .inl (cy_ter, 900, .inl f_ter)), (h_bd, .inr (1, (mo9 v_bd (.ref h_td) (.ref h_bnd)))), (h_bnd, .inl (cy_bnd, 256, .inl f_bnd)), (h_td, .inr (5, (mo8 vq26 (.ref h_var)))), (h_var, .inl (cy_var, 300, .inl f_var))] H := hP9
            have hD : va_D A [(h_wr, .inr (6, (mo39 (.ref h_td) (.ref h_bd) (.ref h_wb) (.int x_wr_length) (.ref h_wd) (.int x4) (.ref h_wh) (.int z22)))), (h_wb, .inl (cy_wb, 600, .inl f_wb)), (h_wd, .inl (cy_wd, 616, .inl f6)), (h_wh, .inl (cy_wh, 2048, .inl f7)), (h_nam, .inl (cy_nam, 300, .inr (.inl f_nam))), (h_trm, .inl (cy_trm, 300, .inl f_trm)), (h_ter, .inl (cy_ter, 900, .inl f_ter)), (h_bd, .inr (1, (mo9 v_bd (.ref h_td) (.ref h_bnd)))), (h_bnd, .inl (cy_bnd, 256, .inl f_bnd)), (h_td, .inr (5, (mo8 vq26 (.ref h_var)))), (h_var, .inl (cy_var, 300, .inl f_var))] := hD9
            have hS := hS9
            clear hP9 hD9 hS9
            rw [evq26] at hP hD
            replace hP : va_P (dC, dI) cls [(h_wr, .inr (6, (mo39 (.ref h_td) (.ref h_bd) (.ref h_wb) (.int x_wr_length) (.ref h_wd) (.int x4) (.ref h_wh) (.int z22)))), (h_wb, .inl (cy_wb, 600, .inl f_wb)), (h_wd, .inl (cy_wd, 616, .inl f6)), (h_wh, .inl (cy_wh, 2048, .inl f7)), (h_nam, .inl (cy_nam, 300, .inr (.inl f_nam))), (h_trm, .inl (cy_trm, 300, .inl f_trm)), (h_ter, .inl (cy_ter, 900, .inl f_ter)), (h_bd, .inr (1, (mo9 v_bd (.ref h_td) (.ref h_bnd)))), (h_bnd, .inl (cy_bnd, 256, .inl f_bnd)), (h_td, .inr (5, (mo21 v_td (.ref h_nam) (.ref h_var) (.ref h_trm) (.ref h_ter)))), (h_var, .inl (cy_var, 300, .inl f_var))] H := hP
            replace hD : va_D A [(h_wr, .inr (6, (mo39 (.ref h_td) (.ref h_bd) (.ref h_wb) (.int x_wr_length) (.ref h_wd) (.int x4) (.ref h_wh) (.int z22)))), (h_wb, .inl (cy_wb, 600, .inl f_wb)), (h_wd, .inl (cy_wd, 616, .inl f6)), (h_wh, .inl (cy_wh, 2048, .inl f7)), (h_nam, .inl (cy_nam, 300, .inr (.inl f_nam))), (h_trm, .inl (cy_trm, 300, .inl f_trm)), (h_ter, .inl (cy_ter, 900, .inl f_ter)), (h_bd, .inr (1, (mo9 v_bd (.ref h_td) (.ref h_bnd)))), (h_bnd, .inl (cy_bnd, 256, .inl f_bnd)), (h_td, .inr (5, (mo21 v_td (.ref h_nam) (.ref h_var) (.ref h_trm) (.ref h_ter)))), (h_var, .inl (cy_var, 300, .inl f_var))] := hD
            clear evq26 
            obtain ⟨k28, k29⟩ := hq
            replace k28 : 0 ≤ (r27).toInt ∧ (r27).toInt ≤ 9599 := k28
            replace k29 : ((r27)).toInt = ((z25)).toInt := k29
            have ev9 : r27 = z23 := Int32.toInt_inj.mp (by omega)
            rw [← ev9] at sp9 ob3 lg9
            obtain ⟨vq30, evq30⟩ := mq39_38 (.ref h_bd) (.ref h_wb) (.int x_wr_length)
            replace hP : va_P (dC, dI) cls [(h_wr, .inr (6, (mo38 vq30 (.ref h_td) (.ref h_wd) (.int x4) (.ref h_wh) (.int z22)))), (h_wb, .inl (cy_wb, 600, .inl f_wb)), (h_wd, .inl (cy_wd, 616, .inl f6)), (h_wh, .inl (cy_wh, 2048, .inl f7)), (h_nam, .inl (cy_nam, 300, .inr (.inl f_nam))), (h_trm, .inl (cy_trm, 300, .inl f_trm)), (h_ter, .inl (cy_ter, 900, .inl f_ter)), (h_bd, .inr (1, (mo9 v_bd (.ref h_td) (.ref h_bnd)))), (h_bnd, .inl (cy_bnd, 256, .inl f_bnd)), (h_td, .inr (5, (mo21 v_td (.ref h_nam) (.ref h_var) (.ref h_trm) (.ref h_ter)))), (h_var, .inl (cy_var, 300, .inl f_var))] H := by rw [evq30]; exact hP
            replace hD : va_D A [(h_wr, .inr (6, (mo38 vq30 (.ref h_td) (.ref h_wd) (.int x4) (.ref h_wh) (.int z22)))), (h_wb, .inl (cy_wb, 600, .inl f_wb)), (h_wd, .inl (cy_wd, 616, .inl f6)), (h_wh, .inl (cy_wh, 2048, .inl f7)), (h_nam, .inl (cy_nam, 300, .inr (.inl f_nam))), (h_trm, .inl (cy_trm, 300, .inl f_trm)), (h_ter, .inl (cy_ter, 900, .inl f_ter)), (h_bd, .inr (1, (mo9 v_bd (.ref h_td) (.ref h_bnd)))), (h_bnd, .inl (cy_bnd, 256, .inl f_bnd)), (h_td, .inr (5, (mo21 v_td (.ref h_nam) (.ref h_var) (.ref h_trm) (.ref h_ter)))), (h_var, .inl (cy_var, 300, .inl f_var))] := by rw [evq30]; exact hD
            have hPc := hP.sub (ws' := [(h_wr, .inr (6, (mo38 vq30 (.ref h_td) (.ref h_wd) (.int x4) (.ref h_wh) (.int z22)))), (h_wd, .inl (cy_wd, 616, .inl f6)), (h_wh, .inl (cy_wh, 2048, .inl f7)), (h_td, .inr (5, (mo21 v_td (.ref h_nam) (.ref h_var) (.ref h_trm) (.ref h_ter)))), (h_nam, .inl (cy_nam, 300, .inr (.inl f_nam))), (h_var, .inl (cy_var, 300, .inl f_var)), (h_trm, .inl (cy_trm, 300, .inl f_trm)), (h_ter, .inl (cy_ter, 900, .inl f_ter))]) [0, 2, 3, 9, 4, 10, 5, 6] rfl
            have hDc := hD.sub (ws' := [(h_wr, .inr (6, (mo38 vq30 (.ref h_td) (.ref h_wd) (.int x4) (.ref h_wh) (.int z22)))), (h_wd, .inl (cy_wd, 616, .inl f6)), (h_wh, .inl (cy_wh, 2048, .inl f7)), (h_td, .inr (5, (mo21 v_td (.ref h_nam) (.ref h_var) (.ref h_trm) (.ref h_ter)))), (h_nam, .inl (cy_nam, 300, .inr (.inl f_nam))), (h_var, .inl (cy_var, 300, .inl f_var)), (h_trm, .inl (cy_trm, 300, .inl f_trm)), (h_ter, .inl (cy_ter, 900, .inl f_ter))]) [0, 2, 3, 9, 4, 10, 5, 6] (by decide) rfl
            have hKc := hK.sub (tys' := [(cy_wd, .int), (cy_wh, .int), (cy_nam, .long), (cy_var, .int), (cy_trm, .int), (cy_ter, .int)]) [1, 2, 4, 5, 6, 7] rfl
            have hFc := va_free (wc := [(h_wr, .inr (6, (mo38 vq30 (.ref h_td) (.ref h_wd) (.int x4) (.ref h_wh) (.int z22)))), (h_wd, .inl (cy_wd, 616, .inl f6)), (h_wh, .inl (cy_wh, 2048, .inl f7)), (h_td, .inr (5, (mo21 v_td (.ref h_nam) (.ref h_var) (.ref h_trm) (.ref h_ter)))), (h_nam, .inl (cy_nam, 300, .inr (.inl f_nam))), (h_var, .inl (cy_var, 300, .inl f_var)), (h_trm, .inl (cy_trm, 300, .inl f_trm)), (h_ter, .inl (cy_ter, 900, .inl f_ter))]) hD hS hA [0, 2, 3, 9, 4, 10, 5, 6] rfl
            refine va_callv (va_runV (As := [.int r27]) (rest := []) ⟨hx, hb, hml, hown, hts⟩ (c_X9_putPart_a l dC dI H.size h_wr h_wd h_wh h_td h_nam h_var h_trm h_ter vq30 x4 z22 cy_wd f6 cy_wh f7 v_td cy_nam f_nam cy_var f_var cy_trm f_trm cy_ter f_ter r27 gh8 d9 (by first | exact klp9_1 | omega) (by omega) hf7 hf_var hf_trm hf_ter (by omega) (by omega) (by omega) (okl_cast ol9 (by omega)) ob3 hn_tz) (cwV 1 hts (gv hT w_m_X9_47 w_instanceMethod_X9_putPart ws_sel_X9_putPart w_ini_X9 w_code_X9_putPart) rfl rfl rfl (by decide +kernel) ⟨(Nat.le_of_ble_eq_true rfl), (Nat.le_of_ble_eq_true rfl)⟩) ⟨pre_blind, va_recv hK hP (ci := 6) (q0 := 0) rfl rfl, pre_of hPc hKc hDc hN⟩ rfl rfl hl.1 rfl (lv_room (Nat.le_of_ble_eq_true rfl)) dX9_write_108 ⟨(Nat.le_of_ble_eq_true rfl), (Nat.le_of_ble_eq_true rfl)⟩) hS (fun q _ h => hFc q h) hFc (fun u t H locs ht hvm hq hB hz1 hk1 hS9 => ?_)
            obtain ⟨z32, z33, f34, f35, gh36⟩ := u
            obtain ⟨hP1, hD1⟩ := hB
            rw [ht] at hP1
            obtain ⟨hP9, hD9⟩ := va_join (wr := [(h_wb, .inl (cy_wb, 600, .inl f_wb)), (h_bd, .inr (1, (mo9 v_bd (.ref h_td) (.ref h_bnd)))), (h_bnd, .inl (cy_bnd, 256, .inl f_bnd))]) (w1 := [(h_wr, .inr (6, (mo38 vq30 (.ref h_td) (.ref h_wd) (.int z32) (.ref h_wh) (.int z33)))), (h_wd, .inl (cy_wd, 616, .inl f34)), (h_wh, .inl (cy_wh, 2048, .inl f35)), (h_td, .inr (5, (mo21 v_td (.ref h_nam) (.ref h_var) (.ref h_trm) (.ref h_ter)))), (h_nam, .inl (cy_nam, 300, .inr (.inl f_nam))), (h_var, .inl (cy_var, 300, .inl f_var)), (h_trm, .inl (cy_trm, 300, .inl f_trm)), (h_ter, .inl (cy_ter, 900, .inl f_ter))]) hP hD [0, 2, 3, 9, 4, 10, 5, 6] [1, 7, 8] rfl rfl (by decide) (by decide) hk1 hFc hP1 hD1
            clear hP hD hS hPc hDc hKc hFc hP1 hD1 hk1 hz1 ht hvm
            have hP : va_P (dC, dI) cls [(h_wb, .inl (cy_wb, 600, .inl f_wb)), (h_bd, .inr (1, (mo9 v_bd (.ref h_td) (.ref h_bnd)))), (h_bnd, .inl (cy_bnd, 256, .inl f_bnd)), (h_wr, .inr (6, (mo38 vq30 (.ref h_td) (.ref h_wd) (.int z32) (.ref h_wh) (.int z33)))), (h_wd, .inl (cy_wd, 616, .inl f34)), (h_wh, .inl (cy_wh, 2048, .inl f35)), (h_td, .inr (5, (mo21 v_td (.ref h_nam) (.ref h_var) (.ref h_trm) (.ref h_ter)))), (h_nam, .inl (cy_nam, 300, .inr (.inl f_nam))), (h_var, .inl (cy_var, 300, .inl f_var)), (h_trm, .inl (cy_trm, 300, .inl f_trm)), (h_ter, .inl (cy_ter, 900, .inl f_ter))] H := hP9
            have hD : va_D A [(h_wb, .inl (cy_wb, 600, .inl f_wb)), (h_bd, .inr (1, (mo9 v_bd (.ref h_td) (.ref h_bnd)))), (h_bnd, .inl (cy_bnd, 256, .inl f_bnd)), (h_wr, .inr (6, (mo38 vq30 (.ref h_td) (.ref h_wd) (.int z32) (.ref h_wh) (.int z33)))), (h_wd, .inl (cy_wd, 616, .inl f34)), (h_wh, .inl (cy_wh, 2048, .inl f35)), (h_td, .inr (5, (mo21 v_td (.ref h_nam) (.ref h_var) (.ref h_trm) (.ref h_ter)))), (h_nam, .inl (cy_nam, 300, .inr (.inl f_nam))), (h_var, .inl (cy_var, 300, .inl f_var)), (h_trm, .inl (cy_trm, 300, .inl f_trm)), (h_ter, .inl (cy_ter, 900, .inl f_ter))] := hD9
            have hS := hS9
            clear hP9 hD9 hS9
            rw [evq30] at hP hD
            replace hP : va_P (dC, dI) cls [(h_wb, .inl (cy_wb, 600, .inl f_wb)), (h_bd, .inr (1, (mo9 v_bd (.ref h_td) (.ref h_bnd)))), (h_bnd, .inl (cy_bnd, 256, .inl f_bnd)), (h_wr, .inr (6, (mo39 (.ref h_td) (.ref h_bd) (.ref h_wb) (.int x_wr_length) (.ref h_wd) (.int z32) (.ref h_wh) (.int z33)))), (h_wd, .inl (cy_wd, 616, .inl f34)), (h_wh, .inl (cy_wh, 2048, .inl f35)), (h_td, .inr (5, (mo21 v_td (.ref h_nam) (.ref h_var) (.ref h_trm) (.ref h_ter)))), (h_nam, .inl (cy_nam, 300, .inr (.inl f_nam))), (h_var, .inl (cy_var, 300, .inl f_var)), (h_trm, .inl (cy_trm, 300, .inl f_trm)), (h_ter, .inl (cy_ter, 900, .inl f_ter))] H := hP
            replace hD : va_D A [(h_wb, .inl (cy_wb, 600, .inl f_wb)), (h_bd, .inr (1, (mo9 v_bd (.ref h_td) (.ref h_bnd)))), (h_bnd, .inl (cy_bnd, 256, .inl f_bnd)), (h_wr, .inr (6, (mo39 (.ref h_td) (.ref h_bd) (.ref h_wb) (.int x_wr_length) (.ref h_wd) (.int z32) (.ref h_wh) (.int z33)))), (h_wd, .inl (cy_wd, 616, .inl f34)), (h_wh, .inl (cy_wh, 2048, .inl f35)), (h_td, .inr (5, (mo21 v_td (.ref h_nam) (.ref h_var) (.ref h_trm) (.ref h_ter)))), (h_nam, .inl (cy_nam, 300, .inr (.inl f_nam))), (h_var, .inl (cy_var, 300, .inl f_var)), (h_trm, .inl (cy_trm, 300, .inl f_trm)), (h_ter, .inl (cy_ter, 900, .inl f_ter))] := hD
            clear evq30 
            obtain ⟨k37, k38, hf35, k39, k40, k41, k42⟩ := hq
            replace k37 : 0 ≤ ((z32)).toInt ∧ ((z32)).toInt ≤ 616 := k37
            replace k38 : 0 ≤ ((z33)).toInt ∧ ((z33)).toInt ≤ 2048 := k38
            replace hf35 : Rg (-127) 9599 (f35) := hf35
            replace k39 : ((z32)).toInt + smL (CVW f_nam f_var f_trm f_ter) (gh36) (f35) ((z33)).toInt.toNat = ((x4)).toInt + smL (CVW f_nam f_var f_trm f_ter) (gh8) (f7) ((z22)).toInt.toNat + lnX (nlQ 8) (CVW f_nam f_var f_trm f_ter) ((d9) + 1) (((r27)).toInt - 9000).toNat := k39
            replace k40 : ((x4)).toInt + 1 ≤ ((z32)).toInt ∧ ((z32)).toInt ≤ ((x4)).toInt + 9 := k40
            replace k41 : 2 * (((z33)).toInt - ((z22)).toInt) ≤ 5 * (((z32)).toInt - ((x4)).toInt) + 2 := k41
            replace k42 : OKL (CVW f_nam f_var f_trm f_ter) (gh36) (f35) ((z33)).toInt := k42
            have sg9 := smL_ge (V := (CVW f_nam f_var f_trm f_ter)) (ds := gh36) (h := f35) (Int.toNat (z33).toInt)
            obtain ⟨z43, ez43⟩ : ∃ y : Int32, y = x3 + 1 := ⟨_, rfl⟩
            have tz43 : (z43).toInt = (x3).toInt + 1 := by rw [ez43]; exact i_add rfl (by decide) (by omega)
            refine lv_iinc (v := z43) (lv' := [(4, .int z43), (0, .ref h_wr), (1, .int p1), (2, .int p2), (3, .int 600)]) hx hb dX9_write_111 hl (k := 4) rfl (by rw [ez43]; rfl) (by decide) rfl (fun ls hl => ?_)
            refine lv_goto (tgt := 30) hx hb dX9_write_114 (by decide) ?_
            replace hP : va_P (dC, dI) cls [(h_wr, .inr (6, (mo39 (.ref h_td) (.ref h_bd) (.ref h_wb) (.int x_wr_length) (.ref h_wd) (.int z32) (.ref h_wh) (.int z33)))), (h_wb, .inl (cy_wb, 600, .inl f_wb)), (h_wd, .inl (cy_wd, 616, .inl f34)), (h_wh, .inl (cy_wh, 2048, .inl f35)), (h_bd, .inr (1, (mo9 v_bd (.ref h_td) (.ref h_bnd)))), (h_bnd, .inl (cy_bnd, 256, .inl f_bnd)), (h_td, .inr (5, (mo21 v_td (.ref h_nam) (.ref h_var) (.ref h_trm) (.ref h_ter)))), (h_nam, .inl (cy_nam, 300, .inr (.inl f_nam))), (h_var, .inl (cy_var, 300, .inl f_var)), (h_trm, .inl (cy_trm, 300, .inl f_trm)), (h_ter, .inl (cy_ter, 900, .inl f_ter))] H := hP.sub [3, 0, 4, 5, 1, 2, 6, 7, 8, 9, 10] rfl
            replace hD : va_D A [(h_wr, .inr (6, (mo39 (.ref h_td) (.ref h_bd) (.ref h_wb) (.int x_wr_length) (.ref h_wd) (.int z32) (.ref h_wh) (.int z33)))), (h_wb, .inl (cy_wb, 600, .inl f_wb)), (h_wd, .inl (cy_wd, 616, .inl f34)), (h_wh, .inl (cy_wh, 2048, .inl f35)), (h_bd, .inr (1, (mo9 v_bd (.ref h_td) (.ref h_bnd)))), (h_bnd, .inl (cy_bnd, 256, .inl f_bnd)), (h_td, .inr (5, (mo21 v_td (.ref h_nam) (.ref h_var) (.ref h_trm) (.ref h_ter)))), (h_nam, .inl (cy_nam, 300, .inr (.inl f_nam))), (h_var, .inl (cy_var, 300, .inl f_var)), (h_trm, .inl (cy_trm, 300, .inl f_trm)), (h_ter, .inl (cy_ter, 900, .inl f_ter))] := hD.sub [3, 0, 4, 5, 1, 2, 6, 7, 8, 9, 10] (by decide) rfl
            exact ih10 (z43) (z32) (z33) (f34) (f35) (gh36) _ _ _ (by omega) (by first | exact k37 | omega) (by first | exact k38 | omega) hf35 (by omega) (by omega) (by omega) (okl_cast k42 (by omega)) (by omega) hP hD hS (lv_sub hl [1, 2, 3, 4, 0] rfl)
          · have kc24 := (not_congr (cv_le (by decide : (0 : Int32).toInt = 0) (rfl : (z23).toInt = (z23).toInt))).mp c24
            rw [wlX_neg (by omega)] at sp9
            refine lv_aload_n hx hb dX9_write_74 rfl (lv_at hl 0 rfl) ?_
            refine lv_aload_n hx hb dX9_write_75 rfl (lv_at hl 0 rfl) ?_
            refine va_get (D := (dC, dI)) (ci := 6) (v := .ref h_wh) (C := RX9) (T := TX9) (N := 8) hx hb hw iwX9 hown hK hP 0 rfl rfl 6 (by decide) (hw _ w_f_X9_18) (fun _ h9 => h9) rfl dX9_write_76 ?_
            refine lv_aload_n hx hb dX9_write_79 rfl (lv_at hl 0 rfl) ?_
            refine va_get (D := (dC, dI)) (ci := 6) (v := .int z22) (C := RX9) (T := TX9) (N := 8) hx hb hw iwX9 hown hK hP 0 rfl rfl 7 (by decide) (hw _ w_f_X9_37) (fun _ h9 => h9) rfl dX9_write_80 ?_
            refine va_iald hx hb hK hP 3 2 rfl rfl (i := z22) (vp_in_iff.mpr (by omega)) dX9_write_83 ?_
            refine lv_topi (fun z44 ez44 => ?_)
            have qz44 : (z44).toInt = (z23).toInt := by rw [ez44, ez23]
            have rz44 : -127 ≤ (z44).toInt ∧ (z44).toInt ≤ 9599 := by rw [ez44]; exact hf7 _
            refine lv_ineg hx hb dX9_write_84 ?_
            refine lv_topi (fun z45 ez45 => ?_)
            have tz45 : (z45).toInt = -((z44).toInt) := by rw [ez45]; exact i_neg rfl (by omega)
            obtain ⟨vq46, evq46⟩ := mq39_36 (.ref h_td) (.ref h_bd) (.ref h_wb) (.int x_wr_length) (.ref h_wh) (.int z22)
            replace hP : va_P (dC, dI) cls [(h_wr, .inr (6, (mo36 vq46 (.ref h_wd) (.int x4)))), (h_wb, .inl (cy_wb, 600, .inl f_wb)), (h_wd, .inl (cy_wd, 616, .inl f6)), (h_wh, .inl (cy_wh, 2048, .inl f7)), (h_bd, .inr (1, (mo9 v_bd (.ref h_td) (.ref h_bnd)))), (h_bnd, .inl (cy_bnd, 256, .inl f_bnd)), (h_td, .inr (5, (mo21 v_td (.ref h_nam) (.ref h_var) (.ref h_trm) (.ref h_ter)))), (h_nam, .inl (cy_nam, 300, .inr (.inl f_nam))), (h_var, .inl (cy_var, 300, .inl f_var)), (h_trm, .inl (cy_trm, 300, .inl f_trm)), (h_ter, .inl (cy_ter, 900, .inl f_ter))] H := by rw [evq46]; exact hP
            replace hD : va_D A [(h_wr, .inr (6, (mo36 vq46 (.ref h_wd) (.int x4)))), (h_wb, .inl (cy_wb, 600, .inl f_wb)), (h_wd, .inl (cy_wd, 616, .inl f6)), (h_wh, .inl (cy_wh, 2048, .inl f7)), (h_bd, .inr (1, (mo9 v_bd (.ref h_td) (.ref h_bnd)))), (h_bnd, .inl (cy_bnd, 256, .inl f_bnd)), (h_td, .inr (5, (mo21 v_td (.ref h_nam) (.ref h_var) (.ref h_trm) (.ref h_ter)))), (h_nam, .inl (cy_nam, 300, .inr (.inl f_nam))), (h_var, .inl (cy_var, 300, .inl f_var)), (h_trm, .inl (cy_trm, 300, .inl f_trm)), (h_ter, .inl (cy_ter, 900, .inl f_ter))] := by rw [evq46]; exact hD
            have hPc := hP.sub (ws' := [(h_wr, .inr (6, (mo36 vq46 (.ref h_wd) (.int x4)))), (h_wd, .inl (cy_wd, 616, .inl f6))]) [0, 2] rfl
            have hDc := hD.sub (ws' := [(h_wr, .inr (6, (mo36 vq46 (.ref h_wd) (.int x4)))), (h_wd, .inl (cy_wd, 616, .inl f6))]) [0, 2] (by decide) rfl
            have hKc := hK.sub (tys' := [(cy_wd, .int)]) [1] rfl
            have hFc := va_free (wc := [(h_wr, .inr (6, (mo36 vq46 (.ref h_wd) (.int x4)))), (h_wd, .inl (cy_wd, 616, .inl f6))]) hD hS hA [0, 2] rfl
            refine va_callv (va_runV (As := [.int z45]) (rest := []) ⟨hx, hb, hml, hown, hts⟩ (c_X9_put l dC dI H.size h_wr h_wd vq46 x4 cy_wd f6 z45 (by first | exact klp9_1 | omega)) (cwV 1 hts (gv hT w_m_X9_33 w_instanceMethod_X9_put ws_sel_X9_put w_ini_X9 w_code_X9_put) rfl rfl rfl (by decide +kernel) ⟨(Nat.le_of_ble_eq_true rfl), (Nat.le_of_ble_eq_true rfl)⟩) ⟨pre_blind, va_recv hK hP (ci := 6) (q0 := 0) rfl rfl, pre_of hPc hKc hDc hN⟩ rfl rfl hl.1 rfl (lv_room (Nat.le_of_ble_eq_true rfl)) dX9_write_85 ⟨(Nat.le_of_ble_eq_true rfl), (Nat.le_of_ble_eq_true rfl)⟩) hS (fun q _ h => hFc q h) hFc (fun u t H locs ht hvm hq hB hz1 hk1 hS9 => ?_)
            obtain ⟨z48, f49⟩ := u
            obtain ⟨hP1, hD1⟩ := hB
            rw [ht] at hP1
            obtain ⟨hP9, hD9⟩ := va_join (wr := [(h_wb, .inl (cy_wb, 600, .inl f_wb)), (h_wh, .inl (cy_wh, 2048, .inl f7)), (h_bd, .inr (1, (mo9 v_bd (.ref h_td) (.ref h_bnd)))), (h_bnd, .inl (cy_bnd, 256, .inl f_bnd)), (h_td, .inr (5, (mo21 v_td (.ref h_nam) (.ref h_var) (.ref h_trm) (.ref h_ter)))), (h_nam, .inl (cy_nam, 300, .inr (.inl f_nam))), (h_var, .inl (cy_var, 300, .inl f_var)), (h_trm, .inl (cy_trm, 300, .inl f_trm)), (h_ter, .inl (cy_ter, 900, .inl f_ter))]) (w1 := [(h_wr, .inr (6, (mo36 vq46 (.ref h_wd) (.int z48)))), (h_wd, .inl (cy_wd, 616, .inl f49))]) hP hD [0, 2] [1, 3, 4, 5, 6, 7, 8, 9, 10] rfl rfl (by decide) (by decide) hk1 hFc hP1 hD1
            clear hP hD hS hPc hDc hKc hFc hP1 hD1 hk1 hz1 ht hvm
            have hP : va_P (dC, dI) cls [(h_wb, .inl (cy_wb, 600, .inl f_wb)), (h_wh, .inl (cy_wh, 2048, .inl f7)), (h_bd, .inr (1, (mo9 v_bd (.ref h_td) (.ref h_bnd)))), (h_bnd, .inl (cy_bnd, 256, .inl f_bnd)), (h_td, .inr (5, (mo21 v_td (.ref h_nam) (.ref h_var) (.ref h_trm) (.ref h_ter)))), (h_nam, .inl (cy_nam, 300, .inr (.inl f_nam))), (h_var, .inl (cy_var, 300, .inl f_var)), (h_trm, .inl (cy_trm, 300, .inl f_trm)), (h_ter, .inl (cy_ter, 900, .inl f_ter)), (h_wr, .inr (6, (mo36 vq46 (.ref h_wd) (.int z48)))), (h_wd, .inl (cy_wd, 616, .inl f49))] H := hP9
            have hD : va_D A [(h_wb, .inl (cy_wb, 600, .inl f_wb)), (h_wh, .inl (cy_wh, 2048, .inl f7)), (h_bd, .inr (1, (mo9 v_bd (.ref h_td) (.ref h_bnd)))), (h_bnd, .inl (cy_bnd, 256, .inl f_bnd)), (h_td, .inr (5, (mo21 v_td (.ref h_nam) (.ref h_var) (.ref h_trm) (.ref h_ter)))), (h_nam, .inl (cy_nam, 300, .inr (.inl f_nam))), (h_var, .inl (cy_var, 300, .inl f_var)), (h_trm, .inl (cy_trm, 300, .inl f_trm)), (h_ter, .inl (cy_ter, 900, .inl f_ter)), (h_wr, .inr (6, (mo36 vq46 (.ref h_wd) (.int z48)))), (h_wd, .inl (cy_wd, 616, .inl f49))] := hD9
            have hS := hS9
            clear hP9 hD9 hS9
            rw [evq46] at hP hD
            replace hP : va_P (dC, dI) cls [(h_wb, .inl (cy_wb, 600, .inl f_wb)), (h_wh, .inl (cy_wh, 2048, .inl f7)), (h_bd, .inr (1, (mo9 v_bd (.ref h_td) (.ref h_bnd)))), (h_bnd, .inl (cy_bnd, 256, .inl f_bnd)), (h_td, .inr (5, (mo21 v_td (.ref h_nam) (.ref h_var) (.ref h_trm) (.ref h_ter)))), (h_nam, .inl (cy_nam, 300, .inr (.inl f_nam))), (h_var, .inl (cy_var, 300, .inl f_var)), (h_trm, .inl (cy_trm, 300, .inl f_trm)), (h_ter, .inl (cy_ter, 900, .inl f_ter)), (h_wr, .inr (6, (mo39 (.ref h_td) (.ref h_bd) (.ref h_wb) (.int x_wr_length) (.ref h_wd) (.int z48) (.ref h_wh) (.int z22)))), (h_wd, .inl (cy_wd, 616, .inl f49))] H := hP
            replace hD : va_D A [(h_wb, .inl (cy_wb, 600, .inl f_wb)), (h_wh, .inl (cy_wh, 2048, .inl f7)), (h_bd, .inr (1, (mo9 v_bd (.ref h_td) (.ref h_bnd)))), (h_bnd, .inl (cy_bnd, 256, .inl f_bnd)), (h_td, .inr (5, (mo21 v_td (.ref h_nam) (.ref h_var) (.ref h_trm) (.ref h_ter)))), (h_nam, .inl (cy_nam, 300, .inr (.inl f_nam))), (h_var, .inl (cy_var, 300, .inl f_var)), (h_trm, .inl (cy_trm, 300, .inl f_trm)), (h_ter, .inl (cy_ter, 900, .inl f_ter)), (h_wr, .inr (6, (mo39 (.ref h_td) (.ref h_bd) (.ref h_wb) (.int x_wr_length) (.ref h_wd) (.int z48) (.ref h_wh) (.int z22)))), (h_wd, .inl (cy_wd, 616, .inl f49))] := hD
            clear evq46 
            obtain ⟨k50, k51⟩ := hq
            replace k50 : 0 ≤ ((z48)).toInt ∧ ((z48)).toInt ≤ 616 := k50
            replace k51 : (616 ≤ ((x4)).toInt ∧ ((z48)).toInt = ((x4)).toInt) ∨ (((x4)).toInt < 616 ∧ ((z48)).toInt = ((x4)).toInt + 1) := k51
            refine lv_goto (tgt := 111) hx hb dX9_write_88 (by decide) ?_
            have sg9 := smL_ge (V := (CVW f_nam f_var f_trm f_ter)) (ds := gh8) (h := f7) (Int.toNat (z22).toInt)
            obtain ⟨z52, ez52⟩ : ∃ y : Int32, y = x3 + 1 := ⟨_, rfl⟩
            have tz52 : (z52).toInt = (x3).toInt + 1 := by rw [ez52]; exact i_add rfl (by decide) (by omega)
            refine lv_iinc (v := z52) (lv' := [(4, .int z52), (0, .ref h_wr), (1, .int p1), (2, .int p2), (3, .int 600)]) hx hb dX9_write_111 hl (k := 4) rfl (by rw [ez52]; rfl) (by decide) rfl (fun ls hl => ?_)
            refine lv_goto (tgt := 30) hx hb dX9_write_114 (by decide) ?_
            replace hP : va_P (dC, dI) cls [(h_wr, .inr (6, (mo39 (.ref h_td) (.ref h_bd) (.ref h_wb) (.int x_wr_length) (.ref h_wd) (.int z48) (.ref h_wh) (.int z22)))), (h_wb, .inl (cy_wb, 600, .inl f_wb)), (h_wd, .inl (cy_wd, 616, .inl f49)), (h_wh, .inl (cy_wh, 2048, .inl f7)), (h_bd, .inr (1, (mo9 v_bd (.ref h_td) (.ref h_bnd)))), (h_bnd, .inl (cy_bnd, 256, .inl f_bnd)), (h_td, .inr (5, (mo21 v_td (.ref h_nam) (.ref h_var) (.ref h_trm) (.ref h_ter)))), (h_nam, .inl (cy_nam, 300, .inr (.inl f_nam))), (h_var, .inl (cy_var, 300, .inl f_var)), (h_trm, .inl (cy_trm, 300, .inl f_trm)), (h_ter, .inl (cy_ter, 900, .inl f_ter))] H := hP.sub [9, 0, 10, 1, 2, 3, 4, 5, 6, 7, 8] rfl
            replace hD : va_D A [(h_wr, .inr (6, (mo39 (.ref h_td) (.ref h_bd) (.ref h_wb) (.int x_wr_length) (.ref h_wd) (.int z48) (.ref h_wh) (.int z22)))), (h_wb, .inl (cy_wb, 600, .inl f_wb)), (h_wd, .inl (cy_wd, 616, .inl f49)), (h_wh, .inl (cy_wh, 2048, .inl f7)), (h_bd, .inr (1, (mo9 v_bd (.ref h_td) (.ref h_bnd)))), (h_bnd, .inl (cy_bnd, 256, .inl f_bnd)), (h_td, .inr (5, (mo21 v_td (.ref h_nam) (.ref h_var) (.ref h_trm) (.ref h_ter)))), (h_nam, .inl (cy_nam, 300, .inr (.inl f_nam))), (h_var, .inl (cy_var, 300, .inl f_var)), (h_trm, .inl (cy_trm, 300, .inl f_trm)), (h_ter, .inl (cy_ter, 900, .inl f_ter))] := hD.sub [9, 0, 10, 1, 2, 3, 4, 5, 6, 7, 8] (by decide) rfl
            exact ih10 (z52) (z48) (z22) (f49) (f7) (gh8) _ _ _ (by omega) (by first | exact k50 | omega) (by omega) hf7 (by omega) (by omega) (by omega) (okl_cast ol9 (by omega)) (by omega) hP hD hS (lv_sub hl [1, 2, 3, 4, 0] rfl)
    have cst0 : (0 : Int32).toInt = 0 := by decide
    have cst1 : (1 : Int32).toInt = 1 := by decide
    exact lp9 _ (0) (0) (1) (f_wd) (f2) ((fun _ => 7)) _ _ _ (by decide) (by decide) (by decide) hf2 (by omega) (by omega) (by omega) (okl_cast ok0 (by omega)) (Nat.le_refl _) hP hD hS (lv_sub hl [1, 2, 3, 4, 0] rfl)
  · have kc1 := (not_congr (cv_eq (rfl : (p2).toInt = (p2).toInt) (by decide : (0 : Int32).toInt = 0))).mp c1
    refine lv_aload_n hx hb dX9_write_9 rfl (lv_at hl 0 rfl) ?_
    refine lv_bipush (v := 45) hx hb dX9_write_10 (by decide) ?_
    obtain ⟨vq53, evq53⟩ := mq39_36 (.ref h_td) (.ref h_bd) (.ref h_wb) (.int x_wr_length) (.ref h_wh) (.int x_wr_held)
    replace hP : va_P (dC, dI) cls [(h_wr, .inr (6, (mo36 vq53 (.ref h_wd) (.int 0)))), (h_wb, .inl (cy_wb, 600, .inl f_wb)), (h_wd, .inl (cy_wd, 616, .inl f_wd)), (h_wh, .inl (cy_wh, 2048, .inl f_wh)), (h_bd, .inr (1, (mo9 v_bd (.ref h_td) (.ref h_bnd)))), (h_bnd, .inl (cy_bnd, 256, .inl f_bnd)), (h_td, .inr (5, (mo21 v_td (.ref h_nam) (.ref h_var) (.ref h_trm) (.ref h_ter)))), (h_nam, .inl (cy_nam, 300, .inr (.inl f_nam))), (h_var, .inl (cy_var, 300, .inl f_var)), (h_trm, .inl (cy_trm, 300, .inl f_trm)), (h_ter, .inl (cy_ter, 900, .inl f_ter))] H := by rw [evq53]; exact hP
    replace hD : va_D A [(h_wr, .inr (6, (mo36 vq53 (.ref h_wd) (.int 0)))), (h_wb, .inl (cy_wb, 600, .inl f_wb)), (h_wd, .inl (cy_wd, 616, .inl f_wd)), (h_wh, .inl (cy_wh, 2048, .inl f_wh)), (h_bd, .inr (1, (mo9 v_bd (.ref h_td) (.ref h_bnd)))), (h_bnd, .inl (cy_bnd, 256, .inl f_bnd)), (h_td, .inr (5, (mo21 v_td (.ref h_nam) (.ref h_var) (.ref h_trm) (.ref h_ter)))), (h_nam, .inl (cy_nam, 300, .inr (.inl f_nam))), (h_var, .inl (cy_var, 300, .inl f_var)), (h_trm, .inl (cy_trm, 300, .inl f_trm)), (h_ter, .inl (cy_ter, 900, .inl f_ter))] := by rw [evq53]; exact hD
    have cst45 : (45 : Int32).toInt = 45 := by decide
    have hPc := hP.sub (ws' := [(h_wr, .inr (6, (mo36 vq53 (.ref h_wd) (.int 0)))), (h_wd, .inl (cy_wd, 616, .inl f_wd))]) [0, 2] rfl
    have hDc := hD.sub (ws' := [(h_wr, .inr (6, (mo36 vq53 (.ref h_wd) (.int 0)))), (h_wd, .inl (cy_wd, 616, .inl f_wd))]) [0, 2] (by decide) rfl
    have hKc := hK.sub (tys' := [(cy_wd, .int)]) [1] rfl
    have hFc := va_free (wc := [(h_wr, .inr (6, (mo36 vq53 (.ref h_wd) (.int 0)))), (h_wd, .inl (cy_wd, 616, .inl f_wd))]) hD hS hA [0, 2] rfl
    refine va_callv (va_runV (As := [.int 45]) (rest := []) ⟨hx, hb, hml, hown, hts⟩ (c_X9_put l dC dI H.size h_wr h_wd vq53 0 cy_wd f_wd 45 (by decide)) (cwV 1 hts (gv hT w_m_X9_33 w_instanceMethod_X9_put ws_sel_X9_put w_ini_X9 w_code_X9_put) rfl rfl rfl (by decide +kernel) ⟨(Nat.le_of_ble_eq_true rfl), (Nat.le_of_ble_eq_true rfl)⟩) ⟨pre_blind, va_recv hK hP (ci := 6) (q0 := 0) rfl rfl, pre_of hPc hKc hDc hN⟩ rfl rfl hl.1 rfl (lv_room (Nat.le_of_ble_eq_true rfl)) dX9_write_12 ⟨(Nat.le_of_ble_eq_true rfl), (Nat.le_of_ble_eq_true rfl)⟩) hS (fun q _ h => hFc q h) hFc (fun u t H locs ht hvm hq hB hz1 hk1 hS9 => ?_)
    obtain ⟨z55, f56⟩ := u
    obtain ⟨hP1, hD1⟩ := hB
    rw [ht] at hP1
    obtain ⟨hP9, hD9⟩ := va_join (wr := [(h_wb, .inl (cy_wb, 600, .inl f_wb)), (h_wh, .inl (cy_wh, 2048, .inl f_wh)), (h_bd, .inr (1, (mo9 v_bd (.ref h_td) (.ref h_bnd)))), (h_bnd, .inl (cy_bnd, 256, .inl f_bnd)), (h_td, .inr (5, (mo21 v_td (.ref h_nam) (.ref h_var) (.ref h_trm) (.ref h_ter)))), (h_nam, .inl (cy_nam, 300, .inr (.inl f_nam))), (h_var, .inl (cy_var, 300, .inl f_var)), (h_trm, .inl (cy_trm, 300, .inl f_trm)), (h_ter, .inl (cy_ter, 900, .inl f_ter))]) (w1 := [(h_wr, .inr (6, (mo36 vq53 (.ref h_wd) (.int z55)))), (h_wd, .inl (cy_wd, 616, .inl f56))]) hP hD [0, 2] [1, 3, 4, 5, 6, 7, 8, 9, 10] rfl rfl (by decide) (by decide) hk1 hFc hP1 hD1
    clear hP hD hS hPc hDc hKc hFc hP1 hD1 hk1 hz1 ht hvm
    have hP : va_P (dC, dI) cls [(h_wb, .inl (cy_wb, 600, .inl f_wb)), (h_wh, .inl (cy_wh, 2048, .inl f_wh)), (h_bd, .inr (1, (mo9 v_bd (.ref h_td) (.ref h_bnd)))), (h_bnd, .inl (cy_bnd, 256, .inl f_bnd)), (h_td, .inr (5, (mo21 v_td (.ref h_nam) (.ref h_var) (.ref h_trm) (.ref h_ter)))), (h_nam, .inl (cy_nam, 300, .inr (.inl f_nam))), (h_var, .inl (cy_var, 300, .inl f_var)), (h_trm, .inl (cy_trm, 300, .inl f_trm)), (h_ter, .inl (cy_ter, 900, .inl f_ter)), (h_wr, .inr (6, (mo36 vq53 (.ref h_wd) (.int z55)))), (h_wd, .inl (cy_wd, 616, .inl f56))] H := hP9
    have hD : va_D A [(h_wb, .inl (cy_wb, 600, .inl f_wb)), (h_wh, .inl (cy_wh, 2048, .inl f_wh)), (h_bd, .inr (1, (mo9 v_bd (.ref h_td) (.ref h_bnd)))), (h_bnd, .inl (cy_bnd, 256, .inl f_bnd)), (h_td, .inr (5, (mo21 v_td (.ref h_nam) (.ref h_var) (.ref h_trm) (.ref h_ter)))), (h_nam, .inl (cy_nam, 300, .inr (.inl f_nam))), (h_var, .inl (cy_var, 300, .inl f_var)), (h_trm, .inl (cy_trm, 300, .inl f_trm)), (h_ter, .inl (cy_ter, 900, .inl f_ter)), (h_wr, .inr (6, (mo36 vq53 (.ref h_wd) (.int z55)))), (h_wd, .inl (cy_wd, 616, .inl f56))] := hD9
    have hS := hS9
    clear hP9 hD9 hS9
    rw [evq53] at hP hD
    replace hP : va_P (dC, dI) cls [(h_wb, .inl (cy_wb, 600, .inl f_wb)), (h_wh, .inl (cy_wh, 2048, .inl f_wh)), (h_bd, .inr (1, (mo9 v_bd (.ref h_td) (.ref h_bnd)))), (h_bnd, .inl (cy_bnd, 256, .inl f_bnd)), (h_td, .inr (5, (mo21 v_td (.ref h_nam) (.ref h_var) (.ref h_trm) (.ref h_ter)))), (h_nam, .inl (cy_nam, 300, .inr (.inl f_nam))), (h_var, .inl (cy_var, 300, .inl f_var)), (h_trm, .inl (cy_trm, 300, .inl f_trm)), (h_ter, .inl (cy_ter, 900, .inl f_ter)), (h_wr, .inr (6, (mo39 (.ref h_td) (.ref h_bd) (.ref h_wb) (.int x_wr_length) (.ref h_wd) (.int z55) (.ref h_wh) (.int x_wr_held)))), (h_wd, .inl (cy_wd, 616, .inl f56))] H := hP
    replace hD : va_D A [(h_wb, .inl (cy_wb, 600, .inl f_wb)), (h_wh, .inl (cy_wh, 2048, .inl f_wh)), (h_bd, .inr (1, (mo9 v_bd (.ref h_td) (.ref h_bnd)))), (h_bnd, .inl (cy_bnd, 256, .inl f_bnd)), (h_td, .inr (5, (mo21 v_td (.ref h_nam) (.ref h_var) (.ref h_trm) (.ref h_ter)))), (h_nam, .inl (cy_nam, 300, .inr (.inl f_nam))), (h_var, .inl (cy_var, 300, .inl f_var)), (h_trm, .inl (cy_trm, 300, .inl f_trm)), (h_ter, .inl (cy_ter, 900, .inl f_ter)), (h_wr, .inr (6, (mo39 (.ref h_td) (.ref h_bd) (.ref h_wb) (.int x_wr_length) (.ref h_wd) (.int z55) (.ref h_wh) (.int x_wr_held)))), (h_wd, .inl (cy_wd, 616, .inl f56))] := hD
    clear evq53 
    obtain ⟨k57, k58⟩ := hq
    replace k57 : 0 ≤ ((z55)).toInt ∧ ((z55)).toInt ≤ 616 := k57
    replace k58 : (616 ≤ ((0 : Int32)).toInt ∧ ((z55)).toInt = ((0 : Int32)).toInt) ∨ (((0 : Int32)).toInt < 616 ∧ ((z55)).toInt = ((0 : Int32)).toInt + 1) := k58
    refine lv_aload_n hx hb dX9_write_15 rfl (lv_at hl 0 rfl) ?_
    refine va_get (D := (dC, dI)) (ci := 6) (v := .ref h_wh) (C := RX9) (T := TX9) (N := 8) hx hb hw iwX9 hown hK hP 9 rfl rfl 6 (by decide) (hw _ w_f_X9_18) (fun _ h9 => h9) rfl dX9_write_16 ?_
    refine lv_iconst (v := 0) hx hb dX9_write_19 (by decide) ?_
    refine lv_iload_n hx hb dX9_write_20 rfl (lv_at hl 1 rfl) ?_
    refine va_iast hx hb hK hP hD hS 1 2 rfl rfl (i := 0) (x := p1) (show ¬ _ from by decide) dX9_write_21 (fun H locs hP9 hD9 hS9 => ?_)
    obtain ⟨f59, ef59⟩ : ∃ g : Nat → Int32, g = upd f_wh (Int32.toNatClampNeg 0) p1 := ⟨_, rfl⟩
    clear hP hD hS
    have hP : va_P (dC, dI) cls [(h_wb, .inl (cy_wb, 600, .inl f_wb)), (h_wh, .inl (cy_wh, 2048, .inl f59)), (h_bd, .inr (1, (mo9 v_bd (.ref h_td) (.ref h_bnd)))), (h_bnd, .inl (cy_bnd, 256, .inl f_bnd)), (h_td, .inr (5, (mo21 v_td (.ref h_nam) (.ref h_var) (.ref h_trm) (.ref h_ter)))), (h_nam, .inl (cy_nam, 300, .inr (.inl f_nam))), (h_var, .inl (cy_var, 300, .inl f_var)), (h_trm, .inl (cy_trm, 300, .inl f_trm)), (h_ter, .inl (cy_ter, 900, .inl f_ter)), (h_wr, .inr (6, (mo39 (.ref h_td) (.ref h_bd) (.ref h_wb) (.int x_wr_length) (.ref h_wd) (.int z55) (.ref h_wh) (.int x_wr_held)))), (h_wd, .inl (cy_wd, 616, .inl f56))] H := by rw [ef59]; exact hP9
    have hD : va_D A [(h_wb, .inl (cy_wb, 600, .inl f_wb)), (h_wh, .inl (cy_wh, 2048, .inl f59)), (h_bd, .inr (1, (mo9 v_bd (.ref h_td) (.ref h_bnd)))), (h_bnd, .inl (cy_bnd, 256, .inl f_bnd)), (h_td, .inr (5, (mo21 v_td (.ref h_nam) (.ref h_var) (.ref h_trm) (.ref h_ter)))), (h_nam, .inl (cy_nam, 300, .inr (.inl f_nam))), (h_var, .inl (cy_var, 300, .inl f_var)), (h_trm, .inl (cy_trm, 300, .inl f_trm)), (h_ter, .inl (cy_ter, 900, .inl f_ter)), (h_wr, .inr (6, (mo39 (.ref h_td) (.ref h_bd) (.ref h_wb) (.int x_wr_length) (.ref h_wd) (.int z55) (.ref h_wh) (.int x_wr_held)))), (h_wd, .inl (cy_wd, 616, .inl f56))] := by rw [ef59]; exact hD9
    have hS := hS9
    clear hP9 hD9 hS9
    have hf59 : Rg (-127) 9599 f59 := by rw [ef59]; exact rg_upd hf_wh (by omega)
    obtain ⟨ok0, sm0⟩ := okl_one (V := (CVW f_nam f_var f_trm f_ter)) (i := 0) (by decide) ef59 (by omega) hn_wgx
    refine lv_aload_n hx hb dX9_write_22 rfl (lv_at hl 0 rfl) ?_
    refine lv_iconst (v := 1) hx hb dX9_write_23 (by decide) ?_
    refine va_put (D := (dC, dI)) (ci := 6) (v := .int 1) (ty := tyX9 7) (C := RX9) (T := TX9) (N := 8) hx hb hw iwX9 tyX9 tyX9_ok nmX9 hown hK hP hD hS 9 rfl rfl 7 (by decide) (hw _ w_f_X9_37) (fun _ h9 => h9) rfl (tyX9_ok 7 (by decide)) rfl rfl (Nat.le_of_ble_eq_true rfl) dX9_write_24 (fun H locs hP9 hD9 hS9 => ?_)
    clear hP hD hS
    have hP : va_P (dC, dI) cls [(h_wb, .inl (cy_wb, 600, .inl f_wb)), (h_wh, .inl (cy_wh, 2048, .inl f59)), (h_bd, .inr (1, (mo9 v_bd (.ref h_td) (.ref h_bnd)))), (h_bnd, .inl (cy_bnd, 256, .inl f_bnd)), (h_td, .inr (5, (mo21 v_td (.ref h_nam) (.ref h_var) (.ref h_trm) (.ref h_ter)))), (h_nam, .inl (cy_nam, 300, .inr (.inl f_nam))), (h_var, .inl (cy_var, 300, .inl f_var)), (h_trm, .inl (cy_trm, 300, .inl f_trm)), (h_ter, .inl (cy_ter, 900, .inl f_ter)), (h_wr, .inr (6, (mo39 (.ref h_td) (.ref h_bd) (.ref h_wb) (.int x_wr_length) (.ref h_wd) (.int z55) (.ref h_wh) (.int 1)))), (h_wd, .inl (cy_wd, 616, .inl f56))] H := hP9
    have hD : va_D A [(h_wb, .inl (cy_wb, 600, .inl f_wb)), (h_wh, .inl (cy_wh, 2048, .inl f59)), (h_bd, .inr (1, (mo9 v_bd (.ref h_td) (.ref h_bnd)))), (h_bnd, .inl (cy_bnd, 256, .inl f_bnd)), (h_td, .inr (5, (mo21 v_td (.ref h_nam) (.ref h_var) (.ref h_trm) (.ref h_ter)))), (h_nam, .inl (cy_nam, 300, .inr (.inl f_nam))), (h_var, .inl (cy_var, 300, .inl f_var)), (h_trm, .inl (cy_trm, 300, .inl f_trm)), (h_ter, .inl (cy_ter, 900, .inl f_ter)), (h_wr, .inr (6, (mo39 (.ref h_td) (.ref h_bd) (.ref h_wb) (.int x_wr_length) (.ref h_wd) (.int z55) (.ref h_wh) (.int 1)))), (h_wd, .inl (cy_wd, 616, .inl f56))] := hD9
    have hS := hS9
    clear hP9 hD9 hS9
    refine lv_iconst (v := 0) hx hb dX9_write_27 (by decide) ?_
    refine lv_istore (lv' := [(4, .int 0), (0, .ref h_wr), (1, .int p1), (2, .int p2), (3, .int 600)]) hx hb dX9_write_28 hl (by decide) rfl (fun ls hl => ?_)
    have se9 : smL (CVW f_nam f_var f_trm f_ter) (fun _ => 7) f59 (Int.toNat ((1 : Int32)).toInt) = smL (CVW f_nam f_var f_trm f_ter) (fun _ => 7) f59 1 := rfl
    have lp66 : ∀ (n : Nat) (x60 : Int32) (f61 : Nat → Int32) (x62 : Int32) (x63 : Int32) (f64 : Nat → Int32) (gh65 : Nat → Nat) (H : Heap) (locs : List Loc) (ls : Array Slot), (0 ≤ (x60).toInt ∧ (x60).toInt ≤ 600) → (Rg (-127) 9599 f61) → (0 ≤ (x62).toInt ∧ (x62).toInt ≤ 616) → (0 ≤ (x63).toInt ∧ (x63).toInt ≤ 2048) → ((x62).toInt + smL (CVW f_nam f_var f_trm f_ter) gh65 f61 (Int.toNat ((x63).toInt)) = (p2).toInt + lnX (nlQ 8) (CVW f_nam f_var f_trm f_ter) 7 ((p1).toInt - 9000).toNat) → (2 * (x63).toInt ≤ 2 + 5 * (x62).toInt) → ((x60).toInt ≤ (x62).toInt) → (OKL (CVW f_nam f_var f_trm f_ter) gh65 f61 (x63).toInt) → (1000000 - (x60).toInt).toNat + 1 ≤ n → va_P (dC, dI) cls [(h_wb, .inl (cy_wb, 600, .inl f_wb)), (h_wh, .inl (cy_wh, 2048, .inl f61)), (h_bd, .inr (1, (mo9 v_bd (.ref h_td) (.ref h_bnd)))), (h_bnd, .inl (cy_bnd, 256, .inl f_bnd)), (h_td, .inr (5, (mo21 v_td (.ref h_nam) (.ref h_var) (.ref h_trm) (.ref h_ter)))), (h_nam, .inl (cy_nam, 300, .inr (.inl f_nam))), (h_var, .inl (cy_var, 300, .inl f_var)), (h_trm, .inl (cy_trm, 300, .inl f_trm)), (h_ter, .inl (cy_ter, 900, .inl f_ter)), (h_wr, .inr (6, (mo39 (.ref h_td) (.ref h_bd) (.ref h_wb) (.int x_wr_length) (.ref h_wd) (.int x62) (.ref h_wh) (.int x63)))), (h_wd, .inl (cy_wd, 616, .inl f64))] H → va_D A [(h_wb, .inl (cy_wb, 600, .inl f_wb)), (h_wh, .inl (cy_wh, 2048, .inl f61)), (h_bd, .inr (1, (mo9 v_bd (.ref h_td) (.ref h_bnd)))), (h_bnd, .inl (cy_bnd, 256, .inl f_bnd)), (h_td, .inr (5, (mo21 v_td (.ref h_nam) (.ref h_var) (.ref h_trm) (.ref h_ter)))), (h_nam, .inl (cy_nam, 300, .inr (.inl f_nam))), (h_var, .inl (cy_var, 300, .inl f_var)), (h_trm, .inl (cy_trm, 300, .inl f_trm)), (h_ter, .inl (cy_ter, 900, .inl f_ter)), (h_wr, .inr (6, (mo39 (.ref h_td) (.ref h_bd) (.ref h_wb) (.int x_wr_length) (.ref h_wd) (.int x62) (.ref h_wh) (.int x63)))), (h_wd, .inl (cy_wd, 616, .inl f64))] → va_S A s.heap H locs → lv_has ls 5 [(0, .ref h_wr), (1, .int p1), (2, .int p2), (3, .int 600), (4, .int x60)] → W p l e ({ frames := 3, cells := 0, slots := 0, locals := 80 } : Room) s m ([.ref h_wr, .int p1, .int p2, .int 600] : List Value).toArray below meth c H locs 0 0 (MQ below (va_Qi (fun (r : Int32) (u : (Int32) × (Int32) × (Int32) × (Nat → Int32) × (Nat → Int32) × (Nat → Int32)) => (0 ≤ (u.1).toInt ∧ (u.1).toInt ≤ 600) ∧ (0 ≤ (u.2.1).toInt ∧ (u.2.1).toInt ≤ 616) ∧ (0 ≤ (u.2.2.1).toInt ∧ (u.2.2.1).toInt ≤ 2048) ∧ (Rg (-127) 9599 u.2.2.2.2.2) ∧ ((r).toInt = (p2).toInt + lnX (nlQ 8) (CVW f_nam f_var f_trm f_ter) 7 ((p1).toInt - 9000).toNat)) (fun (u : (Int32) × (Int32) × (Int32) × (Nat → Int32) × (Nat → Int32) × (Nat → Int32)) (t : State) => va_P (dC, dI) cls [(h_wr, .inr (6, (mo39 (.ref h_td) (.ref h_bd) (.ref h_wb) (.int u.1) (.ref h_wd) (.int u.2.1) (.ref h_wh) (.int u.2.2.1)))), (h_wb, .inl (cy_wb, 600, .inl u.2.2.2.1)), (h_wd, .inl (cy_wd, 616, .inl u.2.2.2.2.1)), (h_wh, .inl (cy_wh, 2048, .inl u.2.2.2.2.2)), (h_bd, .inr (1, (mo9 v_bd (.ref h_td) (.ref h_bnd)))), (h_bnd, .inl (cy_bnd, 256, .inl f_bnd)), (h_td, .inr (5, (mo21 v_td (.ref h_nam) (.ref h_var) (.ref h_trm) (.ref h_ter)))), (h_nam, .inl (cy_nam, 300, .inr (.inl f_nam))), (h_var, .inl (cy_var, 300, .inl f_var)), (h_trm, .inl (cy_trm, 300, .inl f_trm)), (h_ter, .inl (cy_ter, 900, .inl f_ter))] t.heap ∧ va_D A [(h_wr, .inr (6, (mo39 (.ref h_td) (.ref h_bd) (.ref h_wb) (.int u.1) (.ref h_wd) (.int u.2.1) (.ref h_wh) (.int u.2.2.1)))), (h_wb, .inl (cy_wb, 600, .inl u.2.2.2.1)), (h_wd, .inl (cy_wd, 616, .inl u.2.2.2.2.1)), (h_wh, .inl (cy_wh, 2048, .inl u.2.2.2.2.2)), (h_bd, .inr (1, (mo9 v_bd (.ref h_td) (.ref h_bnd)))), (h_bnd, .inl (cy_bnd, 256, .inl f_bnd)), (h_td, .inr (5, (mo21 v_td (.ref h_nam) (.ref h_var) (.ref h_trm) (.ref h_ter)))), (h_nam, .inl (cy_nam, 300, .inr (.inl f_nam))), (h_var, .inl (cy_var, 300, .inl f_var)), (h_trm, .inl (cy_trm, 300, .inl f_trm)), (h_ter, .inl (cy_ter, 900, .inl f_ter))]) A) ([.ref h_wr, .int p1, .int p2, .int 600] : List Value).toArray s 0 0 A) (F0 m 30 ls []) := by
      clear hP hD hS hl
      intro n
      induction n with
      | zero => intro x60 f61 x62 x63 f64 gh65 H locs ls klp66_0 hf61 klp66_2 klp66_3 klp66_4 klp66_5 klp66_6 klp66_7 hm hP hD hS hl; exact False.elim (by omega)
      | succ n ih => 
        intro x60 f61 x62 x63 f64 gh65 H locs ls klp66_0 hf61 klp66_2 klp66_3 klp66_4 klp66_5 klp66_6 klp66_7 hm hP hD hS hl
        have ih67 := ih
        clear ih
        refine lv_iload hx hb dX9_write_30 (lv_at hl 4 rfl) ?_
        have sg9 := smL_ge (V := (CVW f_nam f_var f_trm f_ter)) (ds := gh65) (h := f61) (Int.toNat (x63).toInt)
        refine lv_ldc (v := 1000000) hx hb hown (hw _ w_k_X9_40) dX9_write_32 ?_
        refine lv_icmp_ge (tgt := 117) hx hb dX9_write_34 (by decide) (fun c68 => False.elim (by have kc68 := (cv_le (by decide : (1000000 : Int32).toInt = 1000000) (rfl : (x60).toInt = (x60).toInt)).mp c68; omega)) (fun _ => ?_)
        refine lv_aload_n hx hb dX9_write_37 rfl (lv_at hl 0 rfl) ?_
        refine va_get (D := (dC, dI)) (ci := 6) (v := .int x63) (C := RX9) (T := TX9) (N := 8) hx hb hw iwX9 hown hK hP 9 rfl rfl 7 (by decide) (hw _ w_f_X9_37) (fun _ h9 => h9) rfl dX9_write_38 ?_
        refine lv_if_le (tgt := 117) hx hb dX9_write_41 (by decide) (fun c69 => ?_) (fun c69 => ?_)
        · have kc69 := (cv_le (rfl : (x63).toInt = (x63).toInt) (by decide : (0 : Int32).toInt = 0)).mp c69
          refine lv_aload_n hx hb dX9_write_117 rfl (lv_at hl 0 rfl) ?_
          refine va_get (D := (dC, dI)) (ci := 6) (v := .int x63) (C := RX9) (T := TX9) (N := 8) hx hb hw iwX9 hown hK hP 9 rfl rfl 7 (by decide) (hw _ w_f_X9_37) (fun _ h9 => h9) rfl dX9_write_118 ?_
          refine lv_if_gt (tgt := 142) hx hb dX9_write_121 (by decide) (fun c70 => False.elim (by have kc70 := (cv_lt (by decide : (0 : Int32).toInt = 0) (rfl : (x63).toInt = (x63).toInt)).mp c70; omega)) (fun _ => ?_)
          have sz9 : smL (CVW f_nam f_var f_trm f_ter) gh65 f61 (Int.toNat (x63).toInt) = 0 := by rw [show Int.toNat (x63).toInt = 0 by omega]; rfl
          refine lv_aload_n hx hb dX9_write_124 rfl (lv_at hl 0 rfl) ?_
          refine va_get (D := (dC, dI)) (ci := 6) (v := .int x62) (C := RX9) (T := TX9) (N := 8) hx hb hw iwX9 hown hK hP 9 rfl rfl 5 (by decide) (hw _ w_f_X9_29) (fun _ h9 => h9) rfl dX9_write_125 ?_
          refine lv_iload_n hx hb dX9_write_128 rfl (lv_at hl 3 rfl) ?_
          refine lv_icmp_gt (tgt := 142) hx hb dX9_write_129 (by decide) (fun c71 => False.elim (by have kc71 := (cv_lt (by decide : (600 : Int32).toInt = 600) (rfl : (x62).toInt = (x62).toInt)).mp c71; omega)) (fun _ => ?_)
          refine lv_aload_n hx hb dX9_write_132 rfl (lv_at hl 0 rfl) ?_
          refine va_get (D := (dC, dI)) (ci := 6) (v := .int x62) (C := RX9) (T := TX9) (N := 8) hx hb hw iwX9 hown hK hP 9 rfl rfl 5 (by decide) (hw _ w_f_X9_29) (fun _ h9 => h9) rfl dX9_write_133 ?_
          refine lv_sipush (v := 600) hx hb dX9_write_136 (by decide) ?_
          refine lv_icmp_le (tgt := 144) hx hb dX9_write_139 (by decide) (fun _ => ?_) (fun c72 => False.elim (by have kc72 := (not_congr (cv_le (rfl : (x62).toInt = (x62).toInt) (by decide : (600 : Int32).toInt = 600))).mp c72; omega))
          refine lv_aload_n hx hb dX9_write_144 rfl (lv_at hl 0 rfl) ?_
          refine va_get (D := (dC, dI)) (ci := 6) (v := .ref h_wd) (C := RX9) (T := TX9) (N := 8) hx hb hw iwX9 hown hK hP 9 rfl rfl 4 (by decide) (hw _ w_f_X9_15) (fun _ h9 => h9) rfl dX9_write_145 ?_
          refine lv_iconst (v := 0) hx hb dX9_write_148 (by decide) ?_
          refine lv_aload_n hx hb dX9_write_149 rfl (lv_at hl 0 rfl) ?_
          refine va_get (D := (dC, dI)) (ci := 6) (v := .ref h_wb) (C := RX9) (T := TX9) (N := 8) hx hb hw iwX9 hown hK hP 9 rfl rfl 2 (by decide) (hw _ w_f_X9_9) (fun _ h9 => h9) rfl dX9_write_150 ?_
          refine lv_iconst (v := 0) hx hb dX9_write_153 (by decide) ?_
          refine lv_aload_n hx hb dX9_write_154 rfl (lv_at hl 0 rfl) ?_
          refine va_get (D := (dC, dI)) (ci := 6) (v := .int x62) (C := RX9) (T := TX9) (N := 8) hx hb hw iwX9 hown hK hP 9 rfl rfl 5 (by decide) (hw _ w_f_X9_29) (fun _ h9 => h9) rfl dX9_write_155 ?_
          refine va_copyi hx hb (hml.trans hl.1.symm) hown (hw _ w_m_X9_50) (hw _ w_acn) (hw _ w_acs) (hw _ w_ini_System) hK hP hD hS 10 0 1 0 (sp := 0) (dp := 0) (n := x62) rfl rfl rfl rfl rfl (by decide) (by decide) (fun q => by have := (cv_lt (rfl : (x62).toInt = (x62).toInt) (by decide : (0 : Int32).toInt = 0)).mp q; omega) (by have : (0 : Int32).toNatClampNeg = 0 := (by decide); have := clamp_toInt (i := x62) (by omega); omega) (by have : (0 : Int32).toNatClampNeg = 0 := (by decide); have := clamp_toInt (i := x62) (by omega); omega) (fun _ _ => rfl) (Nat.le_of_ble_eq_true rfl) (Nat.le_of_ble_eq_true rfl) dX9_write_158 (fun H locs hP hD hS => ?_)
          obtain ⟨f73, ef73⟩ : ∃ g : Nat → Int32, g = va_cpy f64 f_wb (Int32.toNatClampNeg 0) (Int32.toNatClampNeg 0) (Int32.toNatClampNeg x62) := ⟨_, rfl⟩
          have hP : va_P (dC, dI) cls [(h_wb, .inl (cy_wb, 600, .inl f73)), (h_wh, .inl (cy_wh, 2048, .inl f61)), (h_bd, .inr (1, (mo9 v_bd (.ref h_td) (.ref h_bnd)))), (h_bnd, .inl (cy_bnd, 256, .inl f_bnd)), (h_td, .inr (5, (mo21 v_td (.ref h_nam) (.ref h_var) (.ref h_trm) (.ref h_ter)))), (h_nam, .inl (cy_nam, 300, .inr (.inl f_nam))), (h_var, .inl (cy_var, 300, .inl f_var)), (h_trm, .inl (cy_trm, 300, .inl f_trm)), (h_ter, .inl (cy_ter, 900, .inl f_ter)), (h_wr, .inr (6, (mo39 (.ref h_td) (.ref h_bd) (.ref h_wb) (.int x_wr_length) (.ref h_wd) (.int x62) (.ref h_wh) (.int x63)))), (h_wd, .inl (cy_wd, 616, .inl f64))] H := by rw [ef73]; exact hP
          have hD : va_D A [(h_wb, .inl (cy_wb, 600, .inl f73)), (h_wh, .inl (cy_wh, 2048, .inl f61)), (h_bd, .inr (1, (mo9 v_bd (.ref h_td) (.ref h_bnd)))), (h_bnd, .inl (cy_bnd, 256, .inl f_bnd)), (h_td, .inr (5, (mo21 v_td (.ref h_nam) (.ref h_var) (.ref h_trm) (.ref h_ter)))), (h_nam, .inl (cy_nam, 300, .inr (.inl f_nam))), (h_var, .inl (cy_var, 300, .inl f_var)), (h_trm, .inl (cy_trm, 300, .inl f_trm)), (h_ter, .inl (cy_ter, 900, .inl f_ter)), (h_wr, .inr (6, (mo39 (.ref h_td) (.ref h_bd) (.ref h_wb) (.int x_wr_length) (.ref h_wd) (.int x62) (.ref h_wh) (.int x63)))), (h_wd, .inl (cy_wd, 616, .inl f64))] := by rw [ef73]; exact hD
          clear ef73
          refine lv_aload_n hx hb dX9_write_161 rfl (lv_at hl 0 rfl) ?_
          refine lv_aload_n hx hb dX9_write_162 rfl (lv_at hl 0 rfl) ?_
          refine va_get (D := (dC, dI)) (ci := 6) (v := .int x62) (C := RX9) (T := TX9) (N := 8) hx hb hw iwX9 hown hK hP 9 rfl rfl 5 (by decide) (hw _ w_f_X9_29) (fun _ h9 => h9) rfl dX9_write_163 ?_
          refine va_put (D := (dC, dI)) (ci := 6) (v := .int x62) (ty := tyX9 3) (C := RX9) (T := TX9) (N := 8) hx hb hw iwX9 tyX9 tyX9_ok nmX9 hown hK hP hD hS 9 rfl rfl 3 (by decide) (hw _ w_f_X9_56) (fun _ h9 => h9) rfl (tyX9_ok 3 (by decide)) rfl rfl (Nat.le_of_ble_eq_true rfl) dX9_write_166 (fun H locs hP9 hD9 hS9 => ?_)
          clear hP hD hS
          have hP : va_P (dC, dI) cls [(h_wb, .inl (cy_wb, 600, .inl f73)), (h_wh, .inl (cy_wh, 2048, .inl f61)), (h_bd, .inr (1, (mo9 v_bd (.ref h_td) (.ref h_bnd)))), (h_bnd, .inl (cy_bnd, 256, .inl f_bnd)), (h_td, .inr (5, (mo21 v_td (.ref h_nam) (.ref h_var) (.ref h_trm) (.ref h_ter)))), (h_nam, .inl (cy_nam, 300, .inr (.inl f_nam))), (h_var, .inl (cy_var, 300, .inl f_var)), (h_trm, .inl (cy_trm, 300, .inl f_trm)), (h_ter, .inl (cy_ter, 900, .inl f_ter)), (h_wr, .inr (6, (mo39 (.ref h_td) (.ref h_bd) (.ref h_wb) (.int x62) (.ref h_wd) (.int x62) (.ref h_wh) (.int x63)))), (h_wd, .inl (cy_wd, 616, .inl f64))] H := hP9
          have hD : va_D A [(h_wb, .inl (cy_wb, 600, .inl f73)), (h_wh, .inl (cy_wh, 2048, .inl f61)), (h_bd, .inr (1, (mo9 v_bd (.ref h_td) (.ref h_bnd)))), (h_bnd, .inl (cy_bnd, 256, .inl f_bnd)), (h_td, .inr (5, (mo21 v_td (.ref h_nam) (.ref h_var) (.ref h_trm) (.ref h_ter)))), (h_nam, .inl (cy_nam, 300, .inr (.inl f_nam))), (h_var, .inl (cy_var, 300, .inl f_var)), (h_trm, .inl (cy_trm, 300, .inl f_trm)), (h_ter, .inl (cy_ter, 900, .inl f_ter)), (h_wr, .inr (6, (mo39 (.ref h_td) (.ref h_bd) (.ref h_wb) (.int x62) (.ref h_wd) (.int x62) (.ref h_wh) (.int x63)))), (h_wd, .inl (cy_wd, 616, .inl f64))] := hD9
          have hS := hS9
          clear hP9 hD9 hS9
          refine lv_aload_n hx hb dX9_write_169 rfl (lv_at hl 0 rfl) ?_
          refine va_get (D := (dC, dI)) (ci := 6) (v := .int x62) (C := RX9) (T := TX9) (N := 8) hx hb hw iwX9 hown hK hP 9 rfl rfl 3 (by decide) (hw _ w_f_X9_56) (fun _ h9 => h9) rfl dX9_write_170 ?_
          replace hP : va_P (dC, dI) cls [(h_wr, .inr (6, (mo39 (.ref h_td) (.ref h_bd) (.ref h_wb) (.int x62) (.ref h_wd) (.int x62) (.ref h_wh) (.int x63)))), (h_wb, .inl (cy_wb, 600, .inl f73)), (h_wd, .inl (cy_wd, 616, .inl f64)), (h_wh, .inl (cy_wh, 2048, .inl f61)), (h_bd, .inr (1, (mo9 v_bd (.ref h_td) (.ref h_bnd)))), (h_bnd, .inl (cy_bnd, 256, .inl f_bnd)), (h_td, .inr (5, (mo21 v_td (.ref h_nam) (.ref h_var) (.ref h_trm) (.ref h_ter)))), (h_nam, .inl (cy_nam, 300, .inr (.inl f_nam))), (h_var, .inl (cy_var, 300, .inl f_var)), (h_trm, .inl (cy_trm, 300, .inl f_trm)), (h_ter, .inl (cy_ter, 900, .inl f_ter))] H := hP.sub [9, 0, 10, 1, 2, 3, 4, 5, 6, 7, 8] rfl
          replace hD : va_D A [(h_wr, .inr (6, (mo39 (.ref h_td) (.ref h_bd) (.ref h_wb) (.int x62) (.ref h_wd) (.int x62) (.ref h_wh) (.int x63)))), (h_wb, .inl (cy_wb, 600, .inl f73)), (h_wd, .inl (cy_wd, 616, .inl f64)), (h_wh, .inl (cy_wh, 2048, .inl f61)), (h_bd, .inr (1, (mo9 v_bd (.ref h_td) (.ref h_bnd)))), (h_bnd, .inl (cy_bnd, 256, .inl f_bnd)), (h_td, .inr (5, (mo21 v_td (.ref h_nam) (.ref h_var) (.ref h_trm) (.ref h_ter)))), (h_nam, .inl (cy_nam, 300, .inr (.inl f_nam))), (h_var, .inl (cy_var, 300, .inl f_var)), (h_trm, .inl (cy_trm, 300, .inl f_trm)), (h_ter, .inl (cy_ter, 900, .inl f_ter))] := hD.sub [9, 0, 10, 1, 2, 3, 4, 5, 6, 7, 8] (by decide) rfl
          refine W.widen (k := 0) (n := 0) (Nat.le_of_ble_eq_true rfl) (Nat.le_of_ble_eq_true rfl) ?_
          have w74 : 0 ≤ ((x62)).toInt ∧ ((x62)).toInt ≤ 600 := by omega
          have w75 : 0 ≤ ((x62)).toInt ∧ ((x62)).toInt ≤ 616 := by first | exact klp66_2 | omega
          have w76 : 0 ≤ ((x63)).toInt ∧ ((x63)).toInt ≤ 2048 := by first | exact klp66_3 | omega
          have w77 : ((x62 : Int32)).toInt = (p2).toInt + lnX (nlQ 8) (CVW f_nam f_var f_trm f_ter) 7 ((p1).toInt - 9000).toNat := by omega
          exact W.iret (v := x62) hx hb hr (fun t ht hW => ⟨⟨x62, (x62, x62, x63, f73, f64, f61), rfl, ⟨w74, w75, w76, hf61, w77⟩, by rw [ht]; exact hP, hD⟩, hS.F ht⟩) hS.2.2 dX9_write_173
        · have kc69 := (not_congr (cv_le (rfl : (x63).toInt = (x63).toInt) (by decide : (0 : Int32).toInt = 0))).mp c69
          refine lv_aload_n hx hb dX9_write_44 rfl (lv_at hl 0 rfl) ?_
          refine va_get (D := (dC, dI)) (ci := 6) (v := .int x62) (C := RX9) (T := TX9) (N := 8) hx hb hw iwX9 hown hK hP 9 rfl rfl 5 (by decide) (hw _ w_f_X9_29) (fun _ h9 => h9) rfl dX9_write_45 ?_
          refine lv_iload_n hx hb dX9_write_48 rfl (lv_at hl 3 rfl) ?_
          refine lv_icmp_gt (tgt := 117) hx hb dX9_write_49 (by decide) (fun c78 => False.elim (by have kc78 := (cv_lt (by decide : (600 : Int32).toInt = 600) (rfl : (x62).toInt = (x62).toInt)).mp c78; omega)) (fun _ => ?_)
          refine lv_aload_n hx hb dX9_write_52 rfl (lv_at hl 0 rfl) ?_
          refine lv_dup hx hb dX9_write_53 rfl ?_
          refine va_get (D := (dC, dI)) (ci := 6) (v := .int x63) (C := RX9) (T := TX9) (N := 8) hx hb hw iwX9 hown hK hP 9 rfl rfl 7 (by decide) (hw _ w_f_X9_37) (fun _ h9 => h9) rfl dX9_write_54 ?_
          refine lv_iconst (v := 1) hx hb dX9_write_57 (by decide) ?_
          refine lv_isub hx hb dX9_write_58 ?_
          refine lv_topi (fun z79 ez79 => ?_)
          have tz79 : (z79).toInt = (x63).toInt - 1 := by rw [ez79]; exact i_sub rfl (by decide) (by omega)
          refine va_put (D := (dC, dI)) (ci := 6) (v := .int z79) (ty := tyX9 7) (C := RX9) (T := TX9) (N := 8) hx hb hw iwX9 tyX9 tyX9_ok nmX9 hown hK hP hD hS 9 rfl rfl 7 (by decide) (hw _ w_f_X9_37) (fun _ h9 => h9) rfl (tyX9_ok 7 (by decide)) rfl rfl (Nat.le_of_ble_eq_true rfl) dX9_write_59 (fun H locs hP9 hD9 hS9 => ?_)
          clear hP hD hS
          have hP : va_P (dC, dI) cls [(h_wb, .inl (cy_wb, 600, .inl f_wb)), (h_wh, .inl (cy_wh, 2048, .inl f61)), (h_bd, .inr (1, (mo9 v_bd (.ref h_td) (.ref h_bnd)))), (h_bnd, .inl (cy_bnd, 256, .inl f_bnd)), (h_td, .inr (5, (mo21 v_td (.ref h_nam) (.ref h_var) (.ref h_trm) (.ref h_ter)))), (h_nam, .inl (cy_nam, 300, .inr (.inl f_nam))), (h_var, .inl (cy_var, 300, .inl f_var)), (h_trm, .inl (cy_trm, 300, .inl f_trm)), (h_ter, .inl (cy_ter, 900, .inl f_ter)), (h_wr, .inr (6, (mo39 (.ref h_td) (.ref h_bd) (.ref h_wb) (.int x_wr_length) (.ref h_wd) (.int x62) (.ref h_wh) (.int z79)))), (h_wd, .inl (cy_wd, 616, .inl f64))] H := hP9
          have hD : va_D A [(h_wb, .inl (cy_wb, 600, .inl f_wb)), (h_wh, .inl (cy_wh, 2048, .inl f61)), (h_bd, .inr (1, (mo9 v_bd (.ref h_td) (.ref h_bnd)))), (h_bnd, .inl (cy_bnd, 256, .inl f_bnd)), (h_td, .inr (5, (mo21 v_td (.ref h_nam) (.ref h_var) (.ref h_trm) (.ref h_ter)))), (h_nam, .inl (cy_nam, 300, .inr (.inl f_nam))), (h_var, .inl (cy_var, 300, .inl f_var)), (h_trm, .inl (cy_trm, 300, .inl f_trm)), (h_ter, .inl (cy_ter, 900, .inl f_ter)), (h_wr, .inr (6, (mo39 (.ref h_td) (.ref h_bd) (.ref h_wb) (.int x_wr_length) (.ref h_wd) (.int x62) (.ref h_wh) (.int z79)))), (h_wd, .inl (cy_wd, 616, .inl f64))] := hD9
          have hS := hS9
          clear hP9 hD9 hS9
          refine lv_aload_n hx hb dX9_write_62 rfl (lv_at hl 0 rfl) ?_
          refine va_get (D := (dC, dI)) (ci := 6) (v := .ref h_wh) (C := RX9) (T := TX9) (N := 8) hx hb hw iwX9 hown hK hP 9 rfl rfl 6 (by decide) (hw _ w_f_X9_18) (fun _ h9 => h9) rfl dX9_write_63 ?_
          refine lv_aload_n hx hb dX9_write_66 rfl (lv_at hl 0 rfl) ?_
          refine va_get (D := (dC, dI)) (ci := 6) (v := .int z79) (C := RX9) (T := TX9) (N := 8) hx hb hw iwX9 hown hK hP 9 rfl rfl 7 (by decide) (hw _ w_f_X9_37) (fun _ h9 => h9) rfl dX9_write_67 ?_
          refine va_iald hx hb hK hP 1 2 rfl rfl (i := z79) (vp_in_iff.mpr (by omega)) dX9_write_70 ?_
          refine lv_topi (fun z80 ez80 => ?_)
          have rz80 : -127 ≤ (z80).toInt ∧ (z80).toInt ≤ 9599 := by rw [ez80]; exact hf61 _
          have oa9 := okl_at (i := z79) (z := z80) klp66_7 (by omega) ez80
          have sp9 := smL_pop (V := (CVW f_nam f_var f_trm f_ter)) (ds := gh65) (h := f61) (i := z79) (z := z80) (n := Int.toNat (x63).toInt) (by omega) (by omega) ez80
          have sq9 := smL_ge (V := (CVW f_nam f_var f_trm f_ter)) (ds := gh65) (h := f61) (z79).toInt.toNat
          have ol9 := okl_le (n' := (z79).toInt) klp66_7 (by omega)
          refine lv_if_ge (tgt := 91) hx hb dX9_write_71 (by decide) (fun c81 => ?_) (fun c81 => ?_)
          · have kc81 := (cv_le (by decide : (0 : Int32).toInt = 0) (rfl : (z80).toInt = (z80).toInt)).mp c81
            rw [wlX_pos (by omega)] at sp9
            obtain ⟨ob1, ob2, ob3⟩ := oa9.resolve_left (by omega)
            obtain ⟨d9, ed9⟩ := wgx_suc ob3
            rw [ed9] at sp9 ob3
            have lg9 := lnX_ge (fun y9 => (nlQ_ge 8 y9).1) (V := (CVW f_nam f_var f_trm f_ter)) (d9 + 1) ((z80).toInt - 9000).toNat
            refine lv_aload_n hx hb dX9_write_91 rfl (lv_at hl 0 rfl) ?_
            refine lv_aload_n hx hb dX9_write_92 rfl (lv_at hl 0 rfl) ?_
            refine va_get (D := (dC, dI)) (ci := 6) (v := .ref h_bd) (C := RX9) (T := TX9) (N := 8) hx hb hw iwX9 hown hK hP 9 rfl rfl 1 (by decide) (hw _ w_f_X9_25) (fun _ h9 => h9) rfl dX9_write_93 ?_
            refine lv_aload_n hx hb dX9_write_96 rfl (lv_at hl 0 rfl) ?_
            refine va_get (D := (dC, dI)) (ci := 6) (v := .ref h_wh) (C := RX9) (T := TX9) (N := 8) hx hb hw iwX9 hown hK hP 9 rfl rfl 6 (by decide) (hw _ w_f_X9_18) (fun _ h9 => h9) rfl dX9_write_97 ?_
            refine lv_aload_n hx hb dX9_write_100 rfl (lv_at hl 0 rfl) ?_
            refine va_get (D := (dC, dI)) (ci := 6) (v := .int z79) (C := RX9) (T := TX9) (N := 8) hx hb hw iwX9 hown hK hP 9 rfl rfl 7 (by decide) (hw _ w_f_X9_37) (fun _ h9 => h9) rfl dX9_write_101 ?_
            refine va_iald hx hb hK hP 1 2 rfl rfl (i := z79) (vp_in_iff.mpr (by omega)) dX9_write_104 ?_
            refine lv_topi (fun z82 ez82 => ?_)
            have qz82 : (z82).toInt = (z80).toInt := by rw [ez82, ez80]
            have rz82 : -127 ≤ (z82).toInt ∧ (z82).toInt ≤ 9599 := by rw [ez82]; exact hf61 _
            obtain ⟨vq83, evq83⟩ := mq21_8 v_td (.ref h_nam) (.ref h_trm) (.ref h_ter)
            replace hP : va_P (dC, dI) cls [(h_wb, .inl (cy_wb, 600, .inl f_wb)), (h_wh, .inl (cy_wh, 2048, .inl f61)), (h_bd, .inr (1, (mo9 v_bd (.ref h_td) (.ref h_bnd)))), (h_bnd, .inl (cy_bnd, 256, .inl f_bnd)), (h_td, .inr (5, (mo8 vq83 (.ref h_var)))), (h_nam, .inl (cy_nam, 300, .inr (.inl f_nam))), (h_var, .inl (cy_var, 300, .inl f_var)), (h_trm, .inl (cy_trm, 300, .inl f_trm)), (h_ter, .inl (cy_ter, 900, .inl f_ter)), (h_wr, .inr (6, (mo39 (.ref h_td) (.ref h_bd) (.ref h_wb) (.int x_wr_length) (.ref h_wd) (.int x62) (.ref h_wh) (.int z79)))), (h_wd, .inl (cy_wd, 616, .inl f64))] H := by rw [evq83]; exact hP
            replace hD : va_D A [(h_wb, .inl (cy_wb, 600, .inl f_wb)), (h_wh, .inl (cy_wh, 2048, .inl f61)), (h_bd, .inr (1, (mo9 v_bd (.ref h_td) (.ref h_bnd)))), (h_bnd, .inl (cy_bnd, 256, .inl f_bnd)), (h_td, .inr (5, (mo8 vq83 (.ref h_var)))), (h_nam, .inl (cy_nam, 300, .inr (.inl f_nam))), (h_var, .inl (cy_var, 300, .inl f_var)), (h_trm, .inl (cy_trm, 300, .inl f_trm)), (h_ter, .inl (cy_ter, 900, .inl f_ter)), (h_wr, .inr (6, (mo39 (.ref h_td) (.ref h_bd) (.ref h_wb) (.int x_wr_length) (.ref h_wd) (.int x62) (.ref h_wh) (.int z79)))), (h_wd, .inl (cy_wd, 616, .inl f64))] := by rw [evq83]; exact hD
            have hPc := hP.sub (ws' := [(h_bd, .inr (1, (mo9 v_bd (.ref h_td) (.ref h_bnd)))), (h_bnd, .inl (cy_bnd, 256, .inl f_bnd)), (h_td, .inr (5, (mo8 vq83 (.ref h_var)))), (h_var, .inl (cy_var, 300, .inl f_var))]) [2, 3, 4, 6] rfl
            have hDc := hD.sub (ws' := [(h_bd, .inr (1, (mo9 v_bd (.ref h_td) (.ref h_bnd)))), (h_bnd, .inl (cy_bnd, 256, .inl f_bnd)), (h_td, .inr (5, (mo8 vq83 (.ref h_var)))), (h_var, .inl (cy_var, 300, .inl f_var))]) [2, 3, 4, 6] (by decide) rfl
            have hKc := hK.sub (tys' := [(cy_bnd, .int), (cy_var, .int)]) [3, 5] rfl
            have hFc := va_free (wc := [(h_bd, .inr (1, (mo9 v_bd (.ref h_td) (.ref h_bnd)))), (h_bnd, .inl (cy_bnd, 256, .inl f_bnd)), (h_td, .inr (5, (mo8 vq83 (.ref h_var)))), (h_var, .inl (cy_var, 300, .inl f_var))]) hD hS hA [2, 3, 4, 6] rfl
            refine va_calli (va_runVN (As := [.int z82]) (rest := [.ref h_wr]) ⟨hx, hb, hml, hown, hts⟩ (c_X1_bare_a l dC dI H.size h_bd h_bnd h_td h_var v_bd cy_bnd f_bnd vq83 cy_var f_var z82 hf_bnd hf_var (by omega) (by omega) hn_bhz) ⟨va_cnB (host := "OppositePairs") 1 hts (gd hT w_code_X1_bare) rfl rfl rfl (hN _ n_m_X9_41) (hw _ w_ini_X1) (by decide +kernel) ⟨(Nat.le_of_ble_eq_true rfl), (Nat.le_of_ble_eq_true rfl)⟩, hw _ w_instanceMethod_X1_bare, hw _ ws_sel_X1_bare⟩ ⟨pre_blind, va_recv hK hP (ci := 1) (q0 := 2) rfl rfl, pre_of hPc hKc hDc hN⟩ rfl rfl hl.1 rfl (lv_room (Nat.le_of_ble_eq_true rfl)) dX9_write_105 ⟨(Nat.le_of_ble_eq_true rfl), (Nat.le_of_ble_eq_true rfl)⟩) hS (fun q _ h => hFc q h) hFc (fun r84 u t H locs ht hvm hq hB hz1 hk1 hS9 => ?_)
            obtain ⟨hP1, hD1⟩ := hB
            rw [ht] at hP1
            obtain ⟨hP9, hD9⟩ := va_join (wr := [(h_wb, .inl (cy_wb, 600, .inl f_wb)), (h_wh, .inl (cy_wh, 2048, .inl f61)), (h_nam, .inl (cy_nam, 300, .inr (.inl f_nam))), (h_trm, .inl (cy_trm, 300, .inl f_trm)), (h_ter, .inl (cy_ter, 900, .inl f_ter)), (h_wr, .inr (6, (mo39 (.ref h_td) (.ref h_bd) (.ref h_wb) (.int x_wr_length) (.ref h_wd) (.int x62) (.ref h_wh) (.int z79)))), (h_wd, .inl (cy_wd, 616, .inl f64))]) (w1 := [(h_bd, .inr (1, (mo9 v_bd (.ref h_td) (.ref h_bnd)))), (h_bnd, .inl (cy_bnd, 256, .inl f_bnd)), (h_td, .inr (5, (mo8 vq83 (.ref h_var)))), (h_var, .inl (cy_var, 300, .inl f_var))]) hP hD [2, 3, 4, 6] [0, 1, 5, 7, 8, 9, 10] rfl rfl (by decide) (by decide) hk1 hFc hP1 hD1
            clear hP hD hS hPc hDc hKc hFc hP1 hD1 hk1 hz1 ht hvm
            have hP : va_P (dC, dI) cls [(h_wb, .inl (cy_wb, 600, .inl f_wb)), (h_wh, .inl (cy_wh, 2048, .inl f61)), (h_nam, .inl (cy_nam, 300, .inr (.inl f_nam))), (h_trm, .inl (cy_trm, 300, .inl f_trm)), (h_ter, .inl (cy_ter, 900, .inl f_ter)), (h_wr, .inr (6, (mo39 (.ref h_td) (.ref h_bd) (.ref h_wb) (.int x_wr_length) (.ref h_wd) (.int x62) (.ref h_wh) (.int z79)))), (h_wd, .inl (cy_wd, 616, .inl f64)), (h_bd, .inr (1, (mo9 v_bd (.ref h_td) (.ref h_bnd)))), (h_bnd, .inl (cy_bnd, 256, .inl f_bnd)), (h_td, .inr (5, (mo8 vq83 (.ref h_var)))), (h_var, .inl (cy_var, 300, .inl f_var))] H := hP9
            have hD : va_D A [(h_wb, .inl (cy_wb, 600, .inl f_wb)), (h_wh, .inl (cy_wh, 2048, .inl f61)), (h_nam, .inl (cy_nam, 300, .inr (.inl f_nam))), (h_trm, .inl (cy_trm, 300, .inl f_trm)), (h_ter, .inl (cy_ter, 900, .inl f_ter)), (h_wr, .inr (6, (mo39 (.ref h_td) (.ref h_bd) (.ref h_wb) (.int x_wr_length) (.ref h_wd) (.int x62) (.ref h_wh) (.int z79)))), (h_wd, .inl (cy_wd, 616, .inl f64)), (h_bd, .inr (1, (mo9 v_bd (.ref h_td) (.ref h_bnd)))), (h_bnd, .inl (cy_bnd, 256, .inl f_bnd)), (h_td, .inr (5, (mo8 vq83 (.ref h_var)))), (h_var, .inl (cy_var, 300, .inl f_var))] := hD9
            have hS := hS9
            clear hP9 hD9 hS9
            rw [evq83] at hP hD
            replace hP : va_P (dC, dI) cls [(h_wb, .inl (cy_wb, 600, .inl f_wb)), (h_wh, .inl (cy_wh, 2048, .inl f61)), (h_nam, .inl (cy_nam, 300, .inr (.inl f_nam))), (h_trm, .inl (cy_trm, 300, .inl f_trm)), (h_ter, .inl (cy_ter, 900, .inl f_ter)), (h_wr, .inr (6, (mo39 (.ref h_td) (.ref h_bd) (.ref h_wb) (.int x_wr_length) (.ref h_wd) (.int x62) (.ref h_wh) (.int z79)))), (h_wd, .inl (cy_wd, 616, .inl f64)), (h_bd, .inr (1, (mo9 v_bd (.ref h_td) (.ref h_bnd)))), (h_bnd, .inl (cy_bnd, 256, .inl f_bnd)), (h_td, .inr (5, (mo21 v_td (.ref h_nam) (.ref h_var) (.ref h_trm) (.ref h_ter)))), (h_var, .inl (cy_var, 300, .inl f_var))] H := hP
            replace hD : va_D A [(h_wb, .inl (cy_wb, 600, .inl f_wb)), (h_wh, .inl (cy_wh, 2048, .inl f61)), (h_nam, .inl (cy_nam, 300, .inr (.inl f_nam))), (h_trm, .inl (cy_trm, 300, .inl f_trm)), (h_ter, .inl (cy_ter, 900, .inl f_ter)), (h_wr, .inr (6, (mo39 (.ref h_td) (.ref h_bd) (.ref h_wb) (.int x_wr_length) (.ref h_wd) (.int x62) (.ref h_wh) (.int z79)))), (h_wd, .inl (cy_wd, 616, .inl f64)), (h_bd, .inr (1, (mo9 v_bd (.ref h_td) (.ref h_bnd)))), (h_bnd, .inl (cy_bnd, 256, .inl f_bnd)), (h_td, .inr (5, (mo21 v_td (.ref h_nam) (.ref h_var) (.ref h_trm) (.ref h_ter)))), (h_var, .inl (cy_var, 300, .inl f_var))] := hD
            clear evq83 
            obtain ⟨k85, k86⟩ := hq
            replace k85 : 0 ≤ (r84).toInt ∧ (r84).toInt ≤ 9599 := k85
            replace k86 : ((r84)).toInt = ((z82)).toInt := k86
            have ev9 : r84 = z80 := Int32.toInt_inj.mp (by omega)
            rw [← ev9] at sp9 ob3 lg9
            obtain ⟨vq87, evq87⟩ := mq39_38 (.ref h_bd) (.ref h_wb) (.int x_wr_length)
            replace hP : va_P (dC, dI) cls [(h_wb, .inl (cy_wb, 600, .inl f_wb)), (h_wh, .inl (cy_wh, 2048, .inl f61)), (h_nam, .inl (cy_nam, 300, .inr (.inl f_nam))), (h_trm, .inl (cy_trm, 300, .inl f_trm)), (h_ter, .inl (cy_ter, 900, .inl f_ter)), (h_wr, .inr (6, (mo38 vq87 (.ref h_td) (.ref h_wd) (.int x62) (.ref h_wh) (.int z79)))), (h_wd, .inl (cy_wd, 616, .inl f64)), (h_bd, .inr (1, (mo9 v_bd (.ref h_td) (.ref h_bnd)))), (h_bnd, .inl (cy_bnd, 256, .inl f_bnd)), (h_td, .inr (5, (mo21 v_td (.ref h_nam) (.ref h_var) (.ref h_trm) (.ref h_ter)))), (h_var, .inl (cy_var, 300, .inl f_var))] H := by rw [evq87]; exact hP
            replace hD : va_D A [(h_wb, .inl (cy_wb, 600, .inl f_wb)), (h_wh, .inl (cy_wh, 2048, .inl f61)), (h_nam, .inl (cy_nam, 300, .inr (.inl f_nam))), (h_trm, .inl (cy_trm, 300, .inl f_trm)), (h_ter, .inl (cy_ter, 900, .inl f_ter)), (h_wr, .inr (6, (mo38 vq87 (.ref h_td) (.ref h_wd) (.int x62) (.ref h_wh) (.int z79)))), (h_wd, .inl (cy_wd, 616, .inl f64)), (h_bd, .inr (1, (mo9 v_bd (.ref h_td) (.ref h_bnd)))), (h_bnd, .inl (cy_bnd, 256, .inl f_bnd)), (h_td, .inr (5, (mo21 v_td (.ref h_nam) (.ref h_var) (.ref h_trm) (.ref h_ter)))), (h_var, .inl (cy_var, 300, .inl f_var))] := by rw [evq87]; exact hD
            have hPc := hP.sub (ws' := [(h_wr, .inr (6, (mo38 vq87 (.ref h_td) (.ref h_wd) (.int x62) (.ref h_wh) (.int z79)))), (h_wd, .inl (cy_wd, 616, .inl f64)), (h_wh, .inl (cy_wh, 2048, .inl f61)), (h_td, .inr (5, (mo21 v_td (.ref h_nam) (.ref h_var) (.ref h_trm) (.ref h_ter)))), (h_nam, .inl (cy_nam, 300, .inr (.inl f_nam))), (h_var, .inl (cy_var, 300, .inl f_var)), (h_trm, .inl (cy_trm, 300, .inl f_trm)), (h_ter, .inl (cy_ter, 900, .inl f_ter))]) [5, 6, 1, 9, 2, 10, 3, 4] rfl
            have hDc := hD.sub (ws' := [(h_wr, .inr (6, (mo38 vq87 (.ref h_td) (.ref h_wd) (.int x62) (.ref h_wh) (.int z79)))), (h_wd, .inl (cy_wd, 616, .inl f64)), (h_wh, .inl (cy_wh, 2048, .inl f61)), (h_td, .inr (5, (mo21 v_td (.ref h_nam) (.ref h_var) (.ref h_trm) (.ref h_ter)))), (h_nam, .inl (cy_nam, 300, .inr (.inl f_nam))), (h_var, .inl (cy_var, 300, .inl f_var)), (h_trm, .inl (cy_trm, 300, .inl f_trm)), (h_ter, .inl (cy_ter, 900, .inl f_ter))]) [5, 6, 1, 9, 2, 10, 3, 4] (by decide) rfl
            have hKc := hK.sub (tys' := [(cy_wd, .int), (cy_wh, .int), (cy_nam, .long), (cy_var, .int), (cy_trm, .int), (cy_ter, .int)]) [1, 2, 4, 5, 6, 7] rfl
            have hFc := va_free (wc := [(h_wr, .inr (6, (mo38 vq87 (.ref h_td) (.ref h_wd) (.int x62) (.ref h_wh) (.int z79)))), (h_wd, .inl (cy_wd, 616, .inl f64)), (h_wh, .inl (cy_wh, 2048, .inl f61)), (h_td, .inr (5, (mo21 v_td (.ref h_nam) (.ref h_var) (.ref h_trm) (.ref h_ter)))), (h_nam, .inl (cy_nam, 300, .inr (.inl f_nam))), (h_var, .inl (cy_var, 300, .inl f_var)), (h_trm, .inl (cy_trm, 300, .inl f_trm)), (h_ter, .inl (cy_ter, 900, .inl f_ter))]) hD hS hA [5, 6, 1, 9, 2, 10, 3, 4] rfl
            refine va_callv (va_runV (As := [.int r84]) (rest := []) ⟨hx, hb, hml, hown, hts⟩ (c_X9_putPart_a l dC dI H.size h_wr h_wd h_wh h_td h_nam h_var h_trm h_ter vq87 x62 z79 cy_wd f64 cy_wh f61 v_td cy_nam f_nam cy_var f_var cy_trm f_trm cy_ter f_ter r84 gh65 d9 (by first | exact klp66_2 | omega) (by omega) hf61 hf_var hf_trm hf_ter (by omega) (by omega) (by omega) (okl_cast ol9 (by omega)) ob3 hn_tz) (cwV 1 hts (gv hT w_m_X9_47 w_instanceMethod_X9_putPart ws_sel_X9_putPart w_ini_X9 w_code_X9_putPart) rfl rfl rfl (by decide +kernel) ⟨(Nat.le_of_ble_eq_true rfl), (Nat.le_of_ble_eq_true rfl)⟩) ⟨pre_blind, va_recv hK hP (ci := 6) (q0 := 5) rfl rfl, pre_of hPc hKc hDc hN⟩ rfl rfl hl.1 rfl (lv_room (Nat.le_of_ble_eq_true rfl)) dX9_write_108 ⟨(Nat.le_of_ble_eq_true rfl), (Nat.le_of_ble_eq_true rfl)⟩) hS (fun q _ h => hFc q h) hFc (fun u t H locs ht hvm hq hB hz1 hk1 hS9 => ?_)
            obtain ⟨z89, z90, f91, f92, gh93⟩ := u
            obtain ⟨hP1, hD1⟩ := hB
            rw [ht] at hP1
            obtain ⟨hP9, hD9⟩ := va_join (wr := [(h_wb, .inl (cy_wb, 600, .inl f_wb)), (h_bd, .inr (1, (mo9 v_bd (.ref h_td) (.ref h_bnd)))), (h_bnd, .inl (cy_bnd, 256, .inl f_bnd))]) (w1 := [(h_wr, .inr (6, (mo38 vq87 (.ref h_td) (.ref h_wd) (.int z89) (.ref h_wh) (.int z90)))), (h_wd, .inl (cy_wd, 616, .inl f91)), (h_wh, .inl (cy_wh, 2048, .inl f92)), (h_td, .inr (5, (mo21 v_td (.ref h_nam) (.ref h_var) (.ref h_trm) (.ref h_ter)))), (h_nam, .inl (cy_nam, 300, .inr (.inl f_nam))), (h_var, .inl (cy_var, 300, .inl f_var)), (h_trm, .inl (cy_trm, 300, .inl f_trm)), (h_ter, .inl (cy_ter, 900, .inl f_ter))]) hP hD [5, 6, 1, 9, 2, 10, 3, 4] [0, 7, 8] rfl rfl (by decide) (by decide) hk1 hFc hP1 hD1
            clear hP hD hS hPc hDc hKc hFc hP1 hD1 hk1 hz1 ht hvm
            have hP : va_P (dC, dI) cls [(h_wb, .inl (cy_wb, 600, .inl f_wb)), (h_bd, .inr (1, (mo9 v_bd (.ref h_td) (.ref h_bnd)))), (h_bnd, .inl (cy_bnd, 256, .inl f_bnd)), (h_wr, .inr (6, (mo38 vq87 (.ref h_td) (.ref h_wd) (.int z89) (.ref h_wh) (.int z90)))), (h_wd, .inl (cy_wd, 616, .inl f91)), (h_wh, .inl (cy_wh, 2048, .inl f92)), (h_td, .inr (5, (mo21 v_td (.ref h_nam) (.ref h_var) (.ref h_trm) (.ref h_ter)))), (h_nam, .inl (cy_nam, 300, .inr (.inl f_nam))), (h_var, .inl (cy_var, 300, .inl f_var)), (h_trm, .inl (cy_trm, 300, .inl f_trm)), (h_ter, .inl (cy_ter, 900, .inl f_ter))] H := hP9
            have hD : va_D A [(h_wb, .inl (cy_wb, 600, .inl f_wb)), (h_bd, .inr (1, (mo9 v_bd (.ref h_td) (.ref h_bnd)))), (h_bnd, .inl (cy_bnd, 256, .inl f_bnd)), (h_wr, .inr (6, (mo38 vq87 (.ref h_td) (.ref h_wd) (.int z89) (.ref h_wh) (.int z90)))), (h_wd, .inl (cy_wd, 616, .inl f91)), (h_wh, .inl (cy_wh, 2048, .inl f92)), (h_td, .inr (5, (mo21 v_td (.ref h_nam) (.ref h_var) (.ref h_trm) (.ref h_ter)))), (h_nam, .inl (cy_nam, 300, .inr (.inl f_nam))), (h_var, .inl (cy_var, 300, .inl f_var)), (h_trm, .inl (cy_trm, 300, .inl f_trm)), (h_ter, .inl (cy_ter, 900, .inl f_ter))] := hD9
            have hS := hS9
            clear hP9 hD9 hS9
            rw [evq87] at hP hD
            replace hP : va_P (dC, dI) cls [(h_wb, .inl (cy_wb, 600, .inl f_wb)), (h_bd, .inr (1, (mo9 v_bd (.ref h_td) (.ref h_bnd)))), (h_bnd, .inl (cy_bnd, 256, .inl f_bnd)), (h_wr, .inr (6, (mo39 (.ref h_td) (.ref h_bd) (.ref h_wb) (.int x_wr_length) (.ref h_wd) (.int z89) (.ref h_wh) (.int z90)))), (h_wd, .inl (cy_wd, 616, .inl f91)), (h_wh, .inl (cy_wh, 2048, .inl f92)), (h_td, .inr (5, (mo21 v_td (.ref h_nam) (.ref h_var) (.ref h_trm) (.ref h_ter)))), (h_nam, .inl (cy_nam, 300, .inr (.inl f_nam))), (h_var, .inl (cy_var, 300, .inl f_var)), (h_trm, .inl (cy_trm, 300, .inl f_trm)), (h_ter, .inl (cy_ter, 900, .inl f_ter))] H := hP
            replace hD : va_D A [(h_wb, .inl (cy_wb, 600, .inl f_wb)), (h_bd, .inr (1, (mo9 v_bd (.ref h_td) (.ref h_bnd)))), (h_bnd, .inl (cy_bnd, 256, .inl f_bnd)), (h_wr, .inr (6, (mo39 (.ref h_td) (.ref h_bd) (.ref h_wb) (.int x_wr_length) (.ref h_wd) (.int z89) (.ref h_wh) (.int z90)))), (h_wd, .inl (cy_wd, 616, .inl f91)), (h_wh, .inl (cy_wh, 2048, .inl f92)), (h_td, .inr (5, (mo21 v_td (.ref h_nam) (.ref h_var) (.ref h_trm) (.ref h_ter)))), (h_nam, .inl (cy_nam, 300, .inr (.inl f_nam))), (h_var, .inl (cy_var, 300, .inl f_var)), (h_trm, .inl (cy_trm, 300, .inl f_trm)), (h_ter, .inl (cy_ter, 900, .inl f_ter))] := hD
            clear evq87 
            obtain ⟨k94, k95, hf92, k96, k97, k98, k99⟩ := hq
            replace k94 : 0 ≤ ((z89)).toInt ∧ ((z89)).toInt ≤ 616 := k94
            replace k95 : 0 ≤ ((z90)).toInt ∧ ((z90)).toInt ≤ 2048 := k95
            replace hf92 : Rg (-127) 9599 (f92) := hf92
            replace k96 : ((z89)).toInt + smL (CVW f_nam f_var f_trm f_ter) (gh93) (f92) ((z90)).toInt.toNat = ((x62)).toInt + smL (CVW f_nam f_var f_trm f_ter) (gh65) (f61) ((z79)).toInt.toNat + lnX (nlQ 8) (CVW f_nam f_var f_trm f_ter) ((d9) + 1) (((r84)).toInt - 9000).toNat := k96
            replace k97 : ((x62)).toInt + 1 ≤ ((z89)).toInt ∧ ((z89)).toInt ≤ ((x62)).toInt + 9 := k97
            replace k98 : 2 * (((z90)).toInt - ((z79)).toInt) ≤ 5 * (((z89)).toInt - ((x62)).toInt) + 2 := k98
            replace k99 : OKL (CVW f_nam f_var f_trm f_ter) (gh93) (f92) ((z90)).toInt := k99
            have sg9 := smL_ge (V := (CVW f_nam f_var f_trm f_ter)) (ds := gh93) (h := f92) (Int.toNat (z90).toInt)
            obtain ⟨z100, ez100⟩ : ∃ y : Int32, y = x60 + 1 := ⟨_, rfl⟩
            have tz100 : (z100).toInt = (x60).toInt + 1 := by rw [ez100]; exact i_add rfl (by decide) (by omega)
            refine lv_iinc (v := z100) (lv' := [(4, .int z100), (0, .ref h_wr), (1, .int p1), (2, .int p2), (3, .int 600)]) hx hb dX9_write_111 hl (k := 4) rfl (by rw [ez100]; rfl) (by decide) rfl (fun ls hl => ?_)
            refine lv_goto (tgt := 30) hx hb dX9_write_114 (by decide) ?_
            replace hP : va_P (dC, dI) cls [(h_wb, .inl (cy_wb, 600, .inl f_wb)), (h_wh, .inl (cy_wh, 2048, .inl f92)), (h_bd, .inr (1, (mo9 v_bd (.ref h_td) (.ref h_bnd)))), (h_bnd, .inl (cy_bnd, 256, .inl f_bnd)), (h_td, .inr (5, (mo21 v_td (.ref h_nam) (.ref h_var) (.ref h_trm) (.ref h_ter)))), (h_nam, .inl (cy_nam, 300, .inr (.inl f_nam))), (h_var, .inl (cy_var, 300, .inl f_var)), (h_trm, .inl (cy_trm, 300, .inl f_trm)), (h_ter, .inl (cy_ter, 900, .inl f_ter)), (h_wr, .inr (6, (mo39 (.ref h_td) (.ref h_bd) (.ref h_wb) (.int x_wr_length) (.ref h_wd) (.int z89) (.ref h_wh) (.int z90)))), (h_wd, .inl (cy_wd, 616, .inl f91))] H := hP.sub [0, 5, 1, 2, 6, 7, 8, 9, 10, 3, 4] rfl
            replace hD : va_D A [(h_wb, .inl (cy_wb, 600, .inl f_wb)), (h_wh, .inl (cy_wh, 2048, .inl f92)), (h_bd, .inr (1, (mo9 v_bd (.ref h_td) (.ref h_bnd)))), (h_bnd, .inl (cy_bnd, 256, .inl f_bnd)), (h_td, .inr (5, (mo21 v_td (.ref h_nam) (.ref h_var) (.ref h_trm) (.ref h_ter)))), (h_nam, .inl (cy_nam, 300, .inr (.inl f_nam))), (h_var, .inl (cy_var, 300, .inl f_var)), (h_trm, .inl (cy_trm, 300, .inl f_trm)), (h_ter, .inl (cy_ter, 900, .inl f_ter)), (h_wr, .inr (6, (mo39 (.ref h_td) (.ref h_bd) (.ref h_wb) (.int x_wr_length) (.ref h_wd) (.int z89) (.ref h_wh) (.int z90)))), (h_wd, .inl (cy_wd, 616, .inl f91))] := hD.sub [0, 5, 1, 2, 6, 7, 8, 9, 10, 3, 4] (by decide) rfl
            exact ih67 (z100) (f92) (z89) (z90) (f91) (gh93) _ _ _ (by omega) hf92 (by first | exact k94 | omega) (by first | exact k95 | omega) (by omega) (by omega) (by omega) (okl_cast k99 (by omega)) (by omega) hP hD hS (lv_sub hl [1, 2, 3, 4, 0] rfl)
          · have kc81 := (not_congr (cv_le (by decide : (0 : Int32).toInt = 0) (rfl : (z80).toInt = (z80).toInt))).mp c81
            rw [wlX_neg (by omega)] at sp9
            refine lv_aload_n hx hb dX9_write_74 rfl (lv_at hl 0 rfl) ?_
            refine lv_aload_n hx hb dX9_write_75 rfl (lv_at hl 0 rfl) ?_
            refine va_get (D := (dC, dI)) (ci := 6) (v := .ref h_wh) (C := RX9) (T := TX9) (N := 8) hx hb hw iwX9 hown hK hP 9 rfl rfl 6 (by decide) (hw _ w_f_X9_18) (fun _ h9 => h9) rfl dX9_write_76 ?_
            refine lv_aload_n hx hb dX9_write_79 rfl (lv_at hl 0 rfl) ?_
            refine va_get (D := (dC, dI)) (ci := 6) (v := .int z79) (C := RX9) (T := TX9) (N := 8) hx hb hw iwX9 hown hK hP 9 rfl rfl 7 (by decide) (hw _ w_f_X9_37) (fun _ h9 => h9) rfl dX9_write_80 ?_
            refine va_iald hx hb hK hP 1 2 rfl rfl (i := z79) (vp_in_iff.mpr (by omega)) dX9_write_83 ?_
            refine lv_topi (fun z101 ez101 => ?_)
            have qz101 : (z101).toInt = (z80).toInt := by rw [ez101, ez80]
            have rz101 : -127 ≤ (z101).toInt ∧ (z101).toInt ≤ 9599 := by rw [ez101]; exact hf61 _
            refine lv_ineg hx hb dX9_write_84 ?_
            refine lv_topi (fun z102 ez102 => ?_)
            have tz102 : (z102).toInt = -((z101).toInt) := by rw [ez102]; exact i_neg rfl (by omega)
            obtain ⟨vq103, evq103⟩ := mq39_36 (.ref h_td) (.ref h_bd) (.ref h_wb) (.int x_wr_length) (.ref h_wh) (.int z79)
            replace hP : va_P (dC, dI) cls [(h_wb, .inl (cy_wb, 600, .inl f_wb)), (h_wh, .inl (cy_wh, 2048, .inl f61)), (h_bd, .inr (1, (mo9 v_bd (.ref h_td) (.ref h_bnd)))), (h_bnd, .inl (cy_bnd, 256, .inl f_bnd)), (h_td, .inr (5, (mo21 v_td (.ref h_nam) (.ref h_var) (.ref h_trm) (.ref h_ter)))), (h_nam, .inl (cy_nam, 300, .inr (.inl f_nam))), (h_var, .inl (cy_var, 300, .inl f_var)), (h_trm, .inl (cy_trm, 300, .inl f_trm)), (h_ter, .inl (cy_ter, 900, .inl f_ter)), (h_wr, .inr (6, (mo36 vq103 (.ref h_wd) (.int x62)))), (h_wd, .inl (cy_wd, 616, .inl f64))] H := by rw [evq103]; exact hP
            replace hD : va_D A [(h_wb, .inl (cy_wb, 600, .inl f_wb)), (h_wh, .inl (cy_wh, 2048, .inl f61)), (h_bd, .inr (1, (mo9 v_bd (.ref h_td) (.ref h_bnd)))), (h_bnd, .inl (cy_bnd, 256, .inl f_bnd)), (h_td, .inr (5, (mo21 v_td (.ref h_nam) (.ref h_var) (.ref h_trm) (.ref h_ter)))), (h_nam, .inl (cy_nam, 300, .inr (.inl f_nam))), (h_var, .inl (cy_var, 300, .inl f_var)), (h_trm, .inl (cy_trm, 300, .inl f_trm)), (h_ter, .inl (cy_ter, 900, .inl f_ter)), (h_wr, .inr (6, (mo36 vq103 (.ref h_wd) (.int x62)))), (h_wd, .inl (cy_wd, 616, .inl f64))] := by rw [evq103]; exact hD
            have hPc := hP.sub (ws' := [(h_wr, .inr (6, (mo36 vq103 (.ref h_wd) (.int x62)))), (h_wd, .inl (cy_wd, 616, .inl f64))]) [9, 10] rfl
            have hDc := hD.sub (ws' := [(h_wr, .inr (6, (mo36 vq103 (.ref h_wd) (.int x62)))), (h_wd, .inl (cy_wd, 616, .inl f64))]) [9, 10] (by decide) rfl
            have hKc := hK.sub (tys' := [(cy_wd, .int)]) [1] rfl
            have hFc := va_free (wc := [(h_wr, .inr (6, (mo36 vq103 (.ref h_wd) (.int x62)))), (h_wd, .inl (cy_wd, 616, .inl f64))]) hD hS hA [9, 10] rfl
            refine va_callv (va_runV (As := [.int z102]) (rest := []) ⟨hx, hb, hml, hown, hts⟩ (c_X9_put l dC dI H.size h_wr h_wd vq103 x62 cy_wd f64 z102 (by first | exact klp66_2 | omega)) (cwV 1 hts (gv hT w_m_X9_33 w_instanceMethod_X9_put ws_sel_X9_put w_ini_X9 w_code_X9_put) rfl rfl rfl (by decide +kernel) ⟨(Nat.le_of_ble_eq_true rfl), (Nat.le_of_ble_eq_true rfl)⟩) ⟨pre_blind, va_recv hK hP (ci := 6) (q0 := 9) rfl rfl, pre_of hPc hKc hDc hN⟩ rfl rfl hl.1 rfl (lv_room (Nat.le_of_ble_eq_true rfl)) dX9_write_85 ⟨(Nat.le_of_ble_eq_true rfl), (Nat.le_of_ble_eq_true rfl)⟩) hS (fun q _ h => hFc q h) hFc (fun u t H locs ht hvm hq hB hz1 hk1 hS9 => ?_)
            obtain ⟨z105, f106⟩ := u
            obtain ⟨hP1, hD1⟩ := hB
            rw [ht] at hP1
            obtain ⟨hP9, hD9⟩ := va_join (wr := [(h_wb, .inl (cy_wb, 600, .inl f_wb)), (h_wh, .inl (cy_wh, 2048, .inl f61)), (h_bd, .inr (1, (mo9 v_bd (.ref h_td) (.ref h_bnd)))), (h_bnd, .inl (cy_bnd, 256, .inl f_bnd)), (h_td, .inr (5, (mo21 v_td (.ref h_nam) (.ref h_var) (.ref h_trm) (.ref h_ter)))), (h_nam, .inl (cy_nam, 300, .inr (.inl f_nam))), (h_var, .inl (cy_var, 300, .inl f_var)), (h_trm, .inl (cy_trm, 300, .inl f_trm)), (h_ter, .inl (cy_ter, 900, .inl f_ter))]) (w1 := [(h_wr, .inr (6, (mo36 vq103 (.ref h_wd) (.int z105)))), (h_wd, .inl (cy_wd, 616, .inl f106))]) hP hD [9, 10] [0, 1, 2, 3, 4, 5, 6, 7, 8] rfl rfl (by decide) (by decide) hk1 hFc hP1 hD1
            clear hP hD hS hPc hDc hKc hFc hP1 hD1 hk1 hz1 ht hvm
            have hP : va_P (dC, dI) cls [(h_wb, .inl (cy_wb, 600, .inl f_wb)), (h_wh, .inl (cy_wh, 2048, .inl f61)), (h_bd, .inr (1, (mo9 v_bd (.ref h_td) (.ref h_bnd)))), (h_bnd, .inl (cy_bnd, 256, .inl f_bnd)), (h_td, .inr (5, (mo21 v_td (.ref h_nam) (.ref h_var) (.ref h_trm) (.ref h_ter)))), (h_nam, .inl (cy_nam, 300, .inr (.inl f_nam))), (h_var, .inl (cy_var, 300, .inl f_var)), (h_trm, .inl (cy_trm, 300, .inl f_trm)), (h_ter, .inl (cy_ter, 900, .inl f_ter)), (h_wr, .inr (6, (mo36 vq103 (.ref h_wd) (.int z105)))), (h_wd, .inl (cy_wd, 616, .inl f106))] H := hP9
            have hD : va_D A [(h_wb, .inl (cy_wb, 600, .inl f_wb)), (h_wh, .inl (cy_wh, 2048, .inl f61)), (h_bd, .inr (1, (mo9 v_bd (.ref h_td) (.ref h_bnd)))), (h_bnd, .inl (cy_bnd, 256, .inl f_bnd)), (h_td, .inr (5, (mo21 v_td (.ref h_nam) (.ref h_var) (.ref h_trm) (.ref h_ter)))), (h_nam, .inl (cy_nam, 300, .inr (.inl f_nam))), (h_var, .inl (cy_var, 300, .inl f_var)), (h_trm, .inl (cy_trm, 300, .inl f_trm)), (h_ter, .inl (cy_ter, 900, .inl f_ter)), (h_wr, .inr (6, (mo36 vq103 (.ref h_wd) (.int z105)))), (h_wd, .inl (cy_wd, 616, .inl f106))] := hD9
            have hS := hS9
            clear hP9 hD9 hS9
            rw [evq103] at hP hD
            replace hP : va_P (dC, dI) cls [(h_wb, .inl (cy_wb, 600, .inl f_wb)), (h_wh, .inl (cy_wh, 2048, .inl f61)), (h_bd, .inr (1, (mo9 v_bd (.ref h_td) (.ref h_bnd)))), (h_bnd, .inl (cy_bnd, 256, .inl f_bnd)), (h_td, .inr (5, (mo21 v_td (.ref h_nam) (.ref h_var) (.ref h_trm) (.ref h_ter)))), (h_nam, .inl (cy_nam, 300, .inr (.inl f_nam))), (h_var, .inl (cy_var, 300, .inl f_var)), (h_trm, .inl (cy_trm, 300, .inl f_trm)), (h_ter, .inl (cy_ter, 900, .inl f_ter)), (h_wr, .inr (6, (mo39 (.ref h_td) (.ref h_bd) (.ref h_wb) (.int x_wr_length) (.ref h_wd) (.int z105) (.ref h_wh) (.int z79)))), (h_wd, .inl (cy_wd, 616, .inl f106))] H := hP
            replace hD : va_D A [(h_wb, .inl (cy_wb, 600, .inl f_wb)), (h_wh, .inl (cy_wh, 2048, .inl f61)), (h_bd, .inr (1, (mo9 v_bd (.ref h_td) (.ref h_bnd)))), (h_bnd, .inl (cy_bnd, 256, .inl f_bnd)), (h_td, .inr (5, (mo21 v_td (.ref h_nam) (.ref h_var) (.ref h_trm) (.ref h_ter)))), (h_nam, .inl (cy_nam, 300, .inr (.inl f_nam))), (h_var, .inl (cy_var, 300, .inl f_var)), (h_trm, .inl (cy_trm, 300, .inl f_trm)), (h_ter, .inl (cy_ter, 900, .inl f_ter)), (h_wr, .inr (6, (mo39 (.ref h_td) (.ref h_bd) (.ref h_wb) (.int x_wr_length) (.ref h_wd) (.int z105) (.ref h_wh) (.int z79)))), (h_wd, .inl (cy_wd, 616, .inl f106))] := hD
            clear evq103 
            obtain ⟨k107, k108⟩ := hq
            replace k107 : 0 ≤ ((z105)).toInt ∧ ((z105)).toInt ≤ 616 := k107
            replace k108 : (616 ≤ ((x62)).toInt ∧ ((z105)).toInt = ((x62)).toInt) ∨ (((x62)).toInt < 616 ∧ ((z105)).toInt = ((x62)).toInt + 1) := k108
            refine lv_goto (tgt := 111) hx hb dX9_write_88 (by decide) ?_
            have sg9 := smL_ge (V := (CVW f_nam f_var f_trm f_ter)) (ds := gh65) (h := f61) (Int.toNat (z79).toInt)
            obtain ⟨z109, ez109⟩ : ∃ y : Int32, y = x60 + 1 := ⟨_, rfl⟩
            have tz109 : (z109).toInt = (x60).toInt + 1 := by rw [ez109]; exact i_add rfl (by decide) (by omega)
            refine lv_iinc (v := z109) (lv' := [(4, .int z109), (0, .ref h_wr), (1, .int p1), (2, .int p2), (3, .int 600)]) hx hb dX9_write_111 hl (k := 4) rfl (by rw [ez109]; rfl) (by decide) rfl (fun ls hl => ?_)
            refine lv_goto (tgt := 30) hx hb dX9_write_114 (by decide) ?_
            exact ih67 (z109) (f61) (z105) (z79) (f106) (gh65) _ _ _ (by omega) hf61 (by first | exact k107 | omega) (by omega) (by omega) (by omega) (by omega) (okl_cast ol9 (by omega)) (by omega) hP hD hS (lv_sub hl [1, 2, 3, 4, 0] rfl)
    have cst0 : (0 : Int32).toInt = 0 := by decide
    have cst1 : (1 : Int32).toInt = 1 := by decide
    exact lp66 _ (0) (f59) (z55) (1) (f56) ((fun _ => 7)) _ _ _ (by decide) hf59 (by first | exact k57 | omega) (by decide) (by omega) (by omega) (by omega) (okl_cast ok0 (by omega)) (Nat.le_refl _) hP hD hS (lv_sub hl [1, 2, 3, 4, 0] rfl)

set_option maxHeartbeats 8000000 in
set_option maxRecDepth 100000 in
theorem c_X0_remove (l : Launch) (dC : Nat → ClassId) (dI : Nat → Nat → Nat) (sz : Nat) (h_an : Nat) (h_as : Nat) (h_ad : Nat) (h_ao : Nat) (h_af : Nat) (v_an : Nat → Value) (x_an_count : Int32) (cy_as : ClassId) (f_as : Nat → Int32) (cy_ad : ClassId) (f_ad : Nat → Int32) (cy_ao : ClassId) (f_ao : Nat → Int32) (cy_af : ClassId) (f_af : Nat → Int32) (p1 : Int32) (hx_an_count : 0 ≤ (x_an_count).toInt ∧ (x_an_count).toInt ≤ 8) (q0 : 0 ≤ (p1).toInt) (q1 : (p1).toInt < (x_an_count).toInt) : Met l yX0_remove (Ws yX0_remove cX0_remove 3 none) (({ frames := 0, cells := 0, slots := 0, locals := 0 } : Room)) (PRE (dC, dI) cls [(cy_as, .int), (cy_ad, .int), (cy_ao, .int), (cy_af, .int)] [(h_an, .inr (0, (mo40 v_an (.ref h_as) (.ref h_ad) (.ref h_ao) (.ref h_af) (.int x_an_count)))), (h_as, .inl (cy_as, 8, .inl f_as)), (h_ad, .inl (cy_ad, 8, .inl f_ad)), (h_ao, .inl (cy_ao, 8, .inl f_ao)), (h_af, .inl (cy_af, 8, .inl f_af))] sz [.ref h_an, .int p1]) (va_Qv (fun (u : (Int32) × (Nat → Int32) × (Nat → Int32) × (Nat → Int32) × (Nat → Int32)) => (0 ≤ (u.1).toInt ∧ (u.1).toInt ≤ 8) ∧ ((u.1).toInt = (x_an_count).toInt - 1)) (fun (u : (Int32) × (Nat → Int32) × (Nat → Int32) × (Nat → Int32) × (Nat → Int32)) (t : State) => va_P (dC, dI) cls [(h_an, .inr (0, (mo40 v_an (.ref h_as) (.ref h_ad) (.ref h_ao) (.ref h_af) (.int u.1)))), (h_as, .inl (cy_as, 8, .inl u.2.1)), (h_ad, .inl (cy_ad, 8, .inl u.2.2.1)), (h_ao, .inl (cy_ao, 8, .inl u.2.2.2.1)), (h_af, .inl (cy_af, 8, .inl u.2.2.2.2))] t.heap ∧ va_D (va_A [(h_an, .inr (0, (mo40 v_an (.ref h_as) (.ref h_ad) (.ref h_ao) (.ref h_af) (.int x_an_count)))), (h_as, .inl (cy_as, 8, .inl f_as)), (h_ad, .inl (cy_ad, 8, .inl f_ad)), (h_ao, .inl (cy_ao, 8, .inl f_ao)), (h_af, .inl (cy_af, 8, .inl f_af))] sz) [(h_an, .inr (0, (mo40 v_an (.ref h_as) (.ref h_ad) (.ref h_ao) (.ref h_af) (.int u.1)))), (h_as, .inl (cy_as, 8, .inl u.2.1)), (h_ad, .inl (cy_ad, 8, .inl u.2.2.1)), (h_ao, .inl (cy_ao, 8, .inl u.2.2.2.1)), (h_af, .inl (cy_af, 8, .inl u.2.2.2.2))]) (va_A [(h_an, .inr (0, (mo40 v_an (.ref h_as) (.ref h_ad) (.ref h_ao) (.ref h_af) (.int x_an_count)))), (h_as, .inl (cy_as, 8, .inl f_as)), (h_ad, .inl (cy_ad, 8, .inl f_ad)), (h_ao, .inl (cy_ao, 8, .inl f_ao)), (h_af, .inl (cy_af, 8, .inl f_af))] sz)) 0 0 (va_A [(h_an, .inr (0, (mo40 v_an (.ref h_as) (.ref h_ad) (.ref h_ao) (.ref h_af) (.int x_an_count)))), (h_as, .inl (cy_as, 8, .inl f_as)), (h_ad, .inl (cy_ad, 8, .inl f_ad)), (h_ao, .inl (cy_ao, 8, .inl f_ao)), (h_af, .inl (cy_af, 8, .inl f_af))] sz) := by
  refine Met.ofW (cc := cX0_remove) (maxL := 3) (ret := none) (by decide) rfl ?_
  intro p e s m args below meth c s₁ B hml hv
  obtain ⟨rfl, hsz, hP, hK, hD0, hN⟩ := hv
  have hx := B.exec
  have hb := B.bytes
  have hr := B.returns
  have hts := atoms_spec (ws := Ws yX0_remove cX0_remove 3 none) B.pre
  have hT : ∀ w ∈ WALL, w ∈ Ws yX0_remove cX0_remove 3 none := fun w h => List.mem_cons_of_mem _ h
  have hw := fun w (h : w ∈ WALL) => hts w (hT w h)
  have hown : s.vm.findClass RX0 = some m.cls := findClass_of_methodNamed B.named
  have hlocks := B.notSynchronized
  subst hsz
  have hD := hD0.self (sz := s.heap.size)
  generalize hAe : va_A [(h_an, .inr (0, (mo40 v_an (.ref h_as) (.ref h_ad) (.ref h_ao) (.ref h_af) (.int x_an_count)))), (h_as, .inl (cy_as, 8, .inl f_as)), (h_ad, .inl (cy_ad, 8, .inl f_ad)), (h_ao, .inl (cy_ao, 8, .inl f_ao)), (h_af, .inl (cy_af, 8, .inl f_af))] s.heap.size = A at hD ⊢
  have hA : ∀ q : Nat, s.heap.size ≤ q → A q := fun q h => by rw [← hAe]; exact Or.inr h
  have hS : va_S A s.heap s.heap [] := va_S.rf
  have hl := lv_entry ([.ref h_an, .int p1]) (n := 3) (Nat.le_of_ble_eq_true rfl)
  rw [lg_entry_eq]
  generalize (lg_sl ([.ref h_an, .int p1]) ++ List.replicate (3 - (lg_sl ([.ref h_an, .int p1])).length) Slot.unset).toArray = ls at hl ⊢
  have hl : lv_has ls 3 [(0, .ref h_an), (1, .int p1)] := hl
  refine lv_iload_n hx hb dX0_remove_0 rfl (lv_at hl 1 rfl) ?_
  refine lv_istore_n (lv' := [(2, .int p1), (0, .ref h_an), (1, .int p1)]) hx hb dX0_remove_1 rfl hl (by decide) rfl (fun ls hl => ?_)
  have lp6 : ∀ (n : Nat) (x1 : Int32) (f2 : Nat → Int32) (f3 : Nat → Int32) (f4 : Nat → Int32) (f5 : Nat → Int32) (H : Heap) (locs : List Loc) (ls : Array Slot), (0 ≤ (x1).toInt ∧ (x1).toInt ≤ 7) → ((x1).toInt < (x_an_count).toInt) → (8 - (x1).toInt).toNat + 1 ≤ n → va_P (dC, dI) cls [(h_an, .inr (0, (mo40 v_an (.ref h_as) (.ref h_ad) (.ref h_ao) (.ref h_af) (.int x_an_count)))), (h_as, .inl (cy_as, 8, .inl f2)), (h_ad, .inl (cy_ad, 8, .inl f3)), (h_ao, .inl (cy_ao, 8, .inl f4)), (h_af, .inl (cy_af, 8, .inl f5))] H → va_D A [(h_an, .inr (0, (mo40 v_an (.ref h_as) (.ref h_ad) (.ref h_ao) (.ref h_af) (.int x_an_count)))), (h_as, .inl (cy_as, 8, .inl f2)), (h_ad, .inl (cy_ad, 8, .inl f3)), (h_ao, .inl (cy_ao, 8, .inl f4)), (h_af, .inl (cy_af, 8, .inl f5))] → va_S A s.heap H locs → lv_has ls 3 [(0, .ref h_an), (1, .int p1), (2, .int x1)] → W p l e ({ frames := 0, cells := 0, slots := 0, locals := 0 } : Room) s m ([.ref h_an, .int p1] : List Value).toArray below meth c H locs 0 0 (MQ below (va_Qv (fun (u : (Int32) × (Nat → Int32) × (Nat → Int32) × (Nat → Int32) × (Nat → Int32)) => (0 ≤ (u.1).toInt ∧ (u.1).toInt ≤ 8) ∧ ((u.1).toInt = (x_an_count).toInt - 1)) (fun (u : (Int32) × (Nat → Int32) × (Nat → Int32) × (Nat → Int32) × (Nat → Int32)) (t : State) => va_P (dC, dI) cls [(h_an, .inr (0, (mo40 v_an (.ref h_as) (.ref h_ad) (.ref h_ao) (.ref h_af) (.int u.1)))), (h_as, .inl (cy_as, 8, .inl u.2.1)), (h_ad, .inl (cy_ad, 8, .inl u.2.2.1)), (h_ao, .inl (cy_ao, 8, .inl u.2.2.2.1)), (h_af, .inl (cy_af, 8, .inl u.2.2.2.2))] t.heap ∧ va_D A [(h_an, .inr (0, (mo40 v_an (.ref h_as) (.ref h_ad) (.ref h_ao) (.ref h_af) (.int u.1)))), (h_as, .inl (cy_as, 8, .inl u.2.1)), (h_ad, .inl (cy_ad, 8, .inl u.2.2.1)), (h_ao, .inl (cy_ao, 8, .inl u.2.2.2.1)), (h_af, .inl (cy_af, 8, .inl u.2.2.2.2))]) A) ([.ref h_an, .int p1] : List Value).toArray s 0 0 A) (F0 m 2 ls []) := by
    clear hP hD hS hl
    intro n
    induction n with
    | zero => intro x1 f2 f3 f4 f5 H locs ls klp6_0 klp6_1 hm hP hD hS hl; exact False.elim (by omega)
    | succ n ih => 
      intro x1 f2 f3 f4 f5 H locs ls klp6_0 klp6_1 hm hP hD hS hl
      have ih7 := ih
      clear ih
      refine lv_iload_n hx hb dX0_remove_2 rfl (lv_at hl 2 rfl) ?_
      refine lv_iconst (v := 1) hx hb dX0_remove_3 (by decide) ?_
      refine lv_iadd hx hb dX0_remove_4 ?_
      refine lv_topi (fun z8 ez8 => ?_)
      have tz8 : (z8).toInt = (x1).toInt + 1 := by rw [ez8]; exact i_add rfl (by decide) (by omega)
      refine lv_aload_n hx hb dX0_remove_5 rfl (lv_at hl 0 rfl) ?_
      refine va_get (D := (dC, dI)) (ci := 0) (v := .int x_an_count) (C := RX0) (T := TX0) (N := 6) hx hb hw iwX0 hown hK hP 0 rfl rfl 4 (by decide) (hw _ w_f_X0_24) (fun _ h9 => h9) rfl dX0_remove_6 ?_
      refine lv_icmp_ge (tgt := 74) hx hb dX0_remove_9 (by decide) (fun c9 => ?_) (fun c9 => ?_)
      · have kc9 := (cv_le (rfl : (x_an_count).toInt = (x_an_count).toInt) (rfl : (z8).toInt = (z8).toInt)).mp c9
        refine lv_aload_n hx hb dX0_remove_74 rfl (lv_at hl 0 rfl) ?_
        refine lv_dup hx hb dX0_remove_75 rfl ?_
        refine va_get (D := (dC, dI)) (ci := 0) (v := .int x_an_count) (C := RX0) (T := TX0) (N := 6) hx hb hw iwX0 hown hK hP 0 rfl rfl 4 (by decide) (hw _ w_f_X0_24) (fun _ h9 => h9) rfl dX0_remove_76 ?_
        refine lv_iconst (v := 1) hx hb dX0_remove_79 (by decide) ?_
        refine lv_isub hx hb dX0_remove_80 ?_
        refine lv_topi (fun z10 ez10 => ?_)
        have tz10 : (z10).toInt = (x_an_count).toInt - 1 := by rw [ez10]; exact i_sub rfl (by decide) (by omega)
        refine va_put (D := (dC, dI)) (ci := 0) (v := .int z10) (ty := tyX0 4) (C := RX0) (T := TX0) (N := 6) hx hb hw iwX0 tyX0 tyX0_ok nmX0 hown hK hP hD hS 0 rfl rfl 4 (by decide) (hw _ w_f_X0_24) (fun _ h9 => h9) rfl (tyX0_ok 4 (by decide)) rfl rfl (Nat.le_of_ble_eq_true rfl) dX0_remove_81 (fun H locs hP9 hD9 hS9 => ?_)
        clear hP hD hS
        have hP : va_P (dC, dI) cls [(h_an, .inr (0, (mo40 v_an (.ref h_as) (.ref h_ad) (.ref h_ao) (.ref h_af) (.int z10)))), (h_as, .inl (cy_as, 8, .inl f2)), (h_ad, .inl (cy_ad, 8, .inl f3)), (h_ao, .inl (cy_ao, 8, .inl f4)), (h_af, .inl (cy_af, 8, .inl f5))] H := hP9
        have hD : va_D A [(h_an, .inr (0, (mo40 v_an (.ref h_as) (.ref h_ad) (.ref h_ao) (.ref h_af) (.int z10)))), (h_as, .inl (cy_as, 8, .inl f2)), (h_ad, .inl (cy_ad, 8, .inl f3)), (h_ao, .inl (cy_ao, 8, .inl f4)), (h_af, .inl (cy_af, 8, .inl f5))] := hD9
        have hS := hS9
        clear hP9 hD9 hS9
        refine W.widen (k := 0) (n := 0) (Nat.le_of_ble_eq_true rfl) (Nat.le_of_ble_eq_true rfl) ?_
        have w11 : 0 ≤ ((z10)).toInt ∧ ((z10)).toInt ≤ 8 := by omega
        have w12 : ((z10)).toInt = (x_an_count).toInt - 1 := by omega
        exact W.vret hx hb hr (fun t ht hW => ⟨⟨(z10, f2, f3, f4, f5), rfl, ⟨w11, w12⟩, by rw [ht]; exact hP, hD⟩, hS.F ht⟩) hS.2.2 dX0_remove_84
      · have kc9 := (not_congr (cv_le (rfl : (x_an_count).toInt = (x_an_count).toInt) (rfl : (z8).toInt = (z8).toInt))).mp c9
        refine lv_aload_n hx hb dX0_remove_12 rfl (lv_at hl 0 rfl) ?_
        refine va_get (D := (dC, dI)) (ci := 0) (v := .ref h_as) (C := RX0) (T := TX0) (N := 6) hx hb hw iwX0 hown hK hP 0 rfl rfl 0 (by decide) (hw _ w_f_X0_9) (fun _ h9 => h9) rfl dX0_remove_13 ?_
        refine lv_iload_n hx hb dX0_remove_16 rfl (lv_at hl 2 rfl) ?_
        refine lv_aload_n hx hb dX0_remove_17 rfl (lv_at hl 0 rfl) ?_
        refine va_get (D := (dC, dI)) (ci := 0) (v := .ref h_as) (C := RX0) (T := TX0) (N := 6) hx hb hw iwX0 hown hK hP 0 rfl rfl 0 (by decide) (hw _ w_f_X0_9) (fun _ h9 => h9) rfl dX0_remove_18 ?_
        refine lv_iload_n hx hb dX0_remove_21 rfl (lv_at hl 2 rfl) ?_
        refine lv_iconst (v := 1) hx hb dX0_remove_22 (by decide) ?_
        refine lv_iadd hx hb dX0_remove_23 ?_
        refine lv_topi (fun z13 ez13 => ?_)
        have qz13 : (z13).toInt = (z8).toInt := by rw [ez13, ez8]
        have tz13 : (z13).toInt = (x1).toInt + 1 := by rw [ez13]; exact i_add rfl (by decide) (by omega)
        refine va_iald hx hb hK hP 1 0 rfl rfl (i := z13) (vp_in_iff.mpr (by omega)) dX0_remove_24 ?_
        refine lv_topi (fun z14 ez14 => ?_)
        refine va_iast hx hb hK hP hD hS 1 0 rfl rfl (i := x1) (x := z14) (vp_in_iff.mpr (by omega)) dX0_remove_25 (fun H locs hP9 hD9 hS9 => ?_)
        obtain ⟨f15, ef15⟩ : ∃ g : Nat → Int32, g = upd f2 (Int32.toNatClampNeg x1) z14 := ⟨_, rfl⟩
        clear hP hD hS
        have hP : va_P (dC, dI) cls [(h_an, .inr (0, (mo40 v_an (.ref h_as) (.ref h_ad) (.ref h_ao) (.ref h_af) (.int x_an_count)))), (h_as, .inl (cy_as, 8, .inl f15)), (h_ad, .inl (cy_ad, 8, .inl f3)), (h_ao, .inl (cy_ao, 8, .inl f4)), (h_af, .inl (cy_af, 8, .inl f5))] H := by rw [ef15]; exact hP9
        have hD : va_D A [(h_an, .inr (0, (mo40 v_an (.ref h_as) (.ref h_ad) (.ref h_ao) (.ref h_af) (.int x_an_count)))), (h_as, .inl (cy_as, 8, .inl f15)), (h_ad, .inl (cy_ad, 8, .inl f3)), (h_ao, .inl (cy_ao, 8, .inl f4)), (h_af, .inl (cy_af, 8, .inl f5))] := by rw [ef15]; exact hD9
        have hS := hS9
        clear hP9 hD9 hS9
        clear ef15
        refine lv_aload_n hx hb dX0_remove_26 rfl (lv_at hl 0 rfl) ?_
        refine va_get (D := (dC, dI)) (ci := 0) (v := .ref h_ad) (C := RX0) (T := TX0) (N := 6) hx hb hw iwX0 hown hK hP 0 rfl rfl 1 (by decide) (hw _ w_f_X0_15) (fun _ h9 => h9) rfl dX0_remove_27 ?_
        refine lv_iload_n hx hb dX0_remove_30 rfl (lv_at hl 2 rfl) ?_
        refine lv_aload_n hx hb dX0_remove_31 rfl (lv_at hl 0 rfl) ?_
        refine va_get (D := (dC, dI)) (ci := 0) (v := .ref h_ad) (C := RX0) (T := TX0) (N := 6) hx hb hw iwX0 hown hK hP 0 rfl rfl 1 (by decide) (hw _ w_f_X0_15) (fun _ h9 => h9) rfl dX0_remove_32 ?_
        refine lv_iload_n hx hb dX0_remove_35 rfl (lv_at hl 2 rfl) ?_
        refine lv_iconst (v := 1) hx hb dX0_remove_36 (by decide) ?_
        refine lv_iadd hx hb dX0_remove_37 ?_
        refine lv_topi (fun z16 ez16 => ?_)
        have qz16 : (z16).toInt = (z8).toInt := by rw [ez16, ez8]
        have tz16 : (z16).toInt = (x1).toInt + 1 := by rw [ez16]; exact i_add rfl (by decide) (by omega)
        refine va_iald hx hb hK hP 2 1 rfl rfl (i := z16) (vp_in_iff.mpr (by omega)) dX0_remove_38 ?_
        refine lv_topi (fun z17 ez17 => ?_)
        refine va_iast hx hb hK hP hD hS 2 1 rfl rfl (i := x1) (x := z17) (vp_in_iff.mpr (by omega)) dX0_remove_39 (fun H locs hP9 hD9 hS9 => ?_)
        obtain ⟨f18, ef18⟩ : ∃ g : Nat → Int32, g = upd f3 (Int32.toNatClampNeg x1) z17 := ⟨_, rfl⟩
        clear hP hD hS
        have hP : va_P (dC, dI) cls [(h_an, .inr (0, (mo40 v_an (.ref h_as) (.ref h_ad) (.ref h_ao) (.ref h_af) (.int x_an_count)))), (h_as, .inl (cy_as, 8, .inl f15)), (h_ad, .inl (cy_ad, 8, .inl f18)), (h_ao, .inl (cy_ao, 8, .inl f4)), (h_af, .inl (cy_af, 8, .inl f5))] H := by rw [ef18]; exact hP9
        have hD : va_D A [(h_an, .inr (0, (mo40 v_an (.ref h_as) (.ref h_ad) (.ref h_ao) (.ref h_af) (.int x_an_count)))), (h_as, .inl (cy_as, 8, .inl f15)), (h_ad, .inl (cy_ad, 8, .inl f18)), (h_ao, .inl (cy_ao, 8, .inl f4)), (h_af, .inl (cy_af, 8, .inl f5))] := by rw [ef18]; exact hD9
        have hS := hS9
        clear hP9 hD9 hS9
        clear ef18
        refine lv_aload_n hx hb dX0_remove_40 rfl (lv_at hl 0 rfl) ?_
        refine va_get (D := (dC, dI)) (ci := 0) (v := .ref h_ao) (C := RX0) (T := TX0) (N := 6) hx hb hw iwX0 hown hK hP 0 rfl rfl 2 (by decide) (hw _ w_f_X0_18) (fun _ h9 => h9) rfl dX0_remove_41 ?_
        refine lv_iload_n hx hb dX0_remove_44 rfl (lv_at hl 2 rfl) ?_
        refine lv_aload_n hx hb dX0_remove_45 rfl (lv_at hl 0 rfl) ?_
        refine va_get (D := (dC, dI)) (ci := 0) (v := .ref h_ao) (C := RX0) (T := TX0) (N := 6) hx hb hw iwX0 hown hK hP 0 rfl rfl 2 (by decide) (hw _ w_f_X0_18) (fun _ h9 => h9) rfl dX0_remove_46 ?_
        refine lv_iload_n hx hb dX0_remove_49 rfl (lv_at hl 2 rfl) ?_
        refine lv_iconst (v := 1) hx hb dX0_remove_50 (by decide) ?_
        refine lv_iadd hx hb dX0_remove_51 ?_
        refine lv_topi (fun z19 ez19 => ?_)
        have qz19 : (z19).toInt = (z8).toInt := by rw [ez19, ez8]
        have tz19 : (z19).toInt = (x1).toInt + 1 := by rw [ez19]; exact i_add rfl (by decide) (by omega)
        refine va_iald hx hb hK hP 3 2 rfl rfl (i := z19) (vp_in_iff.mpr (by omega)) dX0_remove_52 ?_
        refine lv_topi (fun z20 ez20 => ?_)
        refine va_iast hx hb hK hP hD hS 3 2 rfl rfl (i := x1) (x := z20) (vp_in_iff.mpr (by omega)) dX0_remove_53 (fun H locs hP9 hD9 hS9 => ?_)
        obtain ⟨f21, ef21⟩ : ∃ g : Nat → Int32, g = upd f4 (Int32.toNatClampNeg x1) z20 := ⟨_, rfl⟩
        clear hP hD hS
        have hP : va_P (dC, dI) cls [(h_an, .inr (0, (mo40 v_an (.ref h_as) (.ref h_ad) (.ref h_ao) (.ref h_af) (.int x_an_count)))), (h_as, .inl (cy_as, 8, .inl f15)), (h_ad, .inl (cy_ad, 8, .inl f18)), (h_ao, .inl (cy_ao, 8, .inl f21)), (h_af, .inl (cy_af, 8, .inl f5))] H := by rw [ef21]; exact hP9
        have hD : va_D A [(h_an, .inr (0, (mo40 v_an (.ref h_as) (.ref h_ad) (.ref h_ao) (.ref h_af) (.int x_an_count)))), (h_as, .inl (cy_as, 8, .inl f15)), (h_ad, .inl (cy_ad, 8, .inl f18)), (h_ao, .inl (cy_ao, 8, .inl f21)), (h_af, .inl (cy_af, 8, .inl f5))] := by rw [ef21]; exact hD9
        have hS := hS9
        clear hP9 hD9 hS9
        clear ef21
        refine lv_aload_n hx hb dX0_remove_54 rfl (lv_at hl 0 rfl) ?_
        refine va_get (D := (dC, dI)) (ci := 0) (v := .ref h_af) (C := RX0) (T := TX0) (N := 6) hx hb hw iwX0 hown hK hP 0 rfl rfl 3 (by decide) (hw _ w_f_X0_21) (fun _ h9 => h9) rfl dX0_remove_55 ?_
        refine lv_iload_n hx hb dX0_remove_58 rfl (lv_at hl 2 rfl) ?_
        refine lv_aload_n hx hb dX0_remove_59 rfl (lv_at hl 0 rfl) ?_
        refine va_get (D := (dC, dI)) (ci := 0) (v := .ref h_af) (C := RX0) (T := TX0) (N := 6) hx hb hw iwX0 hown hK hP 0 rfl rfl 3 (by decide) (hw _ w_f_X0_21) (fun _ h9 => h9) rfl dX0_remove_60 ?_
        refine lv_iload_n hx hb dX0_remove_63 rfl (lv_at hl 2 rfl) ?_
        refine lv_iconst (v := 1) hx hb dX0_remove_64 (by decide) ?_
        refine lv_iadd hx hb dX0_remove_65 ?_
        refine lv_topi (fun z22 ez22 => ?_)
        have qz22 : (z22).toInt = (z8).toInt := by rw [ez22, ez8]
        have tz22 : (z22).toInt = (x1).toInt + 1 := by rw [ez22]; exact i_add rfl (by decide) (by omega)
        refine va_iald hx hb hK hP 4 3 rfl rfl (i := z22) (vp_in_iff.mpr (by omega)) dX0_remove_66 ?_
        refine lv_topi (fun z23 ez23 => ?_)
        refine va_iast hx hb hK hP hD hS 4 3 rfl rfl (i := x1) (x := z23) (vp_in_iff.mpr (by omega)) dX0_remove_67 (fun H locs hP9 hD9 hS9 => ?_)
        obtain ⟨f24, ef24⟩ : ∃ g : Nat → Int32, g = upd f5 (Int32.toNatClampNeg x1) z23 := ⟨_, rfl⟩
        clear hP hD hS
        have hP : va_P (dC, dI) cls [(h_an, .inr (0, (mo40 v_an (.ref h_as) (.ref h_ad) (.ref h_ao) (.ref h_af) (.int x_an_count)))), (h_as, .inl (cy_as, 8, .inl f15)), (h_ad, .inl (cy_ad, 8, .inl f18)), (h_ao, .inl (cy_ao, 8, .inl f21)), (h_af, .inl (cy_af, 8, .inl f24))] H := by rw [ef24]; exact hP9
        have hD : va_D A [(h_an, .inr (0, (mo40 v_an (.ref h_as) (.ref h_ad) (.ref h_ao) (.ref h_af) (.int x_an_count)))), (h_as, .inl (cy_as, 8, .inl f15)), (h_ad, .inl (cy_ad, 8, .inl f18)), (h_ao, .inl (cy_ao, 8, .inl f21)), (h_af, .inl (cy_af, 8, .inl f24))] := by rw [ef24]; exact hD9
        have hS := hS9
        clear hP9 hD9 hS9
        clear ef24
        obtain ⟨z25, ez25⟩ : ∃ y : Int32, y = x1 + 1 := ⟨_, rfl⟩
        have tz25 : (z25).toInt = (x1).toInt + 1 := by rw [ez25]; exact i_add rfl (by decide) (by omega)
        refine lv_iinc (v := z25) (lv' := [(2, .int z25), (0, .ref h_an), (1, .int p1)]) hx hb dX0_remove_68 hl (k := 2) rfl (by rw [ez25]; rfl) (by decide) rfl (fun ls hl => ?_)
        refine lv_goto (tgt := 2) hx hb dX0_remove_71 (by decide) ?_
        exact ih7 (z25) (f15) (f18) (f21) (f24) _ _ _ (by omega) (by omega) (by omega) hP hD hS (lv_sub hl [1, 2, 0] rfl)
  exact lp6 _ (p1) (f_as) (f_ad) (f_ao) (f_af) _ _ _ (by omega) (by first | exact q1 | omega) (Nat.le_refl _) hP hD hS (lv_sub hl [1, 2, 0] rfl)

set_option maxHeartbeats 8000000 in
set_option maxRecDepth 100000 in
theorem c_X0_put (l : Launch) (dC : Nat → ClassId) (dI : Nat → Nat → Nat) (sz : Nat) (h_an : Nat) (h_as : Nat) (h_ad : Nat) (h_ao : Nat) (h_af : Nat) (x_an_count : Int32) (x_an_again : Int32) (cy_as : ClassId) (f_as : Nat → Int32) (cy_ad : ClassId) (f_ad : Nat → Int32) (cy_ao : ClassId) (f_ao : Nat → Int32) (cy_af : ClassId) (f_af : Nat → Int32) (p1 : Int32) (p2 : Int32) (p3 : Int32) (p4 : Int32) (hx_an_count : 0 ≤ (x_an_count).toInt ∧ (x_an_count).toInt ≤ 8) : Met l yX0_put (Ws yX0_put cX0_put 6 none) (({ frames := 1, cells := 0, slots := 0, locals := 22 } : Room)) (PRE (dC, dI) cls [(cy_as, .int), (cy_ad, .int), (cy_ao, .int), (cy_af, .int)] [(h_an, .inr (0, (mo41 (.ref h_as) (.ref h_ad) (.ref h_ao) (.ref h_af) (.int x_an_count) (.int x_an_again)))), (h_as, .inl (cy_as, 8, .inl f_as)), (h_ad, .inl (cy_ad, 8, .inl f_ad)), (h_ao, .inl (cy_ao, 8, .inl f_ao)), (h_af, .inl (cy_af, 8, .inl f_af))] sz [.ref h_an, .int p1, .int p2, .int p3, .int p4]) (va_Qv (fun (u : (Int32) × (Int32) × (Nat → Int32) × (Nat → Int32) × (Nat → Int32) × (Nat → Int32)) => (0 ≤ (u.1).toInt ∧ (u.1).toInt ≤ 8)) (fun (u : (Int32) × (Int32) × (Nat → Int32) × (Nat → Int32) × (Nat → Int32) × (Nat → Int32)) (t : State) => va_P (dC, dI) cls [(h_an, .inr (0, (mo41 (.ref h_as) (.ref h_ad) (.ref h_ao) (.ref h_af) (.int u.1) (.int u.2.1)))), (h_as, .inl (cy_as, 8, .inl u.2.2.1)), (h_ad, .inl (cy_ad, 8, .inl u.2.2.2.1)), (h_ao, .inl (cy_ao, 8, .inl u.2.2.2.2.1)), (h_af, .inl (cy_af, 8, .inl u.2.2.2.2.2))] t.heap ∧ va_D (va_A [(h_an, .inr (0, (mo41 (.ref h_as) (.ref h_ad) (.ref h_ao) (.ref h_af) (.int x_an_count) (.int x_an_again)))), (h_as, .inl (cy_as, 8, .inl f_as)), (h_ad, .inl (cy_ad, 8, .inl f_ad)), (h_ao, .inl (cy_ao, 8, .inl f_ao)), (h_af, .inl (cy_af, 8, .inl f_af))] sz) [(h_an, .inr (0, (mo41 (.ref h_as) (.ref h_ad) (.ref h_ao) (.ref h_af) (.int u.1) (.int u.2.1)))), (h_as, .inl (cy_as, 8, .inl u.2.2.1)), (h_ad, .inl (cy_ad, 8, .inl u.2.2.2.1)), (h_ao, .inl (cy_ao, 8, .inl u.2.2.2.2.1)), (h_af, .inl (cy_af, 8, .inl u.2.2.2.2.2))]) (va_A [(h_an, .inr (0, (mo41 (.ref h_as) (.ref h_ad) (.ref h_ao) (.ref h_af) (.int x_an_count) (.int x_an_again)))), (h_as, .inl (cy_as, 8, .inl f_as)), (h_ad, .inl (cy_ad, 8, .inl f_ad)), (h_ao, .inl (cy_ao, 8, .inl f_ao)), (h_af, .inl (cy_af, 8, .inl f_af))] sz)) 0 0 (va_A [(h_an, .inr (0, (mo41 (.ref h_as) (.ref h_ad) (.ref h_ao) (.ref h_af) (.int x_an_count) (.int x_an_again)))), (h_as, .inl (cy_as, 8, .inl f_as)), (h_ad, .inl (cy_ad, 8, .inl f_ad)), (h_ao, .inl (cy_ao, 8, .inl f_ao)), (h_af, .inl (cy_af, 8, .inl f_af))] sz) := by
  refine Met.ofW (cc := cX0_put) (maxL := 6) (ret := none) (by decide) rfl ?_
  intro p e s m args below meth c s₁ B hml hv
  obtain ⟨rfl, hsz, hP, hK, hD0, hN⟩ := hv
  have hx := B.exec
  have hb := B.bytes
  have hr := B.returns
  have hts := atoms_spec (ws := Ws yX0_put cX0_put 6 none) B.pre
  have hT : ∀ w ∈ WALL, w ∈ Ws yX0_put cX0_put 6 none := fun w h => List.mem_cons_of_mem _ h
  have hw := fun w (h : w ∈ WALL) => hts w (hT w h)
  have hown : s.vm.findClass RX0 = some m.cls := findClass_of_methodNamed B.named
  have hlocks := B.notSynchronized
  subst hsz
  have hD := hD0.self (sz := s.heap.size)
  generalize hAe : va_A [(h_an, .inr (0, (mo41 (.ref h_as) (.ref h_ad) (.ref h_ao) (.ref h_af) (.int x_an_count) (.int x_an_again)))), (h_as, .inl (cy_as, 8, .inl f_as)), (h_ad, .inl (cy_ad, 8, .inl f_ad)), (h_ao, .inl (cy_ao, 8, .inl f_ao)), (h_af, .inl (cy_af, 8, .inl f_af))] s.heap.size = A at hD ⊢
  have hA : ∀ q : Nat, s.heap.size ≤ q → A q := fun q h => by rw [← hAe]; exact Or.inr h
  have hS : va_S A s.heap s.heap [] := va_S.rf
  have hl := lv_entry ([.ref h_an, .int p1, .int p2, .int p3, .int p4]) (n := 6) (Nat.le_of_ble_eq_true rfl)
  rw [lg_entry_eq]
  generalize (lg_sl ([.ref h_an, .int p1, .int p2, .int p3, .int p4]) ++ List.replicate (6 - (lg_sl ([.ref h_an, .int p1, .int p2, .int p3, .int p4])).length) Slot.unset).toArray = ls at hl ⊢
  have hl : lv_has ls 6 [(0, .ref h_an), (1, .int p1), (2, .int p2), (3, .int p3), (4, .int p4)] := hl
  refine lv_iconst (v := 0) hx hb dX0_put_0 (by decide) ?_
  refine lv_istore (lv' := [(5, .int 0), (0, .ref h_an), (1, .int p1), (2, .int p2), (3, .int p3), (4, .int p4)]) hx hb dX0_put_1 hl (by decide) rfl (fun ls hl => ?_)
  have lp8 : ∀ (n : Nat) (x1 : Int32) (x2 : Int32) (x3 : Int32) (f4 : Nat → Int32) (f5 : Nat → Int32) (f6 : Nat → Int32) (f7 : Nat → Int32) (H : Heap) (locs : List Loc) (ls : Array Slot), (0 ≤ (x1).toInt ∧ (x1).toInt ≤ 8) → (0 ≤ (x2).toInt ∧ (x2).toInt ≤ 8) → (8 - (x1).toInt).toNat + 1 ≤ n → va_P (dC, dI) cls [(h_an, .inr (0, (mo41 (.ref h_as) (.ref h_ad) (.ref h_ao) (.ref h_af) (.int x2) (.int x3)))), (h_as, .inl (cy_as, 8, .inl f4)), (h_ad, .inl (cy_ad, 8, .inl f5)), (h_ao, .inl (cy_ao, 8, .inl f6)), (h_af, .inl (cy_af, 8, .inl f7))] H → va_D A [(h_an, .inr (0, (mo41 (.ref h_as) (.ref h_ad) (.ref h_ao) (.ref h_af) (.int x2) (.int x3)))), (h_as, .inl (cy_as, 8, .inl f4)), (h_ad, .inl (cy_ad, 8, .inl f5)), (h_ao, .inl (cy_ao, 8, .inl f6)), (h_af, .inl (cy_af, 8, .inl f7))] → va_S A s.heap H locs → lv_has ls 6 [(0, .ref h_an), (1, .int p1), (2, .int p2), (3, .int p3), (4, .int p4), (5, .int x1)] → W p l e ({ frames := 1, cells := 0, slots := 0, locals := 22 } : Room) s m ([.ref h_an, .int p1, .int p2, .int p3, .int p4] : List Value).toArray below meth c H locs 0 0 (MQ below (va_Qv (fun (u : (Int32) × (Int32) × (Nat → Int32) × (Nat → Int32) × (Nat → Int32) × (Nat → Int32)) => (0 ≤ (u.1).toInt ∧ (u.1).toInt ≤ 8)) (fun (u : (Int32) × (Int32) × (Nat → Int32) × (Nat → Int32) × (Nat → Int32) × (Nat → Int32)) (t : State) => va_P (dC, dI) cls [(h_an, .inr (0, (mo41 (.ref h_as) (.ref h_ad) (.ref h_ao) (.ref h_af) (.int u.1) (.int u.2.1)))), (h_as, .inl (cy_as, 8, .inl u.2.2.1)), (h_ad, .inl (cy_ad, 8, .inl u.2.2.2.1)), (h_ao, .inl (cy_ao, 8, .inl u.2.2.2.2.1)), (h_af, .inl (cy_af, 8, .inl u.2.2.2.2.2))] t.heap ∧ va_D A [(h_an, .inr (0, (mo41 (.ref h_as) (.ref h_ad) (.ref h_ao) (.ref h_af) (.int u.1) (.int u.2.1)))), (h_as, .inl (cy_as, 8, .inl u.2.2.1)), (h_ad, .inl (cy_ad, 8, .inl u.2.2.2.1)), (h_ao, .inl (cy_ao, 8, .inl u.2.2.2.2.1)), (h_af, .inl (cy_af, 8, .inl u.2.2.2.2.2))]) A) ([.ref h_an, .int p1, .int p2, .int p3, .int p4] : List Value).toArray s 0 0 A) (F0 m 3 ls []) := by
    clear hP hD hS hl
    intro n
    induction n with
    | zero => intro x1 x2 x3 f4 f5 f6 f7 H locs ls klp8_0 klp8_1 hm hP hD hS hl; exact False.elim (by omega)
    | succ n ih => 
      intro x1 x2 x3 f4 f5 f6 f7 H locs ls klp8_0 klp8_1 hm hP hD hS hl
      have ih9 := ih
      clear ih
      refine lv_iload hx hb dX0_put_3 (lv_at hl 5 rfl) ?_
      refine lv_aload_n hx hb dX0_put_5 rfl (lv_at hl 0 rfl) ?_
      refine va_get (D := (dC, dI)) (ci := 0) (v := .int x2) (C := RX0) (T := TX0) (N := 6) hx hb hw iwX0 hown hK hP 0 rfl rfl 4 (by decide) (hw _ w_f_X0_24) (fun _ h9 => h9) rfl dX0_put_6 ?_
      refine lv_icmp_ge (tgt := 67) hx hb dX0_put_9 (by decide) (fun c10 => ?_) (fun c10 => ?_)
      · have kc10 := (cv_le (rfl : (x2).toInt = (x2).toInt) (rfl : (x1).toInt = (x1).toInt)).mp c10
        refine lv_aload_n hx hb dX0_put_67 rfl (lv_at hl 0 rfl) ?_
        refine va_get (D := (dC, dI)) (ci := 0) (v := .int x2) (C := RX0) (T := TX0) (N := 6) hx hb hw iwX0 hown hK hP 0 rfl rfl 4 (by decide) (hw _ w_f_X0_24) (fun _ h9 => h9) rfl dX0_put_68 ?_
        refine lv_bipush (v := 8) hx hb dX0_put_71 (by decide) ?_
        refine lv_icmp_ne (tgt := 81) hx hb dX0_put_73 (by decide) (fun c11 => ?_) (fun c11 => ?_)
        · have kc11 := (not_congr (cv_eq (rfl : (x2).toInt = (x2).toInt) (by decide : (8 : Int32).toInt = 8))).mp c11
          refine lv_aload_n hx hb dX0_put_81 rfl (lv_at hl 0 rfl) ?_
          refine va_get (D := (dC, dI)) (ci := 0) (v := .ref h_as) (C := RX0) (T := TX0) (N := 6) hx hb hw iwX0 hown hK hP 0 rfl rfl 0 (by decide) (hw _ w_f_X0_9) (fun _ h9 => h9) rfl dX0_put_82 ?_
          refine lv_aload_n hx hb dX0_put_85 rfl (lv_at hl 0 rfl) ?_
          refine va_get (D := (dC, dI)) (ci := 0) (v := .int x2) (C := RX0) (T := TX0) (N := 6) hx hb hw iwX0 hown hK hP 0 rfl rfl 4 (by decide) (hw _ w_f_X0_24) (fun _ h9 => h9) rfl dX0_put_86 ?_
          refine lv_iload_n hx hb dX0_put_89 rfl (lv_at hl 1 rfl) ?_
          refine va_iast hx hb hK hP hD hS 1 0 rfl rfl (i := x2) (x := p1) (vp_in_iff.mpr (by omega)) dX0_put_90 (fun H locs hP9 hD9 hS9 => ?_)
          obtain ⟨f12, ef12⟩ : ∃ g : Nat → Int32, g = upd f4 (Int32.toNatClampNeg x2) p1 := ⟨_, rfl⟩
          clear hP hD hS
          have hP : va_P (dC, dI) cls [(h_an, .inr (0, (mo41 (.ref h_as) (.ref h_ad) (.ref h_ao) (.ref h_af) (.int x2) (.int x3)))), (h_as, .inl (cy_as, 8, .inl f12)), (h_ad, .inl (cy_ad, 8, .inl f5)), (h_ao, .inl (cy_ao, 8, .inl f6)), (h_af, .inl (cy_af, 8, .inl f7))] H := by rw [ef12]; exact hP9
          have hD : va_D A [(h_an, .inr (0, (mo41 (.ref h_as) (.ref h_ad) (.ref h_ao) (.ref h_af) (.int x2) (.int x3)))), (h_as, .inl (cy_as, 8, .inl f12)), (h_ad, .inl (cy_ad, 8, .inl f5)), (h_ao, .inl (cy_ao, 8, .inl f6)), (h_af, .inl (cy_af, 8, .inl f7))] := by rw [ef12]; exact hD9
          have hS := hS9
          clear hP9 hD9 hS9
          clear ef12
          refine lv_aload_n hx hb dX0_put_91 rfl (lv_at hl 0 rfl) ?_
          refine va_get (D := (dC, dI)) (ci := 0) (v := .ref h_ad) (C := RX0) (T := TX0) (N := 6) hx hb hw iwX0 hown hK hP 0 rfl rfl 1 (by decide) (hw _ w_f_X0_15) (fun _ h9 => h9) rfl dX0_put_92 ?_
          refine lv_aload_n hx hb dX0_put_95 rfl (lv_at hl 0 rfl) ?_
          refine va_get (D := (dC, dI)) (ci := 0) (v := .int x2) (C := RX0) (T := TX0) (N := 6) hx hb hw iwX0 hown hK hP 0 rfl rfl 4 (by decide) (hw _ w_f_X0_24) (fun _ h9 => h9) rfl dX0_put_96 ?_
          refine lv_iload_n hx hb dX0_put_99 rfl (lv_at hl 2 rfl) ?_
          refine va_iast hx hb hK hP hD hS 2 1 rfl rfl (i := x2) (x := p2) (vp_in_iff.mpr (by omega)) dX0_put_100 (fun H locs hP9 hD9 hS9 => ?_)
          obtain ⟨f13, ef13⟩ : ∃ g : Nat → Int32, g = upd f5 (Int32.toNatClampNeg x2) p2 := ⟨_, rfl⟩
          clear hP hD hS
          have hP : va_P (dC, dI) cls [(h_an, .inr (0, (mo41 (.ref h_as) (.ref h_ad) (.ref h_ao) (.ref h_af) (.int x2) (.int x3)))), (h_as, .inl (cy_as, 8, .inl f12)), (h_ad, .inl (cy_ad, 8, .inl f13)), (h_ao, .inl (cy_ao, 8, .inl f6)), (h_af, .inl (cy_af, 8, .inl f7))] H := by rw [ef13]; exact hP9
          have hD : va_D A [(h_an, .inr (0, (mo41 (.ref h_as) (.ref h_ad) (.ref h_ao) (.ref h_af) (.int x2) (.int x3)))), (h_as, .inl (cy_as, 8, .inl f12)), (h_ad, .inl (cy_ad, 8, .inl f13)), (h_ao, .inl (cy_ao, 8, .inl f6)), (h_af, .inl (cy_af, 8, .inl f7))] := by rw [ef13]; exact hD9
          have hS := hS9
          clear hP9 hD9 hS9
          clear ef13
          refine lv_aload_n hx hb dX0_put_101 rfl (lv_at hl 0 rfl) ?_
          refine va_get (D := (dC, dI)) (ci := 0) (v := .ref h_ao) (C := RX0) (T := TX0) (N := 6) hx hb hw iwX0 hown hK hP 0 rfl rfl 2 (by decide) (hw _ w_f_X0_18) (fun _ h9 => h9) rfl dX0_put_102 ?_
          refine lv_aload_n hx hb dX0_put_105 rfl (lv_at hl 0 rfl) ?_
          refine va_get (D := (dC, dI)) (ci := 0) (v := .int x2) (C := RX0) (T := TX0) (N := 6) hx hb hw iwX0 hown hK hP 0 rfl rfl 4 (by decide) (hw _ w_f_X0_24) (fun _ h9 => h9) rfl dX0_put_106 ?_
          refine lv_iload_n hx hb dX0_put_109 rfl (lv_at hl 3 rfl) ?_
          refine va_iast hx hb hK hP hD hS 3 2 rfl rfl (i := x2) (x := p3) (vp_in_iff.mpr (by omega)) dX0_put_110 (fun H locs hP9 hD9 hS9 => ?_)
          obtain ⟨f14, ef14⟩ : ∃ g : Nat → Int32, g = upd f6 (Int32.toNatClampNeg x2) p3 := ⟨_, rfl⟩
          clear hP hD hS
          have hP : va_P (dC, dI) cls [(h_an, .inr (0, (mo41 (.ref h_as) (.ref h_ad) (.ref h_ao) (.ref h_af) (.int x2) (.int x3)))), (h_as, .inl (cy_as, 8, .inl f12)), (h_ad, .inl (cy_ad, 8, .inl f13)), (h_ao, .inl (cy_ao, 8, .inl f14)), (h_af, .inl (cy_af, 8, .inl f7))] H := by rw [ef14]; exact hP9
          have hD : va_D A [(h_an, .inr (0, (mo41 (.ref h_as) (.ref h_ad) (.ref h_ao) (.ref h_af) (.int x2) (.int x3)))), (h_as, .inl (cy_as, 8, .inl f12)), (h_ad, .inl (cy_ad, 8, .inl f13)), (h_ao, .inl (cy_ao, 8, .inl f14)), (h_af, .inl (cy_af, 8, .inl f7))] := by rw [ef14]; exact hD9
          have hS := hS9
          clear hP9 hD9 hS9
          clear ef14
          refine lv_aload_n hx hb dX0_put_111 rfl (lv_at hl 0 rfl) ?_
          refine va_get (D := (dC, dI)) (ci := 0) (v := .ref h_af) (C := RX0) (T := TX0) (N := 6) hx hb hw iwX0 hown hK hP 0 rfl rfl 3 (by decide) (hw _ w_f_X0_21) (fun _ h9 => h9) rfl dX0_put_112 ?_
          refine lv_aload_n hx hb dX0_put_115 rfl (lv_at hl 0 rfl) ?_
          refine va_get (D := (dC, dI)) (ci := 0) (v := .int x2) (C := RX0) (T := TX0) (N := 6) hx hb hw iwX0 hown hK hP 0 rfl rfl 4 (by decide) (hw _ w_f_X0_24) (fun _ h9 => h9) rfl dX0_put_116 ?_
          refine lv_iload hx hb dX0_put_119 (lv_at hl 4 rfl) ?_
          refine va_iast hx hb hK hP hD hS 4 3 rfl rfl (i := x2) (x := p4) (vp_in_iff.mpr (by omega)) dX0_put_121 (fun H locs hP9 hD9 hS9 => ?_)
          obtain ⟨f15, ef15⟩ : ∃ g : Nat → Int32, g = upd f7 (Int32.toNatClampNeg x2) p4 := ⟨_, rfl⟩
          clear hP hD hS
          have hP : va_P (dC, dI) cls [(h_an, .inr (0, (mo41 (.ref h_as) (.ref h_ad) (.ref h_ao) (.ref h_af) (.int x2) (.int x3)))), (h_as, .inl (cy_as, 8, .inl f12)), (h_ad, .inl (cy_ad, 8, .inl f13)), (h_ao, .inl (cy_ao, 8, .inl f14)), (h_af, .inl (cy_af, 8, .inl f15))] H := by rw [ef15]; exact hP9
          have hD : va_D A [(h_an, .inr (0, (mo41 (.ref h_as) (.ref h_ad) (.ref h_ao) (.ref h_af) (.int x2) (.int x3)))), (h_as, .inl (cy_as, 8, .inl f12)), (h_ad, .inl (cy_ad, 8, .inl f13)), (h_ao, .inl (cy_ao, 8, .inl f14)), (h_af, .inl (cy_af, 8, .inl f15))] := by rw [ef15]; exact hD9
          have hS := hS9
          clear hP9 hD9 hS9
          clear ef15
          refine lv_aload_n hx hb dX0_put_122 rfl (lv_at hl 0 rfl) ?_
          refine lv_dup hx hb dX0_put_123 rfl ?_
          refine va_get (D := (dC, dI)) (ci := 0) (v := .int x2) (C := RX0) (T := TX0) (N := 6) hx hb hw iwX0 hown hK hP 0 rfl rfl 4 (by decide) (hw _ w_f_X0_24) (fun _ h9 => h9) rfl dX0_put_124 ?_
          refine lv_iconst (v := 1) hx hb dX0_put_127 (by decide) ?_
          refine lv_iadd hx hb dX0_put_128 ?_
          refine lv_topi (fun z16 ez16 => ?_)
          have tz16 : (z16).toInt = (x2).toInt + 1 := by rw [ez16]; exact i_add rfl (by decide) (by omega)
          refine va_put (D := (dC, dI)) (ci := 0) (v := .int z16) (ty := tyX0 4) (C := RX0) (T := TX0) (N := 6) hx hb hw iwX0 tyX0 tyX0_ok nmX0 hown hK hP hD hS 0 rfl rfl 4 (by decide) (hw _ w_f_X0_24) (fun _ h9 => h9) rfl (tyX0_ok 4 (by decide)) rfl rfl (Nat.le_of_ble_eq_true rfl) dX0_put_129 (fun H locs hP9 hD9 hS9 => ?_)
          clear hP hD hS
          have hP : va_P (dC, dI) cls [(h_an, .inr (0, (mo41 (.ref h_as) (.ref h_ad) (.ref h_ao) (.ref h_af) (.int z16) (.int x3)))), (h_as, .inl (cy_as, 8, .inl f12)), (h_ad, .inl (cy_ad, 8, .inl f13)), (h_ao, .inl (cy_ao, 8, .inl f14)), (h_af, .inl (cy_af, 8, .inl f15))] H := hP9
          have hD : va_D A [(h_an, .inr (0, (mo41 (.ref h_as) (.ref h_ad) (.ref h_ao) (.ref h_af) (.int z16) (.int x3)))), (h_as, .inl (cy_as, 8, .inl f12)), (h_ad, .inl (cy_ad, 8, .inl f13)), (h_ao, .inl (cy_ao, 8, .inl f14)), (h_af, .inl (cy_af, 8, .inl f15))] := hD9
          have hS := hS9
          clear hP9 hD9 hS9
          refine W.widen (k := 0) (n := 0) (Nat.le_of_ble_eq_true rfl) (Nat.le_of_ble_eq_true rfl) ?_
          have w17 : 0 ≤ ((z16)).toInt ∧ ((z16)).toInt ≤ 8 := by omega
          exact W.vret hx hb hr (fun t ht hW => ⟨⟨(z16, x3, f12, f13, f14, f15), rfl, w17, by rw [ht]; exact hP, hD⟩, hS.F ht⟩) hS.2.2 dX0_put_132
        · have kc11 := (cv_eq (rfl : (x2).toInt = (x2).toInt) (by decide : (8 : Int32).toInt = 8)).mp c11
          refine lv_aload_n hx hb dX0_put_76 rfl (lv_at hl 0 rfl) ?_
          refine lv_iconst (v := 0) hx hb dX0_put_77 (by decide) ?_
          obtain ⟨vq18, evq18⟩ := mq41_40 (.int x3)
          replace hP : va_P (dC, dI) cls [(h_an, .inr (0, (mo40 vq18 (.ref h_as) (.ref h_ad) (.ref h_ao) (.ref h_af) (.int x2)))), (h_as, .inl (cy_as, 8, .inl f4)), (h_ad, .inl (cy_ad, 8, .inl f5)), (h_ao, .inl (cy_ao, 8, .inl f6)), (h_af, .inl (cy_af, 8, .inl f7))] H := by rw [evq18]; exact hP
          replace hD : va_D A [(h_an, .inr (0, (mo40 vq18 (.ref h_as) (.ref h_ad) (.ref h_ao) (.ref h_af) (.int x2)))), (h_as, .inl (cy_as, 8, .inl f4)), (h_ad, .inl (cy_ad, 8, .inl f5)), (h_ao, .inl (cy_ao, 8, .inl f6)), (h_af, .inl (cy_af, 8, .inl f7))] := by rw [evq18]; exact hD
          have cst0 : (0 : Int32).toInt = 0 := by decide
          have hPc := hP.sub (ws' := [(h_an, .inr (0, (mo40 vq18 (.ref h_as) (.ref h_ad) (.ref h_ao) (.ref h_af) (.int x2)))), (h_as, .inl (cy_as, 8, .inl f4)), (h_ad, .inl (cy_ad, 8, .inl f5)), (h_ao, .inl (cy_ao, 8, .inl f6)), (h_af, .inl (cy_af, 8, .inl f7))]) [0, 1, 2, 3, 4] rfl
          have hDc := hD.sub (ws' := [(h_an, .inr (0, (mo40 vq18 (.ref h_as) (.ref h_ad) (.ref h_ao) (.ref h_af) (.int x2)))), (h_as, .inl (cy_as, 8, .inl f4)), (h_ad, .inl (cy_ad, 8, .inl f5)), (h_ao, .inl (cy_ao, 8, .inl f6)), (h_af, .inl (cy_af, 8, .inl f7))]) [0, 1, 2, 3, 4] (by decide) rfl
          have hKc := hK.sub (tys' := [(cy_as, .int), (cy_ad, .int), (cy_ao, .int), (cy_af, .int)]) [0, 1, 2, 3] rfl
          have hFc := va_free (wc := [(h_an, .inr (0, (mo40 vq18 (.ref h_as) (.ref h_ad) (.ref h_ao) (.ref h_af) (.int x2)))), (h_as, .inl (cy_as, 8, .inl f4)), (h_ad, .inl (cy_ad, 8, .inl f5)), (h_ao, .inl (cy_ao, 8, .inl f6)), (h_af, .inl (cy_af, 8, .inl f7))]) hD hS hA [0, 1, 2, 3, 4] rfl
          refine va_callv (va_runV (As := [.int 0]) (rest := []) ⟨hx, hb, hml, hown, hts⟩ (c_X0_remove l dC dI H.size h_an h_as h_ad h_ao h_af vq18 x2 cy_as f4 cy_ad f5 cy_ao f6 cy_af f7 0 (by first | exact klp8_1 | omega) (by omega) (by omega)) (cwV 1 hts (gv hT w_m_X0_31 w_instanceMethod_X0_remove ws_sel_X0_remove w_ini_X0 w_code_X0_remove) rfl rfl rfl (by decide +kernel) ⟨(Nat.le_of_ble_eq_true rfl), (Nat.le_of_ble_eq_true rfl)⟩) ⟨pre_blind, va_recv hK hP (ci := 0) (q0 := 0) rfl rfl, pre_of hPc hKc hDc hN⟩ rfl rfl hl.1 rfl (lv_room (Nat.le_of_ble_eq_true rfl)) dX0_put_78 ⟨(Nat.le_of_ble_eq_true rfl), (Nat.le_of_ble_eq_true rfl)⟩) hS (fun q _ h => hFc q h) hFc (fun u t H locs ht hvm hq hB hz1 hk1 hS9 => ?_)
          obtain ⟨z20, f21, f22, f23, f24⟩ := u
          obtain ⟨hP1, hD1⟩ := hB
          rw [ht] at hP1
          obtain ⟨hP9, hD9⟩ := va_join (wr := []) (w1 := [(h_an, .inr (0, (mo40 vq18 (.ref h_as) (.ref h_ad) (.ref h_ao) (.ref h_af) (.int z20)))), (h_as, .inl (cy_as, 8, .inl f21)), (h_ad, .inl (cy_ad, 8, .inl f22)), (h_ao, .inl (cy_ao, 8, .inl f23)), (h_af, .inl (cy_af, 8, .inl f24))]) hP hD [0, 1, 2, 3, 4] [] rfl rfl (by decide) (by decide) hk1 hFc hP1 hD1
          clear hP hD hS hPc hDc hKc hFc hP1 hD1 hk1 hz1 ht hvm
          have hP : va_P (dC, dI) cls [(h_an, .inr (0, (mo40 vq18 (.ref h_as) (.ref h_ad) (.ref h_ao) (.ref h_af) (.int z20)))), (h_as, .inl (cy_as, 8, .inl f21)), (h_ad, .inl (cy_ad, 8, .inl f22)), (h_ao, .inl (cy_ao, 8, .inl f23)), (h_af, .inl (cy_af, 8, .inl f24))] H := hP9
          have hD : va_D A [(h_an, .inr (0, (mo40 vq18 (.ref h_as) (.ref h_ad) (.ref h_ao) (.ref h_af) (.int z20)))), (h_as, .inl (cy_as, 8, .inl f21)), (h_ad, .inl (cy_ad, 8, .inl f22)), (h_ao, .inl (cy_ao, 8, .inl f23)), (h_af, .inl (cy_af, 8, .inl f24))] := hD9
          have hS := hS9
          clear hP9 hD9 hS9
          rw [evq18] at hP hD
          replace hP : va_P (dC, dI) cls [(h_an, .inr (0, (mo41 (.ref h_as) (.ref h_ad) (.ref h_ao) (.ref h_af) (.int z20) (.int x3)))), (h_as, .inl (cy_as, 8, .inl f21)), (h_ad, .inl (cy_ad, 8, .inl f22)), (h_ao, .inl (cy_ao, 8, .inl f23)), (h_af, .inl (cy_af, 8, .inl f24))] H := hP
          replace hD : va_D A [(h_an, .inr (0, (mo41 (.ref h_as) (.ref h_ad) (.ref h_ao) (.ref h_af) (.int z20) (.int x3)))), (h_as, .inl (cy_as, 8, .inl f21)), (h_ad, .inl (cy_ad, 8, .inl f22)), (h_ao, .inl (cy_ao, 8, .inl f23)), (h_af, .inl (cy_af, 8, .inl f24))] := hD
          clear evq18 
          obtain ⟨k25, k26⟩ := hq
          replace k25 : 0 ≤ ((z20)).toInt ∧ ((z20)).toInt ≤ 8 := k25
          replace k26 : ((z20)).toInt = ((x2)).toInt - 1 := k26
          refine lv_aload_n hx hb dX0_put_81 rfl (lv_at hl 0 rfl) ?_
          refine va_get (D := (dC, dI)) (ci := 0) (v := .ref h_as) (C := RX0) (T := TX0) (N := 6) hx hb hw iwX0 hown hK hP 0 rfl rfl 0 (by decide) (hw _ w_f_X0_9) (fun _ h9 => h9) rfl dX0_put_82 ?_
          refine lv_aload_n hx hb dX0_put_85 rfl (lv_at hl 0 rfl) ?_
          refine va_get (D := (dC, dI)) (ci := 0) (v := .int z20) (C := RX0) (T := TX0) (N := 6) hx hb hw iwX0 hown hK hP 0 rfl rfl 4 (by decide) (hw _ w_f_X0_24) (fun _ h9 => h9) rfl dX0_put_86 ?_
          refine lv_iload_n hx hb dX0_put_89 rfl (lv_at hl 1 rfl) ?_
          refine va_iast hx hb hK hP hD hS 1 0 rfl rfl (i := z20) (x := p1) (vp_in_iff.mpr (by omega)) dX0_put_90 (fun H locs hP9 hD9 hS9 => ?_)
          obtain ⟨f27, ef27⟩ : ∃ g : Nat → Int32, g = upd f21 (Int32.toNatClampNeg z20) p1 := ⟨_, rfl⟩
          clear hP hD hS
          have hP : va_P (dC, dI) cls [(h_an, .inr (0, (mo41 (.ref h_as) (.ref h_ad) (.ref h_ao) (.ref h_af) (.int z20) (.int x3)))), (h_as, .inl (cy_as, 8, .inl f27)), (h_ad, .inl (cy_ad, 8, .inl f22)), (h_ao, .inl (cy_ao, 8, .inl f23)), (h_af, .inl (cy_af, 8, .inl f24))] H := by rw [ef27]; exact hP9
          have hD : va_D A [(h_an, .inr (0, (mo41 (.ref h_as) (.ref h_ad) (.ref h_ao) (.ref h_af) (.int z20) (.int x3)))), (h_as, .inl (cy_as, 8, .inl f27)), (h_ad, .inl (cy_ad, 8, .inl f22)), (h_ao, .inl (cy_ao, 8, .inl f23)), (h_af, .inl (cy_af, 8, .inl f24))] := by rw [ef27]; exact hD9
          have hS := hS9
          clear hP9 hD9 hS9
          clear ef27
          refine lv_aload_n hx hb dX0_put_91 rfl (lv_at hl 0 rfl) ?_
          refine va_get (D := (dC, dI)) (ci := 0) (v := .ref h_ad) (C := RX0) (T := TX0) (N := 6) hx hb hw iwX0 hown hK hP 0 rfl rfl 1 (by decide) (hw _ w_f_X0_15) (fun _ h9 => h9) rfl dX0_put_92 ?_
          refine lv_aload_n hx hb dX0_put_95 rfl (lv_at hl 0 rfl) ?_
          refine va_get (D := (dC, dI)) (ci := 0) (v := .int z20) (C := RX0) (T := TX0) (N := 6) hx hb hw iwX0 hown hK hP 0 rfl rfl 4 (by decide) (hw _ w_f_X0_24) (fun _ h9 => h9) rfl dX0_put_96 ?_
          refine lv_iload_n hx hb dX0_put_99 rfl (lv_at hl 2 rfl) ?_
          refine va_iast hx hb hK hP hD hS 2 1 rfl rfl (i := z20) (x := p2) (vp_in_iff.mpr (by omega)) dX0_put_100 (fun H locs hP9 hD9 hS9 => ?_)
          obtain ⟨f28, ef28⟩ : ∃ g : Nat → Int32, g = upd f22 (Int32.toNatClampNeg z20) p2 := ⟨_, rfl⟩
          clear hP hD hS
          have hP : va_P (dC, dI) cls [(h_an, .inr (0, (mo41 (.ref h_as) (.ref h_ad) (.ref h_ao) (.ref h_af) (.int z20) (.int x3)))), (h_as, .inl (cy_as, 8, .inl f27)), (h_ad, .inl (cy_ad, 8, .inl f28)), (h_ao, .inl (cy_ao, 8, .inl f23)), (h_af, .inl (cy_af, 8, .inl f24))] H := by rw [ef28]; exact hP9
          have hD : va_D A [(h_an, .inr (0, (mo41 (.ref h_as) (.ref h_ad) (.ref h_ao) (.ref h_af) (.int z20) (.int x3)))), (h_as, .inl (cy_as, 8, .inl f27)), (h_ad, .inl (cy_ad, 8, .inl f28)), (h_ao, .inl (cy_ao, 8, .inl f23)), (h_af, .inl (cy_af, 8, .inl f24))] := by rw [ef28]; exact hD9
          have hS := hS9
          clear hP9 hD9 hS9
          clear ef28
          refine lv_aload_n hx hb dX0_put_101 rfl (lv_at hl 0 rfl) ?_
          refine va_get (D := (dC, dI)) (ci := 0) (v := .ref h_ao) (C := RX0) (T := TX0) (N := 6) hx hb hw iwX0 hown hK hP 0 rfl rfl 2 (by decide) (hw _ w_f_X0_18) (fun _ h9 => h9) rfl dX0_put_102 ?_
          refine lv_aload_n hx hb dX0_put_105 rfl (lv_at hl 0 rfl) ?_
          refine va_get (D := (dC, dI)) (ci := 0) (v := .int z20) (C := RX0) (T := TX0) (N := 6) hx hb hw iwX0 hown hK hP 0 rfl rfl 4 (by decide) (hw _ w_f_X0_24) (fun _ h9 => h9) rfl dX0_put_106 ?_
          refine lv_iload_n hx hb dX0_put_109 rfl (lv_at hl 3 rfl) ?_
          refine va_iast hx hb hK hP hD hS 3 2 rfl rfl (i := z20) (x := p3) (vp_in_iff.mpr (by omega)) dX0_put_110 (fun H locs hP9 hD9 hS9 => ?_)
          obtain ⟨f29, ef29⟩ : ∃ g : Nat → Int32, g = upd f23 (Int32.toNatClampNeg z20) p3 := ⟨_, rfl⟩
          clear hP hD hS
          have hP : va_P (dC, dI) cls [(h_an, .inr (0, (mo41 (.ref h_as) (.ref h_ad) (.ref h_ao) (.ref h_af) (.int z20) (.int x3)))), (h_as, .inl (cy_as, 8, .inl f27)), (h_ad, .inl (cy_ad, 8, .inl f28)), (h_ao, .inl (cy_ao, 8, .inl f29)), (h_af, .inl (cy_af, 8, .inl f24))] H := by rw [ef29]; exact hP9
          have hD : va_D A [(h_an, .inr (0, (mo41 (.ref h_as) (.ref h_ad) (.ref h_ao) (.ref h_af) (.int z20) (.int x3)))), (h_as, .inl (cy_as, 8, .inl f27)), (h_ad, .inl (cy_ad, 8, .inl f28)), (h_ao, .inl (cy_ao, 8, .inl f29)), (h_af, .inl (cy_af, 8, .inl f24))] := by rw [ef29]; exact hD9
          have hS := hS9
          clear hP9 hD9 hS9
          clear ef29
          refine lv_aload_n hx hb dX0_put_111 rfl (lv_at hl 0 rfl) ?_
          refine va_get (D := (dC, dI)) (ci := 0) (v := .ref h_af) (C := RX0) (T := TX0) (N := 6) hx hb hw iwX0 hown hK hP 0 rfl rfl 3 (by decide) (hw _ w_f_X0_21) (fun _ h9 => h9) rfl dX0_put_112 ?_
          refine lv_aload_n hx hb dX0_put_115 rfl (lv_at hl 0 rfl) ?_
          refine va_get (D := (dC, dI)) (ci := 0) (v := .int z20) (C := RX0) (T := TX0) (N := 6) hx hb hw iwX0 hown hK hP 0 rfl rfl 4 (by decide) (hw _ w_f_X0_24) (fun _ h9 => h9) rfl dX0_put_116 ?_
          refine lv_iload hx hb dX0_put_119 (lv_at hl 4 rfl) ?_
          refine va_iast hx hb hK hP hD hS 4 3 rfl rfl (i := z20) (x := p4) (vp_in_iff.mpr (by omega)) dX0_put_121 (fun H locs hP9 hD9 hS9 => ?_)
          obtain ⟨f30, ef30⟩ : ∃ g : Nat → Int32, g = upd f24 (Int32.toNatClampNeg z20) p4 := ⟨_, rfl⟩
          clear hP hD hS
          have hP : va_P (dC, dI) cls [(h_an, .inr (0, (mo41 (.ref h_as) (.ref h_ad) (.ref h_ao) (.ref h_af) (.int z20) (.int x3)))), (h_as, .inl (cy_as, 8, .inl f27)), (h_ad, .inl (cy_ad, 8, .inl f28)), (h_ao, .inl (cy_ao, 8, .inl f29)), (h_af, .inl (cy_af, 8, .inl f30))] H := by rw [ef30]; exact hP9
          have hD : va_D A [(h_an, .inr (0, (mo41 (.ref h_as) (.ref h_ad) (.ref h_ao) (.ref h_af) (.int z20) (.int x3)))), (h_as, .inl (cy_as, 8, .inl f27)), (h_ad, .inl (cy_ad, 8, .inl f28)), (h_ao, .inl (cy_ao, 8, .inl f29)), (h_af, .inl (cy_af, 8, .inl f30))] := by rw [ef30]; exact hD9
          have hS := hS9
          clear hP9 hD9 hS9
          clear ef30
          refine lv_aload_n hx hb dX0_put_122 rfl (lv_at hl 0 rfl) ?_
          refine lv_dup hx hb dX0_put_123 rfl ?_
          refine va_get (D := (dC, dI)) (ci := 0) (v := .int z20) (C := RX0) (T := TX0) (N := 6) hx hb hw iwX0 hown hK hP 0 rfl rfl 4 (by decide) (hw _ w_f_X0_24) (fun _ h9 => h9) rfl dX0_put_124 ?_
          refine lv_iconst (v := 1) hx hb dX0_put_127 (by decide) ?_
          refine lv_iadd hx hb dX0_put_128 ?_
          refine lv_topi (fun z31 ez31 => ?_)
          have tz31 : (z31).toInt = (z20).toInt + 1 := by rw [ez31]; exact i_add rfl (by decide) (by omega)
          refine va_put (D := (dC, dI)) (ci := 0) (v := .int z31) (ty := tyX0 4) (C := RX0) (T := TX0) (N := 6) hx hb hw iwX0 tyX0 tyX0_ok nmX0 hown hK hP hD hS 0 rfl rfl 4 (by decide) (hw _ w_f_X0_24) (fun _ h9 => h9) rfl (tyX0_ok 4 (by decide)) rfl rfl (Nat.le_of_ble_eq_true rfl) dX0_put_129 (fun H locs hP9 hD9 hS9 => ?_)
          clear hP hD hS
          have hP : va_P (dC, dI) cls [(h_an, .inr (0, (mo41 (.ref h_as) (.ref h_ad) (.ref h_ao) (.ref h_af) (.int z31) (.int x3)))), (h_as, .inl (cy_as, 8, .inl f27)), (h_ad, .inl (cy_ad, 8, .inl f28)), (h_ao, .inl (cy_ao, 8, .inl f29)), (h_af, .inl (cy_af, 8, .inl f30))] H := hP9
          have hD : va_D A [(h_an, .inr (0, (mo41 (.ref h_as) (.ref h_ad) (.ref h_ao) (.ref h_af) (.int z31) (.int x3)))), (h_as, .inl (cy_as, 8, .inl f27)), (h_ad, .inl (cy_ad, 8, .inl f28)), (h_ao, .inl (cy_ao, 8, .inl f29)), (h_af, .inl (cy_af, 8, .inl f30))] := hD9
          have hS := hS9
          clear hP9 hD9 hS9
          refine W.widen (k := 0) (n := 0) (Nat.le_of_ble_eq_true rfl) (Nat.le_of_ble_eq_true rfl) ?_
          have w32 : 0 ≤ ((z31)).toInt ∧ ((z31)).toInt ≤ 8 := by omega
          exact W.vret hx hb hr (fun t ht hW => ⟨⟨(z31, x3, f27, f28, f29, f30), rfl, w32, by rw [ht]; exact hP, hD⟩, hS.F ht⟩) hS.2.2 dX0_put_132
      · have kc10 := (not_congr (cv_le (rfl : (x2).toInt = (x2).toInt) (rfl : (x1).toInt = (x1).toInt))).mp c10
        refine lv_aload_n hx hb dX0_put_12 rfl (lv_at hl 0 rfl) ?_
        refine va_get (D := (dC, dI)) (ci := 0) (v := .ref h_as) (C := RX0) (T := TX0) (N := 6) hx hb hw iwX0 hown hK hP 0 rfl rfl 0 (by decide) (hw _ w_f_X0_9) (fun _ h9 => h9) rfl dX0_put_13 ?_
        refine lv_iload hx hb dX0_put_16 (lv_at hl 5 rfl) ?_
        refine va_iald hx hb hK hP 1 0 rfl rfl (i := x1) (vp_in_iff.mpr (by omega)) dX0_put_18 ?_
        refine lv_topi (fun z33 ez33 => ?_)
        refine lv_iload_n hx hb dX0_put_19 rfl (lv_at hl 1 rfl) ?_
        refine lv_icmp_ne (tgt := 61) hx hb dX0_put_20 (by decide) (fun c34 => ?_) (fun c34 => ?_)
        · have kc34 := (not_congr (cv_eq (rfl : (z33).toInt = (z33).toInt) (rfl : (p1).toInt = (p1).toInt))).mp c34
          obtain ⟨z35, ez35⟩ : ∃ y : Int32, y = x1 + 1 := ⟨_, rfl⟩
          have tz35 : (z35).toInt = (x1).toInt + 1 := by rw [ez35]; exact i_add rfl (by decide) (by omega)
          refine lv_iinc (v := z35) (lv' := [(5, .int z35), (0, .ref h_an), (1, .int p1), (2, .int p2), (3, .int p3), (4, .int p4)]) hx hb dX0_put_61 hl (k := 5) rfl (by rw [ez35]; rfl) (by decide) rfl (fun ls hl => ?_)
          refine lv_goto (tgt := 3) hx hb dX0_put_64 (by decide) ?_
          exact ih9 (z35) (x2) (x3) (f4) (f5) (f6) (f7) _ _ _ (by omega) (by first | exact klp8_1 | omega) (by omega) hP hD hS (lv_sub hl [1, 2, 3, 4, 5, 0] rfl)
        · have kc34 := (cv_eq (rfl : (z33).toInt = (z33).toInt) (rfl : (p1).toInt = (p1).toInt)).mp c34
          refine lv_aload_n hx hb dX0_put_23 rfl (lv_at hl 0 rfl) ?_
          refine va_get (D := (dC, dI)) (ci := 0) (v := .ref h_ad) (C := RX0) (T := TX0) (N := 6) hx hb hw iwX0 hown hK hP 0 rfl rfl 1 (by decide) (hw _ w_f_X0_15) (fun _ h9 => h9) rfl dX0_put_24 ?_
          refine lv_iload hx hb dX0_put_27 (lv_at hl 5 rfl) ?_
          refine va_iald hx hb hK hP 2 1 rfl rfl (i := x1) (vp_in_iff.mpr (by omega)) dX0_put_29 ?_
          refine lv_topi (fun z36 ez36 => ?_)
          refine lv_iload_n hx hb dX0_put_30 rfl (lv_at hl 2 rfl) ?_
          refine lv_icmp_ne (tgt := 61) hx hb dX0_put_31 (by decide) (fun c37 => ?_) (fun c37 => ?_)
          · have kc37 := (not_congr (cv_eq (rfl : (z36).toInt = (z36).toInt) (rfl : (p2).toInt = (p2).toInt))).mp c37
            obtain ⟨z38, ez38⟩ : ∃ y : Int32, y = x1 + 1 := ⟨_, rfl⟩
            have tz38 : (z38).toInt = (x1).toInt + 1 := by rw [ez38]; exact i_add rfl (by decide) (by omega)
            refine lv_iinc (v := z38) (lv' := [(5, .int z38), (0, .ref h_an), (1, .int p1), (2, .int p2), (3, .int p3), (4, .int p4)]) hx hb dX0_put_61 hl (k := 5) rfl (by rw [ez38]; rfl) (by decide) rfl (fun ls hl => ?_)
            refine lv_goto (tgt := 3) hx hb dX0_put_64 (by decide) ?_
            exact ih9 (z38) (x2) (x3) (f4) (f5) (f6) (f7) _ _ _ (by omega) (by first | exact klp8_1 | omega) (by omega) hP hD hS (lv_sub hl [1, 2, 3, 4, 5, 0] rfl)
          · have kc37 := (cv_eq (rfl : (z36).toInt = (z36).toInt) (rfl : (p2).toInt = (p2).toInt)).mp c37
            refine lv_aload_n hx hb dX0_put_34 rfl (lv_at hl 0 rfl) ?_
            refine va_get (D := (dC, dI)) (ci := 0) (v := .ref h_ao) (C := RX0) (T := TX0) (N := 6) hx hb hw iwX0 hown hK hP 0 rfl rfl 2 (by decide) (hw _ w_f_X0_18) (fun _ h9 => h9) rfl dX0_put_35 ?_
            refine lv_iload hx hb dX0_put_38 (lv_at hl 5 rfl) ?_
            refine va_iald hx hb hK hP 3 2 rfl rfl (i := x1) (vp_in_iff.mpr (by omega)) dX0_put_40 ?_
            refine lv_topi (fun z39 ez39 => ?_)
            refine lv_iload_n hx hb dX0_put_41 rfl (lv_at hl 3 rfl) ?_
            refine lv_icmp_ne (tgt := 61) hx hb dX0_put_42 (by decide) (fun c40 => ?_) (fun c40 => ?_)
            · have kc40 := (not_congr (cv_eq (rfl : (z39).toInt = (z39).toInt) (rfl : (p3).toInt = (p3).toInt))).mp c40
              obtain ⟨z41, ez41⟩ : ∃ y : Int32, y = x1 + 1 := ⟨_, rfl⟩
              have tz41 : (z41).toInt = (x1).toInt + 1 := by rw [ez41]; exact i_add rfl (by decide) (by omega)
              refine lv_iinc (v := z41) (lv' := [(5, .int z41), (0, .ref h_an), (1, .int p1), (2, .int p2), (3, .int p3), (4, .int p4)]) hx hb dX0_put_61 hl (k := 5) rfl (by rw [ez41]; rfl) (by decide) rfl (fun ls hl => ?_)
              refine lv_goto (tgt := 3) hx hb dX0_put_64 (by decide) ?_
              exact ih9 (z41) (x2) (x3) (f4) (f5) (f6) (f7) _ _ _ (by omega) (by first | exact klp8_1 | omega) (by omega) hP hD hS (lv_sub hl [1, 2, 3, 4, 5, 0] rfl)
            · have kc40 := (cv_eq (rfl : (z39).toInt = (z39).toInt) (rfl : (p3).toInt = (p3).toInt)).mp c40
              refine lv_aload_n hx hb dX0_put_45 rfl (lv_at hl 0 rfl) ?_
              refine lv_dup hx hb dX0_put_46 rfl ?_
              refine va_get (D := (dC, dI)) (ci := 0) (v := .int x3) (C := RX0) (T := TX0) (N := 6) hx hb hw iwX0 hown hK hP 0 rfl rfl 5 (by decide) (hw _ w_f_X0_28) (fun _ h9 => h9) rfl dX0_put_47 ?_
              refine lv_iconst (v := 1) hx hb dX0_put_50 (by decide) ?_
              refine lv_iadd hx hb dX0_put_51 ?_
              refine lv_topi (fun z42 ez42 => ?_)
              refine va_put (D := (dC, dI)) (ci := 0) (v := .int z42) (ty := tyX0 5) (C := RX0) (T := TX0) (N := 6) hx hb hw iwX0 tyX0 tyX0_ok nmX0 hown hK hP hD hS 0 rfl rfl 5 (by decide) (hw _ w_f_X0_28) (fun _ h9 => h9) rfl (tyX0_ok 5 (by decide)) rfl rfl (Nat.le_of_ble_eq_true rfl) dX0_put_52 (fun H locs hP9 hD9 hS9 => ?_)
              clear hP hD hS
              have hP : va_P (dC, dI) cls [(h_an, .inr (0, (mo41 (.ref h_as) (.ref h_ad) (.ref h_ao) (.ref h_af) (.int x2) (.int z42)))), (h_as, .inl (cy_as, 8, .inl f4)), (h_ad, .inl (cy_ad, 8, .inl f5)), (h_ao, .inl (cy_ao, 8, .inl f6)), (h_af, .inl (cy_af, 8, .inl f7))] H := hP9
              have hD : va_D A [(h_an, .inr (0, (mo41 (.ref h_as) (.ref h_ad) (.ref h_ao) (.ref h_af) (.int x2) (.int z42)))), (h_as, .inl (cy_as, 8, .inl f4)), (h_ad, .inl (cy_ad, 8, .inl f5)), (h_ao, .inl (cy_ao, 8, .inl f6)), (h_af, .inl (cy_af, 8, .inl f7))] := hD9
              have hS := hS9
              clear hP9 hD9 hS9
              refine lv_aload_n hx hb dX0_put_55 rfl (lv_at hl 0 rfl) ?_
              refine lv_iload hx hb dX0_put_56 (lv_at hl 5 rfl) ?_
              obtain ⟨vq43, evq43⟩ := mq41_40 (.int z42)
              replace hP : va_P (dC, dI) cls [(h_an, .inr (0, (mo40 vq43 (.ref h_as) (.ref h_ad) (.ref h_ao) (.ref h_af) (.int x2)))), (h_as, .inl (cy_as, 8, .inl f4)), (h_ad, .inl (cy_ad, 8, .inl f5)), (h_ao, .inl (cy_ao, 8, .inl f6)), (h_af, .inl (cy_af, 8, .inl f7))] H := by rw [evq43]; exact hP
              replace hD : va_D A [(h_an, .inr (0, (mo40 vq43 (.ref h_as) (.ref h_ad) (.ref h_ao) (.ref h_af) (.int x2)))), (h_as, .inl (cy_as, 8, .inl f4)), (h_ad, .inl (cy_ad, 8, .inl f5)), (h_ao, .inl (cy_ao, 8, .inl f6)), (h_af, .inl (cy_af, 8, .inl f7))] := by rw [evq43]; exact hD
              have hPc := hP.sub (ws' := [(h_an, .inr (0, (mo40 vq43 (.ref h_as) (.ref h_ad) (.ref h_ao) (.ref h_af) (.int x2)))), (h_as, .inl (cy_as, 8, .inl f4)), (h_ad, .inl (cy_ad, 8, .inl f5)), (h_ao, .inl (cy_ao, 8, .inl f6)), (h_af, .inl (cy_af, 8, .inl f7))]) [0, 1, 2, 3, 4] rfl
              have hDc := hD.sub (ws' := [(h_an, .inr (0, (mo40 vq43 (.ref h_as) (.ref h_ad) (.ref h_ao) (.ref h_af) (.int x2)))), (h_as, .inl (cy_as, 8, .inl f4)), (h_ad, .inl (cy_ad, 8, .inl f5)), (h_ao, .inl (cy_ao, 8, .inl f6)), (h_af, .inl (cy_af, 8, .inl f7))]) [0, 1, 2, 3, 4] (by decide) rfl
              have hKc := hK.sub (tys' := [(cy_as, .int), (cy_ad, .int), (cy_ao, .int), (cy_af, .int)]) [0, 1, 2, 3] rfl
              have hFc := va_free (wc := [(h_an, .inr (0, (mo40 vq43 (.ref h_as) (.ref h_ad) (.ref h_ao) (.ref h_af) (.int x2)))), (h_as, .inl (cy_as, 8, .inl f4)), (h_ad, .inl (cy_ad, 8, .inl f5)), (h_ao, .inl (cy_ao, 8, .inl f6)), (h_af, .inl (cy_af, 8, .inl f7))]) hD hS hA [0, 1, 2, 3, 4] rfl
              refine va_callv (va_runV (As := [.int x1]) (rest := []) ⟨hx, hb, hml, hown, hts⟩ (c_X0_remove l dC dI H.size h_an h_as h_ad h_ao h_af vq43 x2 cy_as f4 cy_ad f5 cy_ao f6 cy_af f7 x1 (by first | exact klp8_1 | omega) (by omega) (by omega)) (cwV 1 hts (gv hT w_m_X0_31 w_instanceMethod_X0_remove ws_sel_X0_remove w_ini_X0 w_code_X0_remove) rfl rfl rfl (by decide +kernel) ⟨(Nat.le_of_ble_eq_true rfl), (Nat.le_of_ble_eq_true rfl)⟩) ⟨pre_blind, va_recv hK hP (ci := 0) (q0 := 0) rfl rfl, pre_of hPc hKc hDc hN⟩ rfl rfl hl.1 rfl (lv_room (Nat.le_of_ble_eq_true rfl)) dX0_put_58 ⟨(Nat.le_of_ble_eq_true rfl), (Nat.le_of_ble_eq_true rfl)⟩) hS (fun q _ h => hFc q h) hFc (fun u t H locs ht hvm hq hB hz1 hk1 hS9 => ?_)
              obtain ⟨z45, f46, f47, f48, f49⟩ := u
              obtain ⟨hP1, hD1⟩ := hB
              rw [ht] at hP1
              obtain ⟨hP9, hD9⟩ := va_join (wr := []) (w1 := [(h_an, .inr (0, (mo40 vq43 (.ref h_as) (.ref h_ad) (.ref h_ao) (.ref h_af) (.int z45)))), (h_as, .inl (cy_as, 8, .inl f46)), (h_ad, .inl (cy_ad, 8, .inl f47)), (h_ao, .inl (cy_ao, 8, .inl f48)), (h_af, .inl (cy_af, 8, .inl f49))]) hP hD [0, 1, 2, 3, 4] [] rfl rfl (by decide) (by decide) hk1 hFc hP1 hD1
              clear hP hD hS hPc hDc hKc hFc hP1 hD1 hk1 hz1 ht hvm
              have hP : va_P (dC, dI) cls [(h_an, .inr (0, (mo40 vq43 (.ref h_as) (.ref h_ad) (.ref h_ao) (.ref h_af) (.int z45)))), (h_as, .inl (cy_as, 8, .inl f46)), (h_ad, .inl (cy_ad, 8, .inl f47)), (h_ao, .inl (cy_ao, 8, .inl f48)), (h_af, .inl (cy_af, 8, .inl f49))] H := hP9
              have hD : va_D A [(h_an, .inr (0, (mo40 vq43 (.ref h_as) (.ref h_ad) (.ref h_ao) (.ref h_af) (.int z45)))), (h_as, .inl (cy_as, 8, .inl f46)), (h_ad, .inl (cy_ad, 8, .inl f47)), (h_ao, .inl (cy_ao, 8, .inl f48)), (h_af, .inl (cy_af, 8, .inl f49))] := hD9
              have hS := hS9
              clear hP9 hD9 hS9
              rw [evq43] at hP hD
              replace hP : va_P (dC, dI) cls [(h_an, .inr (0, (mo41 (.ref h_as) (.ref h_ad) (.ref h_ao) (.ref h_af) (.int z45) (.int z42)))), (h_as, .inl (cy_as, 8, .inl f46)), (h_ad, .inl (cy_ad, 8, .inl f47)), (h_ao, .inl (cy_ao, 8, .inl f48)), (h_af, .inl (cy_af, 8, .inl f49))] H := hP
              replace hD : va_D A [(h_an, .inr (0, (mo41 (.ref h_as) (.ref h_ad) (.ref h_ao) (.ref h_af) (.int z45) (.int z42)))), (h_as, .inl (cy_as, 8, .inl f46)), (h_ad, .inl (cy_ad, 8, .inl f47)), (h_ao, .inl (cy_ao, 8, .inl f48)), (h_af, .inl (cy_af, 8, .inl f49))] := hD
              clear evq43 
              obtain ⟨k50, k51⟩ := hq
              replace k50 : 0 ≤ ((z45)).toInt ∧ ((z45)).toInt ≤ 8 := k50
              replace k51 : ((z45)).toInt = ((x2)).toInt - 1 := k51
              obtain ⟨z52, ez52⟩ : ∃ y : Int32, y = x1 + 1 := ⟨_, rfl⟩
              have tz52 : (z52).toInt = (x1).toInt + 1 := by rw [ez52]; exact i_add rfl (by decide) (by omega)
              refine lv_iinc (v := z52) (lv' := [(5, .int z52), (0, .ref h_an), (1, .int p1), (2, .int p2), (3, .int p3), (4, .int p4)]) hx hb dX0_put_61 hl (k := 5) rfl (by rw [ez52]; rfl) (by decide) rfl (fun ls hl => ?_)
              refine lv_goto (tgt := 3) hx hb dX0_put_64 (by decide) ?_
              exact ih9 (z52) (z45) (z42) (f46) (f47) (f48) (f49) _ _ _ (by omega) (by first | exact k50 | omega) (by omega) hP hD hS (lv_sub hl [1, 2, 3, 4, 5, 0] rfl)
  have cst0 : (0 : Int32).toInt = 0 := by decide
  exact lp8 _ (0) (x_an_count) (x_an_again) (f_as) (f_ad) (f_ao) (f_af) _ _ _ (by decide) (by first | exact hx_an_count | omega) (Nat.le_refl _) hP hD hS (lv_sub hl [1, 2, 3, 4, 5, 0] rfl)

