theorem w_cl_X9_84 : Cond.constantLong "OppositePairs$Writer" 84 (31 : Int64) ∈ WALL := wall_t (tb_3 62 (by decide +kernel)) rfl
theorem w_code_X0_remove : Cond.code yX0_remove prog_2_method_3_code 3 none ∈ WALL := wall_t (tb_4 127 (by decide +kernel)) rfl
theorem w_code_X9_push : Cond.code yX9_push prog_11_method_4_code 2 none ∈ WALL := wall_t (tb_3 66 (by decide +kernel)) rfl
theorem w_code_X9_put : Cond.code yX9_put prog_11_method_3_code 2 none ∈ WALL := wall_t (tb_3 47 (by decide +kernel)) rfl
theorem w_code_X9_putInstance : Cond.code yX9_putInstance prog_11_method_6_code 2 none ∈ WALL := wall_t (tb_3 57 (by decide +kernel)) rfl
theorem w_code_X9_putName : Cond.code yX9_putName prog_11_method_7_code 5 none ∈ WALL := wall_t (tb_3 61 (by decide +kernel)) rfl
theorem w_code_X9_putPart : Cond.code yX9_putPart prog_11_method_5_code 5 none ∈ WALL := wall_t (tb_3 53 (by decide +kernel)) rfl
theorem w_f_X0_15 : Cond.fieldLink "OppositePairs$Answers" 15 "OppositePairs$Answers" "depth" "[I" ∈ WALL := wall_t (tb_2 98 (by decide +kernel)) rfl
theorem w_f_X0_18 : Cond.fieldLink "OppositePairs$Answers" 18 "OppositePairs$Answers" "options" "[I" ∈ WALL := wall_t (tb_2 100 (by decide +kernel)) rfl
theorem w_f_X0_21 : Cond.fieldLink "OppositePairs$Answers" 21 "OppositePairs$Answers" "found" "[I" ∈ WALL := wall_t (tb_2 102 (by decide +kernel)) rfl
theorem w_f_X0_24 : Cond.fieldLink "OppositePairs$Answers" 24 "OppositePairs$Answers" "count" "I" ∈ WALL := wall_t (tb_2 104 (by decide +kernel)) rfl
theorem w_f_X0_28 : Cond.fieldLink "OppositePairs$Answers" 28 "OppositePairs$Answers" "again" "I" ∈ WALL := wall_t (tb_2 106 (by decide +kernel)) rfl
theorem w_f_X0_9 : Cond.fieldLink "OppositePairs$Answers" 9 "OppositePairs$Answers" "start" "[I" ∈ WALL := wall_t (tb_2 96 (by decide +kernel)) rfl
theorem w_f_X9_15 : Cond.fieldLink "OppositePairs$Writer" 15 "OppositePairs$Writer" "draft" "[I" ∈ WALL := wall_t (tb_1 188 (by decide +kernel)) rfl
theorem w_f_X9_18 : Cond.fieldLink "OppositePairs$Writer" 18 "OppositePairs$Writer" "hold" "[I" ∈ WALL := wall_t (tb_1 190 (by decide +kernel)) rfl
theorem w_f_X9_21 : Cond.fieldLink "OppositePairs$Writer" 21 "OppositePairs$Writer" "told" "LOppositePairs$Told;" ∈ WALL := wall_t (tb_1 182 (by decide +kernel)) rfl
theorem w_f_X9_25 : Cond.fieldLink "OppositePairs$Writer" 25 "OppositePairs$Writer" "bonds" "LOppositePairs$Bonds;" ∈ WALL := wall_t (tb_1 183 (by decide +kernel)) rfl
theorem w_f_X9_29 : Cond.fieldLink "OppositePairs$Writer" 29 "OppositePairs$Writer" "drafted" "I" ∈ WALL := wall_t (tb_1 189 (by decide +kernel)) rfl
theorem w_f_X9_37 : Cond.fieldLink "OppositePairs$Writer" 37 "OppositePairs$Writer" "held" "I" ∈ WALL := wall_t (tb_1 191 (by decide +kernel)) rfl
theorem w_f_X9_56 : Cond.fieldLink "OppositePairs$Writer" 56 "OppositePairs$Writer" "length" "I" ∈ WALL := wall_t (tb_1 186 (by decide +kernel)) rfl
theorem w_f_X9_9 : Cond.fieldLink "OppositePairs$Writer" 9 "OppositePairs$Writer" "bytes" "[I" ∈ WALL := wall_t (tb_1 184 (by decide +kernel)) rfl
theorem w_ini_X0 : Cond.initialized "OppositePairs$Answers" ∈ WALL := wall_t (tb_1 8 (by decide +kernel)) rfl
theorem w_ini_X9 : Cond.initialized "OppositePairs$Writer" ∈ WALL := wall_t (tb_1 5 (by decide +kernel)) rfl
theorem w_instanceMethod_X0_remove : Cond.instanceMethod yX0_remove ∈ WALL := wall_t (tb_4 126 (by decide +kernel)) rfl
theorem w_instanceMethod_X9_push : Cond.instanceMethod yX9_push ∈ WALL := wall_t (tb_3 65 (by decide +kernel)) rfl
theorem w_instanceMethod_X9_put : Cond.instanceMethod yX9_put ∈ WALL := wall_t (tb_3 46 (by decide +kernel)) rfl
theorem w_instanceMethod_X9_putInstance : Cond.instanceMethod yX9_putInstance ∈ WALL := wall_t (tb_3 56 (by decide +kernel)) rfl
theorem w_instanceMethod_X9_putName : Cond.instanceMethod yX9_putName ∈ WALL := wall_t (tb_3 60 (by decide +kernel)) rfl
theorem w_instanceMethod_X9_putPart : Cond.instanceMethod yX9_putPart ∈ WALL := wall_t (tb_3 52 (by decide +kernel)) rfl
theorem w_k_X9_40 : Cond.constant "OppositePairs$Writer" 40 (1000000 : Int32) ∈ WALL := wall_t (tb_3 48 (by decide +kernel)) rfl
theorem w_m_X0_31 : Cond.methodLink "OppositePairs$Answers" 31 yX0_remove ∈ WALL := wall_t (tb_4 124 (by decide +kernel)) rfl
theorem w_m_X9_33 : Cond.methodLink "OppositePairs$Writer" 33 yX9_put ∈ WALL := wall_t (tb_3 44 (by decide +kernel)) rfl
theorem w_m_X9_47 : Cond.methodLink "OppositePairs$Writer" 47 yX9_putPart ∈ WALL := wall_t (tb_3 50 (by decide +kernel)) rfl
theorem w_m_X9_50 : Cond.methodLink "OppositePairs$Writer" 50 arraycopyName ∈ WALL := wall_t (tb_3 67 (by decide +kernel)) rfl
theorem w_m_X9_68 : Cond.methodLink "OppositePairs$Writer" 68 yX9_putInstance ∈ WALL := wall_t (tb_3 54 (by decide +kernel)) rfl
theorem w_m_X9_71 : Cond.methodLink "OppositePairs$Writer" 71 yX9_putName ∈ WALL := wall_t (tb_3 58 (by decide +kernel)) rfl
theorem w_m_X9_78 : Cond.methodLink "OppositePairs$Writer" 78 yX9_push ∈ WALL := wall_t (tb_3 63 (by decide +kernel)) rfl
theorem ws_sel_X0_remove : Cond.selects "OppositePairs$Answers" yX0_remove yX0_remove ∈ WALL := wall_s 69 (by decide +kernel) rfl
theorem ws_sel_X9_push : Cond.selects "OppositePairs$Writer" yX9_push yX9_push ∈ WALL := wall_s 28 (by decide +kernel) rfl
theorem ws_sel_X9_put : Cond.selects "OppositePairs$Writer" yX9_put yX9_put ∈ WALL := wall_s 24 (by decide +kernel) rfl
theorem ws_sel_X9_putInstance : Cond.selects "OppositePairs$Writer" yX9_putInstance yX9_putInstance ∈ WALL := wall_s 26 (by decide +kernel) rfl
theorem ws_sel_X9_putName : Cond.selects "OppositePairs$Writer" yX9_putName yX9_putName ∈ WALL := wall_s 27 (by decide +kernel) rfl
theorem ws_sel_X9_putPart : Cond.selects "OppositePairs$Writer" yX9_putPart yX9_putPart ∈ WALL := wall_s 25 (by decide +kernel) rfl
theorem n_f_X9_59 : Cond.fieldLinkNest "OppositePairs$Writer" 59 "OppositePairs$Told" "variable" "[I" "OppositePairs" ∈ NWL := nwl_t (tb_1 79 (by decide +kernel)) rfl
theorem n_f_X9_64 : Cond.fieldLinkNest "OppositePairs$Writer" 64 "OppositePairs$Told" "name" "[J" "OppositePairs" ∈ NWL := nwl_t (tb_1 75 (by decide +kernel)) rfl
theorem n_f_X9_75 : Cond.fieldLinkNest "OppositePairs$Writer" 75 "OppositePairs$Told" "terms" "[I" "OppositePairs" ∈ NWL := nwl_t (tb_1 81 (by decide +kernel)) rfl
theorem n_f_X9_81 : Cond.fieldLinkNest "OppositePairs$Writer" 81 "OppositePairs$Told" "term" "[I" "OppositePairs" ∈ NWL := nwl_t (tb_1 86 (by decide +kernel)) rfl
theorem n_m_X9_41 : Cond.methodLinkNest "OppositePairs$Writer" 41 yX1_bare "OppositePairs" ∈ NWL := nwl_t (tb_3 49 (by decide +kernel)) rfl
theorem dX0_put_0 : decode cX0_put 0 = .ok (.iconst 0, 1) := by decide +kernel
theorem dX0_put_1 : decode cX0_put 1 = .ok (.istore 5, 2) := by decide +kernel
theorem dX0_put_100 : decode cX0_put 100 = .ok (.iastore, 1) := by decide +kernel
theorem dX0_put_101 : decode cX0_put 101 = .ok (.aload_n 0, 1) := by decide +kernel
theorem dX0_put_102 : decode cX0_put 102 = .ok (.getfield 18, 3) := by decide +kernel
theorem dX0_put_105 : decode cX0_put 105 = .ok (.aload_n 0, 1) := by decide +kernel
theorem dX0_put_106 : decode cX0_put 106 = .ok (.getfield 24, 3) := by decide +kernel
theorem dX0_put_109 : decode cX0_put 109 = .ok (.iload_n 3, 1) := by decide +kernel
theorem dX0_put_110 : decode cX0_put 110 = .ok (.iastore, 1) := by decide +kernel
theorem dX0_put_111 : decode cX0_put 111 = .ok (.aload_n 0, 1) := by decide +kernel
theorem dX0_put_112 : decode cX0_put 112 = .ok (.getfield 21, 3) := by decide +kernel
theorem dX0_put_115 : decode cX0_put 115 = .ok (.aload_n 0, 1) := by decide +kernel
theorem dX0_put_116 : decode cX0_put 116 = .ok (.getfield 24, 3) := by decide +kernel
theorem dX0_put_119 : decode cX0_put 119 = .ok (.iload 4, 2) := by decide +kernel
theorem dX0_put_12 : decode cX0_put 12 = .ok (.aload_n 0, 1) := by decide +kernel
theorem dX0_put_121 : decode cX0_put 121 = .ok (.iastore, 1) := by decide +kernel
theorem dX0_put_122 : decode cX0_put 122 = .ok (.aload_n 0, 1) := by decide +kernel
theorem dX0_put_123 : decode cX0_put 123 = .ok (.dup, 1) := by decide +kernel
theorem dX0_put_124 : decode cX0_put 124 = .ok (.getfield 24, 3) := by decide +kernel
theorem dX0_put_127 : decode cX0_put 127 = .ok (.iconst 1, 1) := by decide +kernel
theorem dX0_put_128 : decode cX0_put 128 = .ok (.iadd, 1) := by decide +kernel
theorem dX0_put_129 : decode cX0_put 129 = .ok (.putfield 24, 3) := by decide +kernel
theorem dX0_put_13 : decode cX0_put 13 = .ok (.getfield 9, 3) := by decide +kernel
theorem dX0_put_132 : decode cX0_put 132 = .ok (.return_, 1) := by decide +kernel
theorem dX0_put_16 : decode cX0_put 16 = .ok (.iload 5, 2) := by decide +kernel
theorem dX0_put_18 : decode cX0_put 18 = .ok (.iaload, 1) := by decide +kernel
theorem dX0_put_19 : decode cX0_put 19 = .ok (.iload_n 1, 1) := by decide +kernel
theorem dX0_put_20 : decode cX0_put 20 = .ok (.if_icmp .ne 41, 3) := by decide +kernel
theorem dX0_put_23 : decode cX0_put 23 = .ok (.aload_n 0, 1) := by decide +kernel
theorem dX0_put_24 : decode cX0_put 24 = .ok (.getfield 15, 3) := by decide +kernel
theorem dX0_put_27 : decode cX0_put 27 = .ok (.iload 5, 2) := by decide +kernel
theorem dX0_put_29 : decode cX0_put 29 = .ok (.iaload, 1) := by decide +kernel
theorem dX0_put_3 : decode cX0_put 3 = .ok (.iload 5, 2) := by decide +kernel
theorem dX0_put_30 : decode cX0_put 30 = .ok (.iload_n 2, 1) := by decide +kernel
theorem dX0_put_31 : decode cX0_put 31 = .ok (.if_icmp .ne 30, 3) := by decide +kernel
theorem dX0_put_34 : decode cX0_put 34 = .ok (.aload_n 0, 1) := by decide +kernel
theorem dX0_put_35 : decode cX0_put 35 = .ok (.getfield 18, 3) := by decide +kernel
theorem dX0_put_38 : decode cX0_put 38 = .ok (.iload 5, 2) := by decide +kernel
theorem dX0_put_40 : decode cX0_put 40 = .ok (.iaload, 1) := by decide +kernel
theorem dX0_put_41 : decode cX0_put 41 = .ok (.iload_n 3, 1) := by decide +kernel
theorem dX0_put_42 : decode cX0_put 42 = .ok (.if_icmp .ne 19, 3) := by decide +kernel
theorem dX0_put_45 : decode cX0_put 45 = .ok (.aload_n 0, 1) := by decide +kernel
theorem dX0_put_46 : decode cX0_put 46 = .ok (.dup, 1) := by decide +kernel
theorem dX0_put_47 : decode cX0_put 47 = .ok (.getfield 28, 3) := by decide +kernel
theorem dX0_put_5 : decode cX0_put 5 = .ok (.aload_n 0, 1) := by decide +kernel
theorem dX0_put_50 : decode cX0_put 50 = .ok (.iconst 1, 1) := by decide +kernel
theorem dX0_put_51 : decode cX0_put 51 = .ok (.iadd, 1) := by decide +kernel
theorem dX0_put_52 : decode cX0_put 52 = .ok (.putfield 28, 3) := by decide +kernel
theorem dX0_put_55 : decode cX0_put 55 = .ok (.aload_n 0, 1) := by decide +kernel
theorem dX0_put_56 : decode cX0_put 56 = .ok (.iload 5, 2) := by decide +kernel
theorem dX0_put_58 : decode cX0_put 58 = .ok (.invokevirtual 31, 3) := by decide +kernel
theorem dX0_put_6 : decode cX0_put 6 = .ok (.getfield 24, 3) := by decide +kernel
theorem dX0_put_61 : decode cX0_put 61 = .ok (.iinc 5 1, 3) := by decide +kernel
theorem dX0_put_64 : decode cX0_put 64 = .ok (.goto (-61), 3) := by decide +kernel
theorem dX0_put_67 : decode cX0_put 67 = .ok (.aload_n 0, 1) := by decide +kernel
theorem dX0_put_68 : decode cX0_put 68 = .ok (.getfield 24, 3) := by decide +kernel
theorem dX0_put_71 : decode cX0_put 71 = .ok (.bipush 8, 2) := by decide +kernel
theorem dX0_put_73 : decode cX0_put 73 = .ok (.if_icmp .ne 8, 3) := by decide +kernel
theorem dX0_put_76 : decode cX0_put 76 = .ok (.aload_n 0, 1) := by decide +kernel
theorem dX0_put_77 : decode cX0_put 77 = .ok (.iconst 0, 1) := by decide +kernel
theorem dX0_put_78 : decode cX0_put 78 = .ok (.invokevirtual 31, 3) := by decide +kernel
theorem dX0_put_81 : decode cX0_put 81 = .ok (.aload_n 0, 1) := by decide +kernel
theorem dX0_put_82 : decode cX0_put 82 = .ok (.getfield 9, 3) := by decide +kernel
theorem dX0_put_85 : decode cX0_put 85 = .ok (.aload_n 0, 1) := by decide +kernel
theorem dX0_put_86 : decode cX0_put 86 = .ok (.getfield 24, 3) := by decide +kernel
theorem dX0_put_89 : decode cX0_put 89 = .ok (.iload_n 1, 1) := by decide +kernel
theorem dX0_put_9 : decode cX0_put 9 = .ok (.if_icmp .ge 58, 3) := by decide +kernel
theorem dX0_put_90 : decode cX0_put 90 = .ok (.iastore, 1) := by decide +kernel
theorem dX0_put_91 : decode cX0_put 91 = .ok (.aload_n 0, 1) := by decide +kernel
theorem dX0_put_92 : decode cX0_put 92 = .ok (.getfield 15, 3) := by decide +kernel
theorem dX0_put_95 : decode cX0_put 95 = .ok (.aload_n 0, 1) := by decide +kernel
theorem dX0_put_96 : decode cX0_put 96 = .ok (.getfield 24, 3) := by decide +kernel
theorem dX0_put_99 : decode cX0_put 99 = .ok (.iload_n 2, 1) := by decide +kernel
theorem dX0_remove_0 : decode cX0_remove 0 = .ok (.iload_n 1, 1) := by decide +kernel
theorem dX0_remove_1 : decode cX0_remove 1 = .ok (.istore_n 2, 1) := by decide +kernel
theorem dX0_remove_12 : decode cX0_remove 12 = .ok (.aload_n 0, 1) := by decide +kernel
theorem dX0_remove_13 : decode cX0_remove 13 = .ok (.getfield 9, 3) := by decide +kernel
theorem dX0_remove_16 : decode cX0_remove 16 = .ok (.iload_n 2, 1) := by decide +kernel
theorem dX0_remove_17 : decode cX0_remove 17 = .ok (.aload_n 0, 1) := by decide +kernel
theorem dX0_remove_18 : decode cX0_remove 18 = .ok (.getfield 9, 3) := by decide +kernel
theorem dX0_remove_2 : decode cX0_remove 2 = .ok (.iload_n 2, 1) := by decide +kernel
theorem dX0_remove_21 : decode cX0_remove 21 = .ok (.iload_n 2, 1) := by decide +kernel
theorem dX0_remove_22 : decode cX0_remove 22 = .ok (.iconst 1, 1) := by decide +kernel
theorem dX0_remove_23 : decode cX0_remove 23 = .ok (.iadd, 1) := by decide +kernel
theorem dX0_remove_24 : decode cX0_remove 24 = .ok (.iaload, 1) := by decide +kernel
theorem dX0_remove_25 : decode cX0_remove 25 = .ok (.iastore, 1) := by decide +kernel
theorem dX0_remove_26 : decode cX0_remove 26 = .ok (.aload_n 0, 1) := by decide +kernel
theorem dX0_remove_27 : decode cX0_remove 27 = .ok (.getfield 15, 3) := by decide +kernel
theorem dX0_remove_3 : decode cX0_remove 3 = .ok (.iconst 1, 1) := by decide +kernel
theorem dX0_remove_30 : decode cX0_remove 30 = .ok (.iload_n 2, 1) := by decide +kernel
theorem dX0_remove_31 : decode cX0_remove 31 = .ok (.aload_n 0, 1) := by decide +kernel
theorem dX0_remove_32 : decode cX0_remove 32 = .ok (.getfield 15, 3) := by decide +kernel
theorem dX0_remove_35 : decode cX0_remove 35 = .ok (.iload_n 2, 1) := by decide +kernel
theorem dX0_remove_36 : decode cX0_remove 36 = .ok (.iconst 1, 1) := by decide +kernel
theorem dX0_remove_37 : decode cX0_remove 37 = .ok (.iadd, 1) := by decide +kernel
theorem dX0_remove_38 : decode cX0_remove 38 = .ok (.iaload, 1) := by decide +kernel
theorem dX0_remove_39 : decode cX0_remove 39 = .ok (.iastore, 1) := by decide +kernel
theorem dX0_remove_4 : decode cX0_remove 4 = .ok (.iadd, 1) := by decide +kernel
theorem dX0_remove_40 : decode cX0_remove 40 = .ok (.aload_n 0, 1) := by decide +kernel
theorem dX0_remove_41 : decode cX0_remove 41 = .ok (.getfield 18, 3) := by decide +kernel
theorem dX0_remove_44 : decode cX0_remove 44 = .ok (.iload_n 2, 1) := by decide +kernel
theorem dX0_remove_45 : decode cX0_remove 45 = .ok (.aload_n 0, 1) := by decide +kernel
theorem dX0_remove_46 : decode cX0_remove 46 = .ok (.getfield 18, 3) := by decide +kernel
theorem dX0_remove_49 : decode cX0_remove 49 = .ok (.iload_n 2, 1) := by decide +kernel
theorem dX0_remove_5 : decode cX0_remove 5 = .ok (.aload_n 0, 1) := by decide +kernel
theorem dX0_remove_50 : decode cX0_remove 50 = .ok (.iconst 1, 1) := by decide +kernel
theorem dX0_remove_51 : decode cX0_remove 51 = .ok (.iadd, 1) := by decide +kernel
theorem dX0_remove_52 : decode cX0_remove 52 = .ok (.iaload, 1) := by decide +kernel
theorem dX0_remove_53 : decode cX0_remove 53 = .ok (.iastore, 1) := by decide +kernel
theorem dX0_remove_54 : decode cX0_remove 54 = .ok (.aload_n 0, 1) := by decide +kernel
theorem dX0_remove_55 : decode cX0_remove 55 = .ok (.getfield 21, 3) := by decide +kernel
theorem dX0_remove_58 : decode cX0_remove 58 = .ok (.iload_n 2, 1) := by decide +kernel
theorem dX0_remove_59 : decode cX0_remove 59 = .ok (.aload_n 0, 1) := by decide +kernel
theorem dX0_remove_6 : decode cX0_remove 6 = .ok (.getfield 24, 3) := by decide +kernel
theorem dX0_remove_60 : decode cX0_remove 60 = .ok (.getfield 21, 3) := by decide +kernel
theorem dX0_remove_63 : decode cX0_remove 63 = .ok (.iload_n 2, 1) := by decide +kernel
theorem dX0_remove_64 : decode cX0_remove 64 = .ok (.iconst 1, 1) := by decide +kernel
theorem dX0_remove_65 : decode cX0_remove 65 = .ok (.iadd, 1) := by decide +kernel
theorem dX0_remove_66 : decode cX0_remove 66 = .ok (.iaload, 1) := by decide +kernel
theorem dX0_remove_67 : decode cX0_remove 67 = .ok (.iastore, 1) := by decide +kernel
theorem dX0_remove_68 : decode cX0_remove 68 = .ok (.iinc 2 1, 3) := by decide +kernel
theorem dX0_remove_71 : decode cX0_remove 71 = .ok (.goto (-69), 3) := by decide +kernel
theorem dX0_remove_74 : decode cX0_remove 74 = .ok (.aload_n 0, 1) := by decide +kernel
theorem dX0_remove_75 : decode cX0_remove 75 = .ok (.dup, 1) := by decide +kernel
theorem dX0_remove_76 : decode cX0_remove 76 = .ok (.getfield 24, 3) := by decide +kernel
theorem dX0_remove_79 : decode cX0_remove 79 = .ok (.iconst 1, 1) := by decide +kernel
theorem dX0_remove_80 : decode cX0_remove 80 = .ok (.isub, 1) := by decide +kernel
theorem dX0_remove_81 : decode cX0_remove 81 = .ok (.putfield 24, 3) := by decide +kernel
theorem dX0_remove_84 : decode cX0_remove 84 = .ok (.return_, 1) := by decide +kernel
theorem dX0_remove_9 : decode cX0_remove 9 = .ok (.if_icmp .ge 65, 3) := by decide +kernel
theorem dX9_push_0 : decode cX9_push 0 = .ok (.aload_n 0, 1) := by decide +kernel
theorem dX9_push_1 : decode cX9_push 1 = .ok (.getfield 37, 3) := by decide +kernel
theorem dX9_push_10 : decode cX9_push 10 = .ok (.aload_n 0, 1) := by decide +kernel
theorem dX9_push_11 : decode cX9_push 11 = .ok (.getfield 18, 3) := by decide +kernel
theorem dX9_push_14 : decode cX9_push 14 = .ok (.aload_n 0, 1) := by decide +kernel
theorem dX9_push_15 : decode cX9_push 15 = .ok (.dup, 1) := by decide +kernel
theorem dX9_push_16 : decode cX9_push 16 = .ok (.getfield 37, 3) := by decide +kernel
theorem dX9_push_19 : decode cX9_push 19 = .ok (.dup_x1, 1) := by decide +kernel
theorem dX9_push_20 : decode cX9_push 20 = .ok (.iconst 1, 1) := by decide +kernel
theorem dX9_push_21 : decode cX9_push 21 = .ok (.iadd, 1) := by decide +kernel
theorem dX9_push_22 : decode cX9_push 22 = .ok (.putfield 37, 3) := by decide +kernel
theorem dX9_push_25 : decode cX9_push 25 = .ok (.iload_n 1, 1) := by decide +kernel
theorem dX9_push_26 : decode cX9_push 26 = .ok (.iastore, 1) := by decide +kernel
theorem dX9_push_27 : decode cX9_push 27 = .ok (.return_, 1) := by decide +kernel
theorem dX9_push_4 : decode cX9_push 4 = .ok (.sipush 2048, 3) := by decide +kernel
theorem dX9_push_7 : decode cX9_push 7 = .ok (.if_icmp .ge 20, 3) := by decide +kernel
theorem dX9_putInstance_0 : decode cX9_putInstance 0 = .ok (.iload_n 1, 1) := by decide +kernel
theorem dX9_putInstance_1 : decode cX9_putInstance 1 = .ok (.bipush 30, 2) := by decide +kernel
theorem dX9_putInstance_10 : decode cX9_putInstance 10 = .ok (.if_icmp .lt 14, 3) := by decide +kernel
theorem dX9_putInstance_13 : decode cX9_putInstance 13 = .ok (.aload_n 0, 1) := by decide +kernel
theorem dX9_putInstance_14 : decode cX9_putInstance 14 = .ok (.bipush 48, 2) := by decide +kernel
theorem dX9_putInstance_16 : decode cX9_putInstance 16 = .ok (.iload_n 1, 1) := by decide +kernel
theorem dX9_putInstance_17 : decode cX9_putInstance 17 = .ok (.bipush 10, 2) := by decide +kernel
theorem dX9_putInstance_19 : decode cX9_putInstance 19 = .ok (.idiv, 1) := by decide +kernel
theorem dX9_putInstance_20 : decode cX9_putInstance 20 = .ok (.iadd, 1) := by decide +kernel
theorem dX9_putInstance_21 : decode cX9_putInstance 21 = .ok (.invokevirtual 33, 3) := by decide +kernel
theorem dX9_putInstance_24 : decode cX9_putInstance 24 = .ok (.aload_n 0, 1) := by decide +kernel
theorem dX9_putInstance_25 : decode cX9_putInstance 25 = .ok (.bipush 48, 2) := by decide +kernel
theorem dX9_putInstance_27 : decode cX9_putInstance 27 = .ok (.iload_n 1, 1) := by decide +kernel
theorem dX9_putInstance_28 : decode cX9_putInstance 28 = .ok (.bipush 10, 2) := by decide +kernel
theorem dX9_putInstance_3 : decode cX9_putInstance 3 = .ok (.if_icmp .lt 4, 3) := by decide +kernel
theorem dX9_putInstance_30 : decode cX9_putInstance 30 = .ok (.irem, 1) := by decide +kernel
theorem dX9_putInstance_31 : decode cX9_putInstance 31 = .ok (.iadd, 1) := by decide +kernel
theorem dX9_putInstance_32 : decode cX9_putInstance 32 = .ok (.invokevirtual 33, 3) := by decide +kernel
theorem dX9_putInstance_35 : decode cX9_putInstance 35 = .ok (.return_, 1) := by decide +kernel
theorem dX9_putInstance_6 : decode cX9_putInstance 6 = .ok (.return_, 1) := by decide +kernel
theorem dX9_putInstance_7 : decode cX9_putInstance 7 = .ok (.iload_n 1, 1) := by decide +kernel
theorem dX9_putInstance_8 : decode cX9_putInstance 8 = .ok (.bipush 10, 2) := by decide +kernel
theorem dX9_putName_0 : decode cX9_putName 0 = .ok (.bipush 35, 2) := by decide +kernel
theorem dX9_putName_10 : decode cX9_putName 10 = .ok (.ldc2_w 84, 3) := by decide +kernel
theorem dX9_putName_13 : decode cX9_putName 13 = .ok (.land, 1) := by decide +kernel
theorem dX9_putName_14 : decode cX9_putName 14 = .ok (.l2i, 1) := by decide +kernel
theorem dX9_putName_15 : decode cX9_putName 15 = .ok (.istore 4, 2) := by decide +kernel
theorem dX9_putName_17 : decode cX9_putName 17 = .ok (.iload 4, 2) := by decide +kernel
theorem dX9_putName_19 : decode cX9_putName 19 = .ok (.ifCond .eq 14, 3) := by decide +kernel
theorem dX9_putName_2 : decode cX9_putName 2 = .ok (.istore_n 3, 1) := by decide +kernel
theorem dX9_putName_22 : decode cX9_putName 22 = .ok (.aload_n 0, 1) := by decide +kernel
theorem dX9_putName_23 : decode cX9_putName 23 = .ok (.bipush 97, 2) := by decide +kernel
theorem dX9_putName_25 : decode cX9_putName 25 = .ok (.iload 4, 2) := by decide +kernel
theorem dX9_putName_27 : decode cX9_putName 27 = .ok (.iadd, 1) := by decide +kernel
theorem dX9_putName_28 : decode cX9_putName 28 = .ok (.iconst 1, 1) := by decide +kernel
theorem dX9_putName_29 : decode cX9_putName 29 = .ok (.isub, 1) := by decide +kernel
theorem dX9_putName_3 : decode cX9_putName 3 = .ok (.iload_n 3, 1) := by decide +kernel
theorem dX9_putName_30 : decode cX9_putName 30 = .ok (.invokevirtual 33, 3) := by decide +kernel
theorem dX9_putName_33 : decode cX9_putName 33 = .ok (.iinc 3 (-5), 3) := by decide +kernel
theorem dX9_putName_36 : decode cX9_putName 36 = .ok (.goto (-33), 3) := by decide +kernel
theorem dX9_putName_39 : decode cX9_putName 39 = .ok (.return_, 1) := by decide +kernel
theorem dX9_putName_4 : decode cX9_putName 4 = .ok (.ifCond .lt 35, 3) := by decide +kernel
theorem dX9_putName_7 : decode cX9_putName 7 = .ok (.lload_n 1, 1) := by decide +kernel
theorem dX9_putName_8 : decode cX9_putName 8 = .ok (.iload_n 3, 1) := by decide +kernel
theorem dX9_putName_9 : decode cX9_putName 9 = .ok (.lshr, 1) := by decide +kernel
theorem dX9_putPart_0 : decode cX9_putPart 0 = .ok (.iload_n 1, 1) := by decide +kernel
theorem dX9_putPart_1 : decode cX9_putPart 1 = .ok (.sipush 300, 3) := by decide +kernel
theorem dX9_putPart_10 : decode cX9_putPart 10 = .ok (.getfield 59, 3) := by decide +kernel
theorem dX9_putPart_100 : decode cX9_putPart 100 = .ok (.getfield 81, 3) := by decide +kernel
theorem dX9_putPart_103 : decode cX9_putPart 103 = .ok (.iload_n 2, 1) := by decide +kernel
theorem dX9_putPart_104 : decode cX9_putPart 104 = .ok (.iconst 3, 1) := by decide +kernel
theorem dX9_putPart_105 : decode cX9_putPart 105 = .ok (.imul, 1) := by decide +kernel
theorem dX9_putPart_106 : decode cX9_putPart 106 = .ok (.iload 4, 2) := by decide +kernel
theorem dX9_putPart_108 : decode cX9_putPart 108 = .ok (.iadd, 1) := by decide +kernel
theorem dX9_putPart_109 : decode cX9_putPart 109 = .ok (.iaload, 1) := by decide +kernel
theorem dX9_putPart_110 : decode cX9_putPart 110 = .ok (.iadd, 1) := by decide +kernel
theorem dX9_putPart_111 : decode cX9_putPart 111 = .ok (.invokevirtual 78, 3) := by decide +kernel
theorem dX9_putPart_114 : decode cX9_putPart 114 = .ok (.iload 4, 2) := by decide +kernel
theorem dX9_putPart_116 : decode cX9_putPart 116 = .ok (.ifCond .le 9, 3) := by decide +kernel
theorem dX9_putPart_119 : decode cX9_putPart 119 = .ok (.aload_n 0, 1) := by decide +kernel
theorem dX9_putPart_120 : decode cX9_putPart 120 = .ok (.bipush (-44), 2) := by decide +kernel
theorem dX9_putPart_122 : decode cX9_putPart 122 = .ok (.invokevirtual 78, 3) := by decide +kernel
theorem dX9_putPart_125 : decode cX9_putPart 125 = .ok (.iinc 4 (-1), 3) := by decide +kernel
theorem dX9_putPart_128 : decode cX9_putPart 128 = .ok (.goto (-41), 3) := by decide +kernel
theorem dX9_putPart_13 : decode cX9_putPart 13 = .ok (.iload_n 2, 1) := by decide +kernel
theorem dX9_putPart_131 : decode cX9_putPart 131 = .ok (.return_, 1) := by decide +kernel
theorem dX9_putPart_14 : decode cX9_putPart 14 = .ok (.iaload, 1) := by decide +kernel
theorem dX9_putPart_15 : decode cX9_putPart 15 = .ok (.iconst (-1), 1) := by decide +kernel
theorem dX9_putPart_16 : decode cX9_putPart 16 = .ok (.if_icmp .eq 27, 3) := by decide +kernel
theorem dX9_putPart_19 : decode cX9_putPart 19 = .ok (.aload_n 0, 1) := by decide +kernel
theorem dX9_putPart_20 : decode cX9_putPart 20 = .ok (.aload_n 0, 1) := by decide +kernel
theorem dX9_putPart_21 : decode cX9_putPart 21 = .ok (.getfield 21, 3) := by decide +kernel
theorem dX9_putPart_24 : decode cX9_putPart 24 = .ok (.getfield 64, 3) := by decide +kernel
theorem dX9_putPart_27 : decode cX9_putPart 27 = .ok (.iload_n 2, 1) := by decide +kernel
theorem dX9_putPart_28 : decode cX9_putPart 28 = .ok (.laload, 1) := by decide +kernel
theorem dX9_putPart_29 : decode cX9_putPart 29 = .ok (.l2i, 1) := by decide +kernel
theorem dX9_putPart_30 : decode cX9_putPart 30 = .ok (.invokevirtual 33, 3) := by decide +kernel
theorem dX9_putPart_33 : decode cX9_putPart 33 = .ok (.aload_n 0, 1) := by decide +kernel
theorem dX9_putPart_34 : decode cX9_putPart 34 = .ok (.iload_n 1, 1) := by decide +kernel
theorem dX9_putPart_35 : decode cX9_putPart 35 = .ok (.sipush 300, 3) := by decide +kernel
theorem dX9_putPart_38 : decode cX9_putPart 38 = .ok (.idiv, 1) := by decide +kernel
theorem dX9_putPart_39 : decode cX9_putPart 39 = .ok (.invokevirtual 68, 3) := by decide +kernel
theorem dX9_putPart_4 : decode cX9_putPart 4 = .ok (.irem, 1) := by decide +kernel
theorem dX9_putPart_42 : decode cX9_putPart 42 = .ok (.return_, 1) := by decide +kernel
theorem dX9_putPart_43 : decode cX9_putPart 43 = .ok (.aload_n 0, 1) := by decide +kernel
theorem dX9_putPart_44 : decode cX9_putPart 44 = .ok (.aload_n 0, 1) := by decide +kernel
theorem dX9_putPart_45 : decode cX9_putPart 45 = .ok (.getfield 21, 3) := by decide +kernel
theorem dX9_putPart_48 : decode cX9_putPart 48 = .ok (.getfield 64, 3) := by decide +kernel
theorem dX9_putPart_5 : decode cX9_putPart 5 = .ok (.istore_n 2, 1) := by decide +kernel
theorem dX9_putPart_51 : decode cX9_putPart 51 = .ok (.iload_n 2, 1) := by decide +kernel
theorem dX9_putPart_52 : decode cX9_putPart 52 = .ok (.laload, 1) := by decide +kernel
theorem dX9_putPart_53 : decode cX9_putPart 53 = .ok (.invokevirtual 71, 3) := by decide +kernel
theorem dX9_putPart_56 : decode cX9_putPart 56 = .ok (.aload_n 0, 1) := by decide +kernel
theorem dX9_putPart_57 : decode cX9_putPart 57 = .ok (.getfield 21, 3) := by decide +kernel
theorem dX9_putPart_6 : decode cX9_putPart 6 = .ok (.aload_n 0, 1) := by decide +kernel
theorem dX9_putPart_60 : decode cX9_putPart 60 = .ok (.getfield 75, 3) := by decide +kernel
theorem dX9_putPart_63 : decode cX9_putPart 63 = .ok (.iload_n 2, 1) := by decide +kernel
theorem dX9_putPart_64 : decode cX9_putPart 64 = .ok (.iaload, 1) := by decide +kernel
theorem dX9_putPart_65 : decode cX9_putPart 65 = .ok (.istore_n 3, 1) := by decide +kernel
theorem dX9_putPart_66 : decode cX9_putPart 66 = .ok (.iload_n 3, 1) := by decide +kernel
theorem dX9_putPart_67 : decode cX9_putPart 67 = .ok (.ifCond .le 15, 3) := by decide +kernel
theorem dX9_putPart_7 : decode cX9_putPart 7 = .ok (.getfield 21, 3) := by decide +kernel
theorem dX9_putPart_70 : decode cX9_putPart 70 = .ok (.aload_n 0, 1) := by decide +kernel
theorem dX9_putPart_71 : decode cX9_putPart 71 = .ok (.bipush 40, 2) := by decide +kernel
theorem dX9_putPart_73 : decode cX9_putPart 73 = .ok (.invokevirtual 33, 3) := by decide +kernel
theorem dX9_putPart_76 : decode cX9_putPart 76 = .ok (.aload_n 0, 1) := by decide +kernel
theorem dX9_putPart_77 : decode cX9_putPart 77 = .ok (.bipush (-41), 2) := by decide +kernel
theorem dX9_putPart_79 : decode cX9_putPart 79 = .ok (.invokevirtual 78, 3) := by decide +kernel
theorem dX9_putPart_82 : decode cX9_putPart 82 = .ok (.iload_n 3, 1) := by decide +kernel
theorem dX9_putPart_83 : decode cX9_putPart 83 = .ok (.iconst 1, 1) := by decide +kernel
theorem dX9_putPart_84 : decode cX9_putPart 84 = .ok (.isub, 1) := by decide +kernel
theorem dX9_putPart_85 : decode cX9_putPart 85 = .ok (.istore 4, 2) := by decide +kernel
theorem dX9_putPart_87 : decode cX9_putPart 87 = .ok (.iload 4, 2) := by decide +kernel
theorem dX9_putPart_89 : decode cX9_putPart 89 = .ok (.ifCond .lt 42, 3) := by decide +kernel
theorem dX9_putPart_92 : decode cX9_putPart 92 = .ok (.aload_n 0, 1) := by decide +kernel
theorem dX9_putPart_93 : decode cX9_putPart 93 = .ok (.iload_n 1, 1) := by decide +kernel
theorem dX9_putPart_94 : decode cX9_putPart 94 = .ok (.iload_n 2, 1) := by decide +kernel
theorem dX9_putPart_95 : decode cX9_putPart 95 = .ok (.isub, 1) := by decide +kernel
theorem dX9_putPart_96 : decode cX9_putPart 96 = .ok (.aload_n 0, 1) := by decide +kernel
theorem dX9_putPart_97 : decode cX9_putPart 97 = .ok (.getfield 21, 3) := by decide +kernel
theorem dX9_put_0 : decode cX9_put 0 = .ok (.aload_n 0, 1) := by decide +kernel
theorem dX9_put_1 : decode cX9_put 1 = .ok (.getfield 29, 3) := by decide +kernel
theorem dX9_put_10 : decode cX9_put 10 = .ok (.aload_n 0, 1) := by decide +kernel
theorem dX9_put_11 : decode cX9_put 11 = .ok (.getfield 15, 3) := by decide +kernel
theorem dX9_put_14 : decode cX9_put 14 = .ok (.aload_n 0, 1) := by decide +kernel
theorem dX9_put_15 : decode cX9_put 15 = .ok (.dup, 1) := by decide +kernel
theorem dX9_put_16 : decode cX9_put 16 = .ok (.getfield 29, 3) := by decide +kernel
theorem dX9_put_19 : decode cX9_put 19 = .ok (.dup_x1, 1) := by decide +kernel
theorem dX9_put_20 : decode cX9_put 20 = .ok (.iconst 1, 1) := by decide +kernel
theorem dX9_put_21 : decode cX9_put 21 = .ok (.iadd, 1) := by decide +kernel
theorem dX9_put_22 : decode cX9_put 22 = .ok (.putfield 29, 3) := by decide +kernel
theorem dX9_put_25 : decode cX9_put 25 = .ok (.iload_n 1, 1) := by decide +kernel
theorem dX9_put_26 : decode cX9_put 26 = .ok (.iastore, 1) := by decide +kernel
theorem dX9_put_27 : decode cX9_put 27 = .ok (.return_, 1) := by decide +kernel
theorem dX9_put_4 : decode cX9_put 4 = .ok (.sipush 616, 3) := by decide +kernel
theorem dX9_put_7 : decode cX9_put 7 = .ok (.if_icmp .ge 20, 3) := by decide +kernel
theorem dX9_write_0 : decode cX9_write 0 = .ok (.aload_n 0, 1) := by decide +kernel
theorem dX9_write_1 : decode cX9_write 1 = .ok (.iconst 0, 1) := by decide +kernel
theorem dX9_write_10 : decode cX9_write 10 = .ok (.bipush 45, 2) := by decide +kernel
theorem dX9_write_100 : decode cX9_write 100 = .ok (.aload_n 0, 1) := by decide +kernel
theorem dX9_write_101 : decode cX9_write 101 = .ok (.getfield 37, 3) := by decide +kernel
theorem dX9_write_104 : decode cX9_write 104 = .ok (.iaload, 1) := by decide +kernel
theorem dX9_write_105 : decode cX9_write 105 = .ok (.invokevirtual 41, 3) := by decide +kernel
theorem dX9_write_108 : decode cX9_write 108 = .ok (.invokevirtual 47, 3) := by decide +kernel
theorem dX9_write_111 : decode cX9_write 111 = .ok (.iinc 4 1, 3) := by decide +kernel
theorem dX9_write_114 : decode cX9_write 114 = .ok (.goto (-84), 3) := by decide +kernel
theorem dX9_write_117 : decode cX9_write 117 = .ok (.aload_n 0, 1) := by decide +kernel
theorem dX9_write_118 : decode cX9_write 118 = .ok (.getfield 37, 3) := by decide +kernel
theorem dX9_write_12 : decode cX9_write 12 = .ok (.invokevirtual 33, 3) := by decide +kernel
theorem dX9_write_121 : decode cX9_write 121 = .ok (.ifCond .gt 21, 3) := by decide +kernel
theorem dX9_write_124 : decode cX9_write 124 = .ok (.aload_n 0, 1) := by decide +kernel
theorem dX9_write_125 : decode cX9_write 125 = .ok (.getfield 29, 3) := by decide +kernel
theorem dX9_write_128 : decode cX9_write 128 = .ok (.iload_n 3, 1) := by decide +kernel
theorem dX9_write_129 : decode cX9_write 129 = .ok (.if_icmp .gt 13, 3) := by decide +kernel
theorem dX9_write_132 : decode cX9_write 132 = .ok (.aload_n 0, 1) := by decide +kernel
theorem dX9_write_133 : decode cX9_write 133 = .ok (.getfield 29, 3) := by decide +kernel
theorem dX9_write_136 : decode cX9_write 136 = .ok (.sipush 600, 3) := by decide +kernel
theorem dX9_write_139 : decode cX9_write 139 = .ok (.if_icmp .le 5, 3) := by decide +kernel
theorem dX9_write_142 : decode cX9_write 142 = .ok (.iconst (-1), 1) := by decide +kernel
theorem dX9_write_143 : decode cX9_write 143 = .ok (.ireturn, 1) := by decide +kernel
theorem dX9_write_144 : decode cX9_write 144 = .ok (.aload_n 0, 1) := by decide +kernel
theorem dX9_write_145 : decode cX9_write 145 = .ok (.getfield 15, 3) := by decide +kernel
theorem dX9_write_148 : decode cX9_write 148 = .ok (.iconst 0, 1) := by decide +kernel
theorem dX9_write_149 : decode cX9_write 149 = .ok (.aload_n 0, 1) := by decide +kernel
theorem dX9_write_15 : decode cX9_write 15 = .ok (.aload_n 0, 1) := by decide +kernel
theorem dX9_write_150 : decode cX9_write 150 = .ok (.getfield 9, 3) := by decide +kernel
theorem dX9_write_153 : decode cX9_write 153 = .ok (.iconst 0, 1) := by decide +kernel
theorem dX9_write_154 : decode cX9_write 154 = .ok (.aload_n 0, 1) := by decide +kernel
theorem dX9_write_155 : decode cX9_write 155 = .ok (.getfield 29, 3) := by decide +kernel
theorem dX9_write_158 : decode cX9_write 158 = .ok (.invokestatic 50, 3) := by decide +kernel
theorem dX9_write_16 : decode cX9_write 16 = .ok (.getfield 18, 3) := by decide +kernel
theorem dX9_write_161 : decode cX9_write 161 = .ok (.aload_n 0, 1) := by decide +kernel
theorem dX9_write_162 : decode cX9_write 162 = .ok (.aload_n 0, 1) := by decide +kernel
theorem dX9_write_163 : decode cX9_write 163 = .ok (.getfield 29, 3) := by decide +kernel
theorem dX9_write_166 : decode cX9_write 166 = .ok (.putfield 56, 3) := by decide +kernel
theorem dX9_write_169 : decode cX9_write 169 = .ok (.aload_n 0, 1) := by decide +kernel
theorem dX9_write_170 : decode cX9_write 170 = .ok (.getfield 56, 3) := by decide +kernel
theorem dX9_write_173 : decode cX9_write 173 = .ok (.ireturn, 1) := by decide +kernel
theorem dX9_write_19 : decode cX9_write 19 = .ok (.iconst 0, 1) := by decide +kernel
theorem dX9_write_2 : decode cX9_write 2 = .ok (.putfield 29, 3) := by decide +kernel
theorem dX9_write_20 : decode cX9_write 20 = .ok (.iload_n 1, 1) := by decide +kernel
theorem dX9_write_21 : decode cX9_write 21 = .ok (.iastore, 1) := by decide +kernel
theorem dX9_write_22 : decode cX9_write 22 = .ok (.aload_n 0, 1) := by decide +kernel
theorem dX9_write_23 : decode cX9_write 23 = .ok (.iconst 1, 1) := by decide +kernel
theorem dX9_write_24 : decode cX9_write 24 = .ok (.putfield 37, 3) := by decide +kernel
theorem dX9_write_27 : decode cX9_write 27 = .ok (.iconst 0, 1) := by decide +kernel
theorem dX9_write_28 : decode cX9_write 28 = .ok (.istore 4, 2) := by decide +kernel
theorem dX9_write_30 : decode cX9_write 30 = .ok (.iload 4, 2) := by decide +kernel
theorem dX9_write_32 : decode cX9_write 32 = .ok (.ldc 40, 2) := by decide +kernel
theorem dX9_write_34 : decode cX9_write 34 = .ok (.if_icmp .ge 83, 3) := by decide +kernel
theorem dX9_write_37 : decode cX9_write 37 = .ok (.aload_n 0, 1) := by decide +kernel
theorem dX9_write_38 : decode cX9_write 38 = .ok (.getfield 37, 3) := by decide +kernel
theorem dX9_write_41 : decode cX9_write 41 = .ok (.ifCond .le 76, 3) := by decide +kernel
theorem dX9_write_44 : decode cX9_write 44 = .ok (.aload_n 0, 1) := by decide +kernel
theorem dX9_write_45 : decode cX9_write 45 = .ok (.getfield 29, 3) := by decide +kernel
theorem dX9_write_48 : decode cX9_write 48 = .ok (.iload_n 3, 1) := by decide +kernel
theorem dX9_write_49 : decode cX9_write 49 = .ok (.if_icmp .gt 68, 3) := by decide +kernel
theorem dX9_write_5 : decode cX9_write 5 = .ok (.iload_n 2, 1) := by decide +kernel
theorem dX9_write_52 : decode cX9_write 52 = .ok (.aload_n 0, 1) := by decide +kernel
theorem dX9_write_53 : decode cX9_write 53 = .ok (.dup, 1) := by decide +kernel
theorem dX9_write_54 : decode cX9_write 54 = .ok (.getfield 37, 3) := by decide +kernel
theorem dX9_write_57 : decode cX9_write 57 = .ok (.iconst 1, 1) := by decide +kernel
theorem dX9_write_58 : decode cX9_write 58 = .ok (.isub, 1) := by decide +kernel
theorem dX9_write_59 : decode cX9_write 59 = .ok (.putfield 37, 3) := by decide +kernel
theorem dX9_write_6 : decode cX9_write 6 = .ok (.ifCond .eq 9, 3) := by decide +kernel
theorem dX9_write_62 : decode cX9_write 62 = .ok (.aload_n 0, 1) := by decide +kernel
theorem dX9_write_63 : decode cX9_write 63 = .ok (.getfield 18, 3) := by decide +kernel
theorem dX9_write_66 : decode cX9_write 66 = .ok (.aload_n 0, 1) := by decide +kernel
theorem dX9_write_67 : decode cX9_write 67 = .ok (.getfield 37, 3) := by decide +kernel
theorem dX9_write_70 : decode cX9_write 70 = .ok (.iaload, 1) := by decide +kernel
theorem dX9_write_71 : decode cX9_write 71 = .ok (.ifCond .ge 20, 3) := by decide +kernel
theorem dX9_write_74 : decode cX9_write 74 = .ok (.aload_n 0, 1) := by decide +kernel
theorem dX9_write_75 : decode cX9_write 75 = .ok (.aload_n 0, 1) := by decide +kernel
theorem dX9_write_76 : decode cX9_write 76 = .ok (.getfield 18, 3) := by decide +kernel
theorem dX9_write_79 : decode cX9_write 79 = .ok (.aload_n 0, 1) := by decide +kernel
theorem dX9_write_80 : decode cX9_write 80 = .ok (.getfield 37, 3) := by decide +kernel
theorem dX9_write_83 : decode cX9_write 83 = .ok (.iaload, 1) := by decide +kernel
theorem dX9_write_84 : decode cX9_write 84 = .ok (.ineg, 1) := by decide +kernel
theorem dX9_write_85 : decode cX9_write 85 = .ok (.invokevirtual 33, 3) := by decide +kernel
theorem dX9_write_88 : decode cX9_write 88 = .ok (.goto 23, 3) := by decide +kernel
theorem dX9_write_9 : decode cX9_write 9 = .ok (.aload_n 0, 1) := by decide +kernel
theorem dX9_write_91 : decode cX9_write 91 = .ok (.aload_n 0, 1) := by decide +kernel
theorem dX9_write_92 : decode cX9_write 92 = .ok (.aload_n 0, 1) := by decide +kernel
theorem dX9_write_93 : decode cX9_write 93 = .ok (.getfield 25, 3) := by decide +kernel
theorem dX9_write_96 : decode cX9_write 96 = .ok (.aload_n 0, 1) := by decide +kernel
theorem dX9_write_97 : decode cX9_write 97 = .ok (.getfield 18, 3) := by decide +kernel
set_option maxHeartbeats 8000000 in
set_option maxRecDepth 100000 in
theorem c_X9_put (l : Launch) (dC : Nat → ClassId) (dI : Nat → Nat → Nat) (sz : Nat) (h_wr : Nat) (h_wd : Nat) (v_wr : Nat → Value) (x_wr_drafted : Int32) (cy_wd : ClassId) (f_wd : Nat → Int32) (p1 : Int32) (hx_wr_drafted : 0 ≤ (x_wr_drafted).toInt ∧ (x_wr_drafted).toInt ≤ 616) : Met l yX9_put (Ws yX9_put cX9_put 2 none) (({ frames := 0, cells := 0, slots := 0, locals := 0 } : Room)) (PRE (dC, dI) cls [(cy_wd, .int)] [(h_wr, .inr (6, [(v_wr 0), (v_wr 1), (v_wr 2), (v_wr 3), .ref h_wd, .int x_wr_drafted, (v_wr 6), (v_wr 7)])), (h_wd, .inl (cy_wd, 616, .inl f_wd))] sz [.ref h_wr, .int p1]) (va_Qv (fun (u : (Int32) × (Nat → Int32)) => (0 ≤ (u.1).toInt ∧ (u.1).toInt ≤ 616)) (fun (u : (Int32) × (Nat → Int32)) (t : State) => va_P (dC, dI) cls [(h_wr, .inr (6, [(v_wr 0), (v_wr 1), (v_wr 2), (v_wr 3), .ref h_wd, .int u.1, (v_wr 6), (v_wr 7)])), (h_wd, .inl (cy_wd, 616, .inl u.2))] t.heap ∧ va_D (va_A [(h_wr, .inr (6, [(v_wr 0), (v_wr 1), (v_wr 2), (v_wr 3), .ref h_wd, .int x_wr_drafted, (v_wr 6), (v_wr 7)])), (h_wd, .inl (cy_wd, 616, .inl f_wd))] sz) [(h_wr, .inr (6, [(v_wr 0), (v_wr 1), (v_wr 2), (v_wr 3), .ref h_wd, .int u.1, (v_wr 6), (v_wr 7)])), (h_wd, .inl (cy_wd, 616, .inl u.2))]) (va_A [(h_wr, .inr (6, [(v_wr 0), (v_wr 1), (v_wr 2), (v_wr 3), .ref h_wd, .int x_wr_drafted, (v_wr 6), (v_wr 7)])), (h_wd, .inl (cy_wd, 616, .inl f_wd))] sz)) 0 0 (va_A [(h_wr, .inr (6, [(v_wr 0), (v_wr 1), (v_wr 2), (v_wr 3), .ref h_wd, .int x_wr_drafted, (v_wr 6), (v_wr 7)])), (h_wd, .inl (cy_wd, 616, .inl f_wd))] sz) := by
  refine Met.ofW (cc := cX9_put) (maxL := 2) (ret := none) (by decide) rfl ?_
  intro p e s m args below meth c s₁ B hml hv
  obtain ⟨rfl, hsz, hP, hK, hD0, hN⟩ := hv
  have hx := B.exec
  have hb := B.bytes
  have hr := B.returns
  have hts := atoms_spec (ws := Ws yX9_put cX9_put 2 none) B.pre
  have hT : ∀ w ∈ WALL, w ∈ Ws yX9_put cX9_put 2 none := fun w h => List.mem_cons_of_mem _ h
  have hw := fun w (h : w ∈ WALL) => hts w (hT w h)
  have hown : s.vm.findClass RX9 = some m.cls := findClass_of_methodNamed B.named
  have hlocks := B.notSynchronized
  subst hsz
  have hD := hD0.self (sz := s.heap.size)
  generalize hAe : va_A [(h_wr, .inr (6, [(v_wr 0), (v_wr 1), (v_wr 2), (v_wr 3), .ref h_wd, .int x_wr_drafted, (v_wr 6), (v_wr 7)])), (h_wd, .inl (cy_wd, 616, .inl f_wd))] s.heap.size = A at hD ⊢
  have hA : ∀ q : Nat, s.heap.size ≤ q → A q := fun q h => by rw [← hAe]; exact Or.inr h
  have hS : va_S A s.heap s.heap [] := va_S.rf
  have hl := lv_entry ([.ref h_wr, .int p1]) (n := 2) (Nat.le_of_ble_eq_true rfl)
  rw [lg_entry_eq]
  generalize (lg_sl ([.ref h_wr, .int p1]) ++ List.replicate (2 - (lg_sl ([.ref h_wr, .int p1])).length) Slot.unset).toArray = ls at hl ⊢
  have hl : lv_has ls 2 [(0, .ref h_wr), (1, .int p1)] := hl
  refine lv_aload_n hx hb dX9_put_0 rfl (lv_at hl 0 rfl) ?_
  refine va_get (D := (dC, dI)) (ci := 6) (v := .int x_wr_drafted) (C := RX9) (T := TX9) (N := 8) hx hb hw iwX9 hown hK hP 0 rfl rfl 5 (by decide) (hw _ w_f_X9_29) (fun _ h9 => h9) rfl dX9_put_1 ?_
  refine lv_sipush (v := 616) hx hb dX9_put_4 (by decide) ?_
  refine lv_icmp_ge (tgt := 27) hx hb dX9_put_7 (by decide) (fun c1 => ?_) (fun c1 => ?_)
  · have kc1 := (cv_le (by decide : (616 : Int32).toInt = 616) (rfl : (x_wr_drafted).toInt = (x_wr_drafted).toInt)).mp c1
    refine W.widen (k := 0) (n := 0) (Nat.le_of_ble_eq_true rfl) (Nat.le_of_ble_eq_true rfl) ?_
    have w2 : 0 ≤ ((x_wr_drafted)).toInt ∧ ((x_wr_drafted)).toInt ≤ 616 := by omega
    exact W.vret hx hb hr (fun t ht hW => ⟨⟨(x_wr_drafted, f_wd), rfl, w2, by rw [ht]; exact hP, hD⟩, hS.F ht⟩) hS.2.2 dX9_put_27
  · have kc1 := (not_congr (cv_le (by decide : (616 : Int32).toInt = 616) (rfl : (x_wr_drafted).toInt = (x_wr_drafted).toInt))).mp c1
    refine lv_aload_n hx hb dX9_put_10 rfl (lv_at hl 0 rfl) ?_
    refine va_get (D := (dC, dI)) (ci := 6) (v := .ref h_wd) (C := RX9) (T := TX9) (N := 8) hx hb hw iwX9 hown hK hP 0 rfl rfl 4 (by decide) (hw _ w_f_X9_15) (fun _ h9 => h9) rfl dX9_put_11 ?_
    refine lv_aload_n hx hb dX9_put_14 rfl (lv_at hl 0 rfl) ?_
    refine lv_dup hx hb dX9_put_15 rfl ?_
    refine va_get (D := (dC, dI)) (ci := 6) (v := .int x_wr_drafted) (C := RX9) (T := TX9) (N := 8) hx hb hw iwX9 hown hK hP 0 rfl rfl 5 (by decide) (hw _ w_f_X9_29) (fun _ h9 => h9) rfl dX9_put_16 ?_
    refine lv_dup_x1 hx hb dX9_put_19 rfl rfl ?_
    refine lv_iconst (v := 1) hx hb dX9_put_20 (by decide) ?_
    refine lv_iadd hx hb dX9_put_21 ?_
    refine lv_topi (fun z3 ez3 => ?_)
    have tz3 : (z3).toInt = (x_wr_drafted).toInt + 1 := by rw [ez3]; exact i_add rfl (by decide) (by omega)
    refine va_put (D := (dC, dI)) (ci := 6) (v := .int z3) (ty := tyX9 5) (C := RX9) (T := TX9) (N := 8) hx hb hw iwX9 tyX9 tyX9_ok nmX9 hown hK hP hD hS 0 rfl rfl 5 (by decide) (hw _ w_f_X9_29) (fun _ h9 => h9) rfl (tyX9_ok 5 (by decide)) rfl rfl (Nat.le_of_ble_eq_true rfl) dX9_put_22 (fun H locs hP hD hS => ?_)
    have hP : va_P (dC, dI) cls [(h_wr, .inr (6, [(v_wr 0), (v_wr 1), (v_wr 2), (v_wr 3), .ref h_wd, .int z3, (v_wr 6), (v_wr 7)])), (h_wd, .inl (cy_wd, 616, .inl f_wd))] H := hP
    have hD : va_D A [(h_wr, .inr (6, [(v_wr 0), (v_wr 1), (v_wr 2), (v_wr 3), .ref h_wd, .int z3, (v_wr 6), (v_wr 7)])), (h_wd, .inl (cy_wd, 616, .inl f_wd))] := hD
    refine lv_iload_n hx hb dX9_put_25 rfl (lv_at hl 1 rfl) ?_
    refine va_iast hx hb hK hP hD hS 1 0 rfl rfl (i := x_wr_drafted) (x := p1) (vp_in_iff.mpr (by omega)) dX9_put_26 (fun H locs hP hD hS => ?_)
    obtain ⟨f4, ef4⟩ : ∃ g : Nat → Int32, g = upd f_wd (Int32.toNatClampNeg x_wr_drafted) p1 := ⟨_, rfl⟩
    have hP : va_P (dC, dI) cls [(h_wr, .inr (6, [(v_wr 0), (v_wr 1), (v_wr 2), (v_wr 3), .ref h_wd, .int z3, (v_wr 6), (v_wr 7)])), (h_wd, .inl (cy_wd, 616, .inl f4))] H := by rw [ef4]; exact hP
    have hD : va_D A [(h_wr, .inr (6, [(v_wr 0), (v_wr 1), (v_wr 2), (v_wr 3), .ref h_wd, .int z3, (v_wr 6), (v_wr 7)])), (h_wd, .inl (cy_wd, 616, .inl f4))] := by rw [ef4]; exact hD
    clear ef4
    refine W.widen (k := 0) (n := 0) (Nat.le_of_ble_eq_true rfl) (Nat.le_of_ble_eq_true rfl) ?_
    have w5 : 0 ≤ ((z3)).toInt ∧ ((z3)).toInt ≤ 616 := by omega
    exact W.vret hx hb hr (fun t ht hW => ⟨⟨(z3, f4), rfl, w5, by rw [ht]; exact hP, hD⟩, hS.F ht⟩) hS.2.2 dX9_put_27

set_option maxHeartbeats 8000000 in
set_option maxRecDepth 100000 in
theorem c_X9_push (l : Launch) (dC : Nat → ClassId) (dI : Nat → Nat → Nat) (sz : Nat) (h_wr : Nat) (h_wh : Nat) (v_wr : Nat → Value) (x_wr_held : Int32) (cy_wh : ClassId) (f_wh : Nat → Int32) (p1 : Int32) (hx_wr_held : 0 ≤ (x_wr_held).toInt ∧ (x_wr_held).toInt ≤ 2048) (hf_wh : Rg (-127) 9599 f_wh) (q0 : -127 ≤ (p1).toInt ∧ (p1).toInt ≤ 9599) : Met l yX9_push (Ws yX9_push cX9_push 2 none) (({ frames := 0, cells := 0, slots := 0, locals := 0 } : Room)) (PRE (dC, dI) cls [(cy_wh, .int)] [(h_wr, .inr (6, [(v_wr 0), (v_wr 1), (v_wr 2), (v_wr 3), (v_wr 4), (v_wr 5), .ref h_wh, .int x_wr_held])), (h_wh, .inl (cy_wh, 2048, .inl f_wh))] sz [.ref h_wr, .int p1]) (va_Qv (fun (u : (Int32) × (Nat → Int32)) => (0 ≤ (u.1).toInt ∧ (u.1).toInt ≤ 2048) ∧ (Rg (-127) 9599 u.2)) (fun (u : (Int32) × (Nat → Int32)) (t : State) => va_P (dC, dI) cls [(h_wr, .inr (6, [(v_wr 0), (v_wr 1), (v_wr 2), (v_wr 3), (v_wr 4), (v_wr 5), .ref h_wh, .int u.1])), (h_wh, .inl (cy_wh, 2048, .inl u.2))] t.heap ∧ va_D (va_A [(h_wr, .inr (6, [(v_wr 0), (v_wr 1), (v_wr 2), (v_wr 3), (v_wr 4), (v_wr 5), .ref h_wh, .int x_wr_held])), (h_wh, .inl (cy_wh, 2048, .inl f_wh))] sz) [(h_wr, .inr (6, [(v_wr 0), (v_wr 1), (v_wr 2), (v_wr 3), (v_wr 4), (v_wr 5), .ref h_wh, .int u.1])), (h_wh, .inl (cy_wh, 2048, .inl u.2))]) (va_A [(h_wr, .inr (6, [(v_wr 0), (v_wr 1), (v_wr 2), (v_wr 3), (v_wr 4), (v_wr 5), .ref h_wh, .int x_wr_held])), (h_wh, .inl (cy_wh, 2048, .inl f_wh))] sz)) 0 0 (va_A [(h_wr, .inr (6, [(v_wr 0), (v_wr 1), (v_wr 2), (v_wr 3), (v_wr 4), (v_wr 5), .ref h_wh, .int x_wr_held])), (h_wh, .inl (cy_wh, 2048, .inl f_wh))] sz) := by
  refine Met.ofW (cc := cX9_push) (maxL := 2) (ret := none) (by decide) rfl ?_
  intro p e s m args below meth c s₁ B hml hv
  obtain ⟨rfl, hsz, hP, hK, hD0, hN⟩ := hv
  have hx := B.exec
  have hb := B.bytes
  have hr := B.returns
  have hts := atoms_spec (ws := Ws yX9_push cX9_push 2 none) B.pre
  have hT : ∀ w ∈ WALL, w ∈ Ws yX9_push cX9_push 2 none := fun w h => List.mem_cons_of_mem _ h
  have hw := fun w (h : w ∈ WALL) => hts w (hT w h)
  have hown : s.vm.findClass RX9 = some m.cls := findClass_of_methodNamed B.named
  have hlocks := B.notSynchronized
  subst hsz
  have hD := hD0.self (sz := s.heap.size)
  generalize hAe : va_A [(h_wr, .inr (6, [(v_wr 0), (v_wr 1), (v_wr 2), (v_wr 3), (v_wr 4), (v_wr 5), .ref h_wh, .int x_wr_held])), (h_wh, .inl (cy_wh, 2048, .inl f_wh))] s.heap.size = A at hD ⊢
  have hA : ∀ q : Nat, s.heap.size ≤ q → A q := fun q h => by rw [← hAe]; exact Or.inr h
  have hS : va_S A s.heap s.heap [] := va_S.rf
  have hl := lv_entry ([.ref h_wr, .int p1]) (n := 2) (Nat.le_of_ble_eq_true rfl)
  rw [lg_entry_eq]
  generalize (lg_sl ([.ref h_wr, .int p1]) ++ List.replicate (2 - (lg_sl ([.ref h_wr, .int p1])).length) Slot.unset).toArray = ls at hl ⊢
  have hl : lv_has ls 2 [(0, .ref h_wr), (1, .int p1)] := hl
  refine lv_aload_n hx hb dX9_push_0 rfl (lv_at hl 0 rfl) ?_
  refine va_get (D := (dC, dI)) (ci := 6) (v := .int x_wr_held) (C := RX9) (T := TX9) (N := 8) hx hb hw iwX9 hown hK hP 0 rfl rfl 7 (by decide) (hw _ w_f_X9_37) (fun _ h9 => h9) rfl dX9_push_1 ?_
  refine lv_sipush (v := 2048) hx hb dX9_push_4 (by decide) ?_
  refine lv_icmp_ge (tgt := 27) hx hb dX9_push_7 (by decide) (fun c1 => ?_) (fun c1 => ?_)
  · have kc1 := (cv_le (by decide : (2048 : Int32).toInt = 2048) (rfl : (x_wr_held).toInt = (x_wr_held).toInt)).mp c1
    refine W.widen (k := 0) (n := 0) (Nat.le_of_ble_eq_true rfl) (Nat.le_of_ble_eq_true rfl) ?_
    have w2 : 0 ≤ ((x_wr_held)).toInt ∧ ((x_wr_held)).toInt ≤ 2048 := by omega
    exact W.vret hx hb hr (fun t ht hW => ⟨⟨(x_wr_held, f_wh), rfl, ⟨w2, hf_wh⟩, by rw [ht]; exact hP, hD⟩, hS.F ht⟩) hS.2.2 dX9_push_27
  · have kc1 := (not_congr (cv_le (by decide : (2048 : Int32).toInt = 2048) (rfl : (x_wr_held).toInt = (x_wr_held).toInt))).mp c1
    refine lv_aload_n hx hb dX9_push_10 rfl (lv_at hl 0 rfl) ?_
    refine va_get (D := (dC, dI)) (ci := 6) (v := .ref h_wh) (C := RX9) (T := TX9) (N := 8) hx hb hw iwX9 hown hK hP 0 rfl rfl 6 (by decide) (hw _ w_f_X9_18) (fun _ h9 => h9) rfl dX9_push_11 ?_
    refine lv_aload_n hx hb dX9_push_14 rfl (lv_at hl 0 rfl) ?_
    refine lv_dup hx hb dX9_push_15 rfl ?_
    refine va_get (D := (dC, dI)) (ci := 6) (v := .int x_wr_held) (C := RX9) (T := TX9) (N := 8) hx hb hw iwX9 hown hK hP 0 rfl rfl 7 (by decide) (hw _ w_f_X9_37) (fun _ h9 => h9) rfl dX9_push_16 ?_
    refine lv_dup_x1 hx hb dX9_push_19 rfl rfl ?_
    refine lv_iconst (v := 1) hx hb dX9_push_20 (by decide) ?_
    refine lv_iadd hx hb dX9_push_21 ?_
    refine lv_topi (fun z3 ez3 => ?_)
    have tz3 : (z3).toInt = (x_wr_held).toInt + 1 := by rw [ez3]; exact i_add rfl (by decide) (by omega)
    refine va_put (D := (dC, dI)) (ci := 6) (v := .int z3) (ty := tyX9 7) (C := RX9) (T := TX9) (N := 8) hx hb hw iwX9 tyX9 tyX9_ok nmX9 hown hK hP hD hS 0 rfl rfl 7 (by decide) (hw _ w_f_X9_37) (fun _ h9 => h9) rfl (tyX9_ok 7 (by decide)) rfl rfl (Nat.le_of_ble_eq_true rfl) dX9_push_22 (fun H locs hP hD hS => ?_)
    have hP : va_P (dC, dI) cls [(h_wr, .inr (6, [(v_wr 0), (v_wr 1), (v_wr 2), (v_wr 3), (v_wr 4), (v_wr 5), .ref h_wh, .int z3])), (h_wh, .inl (cy_wh, 2048, .inl f_wh))] H := hP
    have hD : va_D A [(h_wr, .inr (6, [(v_wr 0), (v_wr 1), (v_wr 2), (v_wr 3), (v_wr 4), (v_wr 5), .ref h_wh, .int z3])), (h_wh, .inl (cy_wh, 2048, .inl f_wh))] := hD
    refine lv_iload_n hx hb dX9_push_25 rfl (lv_at hl 1 rfl) ?_
    refine va_iast hx hb hK hP hD hS 1 0 rfl rfl (i := x_wr_held) (x := p1) (vp_in_iff.mpr (by omega)) dX9_push_26 (fun H locs hP hD hS => ?_)
    obtain ⟨f4, ef4⟩ : ∃ g : Nat → Int32, g = upd f_wh (Int32.toNatClampNeg x_wr_held) p1 := ⟨_, rfl⟩
    have hP : va_P (dC, dI) cls [(h_wr, .inr (6, [(v_wr 0), (v_wr 1), (v_wr 2), (v_wr 3), (v_wr 4), (v_wr 5), .ref h_wh, .int z3])), (h_wh, .inl (cy_wh, 2048, .inl f4))] H := by rw [ef4]; exact hP
    have hD : va_D A [(h_wr, .inr (6, [(v_wr 0), (v_wr 1), (v_wr 2), (v_wr 3), (v_wr 4), (v_wr 5), .ref h_wh, .int z3])), (h_wh, .inl (cy_wh, 2048, .inl f4))] := by rw [ef4]; exact hD
    have hf4 : Rg (-127) 9599 f4 := by rw [ef4]; exact rg_upd hf_wh (by omega)
    clear ef4
    refine W.widen (k := 0) (n := 0) (Nat.le_of_ble_eq_true rfl) (Nat.le_of_ble_eq_true rfl) ?_
    have w5 : 0 ≤ ((z3)).toInt ∧ ((z3)).toInt ≤ 2048 := by omega
    exact W.vret hx hb hr (fun t ht hW => ⟨⟨(z3, f4), rfl, ⟨w5, hf4⟩, by rw [ht]; exact hP, hD⟩, hS.F ht⟩) hS.2.2 dX9_push_27

set_option maxHeartbeats 8000000 in
set_option maxRecDepth 100000 in
theorem c_X9_putInstance (l : Launch) (dC : Nat → ClassId) (dI : Nat → Nat → Nat) (sz : Nat) (h_wr : Nat) (h_wd : Nat) (v_wr : Nat → Value) (x_wr_drafted : Int32) (cy_wd : ClassId) (f_wd : Nat → Int32) (p1 : Int32) (hx_wr_drafted : 0 ≤ (x_wr_drafted).toInt ∧ (x_wr_drafted).toInt ≤ 616) (q0 : 0 ≤ (p1).toInt ∧ (p1).toInt ≤ 31) : Met l yX9_putInstance (Ws yX9_putInstance cX9_putInstance 2 none) (({ frames := 1, cells := 0, slots := 0, locals := 21 } : Room)) (PRE (dC, dI) cls [(cy_wd, .int)] [(h_wr, .inr (6, [(v_wr 0), (v_wr 1), (v_wr 2), (v_wr 3), .ref h_wd, .int x_wr_drafted, (v_wr 6), (v_wr 7)])), (h_wd, .inl (cy_wd, 616, .inl f_wd))] sz [.ref h_wr, .int p1]) (va_Qv (fun (u : (Int32) × (Nat → Int32)) => (0 ≤ (u.1).toInt ∧ (u.1).toInt ≤ 616)) (fun (u : (Int32) × (Nat → Int32)) (t : State) => va_P (dC, dI) cls [(h_wr, .inr (6, [(v_wr 0), (v_wr 1), (v_wr 2), (v_wr 3), .ref h_wd, .int u.1, (v_wr 6), (v_wr 7)])), (h_wd, .inl (cy_wd, 616, .inl u.2))] t.heap ∧ va_D (va_A [(h_wr, .inr (6, [(v_wr 0), (v_wr 1), (v_wr 2), (v_wr 3), .ref h_wd, .int x_wr_drafted, (v_wr 6), (v_wr 7)])), (h_wd, .inl (cy_wd, 616, .inl f_wd))] sz) [(h_wr, .inr (6, [(v_wr 0), (v_wr 1), (v_wr 2), (v_wr 3), .ref h_wd, .int u.1, (v_wr 6), (v_wr 7)])), (h_wd, .inl (cy_wd, 616, .inl u.2))]) (va_A [(h_wr, .inr (6, [(v_wr 0), (v_wr 1), (v_wr 2), (v_wr 3), .ref h_wd, .int x_wr_drafted, (v_wr 6), (v_wr 7)])), (h_wd, .inl (cy_wd, 616, .inl f_wd))] sz)) 0 0 (va_A [(h_wr, .inr (6, [(v_wr 0), (v_wr 1), (v_wr 2), (v_wr 3), .ref h_wd, .int x_wr_drafted, (v_wr 6), (v_wr 7)])), (h_wd, .inl (cy_wd, 616, .inl f_wd))] sz) := by
  refine Met.ofW (cc := cX9_putInstance) (maxL := 2) (ret := none) (by decide) rfl ?_
  intro p e s m args below meth c s₁ B hml hv
  obtain ⟨rfl, hsz, hP, hK, hD0, hN⟩ := hv
  have hx := B.exec
  have hb := B.bytes
  have hr := B.returns
  have hts := atoms_spec (ws := Ws yX9_putInstance cX9_putInstance 2 none) B.pre
  have hT : ∀ w ∈ WALL, w ∈ Ws yX9_putInstance cX9_putInstance 2 none := fun w h => List.mem_cons_of_mem _ h
  have hw := fun w (h : w ∈ WALL) => hts w (hT w h)
  have hown : s.vm.findClass RX9 = some m.cls := findClass_of_methodNamed B.named
  have hlocks := B.notSynchronized
  subst hsz
  have hD := hD0.self (sz := s.heap.size)
  generalize hAe : va_A [(h_wr, .inr (6, [(v_wr 0), (v_wr 1), (v_wr 2), (v_wr 3), .ref h_wd, .int x_wr_drafted, (v_wr 6), (v_wr 7)])), (h_wd, .inl (cy_wd, 616, .inl f_wd))] s.heap.size = A at hD ⊢
  have hA : ∀ q : Nat, s.heap.size ≤ q → A q := fun q h => by rw [← hAe]; exact Or.inr h
  have hS : va_S A s.heap s.heap [] := va_S.rf
  have hl := lv_entry ([.ref h_wr, .int p1]) (n := 2) (Nat.le_of_ble_eq_true rfl)
  rw [lg_entry_eq]
  generalize (lg_sl ([.ref h_wr, .int p1]) ++ List.replicate (2 - (lg_sl ([.ref h_wr, .int p1])).length) Slot.unset).toArray = ls at hl ⊢
  have hl : lv_has ls 2 [(0, .ref h_wr), (1, .int p1)] := hl
  refine lv_iload_n hx hb dX9_putInstance_0 rfl (lv_at hl 1 rfl) ?_
  refine lv_bipush (v := 30) hx hb dX9_putInstance_1 (by decide) ?_
  refine lv_icmp_lt (tgt := 7) hx hb dX9_putInstance_3 (by decide) (fun c1 => ?_) (fun c1 => ?_)
  · have kc1 := (cv_lt (rfl : (p1).toInt = (p1).toInt) (by decide : (30 : Int32).toInt = 30)).mp c1
    refine lv_iload_n hx hb dX9_putInstance_7 rfl (lv_at hl 1 rfl) ?_
    refine lv_bipush (v := 10) hx hb dX9_putInstance_8 (by decide) ?_
    refine lv_icmp_lt (tgt := 24) hx hb dX9_putInstance_10 (by decide) (fun c2 => ?_) (fun c2 => ?_)
    · have kc2 := (cv_lt (rfl : (p1).toInt = (p1).toInt) (by decide : (10 : Int32).toInt = 10)).mp c2
      refine lv_aload_n hx hb dX9_putInstance_24 rfl (lv_at hl 0 rfl) ?_
      refine lv_bipush (v := 48) hx hb dX9_putInstance_25 (by decide) ?_
      refine lv_iload_n hx hb dX9_putInstance_27 rfl (lv_at hl 1 rfl) ?_
      refine lv_bipush (v := 10) hx hb dX9_putInstance_28 (by decide) ?_
      refine lv_irem hx hb dX9_putInstance_30 (by decide) ?_
      refine lv_topi (fun z3 ez3 => ?_)
      have tz3 : (z3).toInt = (p1).toInt % 10 := by rw [ez3]; exact i_rem rfl (by decide) (by omega)
      refine lv_iadd hx hb dX9_putInstance_31 ?_
      refine lv_topi (fun z4 ez4 => ?_)
      have tz4 : (z4).toInt = 48 + (z3).toInt := by rw [ez4]; exact i_add (by decide) rfl (by omega)
      have hPc := hP.sub (ws' := [(h_wr, .inr (6, [(v_wr 0), (v_wr 1), (v_wr 2), (v_wr 3), .ref h_wd, .int x_wr_drafted, (v_wr 6), (v_wr 7)])), (h_wd, .inl (cy_wd, 616, .inl f_wd))]) [0, 1] rfl
      have hDc := hD.sub (ws' := [(h_wr, .inr (6, [(v_wr 0), (v_wr 1), (v_wr 2), (v_wr 3), .ref h_wd, .int x_wr_drafted, (v_wr 6), (v_wr 7)])), (h_wd, .inl (cy_wd, 616, .inl f_wd))]) [0, 1] (by decide) rfl
      have hKc := hK.sub (tys' := [(cy_wd, .int)]) [0] rfl
      have hFc := va_free (wc := [(h_wr, .inr (6, [(v_wr 0), (v_wr 1), (v_wr 2), (v_wr 3), .ref h_wd, .int x_wr_drafted, (v_wr 6), (v_wr 7)])), (h_wd, .inl (cy_wd, 616, .inl f_wd))]) hD hS hA [0, 1] rfl
      refine va_callv (va_runV (As := [.int z4]) (rest := []) ⟨hx, hb, hml, hown, hts⟩ (c_X9_put l dC dI s.heap.size h_wr h_wd v_wr x_wr_drafted cy_wd f_wd z4 (by omega)) (cwV 1 hts (gv hT w_m_X9_33 w_instanceMethod_X9_put ws_sel_X9_put w_ini_X9 w_code_X9_put) rfl rfl rfl (by decide +kernel) ⟨(Nat.le_of_ble_eq_true rfl), (Nat.le_of_ble_eq_true rfl)⟩) ⟨pre_blind, va_recv hK hP (ci := 6) (q0 := 0) rfl rfl, pre_of hPc hKc hDc hN⟩ rfl rfl hl.1 rfl (lv_room (Nat.le_of_ble_eq_true rfl)) dX9_putInstance_32 ⟨(Nat.le_of_ble_eq_true rfl), (Nat.le_of_ble_eq_true rfl)⟩) hS (fun q _ h => hFc q h) hFc (fun u t H locs ht hvm hq hB hz1 hk1 hS => ?_)
      obtain ⟨z6, f7⟩ := u
      obtain ⟨hP1, hD1⟩ := hB
      rw [ht] at hP1
      obtain ⟨hP, hD⟩ := va_join (wr := []) (w1 := [(h_wr, .inr (6, [(v_wr 0), (v_wr 1), (v_wr 2), (v_wr 3), .ref h_wd, .int z6, (v_wr 6), (v_wr 7)])), (h_wd, .inl (cy_wd, 616, .inl f7))]) hP hD [0, 1] [] rfl rfl (by decide) (by decide) hk1 hFc hP1 hD1
      have hP : va_P (dC, dI) cls [(h_wr, .inr (6, [(v_wr 0), (v_wr 1), (v_wr 2), (v_wr 3), .ref h_wd, .int z6, (v_wr 6), (v_wr 7)])), (h_wd, .inl (cy_wd, 616, .inl f7))] H := hP
      have hD : va_D A [(h_wr, .inr (6, [(v_wr 0), (v_wr 1), (v_wr 2), (v_wr 3), .ref h_wd, .int z6, (v_wr 6), (v_wr 7)])), (h_wd, .inl (cy_wd, 616, .inl f7))] := hD
      have k8 : 0 ≤ ((z6)).toInt ∧ ((z6)).toInt ≤ 616 := hq
      refine W.widen (k := 0) (n := 0) (Nat.le_of_ble_eq_true rfl) (Nat.le_of_ble_eq_true rfl) ?_
      have w9 : 0 ≤ ((z6)).toInt ∧ ((z6)).toInt ≤ 616 := by omega
      exact W.vret hx hb hr (fun t ht hW => ⟨⟨(z6, f7), rfl, w9, by rw [ht]; exact hP, hD⟩, hS.F ht⟩) hS.2.2 dX9_putInstance_35
    · have kc2 := (not_congr (cv_lt (rfl : (p1).toInt = (p1).toInt) (by decide : (10 : Int32).toInt = 10))).mp c2
      refine lv_aload_n hx hb dX9_putInstance_13 rfl (lv_at hl 0 rfl) ?_
      refine lv_bipush (v := 48) hx hb dX9_putInstance_14 (by decide) ?_
      refine lv_iload_n hx hb dX9_putInstance_16 rfl (lv_at hl 1 rfl) ?_
      refine lv_bipush (v := 10) hx hb dX9_putInstance_17 (by decide) ?_
      refine lv_idiv hx hb dX9_putInstance_19 (by decide) ?_
      refine lv_topi (fun z10 ez10 => ?_)
      have tz10 : (z10).toInt = (p1).toInt / 10 := by rw [ez10]; exact i_div rfl (by decide) (by omega)
      refine lv_iadd hx hb dX9_putInstance_20 ?_
      refine lv_topi (fun z11 ez11 => ?_)
      have tz11 : (z11).toInt = 48 + (z10).toInt := by rw [ez11]; exact i_add (by decide) rfl (by omega)
      have hPc := hP.sub (ws' := [(h_wr, .inr (6, [(v_wr 0), (v_wr 1), (v_wr 2), (v_wr 3), .ref h_wd, .int x_wr_drafted, (v_wr 6), (v_wr 7)])), (h_wd, .inl (cy_wd, 616, .inl f_wd))]) [0, 1] rfl
      have hDc := hD.sub (ws' := [(h_wr, .inr (6, [(v_wr 0), (v_wr 1), (v_wr 2), (v_wr 3), .ref h_wd, .int x_wr_drafted, (v_wr 6), (v_wr 7)])), (h_wd, .inl (cy_wd, 616, .inl f_wd))]) [0, 1] (by decide) rfl
      have hKc := hK.sub (tys' := [(cy_wd, .int)]) [0] rfl
      have hFc := va_free (wc := [(h_wr, .inr (6, [(v_wr 0), (v_wr 1), (v_wr 2), (v_wr 3), .ref h_wd, .int x_wr_drafted, (v_wr 6), (v_wr 7)])), (h_wd, .inl (cy_wd, 616, .inl f_wd))]) hD hS hA [0, 1] rfl
      refine va_callv (va_runV (As := [.int z11]) (rest := []) ⟨hx, hb, hml, hown, hts⟩ (c_X9_put l dC dI s.heap.size h_wr h_wd v_wr x_wr_drafted cy_wd f_wd z11 (by omega)) (cwV 1 hts (gv hT w_m_X9_33 w_instanceMethod_X9_put ws_sel_X9_put w_ini_X9 w_code_X9_put) rfl rfl rfl (by decide +kernel) ⟨(Nat.le_of_ble_eq_true rfl), (Nat.le_of_ble_eq_true rfl)⟩) ⟨pre_blind, va_recv hK hP (ci := 6) (q0 := 0) rfl rfl, pre_of hPc hKc hDc hN⟩ rfl rfl hl.1 rfl (lv_room (Nat.le_of_ble_eq_true rfl)) dX9_putInstance_21 ⟨(Nat.le_of_ble_eq_true rfl), (Nat.le_of_ble_eq_true rfl)⟩) hS (fun q _ h => hFc q h) hFc (fun u t H locs ht hvm hq hB hz1 hk1 hS => ?_)
      obtain ⟨z13, f14⟩ := u
      obtain ⟨hP1, hD1⟩ := hB
      rw [ht] at hP1
      obtain ⟨hP, hD⟩ := va_join (wr := []) (w1 := [(h_wr, .inr (6, [(v_wr 0), (v_wr 1), (v_wr 2), (v_wr 3), .ref h_wd, .int z13, (v_wr 6), (v_wr 7)])), (h_wd, .inl (cy_wd, 616, .inl f14))]) hP hD [0, 1] [] rfl rfl (by decide) (by decide) hk1 hFc hP1 hD1
      have hP : va_P (dC, dI) cls [(h_wr, .inr (6, [(v_wr 0), (v_wr 1), (v_wr 2), (v_wr 3), .ref h_wd, .int z13, (v_wr 6), (v_wr 7)])), (h_wd, .inl (cy_wd, 616, .inl f14))] H := hP
      have hD : va_D A [(h_wr, .inr (6, [(v_wr 0), (v_wr 1), (v_wr 2), (v_wr 3), .ref h_wd, .int z13, (v_wr 6), (v_wr 7)])), (h_wd, .inl (cy_wd, 616, .inl f14))] := hD
      have k15 : 0 ≤ ((z13)).toInt ∧ ((z13)).toInt ≤ 616 := hq
      refine lv_aload_n hx hb dX9_putInstance_24 rfl (lv_at hl 0 rfl) ?_
      refine lv_bipush (v := 48) hx hb dX9_putInstance_25 (by decide) ?_
      refine lv_iload_n hx hb dX9_putInstance_27 rfl (lv_at hl 1 rfl) ?_
      refine lv_bipush (v := 10) hx hb dX9_putInstance_28 (by decide) ?_
      refine lv_irem hx hb dX9_putInstance_30 (by decide) ?_
      refine lv_topi (fun z16 ez16 => ?_)
      have tz16 : (z16).toInt = (p1).toInt % 10 := by rw [ez16]; exact i_rem rfl (by decide) (by omega)
      refine lv_iadd hx hb dX9_putInstance_31 ?_
      refine lv_topi (fun z17 ez17 => ?_)
      have tz17 : (z17).toInt = 48 + (z16).toInt := by rw [ez17]; exact i_add (by decide) rfl (by omega)
      have hPc := hP.sub (ws' := [(h_wr, .inr (6, [(v_wr 0), (v_wr 1), (v_wr 2), (v_wr 3), .ref h_wd, .int z13, (v_wr 6), (v_wr 7)])), (h_wd, .inl (cy_wd, 616, .inl f14))]) [0, 1] rfl
      have hDc := hD.sub (ws' := [(h_wr, .inr (6, [(v_wr 0), (v_wr 1), (v_wr 2), (v_wr 3), .ref h_wd, .int z13, (v_wr 6), (v_wr 7)])), (h_wd, .inl (cy_wd, 616, .inl f14))]) [0, 1] (by decide) rfl
      have hKc := hK.sub (tys' := [(cy_wd, .int)]) [0] rfl
      have hFc := va_free (wc := [(h_wr, .inr (6, [(v_wr 0), (v_wr 1), (v_wr 2), (v_wr 3), .ref h_wd, .int z13, (v_wr 6), (v_wr 7)])), (h_wd, .inl (cy_wd, 616, .inl f14))]) hD hS hA [0, 1] rfl
      refine va_callv (va_runV (As := [.int z17]) (rest := []) ⟨hx, hb, hml, hown, hts⟩ (c_X9_put l dC dI H.size h_wr h_wd v_wr z13 cy_wd f14 z17 (by omega)) (cwV 1 hts (gv hT w_m_X9_33 w_instanceMethod_X9_put ws_sel_X9_put w_ini_X9 w_code_X9_put) rfl rfl rfl (by decide +kernel) ⟨(Nat.le_of_ble_eq_true rfl), (Nat.le_of_ble_eq_true rfl)⟩) ⟨pre_blind, va_recv hK hP (ci := 6) (q0 := 0) rfl rfl, pre_of hPc hKc hDc hN⟩ rfl rfl hl.1 rfl (lv_room (Nat.le_of_ble_eq_true rfl)) dX9_putInstance_32 ⟨(Nat.le_of_ble_eq_true rfl), (Nat.le_of_ble_eq_true rfl)⟩) hS (fun q _ h => hFc q h) hFc (fun u t H locs ht hvm hq hB hz1 hk1 hS => ?_)
      obtain ⟨z19, f20⟩ := u
      obtain ⟨hP1, hD1⟩ := hB
      rw [ht] at hP1
      obtain ⟨hP, hD⟩ := va_join (wr := []) (w1 := [(h_wr, .inr (6, [(v_wr 0), (v_wr 1), (v_wr 2), (v_wr 3), .ref h_wd, .int z19, (v_wr 6), (v_wr 7)])), (h_wd, .inl (cy_wd, 616, .inl f20))]) hP hD [0, 1] [] rfl rfl (by decide) (by decide) hk1 hFc hP1 hD1
      have hP : va_P (dC, dI) cls [(h_wr, .inr (6, [(v_wr 0), (v_wr 1), (v_wr 2), (v_wr 3), .ref h_wd, .int z19, (v_wr 6), (v_wr 7)])), (h_wd, .inl (cy_wd, 616, .inl f20))] H := hP
      have hD : va_D A [(h_wr, .inr (6, [(v_wr 0), (v_wr 1), (v_wr 2), (v_wr 3), .ref h_wd, .int z19, (v_wr 6), (v_wr 7)])), (h_wd, .inl (cy_wd, 616, .inl f20))] := hD
      have k21 : 0 ≤ ((z19)).toInt ∧ ((z19)).toInt ≤ 616 := hq
      refine W.widen (k := 0) (n := 0) (Nat.le_of_ble_eq_true rfl) (Nat.le_of_ble_eq_true rfl) ?_
      have w22 : 0 ≤ ((z19)).toInt ∧ ((z19)).toInt ≤ 616 := by omega
      exact W.vret hx hb hr (fun t ht hW => ⟨⟨(z19, f20), rfl, w22, by rw [ht]; exact hP, hD⟩, hS.F ht⟩) hS.2.2 dX9_putInstance_35
  · have kc1 := (not_congr (cv_lt (rfl : (p1).toInt = (p1).toInt) (by decide : (30 : Int32).toInt = 30))).mp c1
    refine W.widen (k := 0) (n := 0) (Nat.le_of_ble_eq_true rfl) (Nat.le_of_ble_eq_true rfl) ?_
    have w23 : 0 ≤ ((x_wr_drafted)).toInt ∧ ((x_wr_drafted)).toInt ≤ 616 := by omega
    exact W.vret hx hb hr (fun t ht hW => ⟨⟨(x_wr_drafted, f_wd), rfl, w23, by rw [ht]; exact hP, hD⟩, hS.F ht⟩) hS.2.2 dX9_putInstance_6

set_option maxHeartbeats 8000000 in
set_option maxRecDepth 100000 in
theorem c_X9_putName (l : Launch) (dC : Nat → ClassId) (dI : Nat → Nat → Nat) (sz : Nat) (h_wr : Nat) (h_wd : Nat) (v_wr : Nat → Value) (x_wr_drafted : Int32) (cy_wd : ClassId) (f_wd : Nat → Int32) (p1 : Int64) (hx_wr_drafted : 0 ≤ (x_wr_drafted).toInt ∧ (x_wr_drafted).toInt ≤ 616) : Met l yX9_putName (Ws yX9_putName cX9_putName 5 none) (({ frames := 1, cells := 0, slots := 0, locals := 21 } : Room)) (PRE (dC, dI) cls [(cy_wd, .int)] [(h_wr, .inr (6, [(v_wr 0), (v_wr 1), (v_wr 2), (v_wr 3), .ref h_wd, .int x_wr_drafted, (v_wr 6), (v_wr 7)])), (h_wd, .inl (cy_wd, 616, .inl f_wd))] sz [.ref h_wr, .long p1]) (va_Qv (fun (u : (Int32) × (Nat → Int32)) => (0 ≤ (u.1).toInt ∧ (u.1).toInt ≤ 616)) (fun (u : (Int32) × (Nat → Int32)) (t : State) => va_P (dC, dI) cls [(h_wr, .inr (6, [(v_wr 0), (v_wr 1), (v_wr 2), (v_wr 3), .ref h_wd, .int u.1, (v_wr 6), (v_wr 7)])), (h_wd, .inl (cy_wd, 616, .inl u.2))] t.heap ∧ va_D (va_A [(h_wr, .inr (6, [(v_wr 0), (v_wr 1), (v_wr 2), (v_wr 3), .ref h_wd, .int x_wr_drafted, (v_wr 6), (v_wr 7)])), (h_wd, .inl (cy_wd, 616, .inl f_wd))] sz) [(h_wr, .inr (6, [(v_wr 0), (v_wr 1), (v_wr 2), (v_wr 3), .ref h_wd, .int u.1, (v_wr 6), (v_wr 7)])), (h_wd, .inl (cy_wd, 616, .inl u.2))]) (va_A [(h_wr, .inr (6, [(v_wr 0), (v_wr 1), (v_wr 2), (v_wr 3), .ref h_wd, .int x_wr_drafted, (v_wr 6), (v_wr 7)])), (h_wd, .inl (cy_wd, 616, .inl f_wd))] sz)) 0 0 (va_A [(h_wr, .inr (6, [(v_wr 0), (v_wr 1), (v_wr 2), (v_wr 3), .ref h_wd, .int x_wr_drafted, (v_wr 6), (v_wr 7)])), (h_wd, .inl (cy_wd, 616, .inl f_wd))] sz) := by
  refine Met.ofW (cc := cX9_putName) (maxL := 5) (ret := none) (by decide) rfl ?_
  intro p e s m args below meth c s₁ B hml hv
  obtain ⟨rfl, hsz, hP, hK, hD0, hN⟩ := hv
  have hx := B.exec
  have hb := B.bytes
  have hr := B.returns
  have hts := atoms_spec (ws := Ws yX9_putName cX9_putName 5 none) B.pre
  have hT : ∀ w ∈ WALL, w ∈ Ws yX9_putName cX9_putName 5 none := fun w h => List.mem_cons_of_mem _ h
  have hw := fun w (h : w ∈ WALL) => hts w (hT w h)
  have hown : s.vm.findClass RX9 = some m.cls := findClass_of_methodNamed B.named
  have hlocks := B.notSynchronized
  subst hsz
  have hD := hD0.self (sz := s.heap.size)
  generalize hAe : va_A [(h_wr, .inr (6, [(v_wr 0), (v_wr 1), (v_wr 2), (v_wr 3), .ref h_wd, .int x_wr_drafted, (v_wr 6), (v_wr 7)])), (h_wd, .inl (cy_wd, 616, .inl f_wd))] s.heap.size = A at hD ⊢
  have hA : ∀ q : Nat, s.heap.size ≤ q → A q := fun q h => by rw [← hAe]; exact Or.inr h
  have hS : va_S A s.heap s.heap [] := va_S.rf
  have hl := lv_entry ([.ref h_wr, .long p1]) (n := 5) (Nat.le_of_ble_eq_true rfl)
  rw [lg_entry_eq]
  generalize (lg_sl ([.ref h_wr, .long p1]) ++ List.replicate (5 - (lg_sl ([.ref h_wr, .long p1])).length) Slot.unset).toArray = ls at hl ⊢
  have hl : lv_has ls 5 [(0, .ref h_wr), (1, .long p1)] := hl
  refine lv_bipush (v := 35) hx hb dX9_putName_0 (by decide) ?_
  refine lv_istore_n (lv' := [(3, .int 35), (0, .ref h_wr), (1, .long p1)]) hx hb dX9_putName_2 rfl hl (by decide) rfl (fun ls hl => ?_)
  have lp4 : ∀ (n : Nat) (x1 : Int32) (x2 : Int32) (f3 : Nat → Int32) (H : Heap) (locs : List Loc) (ls : Array Slot), (-5 ≤ (x1).toInt ∧ (x1).toInt ≤ 35) → (0 ≤ (x2).toInt ∧ (x2).toInt ≤ 616) → ((x1).toInt + 5).toNat + 1 ≤ n → va_P (dC, dI) cls [(h_wr, .inr (6, [(v_wr 0), (v_wr 1), (v_wr 2), (v_wr 3), .ref h_wd, .int x2, (v_wr 6), (v_wr 7)])), (h_wd, .inl (cy_wd, 616, .inl f3))] H → va_D A [(h_wr, .inr (6, [(v_wr 0), (v_wr 1), (v_wr 2), (v_wr 3), .ref h_wd, .int x2, (v_wr 6), (v_wr 7)])), (h_wd, .inl (cy_wd, 616, .inl f3))] → va_S A s.heap H locs → lv_has ls 5 [(0, .ref h_wr), (1, .long p1), (3, .int x1)] → W p l e ({ frames := 1, cells := 0, slots := 0, locals := 21 } : Room) s m ([.ref h_wr, .long p1] : List Value).toArray below meth c H locs 0 0 (MQ below (va_Qv (fun (u : (Int32) × (Nat → Int32)) => (0 ≤ (u.1).toInt ∧ (u.1).toInt ≤ 616)) (fun (u : (Int32) × (Nat → Int32)) (t : State) => va_P (dC, dI) cls [(h_wr, .inr (6, [(v_wr 0), (v_wr 1), (v_wr 2), (v_wr 3), .ref h_wd, .int u.1, (v_wr 6), (v_wr 7)])), (h_wd, .inl (cy_wd, 616, .inl u.2))] t.heap ∧ va_D A [(h_wr, .inr (6, [(v_wr 0), (v_wr 1), (v_wr 2), (v_wr 3), .ref h_wd, .int u.1, (v_wr 6), (v_wr 7)])), (h_wd, .inl (cy_wd, 616, .inl u.2))]) A) ([.ref h_wr, .long p1] : List Value).toArray s 0 0 A) (F0 m 3 ls []) := by
    intro n
    induction n with
    | zero => intro x1 x2 f3 H locs ls klp4_0 klp4_1 hm hP hD hS hl; exact False.elim (by omega)
    | succ n ih => 
      intro x1 x2 f3 H locs ls klp4_0 klp4_1 hm hP hD hS hl
      have ih5 := ih
      clear ih
      refine lv_iload_n hx hb dX9_putName_3 rfl (lv_at hl 2 rfl) ?_
      refine lv_if_lt (tgt := 39) hx hb dX9_putName_4 (by decide) (fun c6 => ?_) (fun c6 => ?_)
      · have kc6 := (cv_lt (rfl : (x1).toInt = (x1).toInt) (by decide : (0 : Int32).toInt = 0)).mp c6
        refine W.widen (k := 0) (n := 0) (Nat.le_of_ble_eq_true rfl) (Nat.le_of_ble_eq_true rfl) ?_
        have w7 : 0 ≤ ((x2)).toInt ∧ ((x2)).toInt ≤ 616 := by omega
        exact W.vret hx hb hr (fun t ht hW => ⟨⟨(x2, f3), rfl, w7, by rw [ht]; exact hP, hD⟩, hS.F ht⟩) hS.2.2 dX9_putName_39
      · have kc6 := (not_congr (cv_lt (rfl : (x1).toInt = (x1).toInt) (by decide : (0 : Int32).toInt = 0))).mp c6
        refine lv_lload_n hx hb dX9_putName_7 rfl (lv_at hl 1 rfl) ?_
        refine lv_iload_n hx hb dX9_putName_8 rfl (lv_at hl 2 rfl) ?_
        refine lv_lshr hx hb dX9_putName_9 rfl ?_
        refine lv_topl (fun z8 ez8 => ?_)
        refine lv_ldc2 (v := 31) hx hb hown (hw _ w_cl_X9_84) dX9_putName_10 ?_
        refine lv_land hx hb dX9_putName_13 ?_
        refine lv_topl (fun z9 ez9 => ?_)
        refine lv_l2i hx hb dX9_putName_14 rfl ?_
        refine lv_topi (fun z10 ez10 => ?_)
        refine lv_istore (lv' := [(4, .int z10), (0, .ref h_wr), (1, .long p1), (3, .int x1)]) hx hb dX9_putName_15 hl (by decide) rfl (fun ls hl => ?_)
        refine lv_iload hx hb dX9_putName_17 (lv_at hl 0 rfl) ?_
        refine lv_if_eq (tgt := 33) hx hb dX9_putName_19 (by decide) (fun c11 => ?_) (fun c11 => ?_)
        · have kc11 := (cv_eq (rfl : (z10).toInt = (z10).toInt) (by decide : (0 : Int32).toInt = 0)).mp c11
          obtain ⟨z12, ez12⟩ : ∃ y : Int32, y = x1 + (-5) := ⟨_, rfl⟩
          have tz12 : (z12).toInt = (x1).toInt + -5 := by rw [ez12]; exact i_add rfl (by decide) (by omega)
          refine lv_iinc (v := z12) (lv' := [(3, .int z12), (4, .int z10), (0, .ref h_wr), (1, .long p1)]) hx hb dX9_putName_33 hl (k := 3) rfl (by rw [ez12]; rfl) (by decide) rfl (fun ls hl => ?_)
          refine lv_goto (tgt := 3) hx hb dX9_putName_36 (by decide) ?_
          exact ih5 (z12) (x2) (f3) _ _ _ (by omega) (by omega) (by omega) hP hD hS (lv_sub hl [2, 3, 0] rfl)
        · have kc11 := (not_congr (cv_eq (rfl : (z10).toInt = (z10).toInt) (by decide : (0 : Int32).toInt = 0))).mp c11
          refine lv_aload_n hx hb dX9_putName_22 rfl (lv_at hl 1 rfl) ?_
          refine lv_bipush (v := 97) hx hb dX9_putName_23 (by decide) ?_
          refine lv_iload hx hb dX9_putName_25 (lv_at hl 0 rfl) ?_
          refine lv_iadd hx hb dX9_putName_27 ?_
          refine lv_topi (fun z13 ez13 => ?_)
          refine lv_iconst (v := 1) hx hb dX9_putName_28 (by decide) ?_
          refine lv_isub hx hb dX9_putName_29 ?_
          refine lv_topi (fun z14 ez14 => ?_)
          have hPc := hP.sub (ws' := [(h_wr, .inr (6, [(v_wr 0), (v_wr 1), (v_wr 2), (v_wr 3), .ref h_wd, .int x2, (v_wr 6), (v_wr 7)])), (h_wd, .inl (cy_wd, 616, .inl f3))]) [0, 1] rfl
          have hDc := hD.sub (ws' := [(h_wr, .inr (6, [(v_wr 0), (v_wr 1), (v_wr 2), (v_wr 3), .ref h_wd, .int x2, (v_wr 6), (v_wr 7)])), (h_wd, .inl (cy_wd, 616, .inl f3))]) [0, 1] (by decide) rfl
          have hKc := hK.sub (tys' := [(cy_wd, .int)]) [0] rfl
          have hFc := va_free (wc := [(h_wr, .inr (6, [(v_wr 0), (v_wr 1), (v_wr 2), (v_wr 3), .ref h_wd, .int x2, (v_wr 6), (v_wr 7)])), (h_wd, .inl (cy_wd, 616, .inl f3))]) hD hS hA [0, 1] rfl
          refine va_callv (va_runV (As := [.int z14]) (rest := []) ⟨hx, hb, hml, hown, hts⟩ (c_X9_put l dC dI H.size h_wr h_wd v_wr x2 cy_wd f3 z14 (by omega)) (cwV 1 hts (gv hT w_m_X9_33 w_instanceMethod_X9_put ws_sel_X9_put w_ini_X9 w_code_X9_put) rfl rfl rfl (by decide +kernel) ⟨(Nat.le_of_ble_eq_true rfl), (Nat.le_of_ble_eq_true rfl)⟩) ⟨pre_blind, va_recv hK hP (ci := 6) (q0 := 0) rfl rfl, pre_of hPc hKc hDc hN⟩ rfl rfl hl.1 rfl (lv_room (Nat.le_of_ble_eq_true rfl)) dX9_putName_30 ⟨(Nat.le_of_ble_eq_true rfl), (Nat.le_of_ble_eq_true rfl)⟩) hS (fun q _ h => hFc q h) hFc (fun u t H locs ht hvm hq hB hz1 hk1 hS => ?_)
          obtain ⟨z16, f17⟩ := u
          obtain ⟨hP1, hD1⟩ := hB
          rw [ht] at hP1
          obtain ⟨hP, hD⟩ := va_join (wr := []) (w1 := [(h_wr, .inr (6, [(v_wr 0), (v_wr 1), (v_wr 2), (v_wr 3), .ref h_wd, .int z16, (v_wr 6), (v_wr 7)])), (h_wd, .inl (cy_wd, 616, .inl f17))]) hP hD [0, 1] [] rfl rfl (by decide) (by decide) hk1 hFc hP1 hD1
          have hP : va_P (dC, dI) cls [(h_wr, .inr (6, [(v_wr 0), (v_wr 1), (v_wr 2), (v_wr 3), .ref h_wd, .int z16, (v_wr 6), (v_wr 7)])), (h_wd, .inl (cy_wd, 616, .inl f17))] H := hP
          have hD : va_D A [(h_wr, .inr (6, [(v_wr 0), (v_wr 1), (v_wr 2), (v_wr 3), .ref h_wd, .int z16, (v_wr 6), (v_wr 7)])), (h_wd, .inl (cy_wd, 616, .inl f17))] := hD
          have k18 : 0 ≤ ((z16)).toInt ∧ ((z16)).toInt ≤ 616 := hq
          obtain ⟨z19, ez19⟩ : ∃ y : Int32, y = x1 + (-5) := ⟨_, rfl⟩
          have tz19 : (z19).toInt = (x1).toInt + -5 := by rw [ez19]; exact i_add rfl (by decide) (by omega)
          refine lv_iinc (v := z19) (lv' := [(3, .int z19), (4, .int z10), (0, .ref h_wr), (1, .long p1)]) hx hb dX9_putName_33 hl (k := 3) rfl (by rw [ez19]; rfl) (by decide) rfl (fun ls hl => ?_)
          refine lv_goto (tgt := 3) hx hb dX9_putName_36 (by decide) ?_
          exact ih5 (z19) (z16) (f17) _ _ _ (by omega) (by omega) (by omega) hP hD hS (lv_sub hl [2, 3, 0] rfl)
  have cst35 : (35 : Int32).toInt = 35 := by decide
  exact lp4 _ (35) (x_wr_drafted) (f_wd) _ _ _ (by decide) (by omega) (Nat.le_refl _) hP hD hS (lv_sub hl [1, 2, 0] rfl)

set_option maxHeartbeats 8000000 in
set_option maxRecDepth 100000 in
theorem c_X9_putPart (l : Launch) (dC : Nat → ClassId) (dI : Nat → Nat → Nat) (sz : Nat) (h_wr : Nat) (h_wd : Nat) (h_wh : Nat) (h_td : Nat) (h_nam : Nat) (h_var : Nat) (h_trm : Nat) (h_ter : Nat) (v_wr : Nat → Value) (x_wr_drafted : Int32) (x_wr_held : Int32) (cy_wd : ClassId) (f_wd : Nat → Int32) (cy_wh : ClassId) (f_wh : Nat → Int32) (v_td : Nat → Value) (cy_nam : ClassId) (f_nam : Nat → Int64) (cy_var : ClassId) (f_var : Nat → Int32) (cy_trm : ClassId) (f_trm : Nat → Int32) (cy_ter : ClassId) (f_ter : Nat → Int32) (p1 : Int32) (hx_wr_drafted : 0 ≤ (x_wr_drafted).toInt ∧ (x_wr_drafted).toInt ≤ 616) (hx_wr_held : 0 ≤ (x_wr_held).toInt ∧ (x_wr_held).toInt ≤ 2048) (hf_wh : Rg (-127) 9599 f_wh) (hf_var : Rg (-1) 7 f_var) (hf_trm : Rg 0 3 f_trm) (hf_ter : Rg 0 299 f_ter) (q0 : 0 ≤ (p1).toInt ∧ (p1).toInt ≤ 9599) : Met l yX9_putPart (Ws yX9_putPart cX9_putPart 5 none) (({ frames := 2, cells := 0, slots := 0, locals := 45 } : Room)) (PRE (dC, dI) cls [(cy_wd, .int), (cy_wh, .int), (cy_nam, .long), (cy_var, .int), (cy_trm, .int), (cy_ter, .int)] [(h_wr, .inr (6, [.ref h_td, (v_wr 1), (v_wr 2), (v_wr 3), .ref h_wd, .int x_wr_drafted, .ref h_wh, .int x_wr_held])), (h_wd, .inl (cy_wd, 616, .inl f_wd)), (h_wh, .inl (cy_wh, 2048, .inl f_wh)), (h_td, .inr (5, [.ref h_nam, .ref h_var, .ref h_trm, .ref h_ter, (v_td 4), (v_td 5), (v_td 6), (v_td 7), (v_td 8), (v_td 9)])), (h_nam, .inl (cy_nam, 300, .inr (.inl f_nam))), (h_var, .inl (cy_var, 300, .inl f_var)), (h_trm, .inl (cy_trm, 300, .inl f_trm)), (h_ter, .inl (cy_ter, 900, .inl f_ter))] sz [.ref h_wr, .int p1]) (va_Qv (fun (u : (Int32) × (Int32) × (Nat → Int32) × (Nat → Int32)) => (0 ≤ (u.1).toInt ∧ (u.1).toInt ≤ 616) ∧ (0 ≤ (u.2.1).toInt ∧ (u.2.1).toInt ≤ 2048) ∧ (Rg (-127) 9599 u.2.2.2)) (fun (u : (Int32) × (Int32) × (Nat → Int32) × (Nat → Int32)) (t : State) => va_P (dC, dI) cls [(h_wr, .inr (6, [.ref h_td, (v_wr 1), (v_wr 2), (v_wr 3), .ref h_wd, .int u.1, .ref h_wh, .int u.2.1])), (h_wd, .inl (cy_wd, 616, .inl u.2.2.1)), (h_wh, .inl (cy_wh, 2048, .inl u.2.2.2)), (h_td, .inr (5, [.ref h_nam, .ref h_var, .ref h_trm, .ref h_ter, (v_td 4), (v_td 5), (v_td 6), (v_td 7), (v_td 8), (v_td 9)])), (h_nam, .inl (cy_nam, 300, .inr (.inl f_nam))), (h_var, .inl (cy_var, 300, .inl f_var)), (h_trm, .inl (cy_trm, 300, .inl f_trm)), (h_ter, .inl (cy_ter, 900, .inl f_ter))] t.heap ∧ va_D (va_A [(h_wr, .inr (6, [.ref h_td, (v_wr 1), (v_wr 2), (v_wr 3), .ref h_wd, .int x_wr_drafted, .ref h_wh, .int x_wr_held])), (h_wd, .inl (cy_wd, 616, .inl f_wd)), (h_wh, .inl (cy_wh, 2048, .inl f_wh)), (h_td, .inr (5, [.ref h_nam, .ref h_var, .ref h_trm, .ref h_ter, (v_td 4), (v_td 5), (v_td 6), (v_td 7), (v_td 8), (v_td 9)])), (h_nam, .inl (cy_nam, 300, .inr (.inl f_nam))), (h_var, .inl (cy_var, 300, .inl f_var)), (h_trm, .inl (cy_trm, 300, .inl f_trm)), (h_ter, .inl (cy_ter, 900, .inl f_ter))] sz) [(h_wr, .inr (6, [.ref h_td, (v_wr 1), (v_wr 2), (v_wr 3), .ref h_wd, .int u.1, .ref h_wh, .int u.2.1])), (h_wd, .inl (cy_wd, 616, .inl u.2.2.1)), (h_wh, .inl (cy_wh, 2048, .inl u.2.2.2)), (h_td, .inr (5, [.ref h_nam, .ref h_var, .ref h_trm, .ref h_ter, (v_td 4), (v_td 5), (v_td 6), (v_td 7), (v_td 8), (v_td 9)])), (h_nam, .inl (cy_nam, 300, .inr (.inl f_nam))), (h_var, .inl (cy_var, 300, .inl f_var)), (h_trm, .inl (cy_trm, 300, .inl f_trm)), (h_ter, .inl (cy_ter, 900, .inl f_ter))]) (va_A [(h_wr, .inr (6, [.ref h_td, (v_wr 1), (v_wr 2), (v_wr 3), .ref h_wd, .int x_wr_drafted, .ref h_wh, .int x_wr_held])), (h_wd, .inl (cy_wd, 616, .inl f_wd)), (h_wh, .inl (cy_wh, 2048, .inl f_wh)), (h_td, .inr (5, [.ref h_nam, .ref h_var, .ref h_trm, .ref h_ter, (v_td 4), (v_td 5), (v_td 6), (v_td 7), (v_td 8), (v_td 9)])), (h_nam, .inl (cy_nam, 300, .inr (.inl f_nam))), (h_var, .inl (cy_var, 300, .inl f_var)), (h_trm, .inl (cy_trm, 300, .inl f_trm)), (h_ter, .inl (cy_ter, 900, .inl f_ter))] sz)) 0 0 (va_A [(h_wr, .inr (6, [.ref h_td, (v_wr 1), (v_wr 2), (v_wr 3), .ref h_wd, .int x_wr_drafted, .ref h_wh, .int x_wr_held])), (h_wd, .inl (cy_wd, 616, .inl f_wd)), (h_wh, .inl (cy_wh, 2048, .inl f_wh)), (h_td, .inr (5, [.ref h_nam, .ref h_var, .ref h_trm, .ref h_ter, (v_td 4), (v_td 5), (v_td 6), (v_td 7), (v_td 8), (v_td 9)])), (h_nam, .inl (cy_nam, 300, .inr (.inl f_nam))), (h_var, .inl (cy_var, 300, .inl f_var)), (h_trm, .inl (cy_trm, 300, .inl f_trm)), (h_ter, .inl (cy_ter, 900, .inl f_ter))] sz) := by
  refine Met.ofW (cc := cX9_putPart) (maxL := 5) (ret := none) (by decide) rfl ?_
  intro p e s m args below meth c s₁ B hml hv
  obtain ⟨rfl, hsz, hP, hK, hD0, hN⟩ := hv
  have hx := B.exec
  have hb := B.bytes
  have hr := B.returns
  have hts := atoms_spec (ws := Ws yX9_putPart cX9_putPart 5 none) B.pre
  have hT : ∀ w ∈ WALL, w ∈ Ws yX9_putPart cX9_putPart 5 none := fun w h => List.mem_cons_of_mem _ h
  have hw := fun w (h : w ∈ WALL) => hts w (hT w h)
  have hown : s.vm.findClass RX9 = some m.cls := findClass_of_methodNamed B.named
  have hlocks := B.notSynchronized
  subst hsz
  have hD := hD0.self (sz := s.heap.size)
  generalize hAe : va_A [(h_wr, .inr (6, [.ref h_td, (v_wr 1), (v_wr 2), (v_wr 3), .ref h_wd, .int x_wr_drafted, .ref h_wh, .int x_wr_held])), (h_wd, .inl (cy_wd, 616, .inl f_wd)), (h_wh, .inl (cy_wh, 2048, .inl f_wh)), (h_td, .inr (5, [.ref h_nam, .ref h_var, .ref h_trm, .ref h_ter, (v_td 4), (v_td 5), (v_td 6), (v_td 7), (v_td 8), (v_td 9)])), (h_nam, .inl (cy_nam, 300, .inr (.inl f_nam))), (h_var, .inl (cy_var, 300, .inl f_var)), (h_trm, .inl (cy_trm, 300, .inl f_trm)), (h_ter, .inl (cy_ter, 900, .inl f_ter))] s.heap.size = A at hD ⊢
  have hA : ∀ q : Nat, s.heap.size ≤ q → A q := fun q h => by rw [← hAe]; exact Or.inr h
  have hS : va_S A s.heap s.heap [] := va_S.rf
  have hl := lv_entry ([.ref h_wr, .int p1]) (n := 5) (Nat.le_of_ble_eq_true rfl)
  rw [lg_entry_eq]
  generalize (lg_sl ([.ref h_wr, .int p1]) ++ List.replicate (5 - (lg_sl ([.ref h_wr, .int p1])).length) Slot.unset).toArray = ls at hl ⊢
  have hl : lv_has ls 5 [(0, .ref h_wr), (1, .int p1)] := hl
  refine lv_iload_n hx hb dX9_putPart_0 rfl (lv_at hl 1 rfl) ?_
  refine lv_sipush (v := 300) hx hb dX9_putPart_1 (by decide) ?_
  refine lv_irem hx hb dX9_putPart_4 (by decide) ?_
  refine lv_topi (fun z1 ez1 => ?_)
  have tz1 : (z1).toInt = (p1).toInt % 300 := by rw [ez1]; exact i_rem rfl (by decide) (by omega)
  refine lv_istore_n (lv' := [(2, .int z1), (0, .ref h_wr), (1, .int p1)]) hx hb dX9_putPart_5 rfl hl (by decide) rfl (fun ls hl => ?_)
  refine lv_aload_n hx hb dX9_putPart_6 rfl (lv_at hl 1 rfl) ?_
  refine va_get (D := (dC, dI)) (ci := 6) (v := .ref h_td) (C := RX9) (T := TX9) (N := 8) hx hb hw iwX9 hown hK hP 0 rfl rfl 0 (by decide) (hw _ w_f_X9_21) (fun _ h9 => h9) rfl dX9_putPart_7 ?_
  refine va_getN (D := (dC, dI)) (ci := 5) (v := .ref h_var) (C := RX8) (T := TX8) (N := 10) (host := "OppositePairs") hx hb hw iwX8 hown hK hP 3 rfl rfl 1 (by decide) (hN.use n_f_X9_59 rfl) (fun _ h9 => h9) rfl dX9_putPart_10 ?_
  refine lv_iload_n hx hb dX9_putPart_13 rfl (lv_at hl 0 rfl) ?_
  refine va_iald hx hb hK hP 5 3 rfl rfl (i := z1) (vp_in_iff.mpr (by omega)) dX9_putPart_14 ?_
  refine lv_topi (fun z2 ez2 => ?_)
  have rz2 : -1 ≤ (z2).toInt ∧ (z2).toInt ≤ 7 := by rw [ez2]; exact hf_var _
  refine lv_iconst (v := (-1)) hx hb dX9_putPart_15 (by decide) ?_
  refine lv_icmp_eq (tgt := 43) hx hb dX9_putPart_16 (by decide) (fun c3 => ?_) (fun c3 => ?_)
  · have kc3 := (cv_eq (rfl : (z2).toInt = (z2).toInt) (by decide : ((-1) : Int32).toInt = -1)).mp c3
    refine lv_aload_n hx hb dX9_putPart_43 rfl (lv_at hl 1 rfl) ?_
    refine lv_aload_n hx hb dX9_putPart_44 rfl (lv_at hl 1 rfl) ?_
    refine va_get (D := (dC, dI)) (ci := 6) (v := .ref h_td) (C := RX9) (T := TX9) (N := 8) hx hb hw iwX9 hown hK hP 0 rfl rfl 0 (by decide) (hw _ w_f_X9_21) (fun _ h9 => h9) rfl dX9_putPart_45 ?_
    refine va_getN (D := (dC, dI)) (ci := 5) (v := .ref h_nam) (C := RX8) (T := TX8) (N := 10) (host := "OppositePairs") hx hb hw iwX8 hown hK hP 3 rfl rfl 0 (by decide) (hN.use n_f_X9_64 rfl) (fun _ h9 => h9) rfl dX9_putPart_48 ?_
    refine lv_iload_n hx hb dX9_putPart_51 rfl (lv_at hl 0 rfl) ?_
    refine va_lald hx hb hK hP 4 2 rfl rfl (i := z1) (vp_in_iff.mpr (by omega)) dX9_putPart_52 ?_
    refine lv_topl (fun z4 ez4 => ?_)
    have hPc := hP.sub (ws' := [(h_wr, .inr (6, [.ref h_td, (v_wr 1), (v_wr 2), (v_wr 3), .ref h_wd, .int x_wr_drafted, .ref h_wh, .int x_wr_held])), (h_wd, .inl (cy_wd, 616, .inl f_wd))]) [0, 1] rfl
    have hDc := hD.sub (ws' := [(h_wr, .inr (6, [.ref h_td, (v_wr 1), (v_wr 2), (v_wr 3), .ref h_wd, .int x_wr_drafted, .ref h_wh, .int x_wr_held])), (h_wd, .inl (cy_wd, 616, .inl f_wd))]) [0, 1] (by decide) rfl
    have hKc := hK.sub (tys' := [(cy_wd, .int)]) [0] rfl
    have hFc := va_free (wc := [(h_wr, .inr (6, [.ref h_td, (v_wr 1), (v_wr 2), (v_wr 3), .ref h_wd, .int x_wr_drafted, .ref h_wh, .int x_wr_held])), (h_wd, .inl (cy_wd, 616, .inl f_wd))]) hD hS hA [0, 1] rfl
    refine va_callv (va_runV (As := [.long z4]) (rest := []) ⟨hx, hb, hml, hown, hts⟩ (c_X9_putName l dC dI s.heap.size h_wr h_wd (fun k => List.getD [.ref h_td, (v_wr 1), (v_wr 2), (v_wr 3), .ref h_wd, .int x_wr_drafted, .ref h_wh, .int x_wr_held] k .null) x_wr_drafted cy_wd f_wd z4 (by omega)) (cwV 1 hts (gv hT w_m_X9_71 w_instanceMethod_X9_putName ws_sel_X9_putName w_ini_X9 w_code_X9_putName) rfl rfl rfl (by decide +kernel) ⟨(Nat.le_of_ble_eq_true rfl), (Nat.le_of_ble_eq_true rfl)⟩) ⟨pre_blind, va_recv hK hP (ci := 6) (q0 := 0) rfl rfl, pre_of hPc hKc hDc hN⟩ rfl rfl hl.1 rfl (lv_room (Nat.le_of_ble_eq_true rfl)) dX9_putPart_53 ⟨(Nat.le_of_ble_eq_true rfl), (Nat.le_of_ble_eq_true rfl)⟩) hS (fun q _ h => hFc q h) hFc (fun u t H locs ht hvm hq hB hz1 hk1 hS => ?_)
    obtain ⟨z6, f7⟩ := u
    obtain ⟨hP1, hD1⟩ := hB
    rw [ht] at hP1
    obtain ⟨hP, hD⟩ := va_join (wr := [(h_wh, .inl (cy_wh, 2048, .inl f_wh)), (h_td, .inr (5, [.ref h_nam, .ref h_var, .ref h_trm, .ref h_ter, (v_td 4), (v_td 5), (v_td 6), (v_td 7), (v_td 8), (v_td 9)])), (h_nam, .inl (cy_nam, 300, .inr (.inl f_nam))), (h_var, .inl (cy_var, 300, .inl f_var)), (h_trm, .inl (cy_trm, 300, .inl f_trm)), (h_ter, .inl (cy_ter, 900, .inl f_ter))]) (w1 := [(h_wr, .inr (6, [.ref h_td, (v_wr 1), (v_wr 2), (v_wr 3), .ref h_wd, .int z6, .ref h_wh, .int x_wr_held])), (h_wd, .inl (cy_wd, 616, .inl f7))]) hP hD [0, 1] [2, 3, 4, 5, 6, 7] rfl rfl (by decide) (by decide) hk1 hFc hP1 hD1
    have hP : va_P (dC, dI) cls [(h_wh, .inl (cy_wh, 2048, .inl f_wh)), (h_td, .inr (5, [.ref h_nam, .ref h_var, .ref h_trm, .ref h_ter, (v_td 4), (v_td 5), (v_td 6), (v_td 7), (v_td 8), (v_td 9)])), (h_nam, .inl (cy_nam, 300, .inr (.inl f_nam))), (h_var, .inl (cy_var, 300, .inl f_var)), (h_trm, .inl (cy_trm, 300, .inl f_trm)), (h_ter, .inl (cy_ter, 900, .inl f_ter)), (h_wr, .inr (6, [.ref h_td, (v_wr 1), (v_wr 2), (v_wr 3), .ref h_wd, .int z6, .ref h_wh, .int x_wr_held])), (h_wd, .inl (cy_wd, 616, .inl f7))] H := hP
    have hD : va_D A [(h_wh, .inl (cy_wh, 2048, .inl f_wh)), (h_td, .inr (5, [.ref h_nam, .ref h_var, .ref h_trm, .ref h_ter, (v_td 4), (v_td 5), (v_td 6), (v_td 7), (v_td 8), (v_td 9)])), (h_nam, .inl (cy_nam, 300, .inr (.inl f_nam))), (h_var, .inl (cy_var, 300, .inl f_var)), (h_trm, .inl (cy_trm, 300, .inl f_trm)), (h_ter, .inl (cy_ter, 900, .inl f_ter)), (h_wr, .inr (6, [.ref h_td, (v_wr 1), (v_wr 2), (v_wr 3), .ref h_wd, .int z6, .ref h_wh, .int x_wr_held])), (h_wd, .inl (cy_wd, 616, .inl f7))] := hD
    have k8 : 0 ≤ ((z6)).toInt ∧ ((z6)).toInt ≤ 616 := hq
    refine lv_aload_n hx hb dX9_putPart_56 rfl (lv_at hl 1 rfl) ?_
    refine va_get (D := (dC, dI)) (ci := 6) (v := .ref h_td) (C := RX9) (T := TX9) (N := 8) hx hb hw iwX9 hown hK hP 6 rfl rfl 0 (by decide) (hw _ w_f_X9_21) (fun _ h9 => h9) rfl dX9_putPart_57 ?_
    refine va_getN (D := (dC, dI)) (ci := 5) (v := .ref h_trm) (C := RX8) (T := TX8) (N := 10) (host := "OppositePairs") hx hb hw iwX8 hown hK hP 1 rfl rfl 2 (by decide) (hN.use n_f_X9_75 rfl) (fun _ h9 => h9) rfl dX9_putPart_60 ?_
    refine lv_iload_n hx hb dX9_putPart_63 rfl (lv_at hl 0 rfl) ?_
    refine va_iald hx hb hK hP 4 4 rfl rfl (i := z1) (vp_in_iff.mpr (by omega)) dX9_putPart_64 ?_
    refine lv_topi (fun z9 ez9 => ?_)
    have rz9 : 0 ≤ (z9).toInt ∧ (z9).toInt ≤ 3 := by rw [ez9]; exact hf_trm _
    refine lv_istore_n (lv' := [(3, .int z9), (2, .int z1), (0, .ref h_wr), (1, .int p1)]) hx hb dX9_putPart_65 rfl hl (by decide) rfl (fun ls hl => ?_)
    refine lv_iload_n hx hb dX9_putPart_66 rfl (lv_at hl 0 rfl) ?_
    refine lv_if_le (tgt := 82) hx hb dX9_putPart_67 (by decide) (fun c10 => ?_) (fun c10 => ?_)
    · have kc10 := (cv_le (rfl : (z9).toInt = (z9).toInt) (by decide : (0 : Int32).toInt = 0)).mp c10
      refine lv_iload_n hx hb dX9_putPart_82 rfl (lv_at hl 0 rfl) ?_
      refine lv_iconst (v := 1) hx hb dX9_putPart_83 (by decide) ?_
      refine lv_isub hx hb dX9_putPart_84 ?_
      refine lv_topi (fun z11 ez11 => ?_)
      have tz11 : (z11).toInt = (z9).toInt - 1 := by rw [ez11]; exact i_sub rfl (by decide) (by omega)
      refine lv_istore (lv' := [(4, .int z11), (3, .int z9), (2, .int z1), (0, .ref h_wr), (1, .int p1)]) hx hb dX9_putPart_85 hl (by decide) rfl (fun ls hl => ?_)
      have lp15 : ∀ (n : Nat) (x12 : Int32) (f13 : Nat → Int32) (x14 : Int32) (H : Heap) (locs : List Loc) (ls : Array Slot), (-1 ≤ (x12).toInt ∧ (x12).toInt ≤ 2) → (Rg (-127) 9599 f13) → (0 ≤ (x14).toInt ∧ (x14).toInt ≤ 2048) → ((x12).toInt + 1).toNat + 1 ≤ n → va_P (dC, dI) cls [(h_wh, .inl (cy_wh, 2048, .inl f13)), (h_td, .inr (5, [.ref h_nam, .ref h_var, .ref h_trm, .ref h_ter, (v_td 4), (v_td 5), (v_td 6), (v_td 7), (v_td 8), (v_td 9)])), (h_nam, .inl (cy_nam, 300, .inr (.inl f_nam))), (h_var, .inl (cy_var, 300, .inl f_var)), (h_trm, .inl (cy_trm, 300, .inl f_trm)), (h_ter, .inl (cy_ter, 900, .inl f_ter)), (h_wr, .inr (6, [.ref h_td, (v_wr 1), (v_wr 2), (v_wr 3), .ref h_wd, .int z6, .ref h_wh, .int x14])), (h_wd, .inl (cy_wd, 616, .inl f7))] H → va_D A [(h_wh, .inl (cy_wh, 2048, .inl f13)), (h_td, .inr (5, [.ref h_nam, .ref h_var, .ref h_trm, .ref h_ter, (v_td 4), (v_td 5), (v_td 6), (v_td 7), (v_td 8), (v_td 9)])), (h_nam, .inl (cy_nam, 300, .inr (.inl f_nam))), (h_var, .inl (cy_var, 300, .inl f_var)), (h_trm, .inl (cy_trm, 300, .inl f_trm)), (h_ter, .inl (cy_ter, 900, .inl f_ter)), (h_wr, .inr (6, [.ref h_td, (v_wr 1), (v_wr 2), (v_wr 3), .ref h_wd, .int z6, .ref h_wh, .int x14])), (h_wd, .inl (cy_wd, 616, .inl f7))] → va_S A s.heap H locs → lv_has ls 5 [(0, .ref h_wr), (1, .int p1), (2, .int z1), (3, .int z9), (4, .int x12)] → W p l e ({ frames := 2, cells := 0, slots := 0, locals := 45 } : Room) s m ([.ref h_wr, .int p1] : List Value).toArray below meth c H locs 0 0 (MQ below (va_Qv (fun (u : (Int32) × (Int32) × (Nat → Int32) × (Nat → Int32)) => (0 ≤ (u.1).toInt ∧ (u.1).toInt ≤ 616) ∧ (0 ≤ (u.2.1).toInt ∧ (u.2.1).toInt ≤ 2048) ∧ (Rg (-127) 9599 u.2.2.2)) (fun (u : (Int32) × (Int32) × (Nat → Int32) × (Nat → Int32)) (t : State) => va_P (dC, dI) cls [(h_wr, .inr (6, [.ref h_td, (v_wr 1), (v_wr 2), (v_wr 3), .ref h_wd, .int u.1, .ref h_wh, .int u.2.1])), (h_wd, .inl (cy_wd, 616, .inl u.2.2.1)), (h_wh, .inl (cy_wh, 2048, .inl u.2.2.2)), (h_td, .inr (5, [.ref h_nam, .ref h_var, .ref h_trm, .ref h_ter, (v_td 4), (v_td 5), (v_td 6), (v_td 7), (v_td 8), (v_td 9)])), (h_nam, .inl (cy_nam, 300, .inr (.inl f_nam))), (h_var, .inl (cy_var, 300, .inl f_var)), (h_trm, .inl (cy_trm, 300, .inl f_trm)), (h_ter, .inl (cy_ter, 900, .inl f_ter))] t.heap ∧ va_D A [(h_wr, .inr (6, [.ref h_td, (v_wr 1), (v_wr 2), (v_wr 3), .ref h_wd, .int u.1, .ref h_wh, .int u.2.1])), (h_wd, .inl (cy_wd, 616, .inl u.2.2.1)), (h_wh, .inl (cy_wh, 2048, .inl u.2.2.2)), (h_td, .inr (5, [.ref h_nam, .ref h_var, .ref h_trm, .ref h_ter, (v_td 4), (v_td 5), (v_td 6), (v_td 7), (v_td 8), (v_td 9)])), (h_nam, .inl (cy_nam, 300, .inr (.inl f_nam))), (h_var, .inl (cy_var, 300, .inl f_var)), (h_trm, .inl (cy_trm, 300, .inl f_trm)), (h_ter, .inl (cy_ter, 900, .inl f_ter))]) A) ([.ref h_wr, .int p1] : List Value).toArray s 0 0 A) (F0 m 87 ls []) := by
        intro n
        induction n with
        | zero => intro x12 f13 x14 H locs ls klp15_0 hf13 klp15_2 hm hP hD hS hl; exact False.elim (by omega)
        | succ n ih => 
          intro x12 f13 x14 H locs ls klp15_0 hf13 klp15_2 hm hP hD hS hl
          have ih16 := ih
          clear ih
          refine lv_iload hx hb dX9_putPart_87 (lv_at hl 4 rfl) ?_
          refine lv_if_lt (tgt := 131) hx hb dX9_putPart_89 (by decide) (fun c17 => ?_) (fun c17 => ?_)
          · have kc17 := (cv_lt (rfl : (x12).toInt = (x12).toInt) (by decide : (0 : Int32).toInt = 0)).mp c17
            have hP : va_P (dC, dI) cls [(h_wr, .inr (6, [.ref h_td, (v_wr 1), (v_wr 2), (v_wr 3), .ref h_wd, .int z6, .ref h_wh, .int x14])), (h_wd, .inl (cy_wd, 616, .inl f7)), (h_wh, .inl (cy_wh, 2048, .inl f13)), (h_td, .inr (5, [.ref h_nam, .ref h_var, .ref h_trm, .ref h_ter, (v_td 4), (v_td 5), (v_td 6), (v_td 7), (v_td 8), (v_td 9)])), (h_nam, .inl (cy_nam, 300, .inr (.inl f_nam))), (h_var, .inl (cy_var, 300, .inl f_var)), (h_trm, .inl (cy_trm, 300, .inl f_trm)), (h_ter, .inl (cy_ter, 900, .inl f_ter))] H := hP.sub [6, 7, 0, 1, 2, 3, 4, 5] rfl
            have hD : va_D A [(h_wr, .inr (6, [.ref h_td, (v_wr 1), (v_wr 2), (v_wr 3), .ref h_wd, .int z6, .ref h_wh, .int x14])), (h_wd, .inl (cy_wd, 616, .inl f7)), (h_wh, .inl (cy_wh, 2048, .inl f13)), (h_td, .inr (5, [.ref h_nam, .ref h_var, .ref h_trm, .ref h_ter, (v_td 4), (v_td 5), (v_td 6), (v_td 7), (v_td 8), (v_td 9)])), (h_nam, .inl (cy_nam, 300, .inr (.inl f_nam))), (h_var, .inl (cy_var, 300, .inl f_var)), (h_trm, .inl (cy_trm, 300, .inl f_trm)), (h_ter, .inl (cy_ter, 900, .inl f_ter))] := hD.sub [6, 7, 0, 1, 2, 3, 4, 5] (by decide) rfl
            refine W.widen (k := 0) (n := 0) (Nat.le_of_ble_eq_true rfl) (Nat.le_of_ble_eq_true rfl) ?_
            have w18 : 0 ≤ ((z6)).toInt ∧ ((z6)).toInt ≤ 616 := by omega
            have w19 : 0 ≤ ((x14)).toInt ∧ ((x14)).toInt ≤ 2048 := by omega
            exact W.vret hx hb hr (fun t ht hW => ⟨⟨(z6, x14, f7, f13), rfl, ⟨w18, w19, hf13⟩, by rw [ht]; exact hP, hD⟩, hS.F ht⟩) hS.2.2 dX9_putPart_131
          · have kc17 := (not_congr (cv_lt (rfl : (x12).toInt = (x12).toInt) (by decide : (0 : Int32).toInt = 0))).mp c17
            refine lv_aload_n hx hb dX9_putPart_92 rfl (lv_at hl 0 rfl) ?_
            refine lv_iload_n hx hb dX9_putPart_93 rfl (lv_at hl 1 rfl) ?_
            refine lv_iload_n hx hb dX9_putPart_94 rfl (lv_at hl 2 rfl) ?_
            refine lv_isub hx hb dX9_putPart_95 ?_
            refine lv_topi (fun z20 ez20 => ?_)
            have tz20 : (z20).toInt = (p1).toInt - (z1).toInt := by rw [ez20]; exact i_sub rfl rfl (by omega)
            have sz20 : 0 ≤ (z20).toInt ∧ (z20).toInt ≤ 9300 := by omega
            refine lv_aload_n hx hb dX9_putPart_96 rfl (lv_at hl 0 rfl) ?_
            refine va_get (D := (dC, dI)) (ci := 6) (v := .ref h_td) (C := RX9) (T := TX9) (N := 8) hx hb hw iwX9 hown hK hP 6 rfl rfl 0 (by decide) (hw _ w_f_X9_21) (fun _ h9 => h9) rfl dX9_putPart_97 ?_
            refine va_getN (D := (dC, dI)) (ci := 5) (v := .ref h_ter) (C := RX8) (T := TX8) (N := 10) (host := "OppositePairs") hx hb hw iwX8 hown hK hP 1 rfl rfl 3 (by decide) (hN.use n_f_X9_81 rfl) (fun _ h9 => h9) rfl dX9_putPart_100 ?_
            refine lv_iload_n hx hb dX9_putPart_103 rfl (lv_at hl 2 rfl) ?_
            refine lv_iconst (v := 3) hx hb dX9_putPart_104 (by decide) ?_
            refine lv_imul hx hb dX9_putPart_105 ?_
            refine lv_topi (fun z21 ez21 => ?_)
            have tz21 : (z21).toInt = (z1).toInt * 3 := by rw [ez21]; exact i_mul rfl (by decide) (by omega)
            refine lv_iload hx hb dX9_putPart_106 (lv_at hl 4 rfl) ?_
            refine lv_iadd hx hb dX9_putPart_108 ?_
            refine lv_topi (fun z22 ez22 => ?_)
            have tz22 : (z22).toInt = (z21).toInt + (x12).toInt := by rw [ez22]; exact i_add rfl rfl (by omega)
            refine va_iald hx hb hK hP 5 5 rfl rfl (i := z22) (vp_in_iff.mpr (by omega)) dX9_putPart_109 ?_
            refine lv_topi (fun z23 ez23 => ?_)
            have rz23 : 0 ≤ (z23).toInt ∧ (z23).toInt ≤ 299 := by rw [ez23]; exact hf_ter _
            refine lv_iadd hx hb dX9_putPart_110 ?_
            refine lv_topi (fun z24 ez24 => ?_)
            have tz24 : (z24).toInt = (z20).toInt + (z23).toInt := by rw [ez24]; exact i_add rfl rfl (by omega)
            have hPc := hP.sub (ws' := [(h_wr, .inr (6, [.ref h_td, (v_wr 1), (v_wr 2), (v_wr 3), .ref h_wd, .int z6, .ref h_wh, .int x14])), (h_wh, .inl (cy_wh, 2048, .inl f13))]) [6, 0] rfl
            have hDc := hD.sub (ws' := [(h_wr, .inr (6, [.ref h_td, (v_wr 1), (v_wr 2), (v_wr 3), .ref h_wd, .int z6, .ref h_wh, .int x14])), (h_wh, .inl (cy_wh, 2048, .inl f13))]) [6, 0] (by decide) rfl
            have hKc := hK.sub (tys' := [(cy_wh, .int)]) [1] rfl
            have hFc := va_free (wc := [(h_wr, .inr (6, [.ref h_td, (v_wr 1), (v_wr 2), (v_wr 3), .ref h_wd, .int z6, .ref h_wh, .int x14])), (h_wh, .inl (cy_wh, 2048, .inl f13))]) hD hS hA [6, 0] rfl
            refine va_callv (va_runV (As := [.int z24]) (rest := []) ⟨hx, hb, hml, hown, hts⟩ (c_X9_push l dC dI H.size h_wr h_wh (fun k => List.getD [.ref h_td, (v_wr 1), (v_wr 2), (v_wr 3), .ref h_wd, .int z6, .ref h_wh, .int x14] k .null) x14 cy_wh f13 z24 (by omega) hf13 (by omega)) (cwV 1 hts (gv hT w_m_X9_78 w_instanceMethod_X9_push ws_sel_X9_push w_ini_X9 w_code_X9_push) rfl rfl rfl (by decide +kernel) ⟨(Nat.le_of_ble_eq_true rfl), (Nat.le_of_ble_eq_true rfl)⟩) ⟨pre_blind, va_recv hK hP (ci := 6) (q0 := 6) rfl rfl, pre_of hPc hKc hDc hN⟩ rfl rfl hl.1 rfl (lv_room (Nat.le_of_ble_eq_true rfl)) dX9_putPart_111 ⟨(Nat.le_of_ble_eq_true rfl), (Nat.le_of_ble_eq_true rfl)⟩) hS (fun q _ h => hFc q h) hFc (fun u t H locs ht hvm hq hB hz1 hk1 hS => ?_)
            obtain ⟨z26, f27⟩ := u
            obtain ⟨hP1, hD1⟩ := hB
            rw [ht] at hP1
            obtain ⟨hP, hD⟩ := va_join (wr := [(h_td, .inr (5, [.ref h_nam, .ref h_var, .ref h_trm, .ref h_ter, (v_td 4), (v_td 5), (v_td 6), (v_td 7), (v_td 8), (v_td 9)])), (h_nam, .inl (cy_nam, 300, .inr (.inl f_nam))), (h_var, .inl (cy_var, 300, .inl f_var)), (h_trm, .inl (cy_trm, 300, .inl f_trm)), (h_ter, .inl (cy_ter, 900, .inl f_ter)), (h_wd, .inl (cy_wd, 616, .inl f7))]) (w1 := [(h_wr, .inr (6, [.ref h_td, (v_wr 1), (v_wr 2), (v_wr 3), .ref h_wd, .int z6, .ref h_wh, .int z26])), (h_wh, .inl (cy_wh, 2048, .inl f27))]) hP hD [6, 0] [1, 2, 3, 4, 5, 7] rfl rfl (by decide) (by decide) hk1 hFc hP1 hD1
            have hP : va_P (dC, dI) cls [(h_td, .inr (5, [.ref h_nam, .ref h_var, .ref h_trm, .ref h_ter, (v_td 4), (v_td 5), (v_td 6), (v_td 7), (v_td 8), (v_td 9)])), (h_nam, .inl (cy_nam, 300, .inr (.inl f_nam))), (h_var, .inl (cy_var, 300, .inl f_var)), (h_trm, .inl (cy_trm, 300, .inl f_trm)), (h_ter, .inl (cy_ter, 900, .inl f_ter)), (h_wd, .inl (cy_wd, 616, .inl f7)), (h_wr, .inr (6, [.ref h_td, (v_wr 1), (v_wr 2), (v_wr 3), .ref h_wd, .int z6, .ref h_wh, .int z26])), (h_wh, .inl (cy_wh, 2048, .inl f27))] H := hP
            have hD : va_D A [(h_td, .inr (5, [.ref h_nam, .ref h_var, .ref h_trm, .ref h_ter, (v_td 4), (v_td 5), (v_td 6), (v_td 7), (v_td 8), (v_td 9)])), (h_nam, .inl (cy_nam, 300, .inr (.inl f_nam))), (h_var, .inl (cy_var, 300, .inl f_var)), (h_trm, .inl (cy_trm, 300, .inl f_trm)), (h_ter, .inl (cy_ter, 900, .inl f_ter)), (h_wd, .inl (cy_wd, 616, .inl f7)), (h_wr, .inr (6, [.ref h_td, (v_wr 1), (v_wr 2), (v_wr 3), .ref h_wd, .int z6, .ref h_wh, .int z26])), (h_wh, .inl (cy_wh, 2048, .inl f27))] := hD
            obtain ⟨k28, hf27⟩ := hq
            have k28 : 0 ≤ ((z26)).toInt ∧ ((z26)).toInt ≤ 2048 := k28
            have hf27 : Rg (-127) 9599 (f27) := hf27
            refine lv_iload hx hb dX9_putPart_114 (lv_at hl 4 rfl) ?_
            refine lv_if_le (tgt := 125) hx hb dX9_putPart_116 (by decide) (fun c29 => ?_) (fun c29 => ?_)
            · have kc29 := (cv_le (rfl : (x12).toInt = (x12).toInt) (by decide : (0 : Int32).toInt = 0)).mp c29
              obtain ⟨z30, ez30⟩ : ∃ y : Int32, y = x12 + (-1) := ⟨_, rfl⟩
              have tz30 : (z30).toInt = (x12).toInt + -1 := by rw [ez30]; exact i_add rfl (by decide) (by omega)
              refine lv_iinc (v := z30) (lv' := [(4, .int z30), (0, .ref h_wr), (1, .int p1), (2, .int z1), (3, .int z9)]) hx hb dX9_putPart_125 hl (k := 4) rfl (by rw [ez30]; rfl) (by decide) rfl (fun ls hl => ?_)
              refine lv_goto (tgt := 87) hx hb dX9_putPart_128 (by decide) ?_
              have hP : va_P (dC, dI) cls [(h_wh, .inl (cy_wh, 2048, .inl f27)), (h_td, .inr (5, [.ref h_nam, .ref h_var, .ref h_trm, .ref h_ter, (v_td 4), (v_td 5), (v_td 6), (v_td 7), (v_td 8), (v_td 9)])), (h_nam, .inl (cy_nam, 300, .inr (.inl f_nam))), (h_var, .inl (cy_var, 300, .inl f_var)), (h_trm, .inl (cy_trm, 300, .inl f_trm)), (h_ter, .inl (cy_ter, 900, .inl f_ter)), (h_wr, .inr (6, [.ref h_td, (v_wr 1), (v_wr 2), (v_wr 3), .ref h_wd, .int z6, .ref h_wh, .int z26])), (h_wd, .inl (cy_wd, 616, .inl f7))] H := hP.sub [7, 0, 1, 2, 3, 4, 6, 5] rfl
              have hD : va_D A [(h_wh, .inl (cy_wh, 2048, .inl f27)), (h_td, .inr (5, [.ref h_nam, .ref h_var, .ref h_trm, .ref h_ter, (v_td 4), (v_td 5), (v_td 6), (v_td 7), (v_td 8), (v_td 9)])), (h_nam, .inl (cy_nam, 300, .inr (.inl f_nam))), (h_var, .inl (cy_var, 300, .inl f_var)), (h_trm, .inl (cy_trm, 300, .inl f_trm)), (h_ter, .inl (cy_ter, 900, .inl f_ter)), (h_wr, .inr (6, [.ref h_td, (v_wr 1), (v_wr 2), (v_wr 3), .ref h_wd, .int z6, .ref h_wh, .int z26])), (h_wd, .inl (cy_wd, 616, .inl f7))] := hD.sub [7, 0, 1, 2, 3, 4, 6, 5] (by decide) rfl
              exact ih16 (z30) (f27) (z26) _ _ _ (by omega) hf27 (by omega) (by omega) hP hD hS (lv_sub hl [1, 2, 3, 4, 0] rfl)
            · have kc29 := (not_congr (cv_le (rfl : (x12).toInt = (x12).toInt) (by decide : (0 : Int32).toInt = 0))).mp c29
              refine lv_aload_n hx hb dX9_putPart_119 rfl (lv_at hl 0 rfl) ?_
              refine lv_bipush (v := (-44)) hx hb dX9_putPart_120 (by decide) ?_
              have cstm44 : ((-44) : Int32).toInt = -44 := by decide
              have hPc := hP.sub (ws' := [(h_wr, .inr (6, [.ref h_td, (v_wr 1), (v_wr 2), (v_wr 3), .ref h_wd, .int z6, .ref h_wh, .int z26])), (h_wh, .inl (cy_wh, 2048, .inl f27))]) [6, 7] rfl
              have hDc := hD.sub (ws' := [(h_wr, .inr (6, [.ref h_td, (v_wr 1), (v_wr 2), (v_wr 3), .ref h_wd, .int z6, .ref h_wh, .int z26])), (h_wh, .inl (cy_wh, 2048, .inl f27))]) [6, 7] (by decide) rfl
              have hKc := hK.sub (tys' := [(cy_wh, .int)]) [1] rfl
              have hFc := va_free (wc := [(h_wr, .inr (6, [.ref h_td, (v_wr 1), (v_wr 2), (v_wr 3), .ref h_wd, .int z6, .ref h_wh, .int z26])), (h_wh, .inl (cy_wh, 2048, .inl f27))]) hD hS hA [6, 7] rfl
              refine va_callv (va_runV (As := [.int (-44)]) (rest := []) ⟨hx, hb, hml, hown, hts⟩ (c_X9_push l dC dI H.size h_wr h_wh (fun k => List.getD [.ref h_td, (v_wr 1), (v_wr 2), (v_wr 3), .ref h_wd, .int z6, .ref h_wh, .int z26] k .null) z26 cy_wh f27 (-44) (by omega) hf27 (by omega)) (cwV 1 hts (gv hT w_m_X9_78 w_instanceMethod_X9_push ws_sel_X9_push w_ini_X9 w_code_X9_push) rfl rfl rfl (by decide +kernel) ⟨(Nat.le_of_ble_eq_true rfl), (Nat.le_of_ble_eq_true rfl)⟩) ⟨pre_blind, va_recv hK hP (ci := 6) (q0 := 6) rfl rfl, pre_of hPc hKc hDc hN⟩ rfl rfl hl.1 rfl (lv_room (Nat.le_of_ble_eq_true rfl)) dX9_putPart_122 ⟨(Nat.le_of_ble_eq_true rfl), (Nat.le_of_ble_eq_true rfl)⟩) hS (fun q _ h => hFc q h) hFc (fun u t H locs ht hvm hq hB hz1 hk1 hS => ?_)
              obtain ⟨z32, f33⟩ := u
              obtain ⟨hP1, hD1⟩ := hB
              rw [ht] at hP1
              obtain ⟨hP, hD⟩ := va_join (wr := [(h_td, .inr (5, [.ref h_nam, .ref h_var, .ref h_trm, .ref h_ter, (v_td 4), (v_td 5), (v_td 6), (v_td 7), (v_td 8), (v_td 9)])), (h_nam, .inl (cy_nam, 300, .inr (.inl f_nam))), (h_var, .inl (cy_var, 300, .inl f_var)), (h_trm, .inl (cy_trm, 300, .inl f_trm)), (h_ter, .inl (cy_ter, 900, .inl f_ter)), (h_wd, .inl (cy_wd, 616, .inl f7))]) (w1 := [(h_wr, .inr (6, [.ref h_td, (v_wr 1), (v_wr 2), (v_wr 3), .ref h_wd, .int z6, .ref h_wh, .int z32])), (h_wh, .inl (cy_wh, 2048, .inl f33))]) hP hD [6, 7] [0, 1, 2, 3, 4, 5] rfl rfl (by decide) (by decide) hk1 hFc hP1 hD1
              have hP : va_P (dC, dI) cls [(h_td, .inr (5, [.ref h_nam, .ref h_var, .ref h_trm, .ref h_ter, (v_td 4), (v_td 5), (v_td 6), (v_td 7), (v_td 8), (v_td 9)])), (h_nam, .inl (cy_nam, 300, .inr (.inl f_nam))), (h_var, .inl (cy_var, 300, .inl f_var)), (h_trm, .inl (cy_trm, 300, .inl f_trm)), (h_ter, .inl (cy_ter, 900, .inl f_ter)), (h_wd, .inl (cy_wd, 616, .inl f7)), (h_wr, .inr (6, [.ref h_td, (v_wr 1), (v_wr 2), (v_wr 3), .ref h_wd, .int z6, .ref h_wh, .int z32])), (h_wh, .inl (cy_wh, 2048, .inl f33))] H := hP
              have hD : va_D A [(h_td, .inr (5, [.ref h_nam, .ref h_var, .ref h_trm, .ref h_ter, (v_td 4), (v_td 5), (v_td 6), (v_td 7), (v_td 8), (v_td 9)])), (h_nam, .inl (cy_nam, 300, .inr (.inl f_nam))), (h_var, .inl (cy_var, 300, .inl f_var)), (h_trm, .inl (cy_trm, 300, .inl f_trm)), (h_ter, .inl (cy_ter, 900, .inl f_ter)), (h_wd, .inl (cy_wd, 616, .inl f7)), (h_wr, .inr (6, [.ref h_td, (v_wr 1), (v_wr 2), (v_wr 3), .ref h_wd, .int z6, .ref h_wh, .int z32])), (h_wh, .inl (cy_wh, 2048, .inl f33))] := hD
              obtain ⟨k34, hf33⟩ := hq
              have k34 : 0 ≤ ((z32)).toInt ∧ ((z32)).toInt ≤ 2048 := k34
              have hf33 : Rg (-127) 9599 (f33) := hf33
              obtain ⟨z35, ez35⟩ : ∃ y : Int32, y = x12 + (-1) := ⟨_, rfl⟩
              have tz35 : (z35).toInt = (x12).toInt + -1 := by rw [ez35]; exact i_add rfl (by decide) (by omega)
              refine lv_iinc (v := z35) (lv' := [(4, .int z35), (0, .ref h_wr), (1, .int p1), (2, .int z1), (3, .int z9)]) hx hb dX9_putPart_125 hl (k := 4) rfl (by rw [ez35]; rfl) (by decide) rfl (fun ls hl => ?_)
              refine lv_goto (tgt := 87) hx hb dX9_putPart_128 (by decide) ?_
              have hP : va_P (dC, dI) cls [(h_wh, .inl (cy_wh, 2048, .inl f33)), (h_td, .inr (5, [.ref h_nam, .ref h_var, .ref h_trm, .ref h_ter, (v_td 4), (v_td 5), (v_td 6), (v_td 7), (v_td 8), (v_td 9)])), (h_nam, .inl (cy_nam, 300, .inr (.inl f_nam))), (h_var, .inl (cy_var, 300, .inl f_var)), (h_trm, .inl (cy_trm, 300, .inl f_trm)), (h_ter, .inl (cy_ter, 900, .inl f_ter)), (h_wr, .inr (6, [.ref h_td, (v_wr 1), (v_wr 2), (v_wr 3), .ref h_wd, .int z6, .ref h_wh, .int z32])), (h_wd, .inl (cy_wd, 616, .inl f7))] H := hP.sub [7, 0, 1, 2, 3, 4, 6, 5] rfl
              have hD : va_D A [(h_wh, .inl (cy_wh, 2048, .inl f33)), (h_td, .inr (5, [.ref h_nam, .ref h_var, .ref h_trm, .ref h_ter, (v_td 4), (v_td 5), (v_td 6), (v_td 7), (v_td 8), (v_td 9)])), (h_nam, .inl (cy_nam, 300, .inr (.inl f_nam))), (h_var, .inl (cy_var, 300, .inl f_var)), (h_trm, .inl (cy_trm, 300, .inl f_trm)), (h_ter, .inl (cy_ter, 900, .inl f_ter)), (h_wr, .inr (6, [.ref h_td, (v_wr 1), (v_wr 2), (v_wr 3), .ref h_wd, .int z6, .ref h_wh, .int z32])), (h_wd, .inl (cy_wd, 616, .inl f7))] := hD.sub [7, 0, 1, 2, 3, 4, 6, 5] (by decide) rfl
              exact ih16 (z35) (f33) (z32) _ _ _ (by omega) hf33 (by omega) (by omega) hP hD hS (lv_sub hl [1, 2, 3, 4, 0] rfl)
      exact lp15 _ (z11) (f_wh) (x_wr_held) _ _ _ (by omega) hf_wh (by omega) (Nat.le_refl _) hP hD hS (lv_sub hl [3, 4, 2, 1, 0] rfl)
    · have kc10 := (not_congr (cv_le (rfl : (z9).toInt = (z9).toInt) (by decide : (0 : Int32).toInt = 0))).mp c10
      refine lv_aload_n hx hb dX9_putPart_70 rfl (lv_at hl 2 rfl) ?_
      refine lv_bipush (v := 40) hx hb dX9_putPart_71 (by decide) ?_
      have cst40 : (40 : Int32).toInt = 40 := by decide
      have hPc := hP.sub (ws' := [(h_wr, .inr (6, [.ref h_td, (v_wr 1), (v_wr 2), (v_wr 3), .ref h_wd, .int z6, .ref h_wh, .int x_wr_held])), (h_wd, .inl (cy_wd, 616, .inl f7))]) [6, 7] rfl
      have hDc := hD.sub (ws' := [(h_wr, .inr (6, [.ref h_td, (v_wr 1), (v_wr 2), (v_wr 3), .ref h_wd, .int z6, .ref h_wh, .int x_wr_held])), (h_wd, .inl (cy_wd, 616, .inl f7))]) [6, 7] (by decide) rfl
      have hKc := hK.sub (tys' := [(cy_wd, .int)]) [0] rfl
      have hFc := va_free (wc := [(h_wr, .inr (6, [.ref h_td, (v_wr 1), (v_wr 2), (v_wr 3), .ref h_wd, .int z6, .ref h_wh, .int x_wr_held])), (h_wd, .inl (cy_wd, 616, .inl f7))]) hD hS hA [6, 7] rfl
      refine va_callv (va_runV (As := [.int 40]) (rest := []) ⟨hx, hb, hml, hown, hts⟩ (c_X9_put l dC dI H.size h_wr h_wd (fun k => List.getD [.ref h_td, (v_wr 1), (v_wr 2), (v_wr 3), .ref h_wd, .int z6, .ref h_wh, .int x_wr_held] k .null) z6 cy_wd f7 40 (by omega)) (cwV 1 hts (gv hT w_m_X9_33 w_instanceMethod_X9_put ws_sel_X9_put w_ini_X9 w_code_X9_put) rfl rfl rfl (by decide +kernel) ⟨(Nat.le_of_ble_eq_true rfl), (Nat.le_of_ble_eq_true rfl)⟩) ⟨pre_blind, va_recv hK hP (ci := 6) (q0 := 6) rfl rfl, pre_of hPc hKc hDc hN⟩ rfl rfl hl.1 rfl (lv_room (Nat.le_of_ble_eq_true rfl)) dX9_putPart_73 ⟨(Nat.le_of_ble_eq_true rfl), (Nat.le_of_ble_eq_true rfl)⟩) hS (fun q _ h => hFc q h) hFc (fun u t H locs ht hvm hq hB hz1 hk1 hS => ?_)
      obtain ⟨z37, f38⟩ := u
      obtain ⟨hP1, hD1⟩ := hB
      rw [ht] at hP1
      obtain ⟨hP, hD⟩ := va_join (wr := [(h_wh, .inl (cy_wh, 2048, .inl f_wh)), (h_td, .inr (5, [.ref h_nam, .ref h_var, .ref h_trm, .ref h_ter, (v_td 4), (v_td 5), (v_td 6), (v_td 7), (v_td 8), (v_td 9)])), (h_nam, .inl (cy_nam, 300, .inr (.inl f_nam))), (h_var, .inl (cy_var, 300, .inl f_var)), (h_trm, .inl (cy_trm, 300, .inl f_trm)), (h_ter, .inl (cy_ter, 900, .inl f_ter))]) (w1 := [(h_wr, .inr (6, [.ref h_td, (v_wr 1), (v_wr 2), (v_wr 3), .ref h_wd, .int z37, .ref h_wh, .int x_wr_held])), (h_wd, .inl (cy_wd, 616, .inl f38))]) hP hD [6, 7] [0, 1, 2, 3, 4, 5] rfl rfl (by decide) (by decide) hk1 hFc hP1 hD1
      have hP : va_P (dC, dI) cls [(h_wh, .inl (cy_wh, 2048, .inl f_wh)), (h_td, .inr (5, [.ref h_nam, .ref h_var, .ref h_trm, .ref h_ter, (v_td 4), (v_td 5), (v_td 6), (v_td 7), (v_td 8), (v_td 9)])), (h_nam, .inl (cy_nam, 300, .inr (.inl f_nam))), (h_var, .inl (cy_var, 300, .inl f_var)), (h_trm, .inl (cy_trm, 300, .inl f_trm)), (h_ter, .inl (cy_ter, 900, .inl f_ter)), (h_wr, .inr (6, [.ref h_td, (v_wr 1), (v_wr 2), (v_wr 3), .ref h_wd, .int z37, .ref h_wh, .int x_wr_held])), (h_wd, .inl (cy_wd, 616, .inl f38))] H := hP
      have hD : va_D A [(h_wh, .inl (cy_wh, 2048, .inl f_wh)), (h_td, .inr (5, [.ref h_nam, .ref h_var, .ref h_trm, .ref h_ter, (v_td 4), (v_td 5), (v_td 6), (v_td 7), (v_td 8), (v_td 9)])), (h_nam, .inl (cy_nam, 300, .inr (.inl f_nam))), (h_var, .inl (cy_var, 300, .inl f_var)), (h_trm, .inl (cy_trm, 300, .inl f_trm)), (h_ter, .inl (cy_ter, 900, .inl f_ter)), (h_wr, .inr (6, [.ref h_td, (v_wr 1), (v_wr 2), (v_wr 3), .ref h_wd, .int z37, .ref h_wh, .int x_wr_held])), (h_wd, .inl (cy_wd, 616, .inl f38))] := hD
      have k39 : 0 ≤ ((z37)).toInt ∧ ((z37)).toInt ≤ 616 := hq
      refine lv_aload_n hx hb dX9_putPart_76 rfl (lv_at hl 2 rfl) ?_
      refine lv_bipush (v := (-41)) hx hb dX9_putPart_77 (by decide) ?_
      have cstm41 : ((-41) : Int32).toInt = -41 := by decide
      have hPc := hP.sub (ws' := [(h_wr, .inr (6, [.ref h_td, (v_wr 1), (v_wr 2), (v_wr 3), .ref h_wd, .int z37, .ref h_wh, .int x_wr_held])), (h_wh, .inl (cy_wh, 2048, .inl f_wh))]) [6, 0] rfl
      have hDc := hD.sub (ws' := [(h_wr, .inr (6, [.ref h_td, (v_wr 1), (v_wr 2), (v_wr 3), .ref h_wd, .int z37, .ref h_wh, .int x_wr_held])), (h_wh, .inl (cy_wh, 2048, .inl f_wh))]) [6, 0] (by decide) rfl
      have hKc := hK.sub (tys' := [(cy_wh, .int)]) [1] rfl
      have hFc := va_free (wc := [(h_wr, .inr (6, [.ref h_td, (v_wr 1), (v_wr 2), (v_wr 3), .ref h_wd, .int z37, .ref h_wh, .int x_wr_held])), (h_wh, .inl (cy_wh, 2048, .inl f_wh))]) hD hS hA [6, 0] rfl
      refine va_callv (va_runV (As := [.int (-41)]) (rest := []) ⟨hx, hb, hml, hown, hts⟩ (c_X9_push l dC dI H.size h_wr h_wh (fun k => List.getD [.ref h_td, (v_wr 1), (v_wr 2), (v_wr 3), .ref h_wd, .int z37, .ref h_wh, .int x_wr_held] k .null) x_wr_held cy_wh f_wh (-41) (by omega) hf_wh (by omega)) (cwV 1 hts (gv hT w_m_X9_78 w_instanceMethod_X9_push ws_sel_X9_push w_ini_X9 w_code_X9_push) rfl rfl rfl (by decide +kernel) ⟨(Nat.le_of_ble_eq_true rfl), (Nat.le_of_ble_eq_true rfl)⟩) ⟨pre_blind, va_recv hK hP (ci := 6) (q0 := 6) rfl rfl, pre_of hPc hKc hDc hN⟩ rfl rfl hl.1 rfl (lv_room (Nat.le_of_ble_eq_true rfl)) dX9_putPart_79 ⟨(Nat.le_of_ble_eq_true rfl), (Nat.le_of_ble_eq_true rfl)⟩) hS (fun q _ h => hFc q h) hFc (fun u t H locs ht hvm hq hB hz1 hk1 hS => ?_)
      obtain ⟨z41, f42⟩ := u
      obtain ⟨hP1, hD1⟩ := hB
      rw [ht] at hP1
      obtain ⟨hP, hD⟩ := va_join (wr := [(h_td, .inr (5, [.ref h_nam, .ref h_var, .ref h_trm, .ref h_ter, (v_td 4), (v_td 5), (v_td 6), (v_td 7), (v_td 8), (v_td 9)])), (h_nam, .inl (cy_nam, 300, .inr (.inl f_nam))), (h_var, .inl (cy_var, 300, .inl f_var)), (h_trm, .inl (cy_trm, 300, .inl f_trm)), (h_ter, .inl (cy_ter, 900, .inl f_ter)), (h_wd, .inl (cy_wd, 616, .inl f38))]) (w1 := [(h_wr, .inr (6, [.ref h_td, (v_wr 1), (v_wr 2), (v_wr 3), .ref h_wd, .int z37, .ref h_wh, .int z41])), (h_wh, .inl (cy_wh, 2048, .inl f42))]) hP hD [6, 0] [1, 2, 3, 4, 5, 7] rfl rfl (by decide) (by decide) hk1 hFc hP1 hD1
      have hP : va_P (dC, dI) cls [(h_td, .inr (5, [.ref h_nam, .ref h_var, .ref h_trm, .ref h_ter, (v_td 4), (v_td 5), (v_td 6), (v_td 7), (v_td 8), (v_td 9)])), (h_nam, .inl (cy_nam, 300, .inr (.inl f_nam))), (h_var, .inl (cy_var, 300, .inl f_var)), (h_trm, .inl (cy_trm, 300, .inl f_trm)), (h_ter, .inl (cy_ter, 900, .inl f_ter)), (h_wd, .inl (cy_wd, 616, .inl f38)), (h_wr, .inr (6, [.ref h_td, (v_wr 1), (v_wr 2), (v_wr 3), .ref h_wd, .int z37, .ref h_wh, .int z41])), (h_wh, .inl (cy_wh, 2048, .inl f42))] H := hP
      have hD : va_D A [(h_td, .inr (5, [.ref h_nam, .ref h_var, .ref h_trm, .ref h_ter, (v_td 4), (v_td 5), (v_td 6), (v_td 7), (v_td 8), (v_td 9)])), (h_nam, .inl (cy_nam, 300, .inr (.inl f_nam))), (h_var, .inl (cy_var, 300, .inl f_var)), (h_trm, .inl (cy_trm, 300, .inl f_trm)), (h_ter, .inl (cy_ter, 900, .inl f_ter)), (h_wd, .inl (cy_wd, 616, .inl f38)), (h_wr, .inr (6, [.ref h_td, (v_wr 1), (v_wr 2), (v_wr 3), .ref h_wd, .int z37, .ref h_wh, .int z41])), (h_wh, .inl (cy_wh, 2048, .inl f42))] := hD
      obtain ⟨k43, hf42⟩ := hq
      have k43 : 0 ≤ ((z41)).toInt ∧ ((z41)).toInt ≤ 2048 := k43
      have hf42 : Rg (-127) 9599 (f42) := hf42
      refine lv_iload_n hx hb dX9_putPart_82 rfl (lv_at hl 0 rfl) ?_
      refine lv_iconst (v := 1) hx hb dX9_putPart_83 (by decide) ?_
      refine lv_isub hx hb dX9_putPart_84 ?_
      refine lv_topi (fun z44 ez44 => ?_)
      have tz44 : (z44).toInt = (z9).toInt - 1 := by rw [ez44]; exact i_sub rfl (by decide) (by omega)
      refine lv_istore (lv' := [(4, .int z44), (3, .int z9), (2, .int z1), (0, .ref h_wr), (1, .int p1)]) hx hb dX9_putPart_85 hl (by decide) rfl (fun ls hl => ?_)
      have lp48 : ∀ (n : Nat) (x45 : Int32) (x46 : Int32) (f47 : Nat → Int32) (H : Heap) (locs : List Loc) (ls : Array Slot), (-1 ≤ (x45).toInt ∧ (x45).toInt ≤ 2) → (0 ≤ (x46).toInt ∧ (x46).toInt ≤ 2048) → (Rg (-127) 9599 f47) → ((x45).toInt + 1).toNat + 1 ≤ n → va_P (dC, dI) cls [(h_td, .inr (5, [.ref h_nam, .ref h_var, .ref h_trm, .ref h_ter, (v_td 4), (v_td 5), (v_td 6), (v_td 7), (v_td 8), (v_td 9)])), (h_nam, .inl (cy_nam, 300, .inr (.inl f_nam))), (h_var, .inl (cy_var, 300, .inl f_var)), (h_trm, .inl (cy_trm, 300, .inl f_trm)), (h_ter, .inl (cy_ter, 900, .inl f_ter)), (h_wd, .inl (cy_wd, 616, .inl f38)), (h_wr, .inr (6, [.ref h_td, (v_wr 1), (v_wr 2), (v_wr 3), .ref h_wd, .int z37, .ref h_wh, .int x46])), (h_wh, .inl (cy_wh, 2048, .inl f47))] H → va_D A [(h_td, .inr (5, [.ref h_nam, .ref h_var, .ref h_trm, .ref h_ter, (v_td 4), (v_td 5), (v_td 6), (v_td 7), (v_td 8), (v_td 9)])), (h_nam, .inl (cy_nam, 300, .inr (.inl f_nam))), (h_var, .inl (cy_var, 300, .inl f_var)), (h_trm, .inl (cy_trm, 300, .inl f_trm)), (h_ter, .inl (cy_ter, 900, .inl f_ter)), (h_wd, .inl (cy_wd, 616, .inl f38)), (h_wr, .inr (6, [.ref h_td, (v_wr 1), (v_wr 2), (v_wr 3), .ref h_wd, .int z37, .ref h_wh, .int x46])), (h_wh, .inl (cy_wh, 2048, .inl f47))] → va_S A s.heap H locs → lv_has ls 5 [(0, .ref h_wr), (1, .int p1), (2, .int z1), (3, .int z9), (4, .int x45)] → W p l e ({ frames := 2, cells := 0, slots := 0, locals := 45 } : Room) s m ([.ref h_wr, .int p1] : List Value).toArray below meth c H locs 0 0 (MQ below (va_Qv (fun (u : (Int32) × (Int32) × (Nat → Int32) × (Nat → Int32)) => (0 ≤ (u.1).toInt ∧ (u.1).toInt ≤ 616) ∧ (0 ≤ (u.2.1).toInt ∧ (u.2.1).toInt ≤ 2048) ∧ (Rg (-127) 9599 u.2.2.2)) (fun (u : (Int32) × (Int32) × (Nat → Int32) × (Nat → Int32)) (t : State) => va_P (dC, dI) cls [(h_wr, .inr (6, [.ref h_td, (v_wr 1), (v_wr 2), (v_wr 3), .ref h_wd, .int u.1, .ref h_wh, .int u.2.1])), (h_wd, .inl (cy_wd, 616, .inl u.2.2.1)), (h_wh, .inl (cy_wh, 2048, .inl u.2.2.2)), (h_td, .inr (5, [.ref h_nam, .ref h_var, .ref h_trm, .ref h_ter, (v_td 4), (v_td 5), (v_td 6), (v_td 7), (v_td 8), (v_td 9)])), (h_nam, .inl (cy_nam, 300, .inr (.inl f_nam))), (h_var, .inl (cy_var, 300, .inl f_var)), (h_trm, .inl (cy_trm, 300, .inl f_trm)), (h_ter, .inl (cy_ter, 900, .inl f_ter))] t.heap ∧ va_D A [(h_wr, .inr (6, [.ref h_td, (v_wr 1), (v_wr 2), (v_wr 3), .ref h_wd, .int u.1, .ref h_wh, .int u.2.1])), (h_wd, .inl (cy_wd, 616, .inl u.2.2.1)), (h_wh, .inl (cy_wh, 2048, .inl u.2.2.2)), (h_td, .inr (5, [.ref h_nam, .ref h_var, .ref h_trm, .ref h_ter, (v_td 4), (v_td 5), (v_td 6), (v_td 7), (v_td 8), (v_td 9)])), (h_nam, .inl (cy_nam, 300, .inr (.inl f_nam))), (h_var, .inl (cy_var, 300, .inl f_var)), (h_trm, .inl (cy_trm, 300, .inl f_trm)), (h_ter, .inl (cy_ter, 900, .inl f_ter))]) A) ([.ref h_wr, .int p1] : List Value).toArray s 0 0 A) (F0 m 87 ls []) := by
        intro n
        induction n with
        | zero => intro x45 x46 f47 H locs ls klp48_0 klp48_1 hf47 hm hP hD hS hl; exact False.elim (by omega)
        | succ n ih => 
          intro x45 x46 f47 H locs ls klp48_0 klp48_1 hf47 hm hP hD hS hl
          have ih49 := ih
          clear ih
          refine lv_iload hx hb dX9_putPart_87 (lv_at hl 4 rfl) ?_
          refine lv_if_lt (tgt := 131) hx hb dX9_putPart_89 (by decide) (fun c50 => ?_) (fun c50 => ?_)
          · have kc50 := (cv_lt (rfl : (x45).toInt = (x45).toInt) (by decide : (0 : Int32).toInt = 0)).mp c50
            have hP : va_P (dC, dI) cls [(h_wr, .inr (6, [.ref h_td, (v_wr 1), (v_wr 2), (v_wr 3), .ref h_wd, .int z37, .ref h_wh, .int x46])), (h_wd, .inl (cy_wd, 616, .inl f38)), (h_wh, .inl (cy_wh, 2048, .inl f47)), (h_td, .inr (5, [.ref h_nam, .ref h_var, .ref h_trm, .ref h_ter, (v_td 4), (v_td 5), (v_td 6), (v_td 7), (v_td 8), (v_td 9)])), (h_nam, .inl (cy_nam, 300, .inr (.inl f_nam))), (h_var, .inl (cy_var, 300, .inl f_var)), (h_trm, .inl (cy_trm, 300, .inl f_trm)), (h_ter, .inl (cy_ter, 900, .inl f_ter))] H := hP.sub [6, 5, 7, 0, 1, 2, 3, 4] rfl
            have hD : va_D A [(h_wr, .inr (6, [.ref h_td, (v_wr 1), (v_wr 2), (v_wr 3), .ref h_wd, .int z37, .ref h_wh, .int x46])), (h_wd, .inl (cy_wd, 616, .inl f38)), (h_wh, .inl (cy_wh, 2048, .inl f47)), (h_td, .inr (5, [.ref h_nam, .ref h_var, .ref h_trm, .ref h_ter, (v_td 4), (v_td 5), (v_td 6), (v_td 7), (v_td 8), (v_td 9)])), (h_nam, .inl (cy_nam, 300, .inr (.inl f_nam))), (h_var, .inl (cy_var, 300, .inl f_var)), (h_trm, .inl (cy_trm, 300, .inl f_trm)), (h_ter, .inl (cy_ter, 900, .inl f_ter))] := hD.sub [6, 5, 7, 0, 1, 2, 3, 4] (by decide) rfl
            refine W.widen (k := 0) (n := 0) (Nat.le_of_ble_eq_true rfl) (Nat.le_of_ble_eq_true rfl) ?_
            have w51 : 0 ≤ ((z37)).toInt ∧ ((z37)).toInt ≤ 616 := by omega
            have w52 : 0 ≤ ((x46)).toInt ∧ ((x46)).toInt ≤ 2048 := by omega
            exact W.vret hx hb hr (fun t ht hW => ⟨⟨(z37, x46, f38, f47), rfl, ⟨w51, w52, hf47⟩, by rw [ht]; exact hP, hD⟩, hS.F ht⟩) hS.2.2 dX9_putPart_131
          · have kc50 := (not_congr (cv_lt (rfl : (x45).toInt = (x45).toInt) (by decide : (0 : Int32).toInt = 0))).mp c50
            refine lv_aload_n hx hb dX9_putPart_92 rfl (lv_at hl 0 rfl) ?_
            refine lv_iload_n hx hb dX9_putPart_93 rfl (lv_at hl 1 rfl) ?_
            refine lv_iload_n hx hb dX9_putPart_94 rfl (lv_at hl 2 rfl) ?_
            refine lv_isub hx hb dX9_putPart_95 ?_
            refine lv_topi (fun z53 ez53 => ?_)
            have tz53 : (z53).toInt = (p1).toInt - (z1).toInt := by rw [ez53]; exact i_sub rfl rfl (by omega)
            have sz53 : 0 ≤ (z53).toInt ∧ (z53).toInt ≤ 9300 := by omega
            refine lv_aload_n hx hb dX9_putPart_96 rfl (lv_at hl 0 rfl) ?_
            refine va_get (D := (dC, dI)) (ci := 6) (v := .ref h_td) (C := RX9) (T := TX9) (N := 8) hx hb hw iwX9 hown hK hP 6 rfl rfl 0 (by decide) (hw _ w_f_X9_21) (fun _ h9 => h9) rfl dX9_putPart_97 ?_
            refine va_getN (D := (dC, dI)) (ci := 5) (v := .ref h_ter) (C := RX8) (T := TX8) (N := 10) (host := "OppositePairs") hx hb hw iwX8 hown hK hP 0 rfl rfl 3 (by decide) (hN.use n_f_X9_81 rfl) (fun _ h9 => h9) rfl dX9_putPart_100 ?_
            refine lv_iload_n hx hb dX9_putPart_103 rfl (lv_at hl 2 rfl) ?_
            refine lv_iconst (v := 3) hx hb dX9_putPart_104 (by decide) ?_
            refine lv_imul hx hb dX9_putPart_105 ?_
            refine lv_topi (fun z54 ez54 => ?_)
            have tz54 : (z54).toInt = (z1).toInt * 3 := by rw [ez54]; exact i_mul rfl (by decide) (by omega)
            refine lv_iload hx hb dX9_putPart_106 (lv_at hl 4 rfl) ?_
            refine lv_iadd hx hb dX9_putPart_108 ?_
            refine lv_topi (fun z55 ez55 => ?_)
            have tz55 : (z55).toInt = (z54).toInt + (x45).toInt := by rw [ez55]; exact i_add rfl rfl (by omega)
            refine va_iald hx hb hK hP 4 5 rfl rfl (i := z55) (vp_in_iff.mpr (by omega)) dX9_putPart_109 ?_
            refine lv_topi (fun z56 ez56 => ?_)
            have rz56 : 0 ≤ (z56).toInt ∧ (z56).toInt ≤ 299 := by rw [ez56]; exact hf_ter _
            refine lv_iadd hx hb dX9_putPart_110 ?_
            refine lv_topi (fun z57 ez57 => ?_)
            have tz57 : (z57).toInt = (z53).toInt + (z56).toInt := by rw [ez57]; exact i_add rfl rfl (by omega)
            have hPc := hP.sub (ws' := [(h_wr, .inr (6, [.ref h_td, (v_wr 1), (v_wr 2), (v_wr 3), .ref h_wd, .int z37, .ref h_wh, .int x46])), (h_wh, .inl (cy_wh, 2048, .inl f47))]) [6, 7] rfl
            have hDc := hD.sub (ws' := [(h_wr, .inr (6, [.ref h_td, (v_wr 1), (v_wr 2), (v_wr 3), .ref h_wd, .int z37, .ref h_wh, .int x46])), (h_wh, .inl (cy_wh, 2048, .inl f47))]) [6, 7] (by decide) rfl
            have hKc := hK.sub (tys' := [(cy_wh, .int)]) [1] rfl
            have hFc := va_free (wc := [(h_wr, .inr (6, [.ref h_td, (v_wr 1), (v_wr 2), (v_wr 3), .ref h_wd, .int z37, .ref h_wh, .int x46])), (h_wh, .inl (cy_wh, 2048, .inl f47))]) hD hS hA [6, 7] rfl
            refine va_callv (va_runV (As := [.int z57]) (rest := []) ⟨hx, hb, hml, hown, hts⟩ (c_X9_push l dC dI H.size h_wr h_wh (fun k => List.getD [.ref h_td, (v_wr 1), (v_wr 2), (v_wr 3), .ref h_wd, .int z37, .ref h_wh, .int x46] k .null) x46 cy_wh f47 z57 (by omega) hf47 (by omega)) (cwV 1 hts (gv hT w_m_X9_78 w_instanceMethod_X9_push ws_sel_X9_push w_ini_X9 w_code_X9_push) rfl rfl rfl (by decide +kernel) ⟨(Nat.le_of_ble_eq_true rfl), (Nat.le_of_ble_eq_true rfl)⟩) ⟨pre_blind, va_recv hK hP (ci := 6) (q0 := 6) rfl rfl, pre_of hPc hKc hDc hN⟩ rfl rfl hl.1 rfl (lv_room (Nat.le_of_ble_eq_true rfl)) dX9_putPart_111 ⟨(Nat.le_of_ble_eq_true rfl), (Nat.le_of_ble_eq_true rfl)⟩) hS (fun q _ h => hFc q h) hFc (fun u t H locs ht hvm hq hB hz1 hk1 hS => ?_)
            obtain ⟨z59, f60⟩ := u
            obtain ⟨hP1, hD1⟩ := hB
            rw [ht] at hP1
            obtain ⟨hP, hD⟩ := va_join (wr := [(h_td, .inr (5, [.ref h_nam, .ref h_var, .ref h_trm, .ref h_ter, (v_td 4), (v_td 5), (v_td 6), (v_td 7), (v_td 8), (v_td 9)])), (h_nam, .inl (cy_nam, 300, .inr (.inl f_nam))), (h_var, .inl (cy_var, 300, .inl f_var)), (h_trm, .inl (cy_trm, 300, .inl f_trm)), (h_ter, .inl (cy_ter, 900, .inl f_ter)), (h_wd, .inl (cy_wd, 616, .inl f38))]) (w1 := [(h_wr, .inr (6, [.ref h_td, (v_wr 1), (v_wr 2), (v_wr 3), .ref h_wd, .int z37, .ref h_wh, .int z59])), (h_wh, .inl (cy_wh, 2048, .inl f60))]) hP hD [6, 7] [0, 1, 2, 3, 4, 5] rfl rfl (by decide) (by decide) hk1 hFc hP1 hD1
            have hP : va_P (dC, dI) cls [(h_td, .inr (5, [.ref h_nam, .ref h_var, .ref h_trm, .ref h_ter, (v_td 4), (v_td 5), (v_td 6), (v_td 7), (v_td 8), (v_td 9)])), (h_nam, .inl (cy_nam, 300, .inr (.inl f_nam))), (h_var, .inl (cy_var, 300, .inl f_var)), (h_trm, .inl (cy_trm, 300, .inl f_trm)), (h_ter, .inl (cy_ter, 900, .inl f_ter)), (h_wd, .inl (cy_wd, 616, .inl f38)), (h_wr, .inr (6, [.ref h_td, (v_wr 1), (v_wr 2), (v_wr 3), .ref h_wd, .int z37, .ref h_wh, .int z59])), (h_wh, .inl (cy_wh, 2048, .inl f60))] H := hP
            have hD : va_D A [(h_td, .inr (5, [.ref h_nam, .ref h_var, .ref h_trm, .ref h_ter, (v_td 4), (v_td 5), (v_td 6), (v_td 7), (v_td 8), (v_td 9)])), (h_nam, .inl (cy_nam, 300, .inr (.inl f_nam))), (h_var, .inl (cy_var, 300, .inl f_var)), (h_trm, .inl (cy_trm, 300, .inl f_trm)), (h_ter, .inl (cy_ter, 900, .inl f_ter)), (h_wd, .inl (cy_wd, 616, .inl f38)), (h_wr, .inr (6, [.ref h_td, (v_wr 1), (v_wr 2), (v_wr 3), .ref h_wd, .int z37, .ref h_wh, .int z59])), (h_wh, .inl (cy_wh, 2048, .inl f60))] := hD
            obtain ⟨k61, hf60⟩ := hq
            have k61 : 0 ≤ ((z59)).toInt ∧ ((z59)).toInt ≤ 2048 := k61
            have hf60 : Rg (-127) 9599 (f60) := hf60
            refine lv_iload hx hb dX9_putPart_114 (lv_at hl 4 rfl) ?_
            refine lv_if_le (tgt := 125) hx hb dX9_putPart_116 (by decide) (fun c62 => ?_) (fun c62 => ?_)
            · have kc62 := (cv_le (rfl : (x45).toInt = (x45).toInt) (by decide : (0 : Int32).toInt = 0)).mp c62
              obtain ⟨z63, ez63⟩ : ∃ y : Int32, y = x45 + (-1) := ⟨_, rfl⟩
              have tz63 : (z63).toInt = (x45).toInt + -1 := by rw [ez63]; exact i_add rfl (by decide) (by omega)
              refine lv_iinc (v := z63) (lv' := [(4, .int z63), (0, .ref h_wr), (1, .int p1), (2, .int z1), (3, .int z9)]) hx hb dX9_putPart_125 hl (k := 4) rfl (by rw [ez63]; rfl) (by decide) rfl (fun ls hl => ?_)
              refine lv_goto (tgt := 87) hx hb dX9_putPart_128 (by decide) ?_
              exact ih49 (z63) (z59) (f60) _ _ _ (by omega) (by omega) hf60 (by omega) hP hD hS (lv_sub hl [1, 2, 3, 4, 0] rfl)
            · have kc62 := (not_congr (cv_le (rfl : (x45).toInt = (x45).toInt) (by decide : (0 : Int32).toInt = 0))).mp c62
              refine lv_aload_n hx hb dX9_putPart_119 rfl (lv_at hl 0 rfl) ?_
              refine lv_bipush (v := (-44)) hx hb dX9_putPart_120 (by decide) ?_
              have cstm44 : ((-44) : Int32).toInt = -44 := by decide
              have hPc := hP.sub (ws' := [(h_wr, .inr (6, [.ref h_td, (v_wr 1), (v_wr 2), (v_wr 3), .ref h_wd, .int z37, .ref h_wh, .int z59])), (h_wh, .inl (cy_wh, 2048, .inl f60))]) [6, 7] rfl
              have hDc := hD.sub (ws' := [(h_wr, .inr (6, [.ref h_td, (v_wr 1), (v_wr 2), (v_wr 3), .ref h_wd, .int z37, .ref h_wh, .int z59])), (h_wh, .inl (cy_wh, 2048, .inl f60))]) [6, 7] (by decide) rfl
              have hKc := hK.sub (tys' := [(cy_wh, .int)]) [1] rfl
              have hFc := va_free (wc := [(h_wr, .inr (6, [.ref h_td, (v_wr 1), (v_wr 2), (v_wr 3), .ref h_wd, .int z37, .ref h_wh, .int z59])), (h_wh, .inl (cy_wh, 2048, .inl f60))]) hD hS hA [6, 7] rfl
              refine va_callv (va_runV (As := [.int (-44)]) (rest := []) ⟨hx, hb, hml, hown, hts⟩ (c_X9_push l dC dI H.size h_wr h_wh (fun k => List.getD [.ref h_td, (v_wr 1), (v_wr 2), (v_wr 3), .ref h_wd, .int z37, .ref h_wh, .int z59] k .null) z59 cy_wh f60 (-44) (by omega) hf60 (by omega)) (cwV 1 hts (gv hT w_m_X9_78 w_instanceMethod_X9_push ws_sel_X9_push w_ini_X9 w_code_X9_push) rfl rfl rfl (by decide +kernel) ⟨(Nat.le_of_ble_eq_true rfl), (Nat.le_of_ble_eq_true rfl)⟩) ⟨pre_blind, va_recv hK hP (ci := 6) (q0 := 6) rfl rfl, pre_of hPc hKc hDc hN⟩ rfl rfl hl.1 rfl (lv_room (Nat.le_of_ble_eq_true rfl)) dX9_putPart_122 ⟨(Nat.le_of_ble_eq_true rfl), (Nat.le_of_ble_eq_true rfl)⟩) hS (fun q _ h => hFc q h) hFc (fun u t H locs ht hvm hq hB hz1 hk1 hS => ?_)
              obtain ⟨z65, f66⟩ := u
              obtain ⟨hP1, hD1⟩ := hB
              rw [ht] at hP1
              obtain ⟨hP, hD⟩ := va_join (wr := [(h_td, .inr (5, [.ref h_nam, .ref h_var, .ref h_trm, .ref h_ter, (v_td 4), (v_td 5), (v_td 6), (v_td 7), (v_td 8), (v_td 9)])), (h_nam, .inl (cy_nam, 300, .inr (.inl f_nam))), (h_var, .inl (cy_var, 300, .inl f_var)), (h_trm, .inl (cy_trm, 300, .inl f_trm)), (h_ter, .inl (cy_ter, 900, .inl f_ter)), (h_wd, .inl (cy_wd, 616, .inl f38))]) (w1 := [(h_wr, .inr (6, [.ref h_td, (v_wr 1), (v_wr 2), (v_wr 3), .ref h_wd, .int z37, .ref h_wh, .int z65])), (h_wh, .inl (cy_wh, 2048, .inl f66))]) hP hD [6, 7] [0, 1, 2, 3, 4, 5] rfl rfl (by decide) (by decide) hk1 hFc hP1 hD1
              have hP : va_P (dC, dI) cls [(h_td, .inr (5, [.ref h_nam, .ref h_var, .ref h_trm, .ref h_ter, (v_td 4), (v_td 5), (v_td 6), (v_td 7), (v_td 8), (v_td 9)])), (h_nam, .inl (cy_nam, 300, .inr (.inl f_nam))), (h_var, .inl (cy_var, 300, .inl f_var)), (h_trm, .inl (cy_trm, 300, .inl f_trm)), (h_ter, .inl (cy_ter, 900, .inl f_ter)), (h_wd, .inl (cy_wd, 616, .inl f38)), (h_wr, .inr (6, [.ref h_td, (v_wr 1), (v_wr 2), (v_wr 3), .ref h_wd, .int z37, .ref h_wh, .int z65])), (h_wh, .inl (cy_wh, 2048, .inl f66))] H := hP
              have hD : va_D A [(h_td, .inr (5, [.ref h_nam, .ref h_var, .ref h_trm, .ref h_ter, (v_td 4), (v_td 5), (v_td 6), (v_td 7), (v_td 8), (v_td 9)])), (h_nam, .inl (cy_nam, 300, .inr (.inl f_nam))), (h_var, .inl (cy_var, 300, .inl f_var)), (h_trm, .inl (cy_trm, 300, .inl f_trm)), (h_ter, .inl (cy_ter, 900, .inl f_ter)), (h_wd, .inl (cy_wd, 616, .inl f38)), (h_wr, .inr (6, [.ref h_td, (v_wr 1), (v_wr 2), (v_wr 3), .ref h_wd, .int z37, .ref h_wh, .int z65])), (h_wh, .inl (cy_wh, 2048, .inl f66))] := hD
              obtain ⟨k67, hf66⟩ := hq
              have k67 : 0 ≤ ((z65)).toInt ∧ ((z65)).toInt ≤ 2048 := k67
              have hf66 : Rg (-127) 9599 (f66) := hf66
              obtain ⟨z68, ez68⟩ : ∃ y : Int32, y = x45 + (-1) := ⟨_, rfl⟩
              have tz68 : (z68).toInt = (x45).toInt + -1 := by rw [ez68]; exact i_add rfl (by decide) (by omega)
              refine lv_iinc (v := z68) (lv' := [(4, .int z68), (0, .ref h_wr), (1, .int p1), (2, .int z1), (3, .int z9)]) hx hb dX9_putPart_125 hl (k := 4) rfl (by rw [ez68]; rfl) (by decide) rfl (fun ls hl => ?_)
              refine lv_goto (tgt := 87) hx hb dX9_putPart_128 (by decide) ?_
              exact ih49 (z68) (z65) (f66) _ _ _ (by omega) (by omega) hf66 (by omega) hP hD hS (lv_sub hl [1, 2, 3, 4, 0] rfl)
      exact lp48 _ (z44) (z41) (f42) _ _ _ (by omega) (by omega) hf42 (Nat.le_refl _) hP hD hS (lv_sub hl [3, 4, 2, 1, 0] rfl)
  · have kc3 := (not_congr (cv_eq (rfl : (z2).toInt = (z2).toInt) (by decide : ((-1) : Int32).toInt = -1))).mp c3
    refine lv_aload_n hx hb dX9_putPart_19 rfl (lv_at hl 1 rfl) ?_
    refine lv_aload_n hx hb dX9_putPart_20 rfl (lv_at hl 1 rfl) ?_
    refine va_get (D := (dC, dI)) (ci := 6) (v := .ref h_td) (C := RX9) (T := TX9) (N := 8) hx hb hw iwX9 hown hK hP 0 rfl rfl 0 (by decide) (hw _ w_f_X9_21) (fun _ h9 => h9) rfl dX9_putPart_21 ?_
    refine va_getN (D := (dC, dI)) (ci := 5) (v := .ref h_nam) (C := RX8) (T := TX8) (N := 10) (host := "OppositePairs") hx hb hw iwX8 hown hK hP 3 rfl rfl 0 (by decide) (hN.use n_f_X9_64 rfl) (fun _ h9 => h9) rfl dX9_putPart_24 ?_
    refine lv_iload_n hx hb dX9_putPart_27 rfl (lv_at hl 0 rfl) ?_
    refine va_lald hx hb hK hP 4 2 rfl rfl (i := z1) (vp_in_iff.mpr (by omega)) dX9_putPart_28 ?_
    refine lv_topl (fun z69 ez69 => ?_)
    refine lv_l2i hx hb dX9_putPart_29 rfl ?_
    refine lv_topi (fun z70 ez70 => ?_)
    have hPc := hP.sub (ws' := [(h_wr, .inr (6, [.ref h_td, (v_wr 1), (v_wr 2), (v_wr 3), .ref h_wd, .int x_wr_drafted, .ref h_wh, .int x_wr_held])), (h_wd, .inl (cy_wd, 616, .inl f_wd))]) [0, 1] rfl
    have hDc := hD.sub (ws' := [(h_wr, .inr (6, [.ref h_td, (v_wr 1), (v_wr 2), (v_wr 3), .ref h_wd, .int x_wr_drafted, .ref h_wh, .int x_wr_held])), (h_wd, .inl (cy_wd, 616, .inl f_wd))]) [0, 1] (by decide) rfl
    have hKc := hK.sub (tys' := [(cy_wd, .int)]) [0] rfl
    have hFc := va_free (wc := [(h_wr, .inr (6, [.ref h_td, (v_wr 1), (v_wr 2), (v_wr 3), .ref h_wd, .int x_wr_drafted, .ref h_wh, .int x_wr_held])), (h_wd, .inl (cy_wd, 616, .inl f_wd))]) hD hS hA [0, 1] rfl
    refine va_callv (va_runV (As := [.int z70]) (rest := []) ⟨hx, hb, hml, hown, hts⟩ (c_X9_put l dC dI s.heap.size h_wr h_wd (fun k => List.getD [.ref h_td, (v_wr 1), (v_wr 2), (v_wr 3), .ref h_wd, .int x_wr_drafted, .ref h_wh, .int x_wr_held] k .null) x_wr_drafted cy_wd f_wd z70 (by omega)) (cwV 1 hts (gv hT w_m_X9_33 w_instanceMethod_X9_put ws_sel_X9_put w_ini_X9 w_code_X9_put) rfl rfl rfl (by decide +kernel) ⟨(Nat.le_of_ble_eq_true rfl), (Nat.le_of_ble_eq_true rfl)⟩) ⟨pre_blind, va_recv hK hP (ci := 6) (q0 := 0) rfl rfl, pre_of hPc hKc hDc hN⟩ rfl rfl hl.1 rfl (lv_room (Nat.le_of_ble_eq_true rfl)) dX9_putPart_30 ⟨(Nat.le_of_ble_eq_true rfl), (Nat.le_of_ble_eq_true rfl)⟩) hS (fun q _ h => hFc q h) hFc (fun u t H locs ht hvm hq hB hz1 hk1 hS => ?_)
    obtain ⟨z72, f73⟩ := u
    obtain ⟨hP1, hD1⟩ := hB
    rw [ht] at hP1
    obtain ⟨hP, hD⟩ := va_join (wr := [(h_wh, .inl (cy_wh, 2048, .inl f_wh)), (h_td, .inr (5, [.ref h_nam, .ref h_var, .ref h_trm, .ref h_ter, (v_td 4), (v_td 5), (v_td 6), (v_td 7), (v_td 8), (v_td 9)])), (h_nam, .inl (cy_nam, 300, .inr (.inl f_nam))), (h_var, .inl (cy_var, 300, .inl f_var)), (h_trm, .inl (cy_trm, 300, .inl f_trm)), (h_ter, .inl (cy_ter, 900, .inl f_ter))]) (w1 := [(h_wr, .inr (6, [.ref h_td, (v_wr 1), (v_wr 2), (v_wr 3), .ref h_wd, .int z72, .ref h_wh, .int x_wr_held])), (h_wd, .inl (cy_wd, 616, .inl f73))]) hP hD [0, 1] [2, 3, 4, 5, 6, 7] rfl rfl (by decide) (by decide) hk1 hFc hP1 hD1
    have hP : va_P (dC, dI) cls [(h_wh, .inl (cy_wh, 2048, .inl f_wh)), (h_td, .inr (5, [.ref h_nam, .ref h_var, .ref h_trm, .ref h_ter, (v_td 4), (v_td 5), (v_td 6), (v_td 7), (v_td 8), (v_td 9)])), (h_nam, .inl (cy_nam, 300, .inr (.inl f_nam))), (h_var, .inl (cy_var, 300, .inl f_var)), (h_trm, .inl (cy_trm, 300, .inl f_trm)), (h_ter, .inl (cy_ter, 900, .inl f_ter)), (h_wr, .inr (6, [.ref h_td, (v_wr 1), (v_wr 2), (v_wr 3), .ref h_wd, .int z72, .ref h_wh, .int x_wr_held])), (h_wd, .inl (cy_wd, 616, .inl f73))] H := hP
    have hD : va_D A [(h_wh, .inl (cy_wh, 2048, .inl f_wh)), (h_td, .inr (5, [.ref h_nam, .ref h_var, .ref h_trm, .ref h_ter, (v_td 4), (v_td 5), (v_td 6), (v_td 7), (v_td 8), (v_td 9)])), (h_nam, .inl (cy_nam, 300, .inr (.inl f_nam))), (h_var, .inl (cy_var, 300, .inl f_var)), (h_trm, .inl (cy_trm, 300, .inl f_trm)), (h_ter, .inl (cy_ter, 900, .inl f_ter)), (h_wr, .inr (6, [.ref h_td, (v_wr 1), (v_wr 2), (v_wr 3), .ref h_wd, .int z72, .ref h_wh, .int x_wr_held])), (h_wd, .inl (cy_wd, 616, .inl f73))] := hD
    have k74 : 0 ≤ ((z72)).toInt ∧ ((z72)).toInt ≤ 616 := hq
    refine lv_aload_n hx hb dX9_putPart_33 rfl (lv_at hl 1 rfl) ?_
    refine lv_iload_n hx hb dX9_putPart_34 rfl (lv_at hl 2 rfl) ?_
    refine lv_sipush (v := 300) hx hb dX9_putPart_35 (by decide) ?_
    refine lv_idiv hx hb dX9_putPart_38 (by decide) ?_
    refine lv_topi (fun z75 ez75 => ?_)
    have tz75 : (z75).toInt = (p1).toInt / 300 := by rw [ez75]; exact i_div rfl (by decide) (by omega)
    have sz75 : 0 ≤ (z75).toInt ∧ (z75).toInt ≤ 31 := by omega
    have hPc := hP.sub (ws' := [(h_wr, .inr (6, [.ref h_td, (v_wr 1), (v_wr 2), (v_wr 3), .ref h_wd, .int z72, .ref h_wh, .int x_wr_held])), (h_wd, .inl (cy_wd, 616, .inl f73))]) [6, 7] rfl
    have hDc := hD.sub (ws' := [(h_wr, .inr (6, [.ref h_td, (v_wr 1), (v_wr 2), (v_wr 3), .ref h_wd, .int z72, .ref h_wh, .int x_wr_held])), (h_wd, .inl (cy_wd, 616, .inl f73))]) [6, 7] (by decide) rfl
    have hKc := hK.sub (tys' := [(cy_wd, .int)]) [0] rfl
    have hFc := va_free (wc := [(h_wr, .inr (6, [.ref h_td, (v_wr 1), (v_wr 2), (v_wr 3), .ref h_wd, .int z72, .ref h_wh, .int x_wr_held])), (h_wd, .inl (cy_wd, 616, .inl f73))]) hD hS hA [6, 7] rfl
    refine va_callv (va_runV (As := [.int z75]) (rest := []) ⟨hx, hb, hml, hown, hts⟩ (c_X9_putInstance l dC dI H.size h_wr h_wd (fun k => List.getD [.ref h_td, (v_wr 1), (v_wr 2), (v_wr 3), .ref h_wd, .int z72, .ref h_wh, .int x_wr_held] k .null) z72 cy_wd f73 z75 (by omega) (by omega)) (cwV 1 hts (gv hT w_m_X9_68 w_instanceMethod_X9_putInstance ws_sel_X9_putInstance w_ini_X9 w_code_X9_putInstance) rfl rfl rfl (by decide +kernel) ⟨(Nat.le_of_ble_eq_true rfl), (Nat.le_of_ble_eq_true rfl)⟩) ⟨pre_blind, va_recv hK hP (ci := 6) (q0 := 6) rfl rfl, pre_of hPc hKc hDc hN⟩ rfl rfl hl.1 rfl (lv_room (Nat.le_of_ble_eq_true rfl)) dX9_putPart_39 ⟨(Nat.le_of_ble_eq_true rfl), (Nat.le_of_ble_eq_true rfl)⟩) hS (fun q _ h => hFc q h) hFc (fun u t H locs ht hvm hq hB hz1 hk1 hS => ?_)
    obtain ⟨z77, f78⟩ := u
    obtain ⟨hP1, hD1⟩ := hB
    rw [ht] at hP1
    obtain ⟨hP, hD⟩ := va_join (wr := [(h_wh, .inl (cy_wh, 2048, .inl f_wh)), (h_td, .inr (5, [.ref h_nam, .ref h_var, .ref h_trm, .ref h_ter, (v_td 4), (v_td 5), (v_td 6), (v_td 7), (v_td 8), (v_td 9)])), (h_nam, .inl (cy_nam, 300, .inr (.inl f_nam))), (h_var, .inl (cy_var, 300, .inl f_var)), (h_trm, .inl (cy_trm, 300, .inl f_trm)), (h_ter, .inl (cy_ter, 900, .inl f_ter))]) (w1 := [(h_wr, .inr (6, [.ref h_td, (v_wr 1), (v_wr 2), (v_wr 3), .ref h_wd, .int z77, .ref h_wh, .int x_wr_held])), (h_wd, .inl (cy_wd, 616, .inl f78))]) hP hD [6, 7] [0, 1, 2, 3, 4, 5] rfl rfl (by decide) (by decide) hk1 hFc hP1 hD1
    have hP : va_P (dC, dI) cls [(h_wh, .inl (cy_wh, 2048, .inl f_wh)), (h_td, .inr (5, [.ref h_nam, .ref h_var, .ref h_trm, .ref h_ter, (v_td 4), (v_td 5), (v_td 6), (v_td 7), (v_td 8), (v_td 9)])), (h_nam, .inl (cy_nam, 300, .inr (.inl f_nam))), (h_var, .inl (cy_var, 300, .inl f_var)), (h_trm, .inl (cy_trm, 300, .inl f_trm)), (h_ter, .inl (cy_ter, 900, .inl f_ter)), (h_wr, .inr (6, [.ref h_td, (v_wr 1), (v_wr 2), (v_wr 3), .ref h_wd, .int z77, .ref h_wh, .int x_wr_held])), (h_wd, .inl (cy_wd, 616, .inl f78))] H := hP
    have hD : va_D A [(h_wh, .inl (cy_wh, 2048, .inl f_wh)), (h_td, .inr (5, [.ref h_nam, .ref h_var, .ref h_trm, .ref h_ter, (v_td 4), (v_td 5), (v_td 6), (v_td 7), (v_td 8), (v_td 9)])), (h_nam, .inl (cy_nam, 300, .inr (.inl f_nam))), (h_var, .inl (cy_var, 300, .inl f_var)), (h_trm, .inl (cy_trm, 300, .inl f_trm)), (h_ter, .inl (cy_ter, 900, .inl f_ter)), (h_wr, .inr (6, [.ref h_td, (v_wr 1), (v_wr 2), (v_wr 3), .ref h_wd, .int z77, .ref h_wh, .int x_wr_held])), (h_wd, .inl (cy_wd, 616, .inl f78))] := hD
    have k79 : 0 ≤ ((z77)).toInt ∧ ((z77)).toInt ≤ 616 := hq
    have hP : va_P (dC, dI) cls [(h_wr, .inr (6, [.ref h_td, (v_wr 1), (v_wr 2), (v_wr 3), .ref h_wd, .int z77, .ref h_wh, .int x_wr_held])), (h_wd, .inl (cy_wd, 616, .inl f78)), (h_wh, .inl (cy_wh, 2048, .inl f_wh)), (h_td, .inr (5, [.ref h_nam, .ref h_var, .ref h_trm, .ref h_ter, (v_td 4), (v_td 5), (v_td 6), (v_td 7), (v_td 8), (v_td 9)])), (h_nam, .inl (cy_nam, 300, .inr (.inl f_nam))), (h_var, .inl (cy_var, 300, .inl f_var)), (h_trm, .inl (cy_trm, 300, .inl f_trm)), (h_ter, .inl (cy_ter, 900, .inl f_ter))] H := hP.sub [6, 7, 0, 1, 2, 3, 4, 5] rfl
    have hD : va_D A [(h_wr, .inr (6, [.ref h_td, (v_wr 1), (v_wr 2), (v_wr 3), .ref h_wd, .int z77, .ref h_wh, .int x_wr_held])), (h_wd, .inl (cy_wd, 616, .inl f78)), (h_wh, .inl (cy_wh, 2048, .inl f_wh)), (h_td, .inr (5, [.ref h_nam, .ref h_var, .ref h_trm, .ref h_ter, (v_td 4), (v_td 5), (v_td 6), (v_td 7), (v_td 8), (v_td 9)])), (h_nam, .inl (cy_nam, 300, .inr (.inl f_nam))), (h_var, .inl (cy_var, 300, .inl f_var)), (h_trm, .inl (cy_trm, 300, .inl f_trm)), (h_ter, .inl (cy_ter, 900, .inl f_ter))] := hD.sub [6, 7, 0, 1, 2, 3, 4, 5] (by decide) rfl
    refine W.widen (k := 0) (n := 0) (Nat.le_of_ble_eq_true rfl) (Nat.le_of_ble_eq_true rfl) ?_
    have w80 : 0 ≤ ((z77)).toInt ∧ ((z77)).toInt ≤ 616 := by omega
    have w81 : 0 ≤ ((x_wr_held)).toInt ∧ ((x_wr_held)).toInt ≤ 2048 := by omega
    exact W.vret hx hb hr (fun t ht hW => ⟨⟨(z77, x_wr_held, f78, f_wh), rfl, ⟨w80, w81, hf_wh⟩, by rw [ht]; exact hP, hD⟩, hS.F ht⟩) hS.2.2 dX9_putPart_42

set_option maxHeartbeats 8000000 in
set_option maxRecDepth 100000 in
theorem c_X9_write (l : Launch) (dC : Nat → ClassId) (dI : Nat → Nat → Nat) (sz : Nat) (h_wr : Nat) (h_wb : Nat) (h_wd : Nat) (h_wh : Nat) (h_bd : Nat) (h_bnd : Nat) (h_td : Nat) (h_nam : Nat) (h_var : Nat) (h_trm : Nat) (h_ter : Nat) (x_wr_length : Int32) (x_wr_drafted : Int32) (x_wr_held : Int32) (cy_wb : ClassId) (f_wb : Nat → Int32) (cy_wd : ClassId) (f_wd : Nat → Int32) (cy_wh : ClassId) (f_wh : Nat → Int32) (v_bd : Nat → Value) (cy_bnd : ClassId) (f_bnd : Nat → Int32) (v_td : Nat → Value) (cy_nam : ClassId) (f_nam : Nat → Int64) (cy_var : ClassId) (f_var : Nat → Int32) (cy_trm : ClassId) (f_trm : Nat → Int32) (cy_ter : ClassId) (f_ter : Nat → Int32) (p1 : Int32) (p2 : Int32) (p3 : Int32) (hx_wr_length : 0 ≤ (x_wr_length).toInt ∧ (x_wr_length).toInt ≤ 600) (hx_wr_drafted : 0 ≤ (x_wr_drafted).toInt ∧ (x_wr_drafted).toInt ≤ 616) (hx_wr_held : 0 ≤ (x_wr_held).toInt ∧ (x_wr_held).toInt ≤ 2048) (hf_wh : Rg (-127) 9599 f_wh) (hf_bnd : Rg 0 9600 f_bnd) (hf_var : Rg (-1) 7 f_var) (hf_trm : Rg 0 3 f_trm) (hf_ter : Rg 0 299 f_ter) (q0 : 0 ≤ (p1).toInt ∧ (p1).toInt ≤ 9599) : Met l yX9_write (Ws yX9_write cX9_write 5 (some .int)) (({ frames := 3, cells := 0, slots := 0, locals := 80 } : Room)) (PRE (dC, dI) cls [(cy_wb, .int), (cy_wd, .int), (cy_wh, .int), (cy_bnd, .int), (cy_nam, .long), (cy_var, .int), (cy_trm, .int), (cy_ter, .int)] [(h_wr, .inr (6, [.ref h_td, .ref h_bd, .ref h_wb, .int x_wr_length, .ref h_wd, .int x_wr_drafted, .ref h_wh, .int x_wr_held])), (h_wb, .inl (cy_wb, 600, .inl f_wb)), (h_wd, .inl (cy_wd, 616, .inl f_wd)), (h_wh, .inl (cy_wh, 2048, .inl f_wh)), (h_bd, .inr (1, [.ref h_td, .ref h_bnd, (v_bd 2), (v_bd 3), (v_bd 4), (v_bd 5), (v_bd 6), (v_bd 7), (v_bd 8), (v_bd 9), (v_bd 10), (v_bd 11), (v_bd 12)])), (h_bnd, .inl (cy_bnd, 256, .inl f_bnd)), (h_td, .inr (5, [.ref h_nam, .ref h_var, .ref h_trm, .ref h_ter, (v_td 4), (v_td 5), (v_td 6), (v_td 7), (v_td 8), (v_td 9)])), (h_nam, .inl (cy_nam, 300, .inr (.inl f_nam))), (h_var, .inl (cy_var, 300, .inl f_var)), (h_trm, .inl (cy_trm, 300, .inl f_trm)), (h_ter, .inl (cy_ter, 900, .inl f_ter))] sz [.ref h_wr, .int p1, .int p2, .int p3]) (va_Qi (fun (r : Int32) (u : (Int32) × (Int32) × (Int32) × (Nat → Int32) × (Nat → Int32) × (Nat → Int32)) => (0 ≤ (u.1).toInt ∧ (u.1).toInt ≤ 600) ∧ (0 ≤ (u.2.1).toInt ∧ (u.2.1).toInt ≤ 616) ∧ (0 ≤ (u.2.2.1).toInt ∧ (u.2.2.1).toInt ≤ 2048) ∧ (Rg (-127) 9599 u.2.2.2.2.2)) (fun (u : (Int32) × (Int32) × (Int32) × (Nat → Int32) × (Nat → Int32) × (Nat → Int32)) (t : State) => va_P (dC, dI) cls [(h_wr, .inr (6, [.ref h_td, .ref h_bd, .ref h_wb, .int u.1, .ref h_wd, .int u.2.1, .ref h_wh, .int u.2.2.1])), (h_wb, .inl (cy_wb, 600, .inl u.2.2.2.1)), (h_wd, .inl (cy_wd, 616, .inl u.2.2.2.2.1)), (h_wh, .inl (cy_wh, 2048, .inl u.2.2.2.2.2)), (h_bd, .inr (1, [.ref h_td, .ref h_bnd, (v_bd 2), (v_bd 3), (v_bd 4), (v_bd 5), (v_bd 6), (v_bd 7), (v_bd 8), (v_bd 9), (v_bd 10), (v_bd 11), (v_bd 12)])), (h_bnd, .inl (cy_bnd, 256, .inl f_bnd)), (h_td, .inr (5, [.ref h_nam, .ref h_var, .ref h_trm, .ref h_ter, (v_td 4), (v_td 5), (v_td 6), (v_td 7), (v_td 8), (v_td 9)])), (h_nam, .inl (cy_nam, 300, .inr (.inl f_nam))), (h_var, .inl (cy_var, 300, .inl f_var)), (h_trm, .inl (cy_trm, 300, .inl f_trm)), (h_ter, .inl (cy_ter, 900, .inl f_ter))] t.heap ∧ va_D (va_A [(h_wr, .inr (6, [.ref h_td, .ref h_bd, .ref h_wb, .int x_wr_length, .ref h_wd, .int x_wr_drafted, .ref h_wh, .int x_wr_held])), (h_wb, .inl (cy_wb, 600, .inl f_wb)), (h_wd, .inl (cy_wd, 616, .inl f_wd)), (h_wh, .inl (cy_wh, 2048, .inl f_wh)), (h_bd, .inr (1, [.ref h_td, .ref h_bnd, (v_bd 2), (v_bd 3), (v_bd 4), (v_bd 5), (v_bd 6), (v_bd 7), (v_bd 8), (v_bd 9), (v_bd 10), (v_bd 11), (v_bd 12)])), (h_bnd, .inl (cy_bnd, 256, .inl f_bnd)), (h_td, .inr (5, [.ref h_nam, .ref h_var, .ref h_trm, .ref h_ter, (v_td 4), (v_td 5), (v_td 6), (v_td 7), (v_td 8), (v_td 9)])), (h_nam, .inl (cy_nam, 300, .inr (.inl f_nam))), (h_var, .inl (cy_var, 300, .inl f_var)), (h_trm, .inl (cy_trm, 300, .inl f_trm)), (h_ter, .inl (cy_ter, 900, .inl f_ter))] sz) [(h_wr, .inr (6, [.ref h_td, .ref h_bd, .ref h_wb, .int u.1, .ref h_wd, .int u.2.1, .ref h_wh, .int u.2.2.1])), (h_wb, .inl (cy_wb, 600, .inl u.2.2.2.1)), (h_wd, .inl (cy_wd, 616, .inl u.2.2.2.2.1)), (h_wh, .inl (cy_wh, 2048, .inl u.2.2.2.2.2)), (h_bd, .inr (1, [.ref h_td, .ref h_bnd, (v_bd 2), (v_bd 3), (v_bd 4), (v_bd 5), (v_bd 6), (v_bd 7), (v_bd 8), (v_bd 9), (v_bd 10), (v_bd 11), (v_bd 12)])), (h_bnd, .inl (cy_bnd, 256, .inl f_bnd)), (h_td, .inr (5, [.ref h_nam, .ref h_var, .ref h_trm, .ref h_ter, (v_td 4), (v_td 5), (v_td 6), (v_td 7), (v_td 8), (v_td 9)])), (h_nam, .inl (cy_nam, 300, .inr (.inl f_nam))), (h_var, .inl (cy_var, 300, .inl f_var)), (h_trm, .inl (cy_trm, 300, .inl f_trm)), (h_ter, .inl (cy_ter, 900, .inl f_ter))]) (va_A [(h_wr, .inr (6, [.ref h_td, .ref h_bd, .ref h_wb, .int x_wr_length, .ref h_wd, .int x_wr_drafted, .ref h_wh, .int x_wr_held])), (h_wb, .inl (cy_wb, 600, .inl f_wb)), (h_wd, .inl (cy_wd, 616, .inl f_wd)), (h_wh, .inl (cy_wh, 2048, .inl f_wh)), (h_bd, .inr (1, [.ref h_td, .ref h_bnd, (v_bd 2), (v_bd 3), (v_bd 4), (v_bd 5), (v_bd 6), (v_bd 7), (v_bd 8), (v_bd 9), (v_bd 10), (v_bd 11), (v_bd 12)])), (h_bnd, .inl (cy_bnd, 256, .inl f_bnd)), (h_td, .inr (5, [.ref h_nam, .ref h_var, .ref h_trm, .ref h_ter, (v_td 4), (v_td 5), (v_td 6), (v_td 7), (v_td 8), (v_td 9)])), (h_nam, .inl (cy_nam, 300, .inr (.inl f_nam))), (h_var, .inl (cy_var, 300, .inl f_var)), (h_trm, .inl (cy_trm, 300, .inl f_trm)), (h_ter, .inl (cy_ter, 900, .inl f_ter))] sz)) 0 0 (va_A [(h_wr, .inr (6, [.ref h_td, .ref h_bd, .ref h_wb, .int x_wr_length, .ref h_wd, .int x_wr_drafted, .ref h_wh, .int x_wr_held])), (h_wb, .inl (cy_wb, 600, .inl f_wb)), (h_wd, .inl (cy_wd, 616, .inl f_wd)), (h_wh, .inl (cy_wh, 2048, .inl f_wh)), (h_bd, .inr (1, [.ref h_td, .ref h_bnd, (v_bd 2), (v_bd 3), (v_bd 4), (v_bd 5), (v_bd 6), (v_bd 7), (v_bd 8), (v_bd 9), (v_bd 10), (v_bd 11), (v_bd 12)])), (h_bnd, .inl (cy_bnd, 256, .inl f_bnd)), (h_td, .inr (5, [.ref h_nam, .ref h_var, .ref h_trm, .ref h_ter, (v_td 4), (v_td 5), (v_td 6), (v_td 7), (v_td 8), (v_td 9)])), (h_nam, .inl (cy_nam, 300, .inr (.inl f_nam))), (h_var, .inl (cy_var, 300, .inl f_var)), (h_trm, .inl (cy_trm, 300, .inl f_trm)), (h_ter, .inl (cy_ter, 900, .inl f_ter))] sz) := by
  refine Met.ofW (cc := cX9_write) (maxL := 5) (ret := (some .int)) (by decide) rfl ?_
  intro p e s m args below meth c s₁ B hml hv
  obtain ⟨rfl, hsz, hP, hK, hD0, hN⟩ := hv
  have hx := B.exec
  have hb := B.bytes
  have hr := B.returns
  have hts := atoms_spec (ws := Ws yX9_write cX9_write 5 (some .int)) B.pre
  have hT : ∀ w ∈ WALL, w ∈ Ws yX9_write cX9_write 5 (some .int) := fun w h => List.mem_cons_of_mem _ h
  have hw := fun w (h : w ∈ WALL) => hts w (hT w h)
  have hown : s.vm.findClass RX9 = some m.cls := findClass_of_methodNamed B.named
  have hlocks := B.notSynchronized
  subst hsz
  have hD := hD0.self (sz := s.heap.size)
  generalize hAe : va_A [(h_wr, .inr (6, [.ref h_td, .ref h_bd, .ref h_wb, .int x_wr_length, .ref h_wd, .int x_wr_drafted, .ref h_wh, .int x_wr_held])), (h_wb, .inl (cy_wb, 600, .inl f_wb)), (h_wd, .inl (cy_wd, 616, .inl f_wd)), (h_wh, .inl (cy_wh, 2048, .inl f_wh)), (h_bd, .inr (1, [.ref h_td, .ref h_bnd, (v_bd 2), (v_bd 3), (v_bd 4), (v_bd 5), (v_bd 6), (v_bd 7), (v_bd 8), (v_bd 9), (v_bd 10), (v_bd 11), (v_bd 12)])), (h_bnd, .inl (cy_bnd, 256, .inl f_bnd)), (h_td, .inr (5, [.ref h_nam, .ref h_var, .ref h_trm, .ref h_ter, (v_td 4), (v_td 5), (v_td 6), (v_td 7), (v_td 8), (v_td 9)])), (h_nam, .inl (cy_nam, 300, .inr (.inl f_nam))), (h_var, .inl (cy_var, 300, .inl f_var)), (h_trm, .inl (cy_trm, 300, .inl f_trm)), (h_ter, .inl (cy_ter, 900, .inl f_ter))] s.heap.size = A at hD ⊢
  have hA : ∀ q : Nat, s.heap.size ≤ q → A q := fun q h => by rw [← hAe]; exact Or.inr h
  have hS : va_S A s.heap s.heap [] := va_S.rf
  have hl := lv_entry ([.ref h_wr, .int p1, .int p2, .int p3]) (n := 5) (Nat.le_of_ble_eq_true rfl)
  rw [lg_entry_eq]
  generalize (lg_sl ([.ref h_wr, .int p1, .int p2, .int p3]) ++ List.replicate (5 - (lg_sl ([.ref h_wr, .int p1, .int p2, .int p3])).length) Slot.unset).toArray = ls at hl ⊢
  have hl : lv_has ls 5 [(0, .ref h_wr), (1, .int p1), (2, .int p2), (3, .int p3)] := hl
  refine lv_aload_n hx hb dX9_write_0 rfl (lv_at hl 0 rfl) ?_
  refine lv_iconst (v := 0) hx hb dX9_write_1 (by decide) ?_
  refine va_put (D := (dC, dI)) (ci := 6) (v := .int 0) (ty := tyX9 5) (C := RX9) (T := TX9) (N := 8) hx hb hw iwX9 tyX9 tyX9_ok nmX9 hown hK hP hD hS 0 rfl rfl 5 (by decide) (hw _ w_f_X9_29) (fun _ h9 => h9) rfl (tyX9_ok 5 (by decide)) rfl rfl (Nat.le_of_ble_eq_true rfl) dX9_write_2 (fun H locs hP hD hS => ?_)
  have hP : va_P (dC, dI) cls [(h_wr, .inr (6, [.ref h_td, .ref h_bd, .ref h_wb, .int x_wr_length, .ref h_wd, .int 0, .ref h_wh, .int x_wr_held])), (h_wb, .inl (cy_wb, 600, .inl f_wb)), (h_wd, .inl (cy_wd, 616, .inl f_wd)), (h_wh, .inl (cy_wh, 2048, .inl f_wh)), (h_bd, .inr (1, [.ref h_td, .ref h_bnd, (v_bd 2), (v_bd 3), (v_bd 4), (v_bd 5), (v_bd 6), (v_bd 7), (v_bd 8), (v_bd 9), (v_bd 10), (v_bd 11), (v_bd 12)])), (h_bnd, .inl (cy_bnd, 256, .inl f_bnd)), (h_td, .inr (5, [.ref h_nam, .ref h_var, .ref h_trm, .ref h_ter, (v_td 4), (v_td 5), (v_td 6), (v_td 7), (v_td 8), (v_td 9)])), (h_nam, .inl (cy_nam, 300, .inr (.inl f_nam))), (h_var, .inl (cy_var, 300, .inl f_var)), (h_trm, .inl (cy_trm, 300, .inl f_trm)), (h_ter, .inl (cy_ter, 900, .inl f_ter))] H := hP
  have hD : va_D A [(h_wr, .inr (6, [.ref h_td, .ref h_bd, .ref h_wb, .int x_wr_length, .ref h_wd, .int 0, .ref h_wh, .int x_wr_held])), (h_wb, .inl (cy_wb, 600, .inl f_wb)), (h_wd, .inl (cy_wd, 616, .inl f_wd)), (h_wh, .inl (cy_wh, 2048, .inl f_wh)), (h_bd, .inr (1, [.ref h_td, .ref h_bnd, (v_bd 2), (v_bd 3), (v_bd 4), (v_bd 5), (v_bd 6), (v_bd 7), (v_bd 8), (v_bd 9), (v_bd 10), (v_bd 11), (v_bd 12)])), (h_bnd, .inl (cy_bnd, 256, .inl f_bnd)), (h_td, .inr (5, [.ref h_nam, .ref h_var, .ref h_trm, .ref h_ter, (v_td 4), (v_td 5), (v_td 6), (v_td 7), (v_td 8), (v_td 9)])), (h_nam, .inl (cy_nam, 300, .inr (.inl f_nam))), (h_var, .inl (cy_var, 300, .inl f_var)), (h_trm, .inl (cy_trm, 300, .inl f_trm)), (h_ter, .inl (cy_ter, 900, .inl f_ter))] := hD
  refine lv_iload_n hx hb dX9_write_5 rfl (lv_at hl 2 rfl) ?_
  refine lv_if_eq (tgt := 15) hx hb dX9_write_6 (by decide) (fun c1 => ?_) (fun c1 => ?_)
  · have kc1 := (cv_eq (rfl : (p2).toInt = (p2).toInt) (by decide : (0 : Int32).toInt = 0)).mp c1
    refine lv_aload_n hx hb dX9_write_15 rfl (lv_at hl 0 rfl) ?_
    refine va_get (D := (dC, dI)) (ci := 6) (v := .ref h_wh) (C := RX9) (T := TX9) (N := 8) hx hb hw iwX9 hown hK hP 0 rfl rfl 6 (by decide) (hw _ w_f_X9_18) (fun _ h9 => h9) rfl dX9_write_16 ?_
    refine lv_iconst (v := 0) hx hb dX9_write_19 (by decide) ?_
    refine lv_iload_n hx hb dX9_write_20 rfl (lv_at hl 1 rfl) ?_
    refine va_iast hx hb hK hP hD hS 3 2 rfl rfl (i := 0) (x := p1) (show ¬ _ from by decide) dX9_write_21 (fun H locs hP hD hS => ?_)
    obtain ⟨f2, ef2⟩ : ∃ g : Nat → Int32, g = upd f_wh (Int32.toNatClampNeg 0) p1 := ⟨_, rfl⟩
    have hP : va_P (dC, dI) cls [(h_wr, .inr (6, [.ref h_td, .ref h_bd, .ref h_wb, .int x_wr_length, .ref h_wd, .int 0, .ref h_wh, .int x_wr_held])), (h_wb, .inl (cy_wb, 600, .inl f_wb)), (h_wd, .inl (cy_wd, 616, .inl f_wd)), (h_wh, .inl (cy_wh, 2048, .inl f2)), (h_bd, .inr (1, [.ref h_td, .ref h_bnd, (v_bd 2), (v_bd 3), (v_bd 4), (v_bd 5), (v_bd 6), (v_bd 7), (v_bd 8), (v_bd 9), (v_bd 10), (v_bd 11), (v_bd 12)])), (h_bnd, .inl (cy_bnd, 256, .inl f_bnd)), (h_td, .inr (5, [.ref h_nam, .ref h_var, .ref h_trm, .ref h_ter, (v_td 4), (v_td 5), (v_td 6), (v_td 7), (v_td 8), (v_td 9)])), (h_nam, .inl (cy_nam, 300, .inr (.inl f_nam))), (h_var, .inl (cy_var, 300, .inl f_var)), (h_trm, .inl (cy_trm, 300, .inl f_trm)), (h_ter, .inl (cy_ter, 900, .inl f_ter))] H := by rw [ef2]; exact hP
    have hD : va_D A [(h_wr, .inr (6, [.ref h_td, .ref h_bd, .ref h_wb, .int x_wr_length, .ref h_wd, .int 0, .ref h_wh, .int x_wr_held])), (h_wb, .inl (cy_wb, 600, .inl f_wb)), (h_wd, .inl (cy_wd, 616, .inl f_wd)), (h_wh, .inl (cy_wh, 2048, .inl f2)), (h_bd, .inr (1, [.ref h_td, .ref h_bnd, (v_bd 2), (v_bd 3), (v_bd 4), (v_bd 5), (v_bd 6), (v_bd 7), (v_bd 8), (v_bd 9), (v_bd 10), (v_bd 11), (v_bd 12)])), (h_bnd, .inl (cy_bnd, 256, .inl f_bnd)), (h_td, .inr (5, [.ref h_nam, .ref h_var, .ref h_trm, .ref h_ter, (v_td 4), (v_td 5), (v_td 6), (v_td 7), (v_td 8), (v_td 9)])), (h_nam, .inl (cy_nam, 300, .inr (.inl f_nam))), (h_var, .inl (cy_var, 300, .inl f_var)), (h_trm, .inl (cy_trm, 300, .inl f_trm)), (h_ter, .inl (cy_ter, 900, .inl f_ter))] := by rw [ef2]; exact hD
    have hf2 : Rg (-127) 9599 f2 := by rw [ef2]; exact rg_upd hf_wh (by omega)
    clear ef2
    refine lv_aload_n hx hb dX9_write_22 rfl (lv_at hl 0 rfl) ?_
    refine lv_iconst (v := 1) hx hb dX9_write_23 (by decide) ?_
    refine va_put (D := (dC, dI)) (ci := 6) (v := .int 1) (ty := tyX9 7) (C := RX9) (T := TX9) (N := 8) hx hb hw iwX9 tyX9 tyX9_ok nmX9 hown hK hP hD hS 0 rfl rfl 7 (by decide) (hw _ w_f_X9_37) (fun _ h9 => h9) rfl (tyX9_ok 7 (by decide)) rfl rfl (Nat.le_of_ble_eq_true rfl) dX9_write_24 (fun H locs hP hD hS => ?_)
    have hP : va_P (dC, dI) cls [(h_wr, .inr (6, [.ref h_td, .ref h_bd, .ref h_wb, .int x_wr_length, .ref h_wd, .int 0, .ref h_wh, .int 1])), (h_wb, .inl (cy_wb, 600, .inl f_wb)), (h_wd, .inl (cy_wd, 616, .inl f_wd)), (h_wh, .inl (cy_wh, 2048, .inl f2)), (h_bd, .inr (1, [.ref h_td, .ref h_bnd, (v_bd 2), (v_bd 3), (v_bd 4), (v_bd 5), (v_bd 6), (v_bd 7), (v_bd 8), (v_bd 9), (v_bd 10), (v_bd 11), (v_bd 12)])), (h_bnd, .inl (cy_bnd, 256, .inl f_bnd)), (h_td, .inr (5, [.ref h_nam, .ref h_var, .ref h_trm, .ref h_ter, (v_td 4), (v_td 5), (v_td 6), (v_td 7), (v_td 8), (v_td 9)])), (h_nam, .inl (cy_nam, 300, .inr (.inl f_nam))), (h_var, .inl (cy_var, 300, .inl f_var)), (h_trm, .inl (cy_trm, 300, .inl f_trm)), (h_ter, .inl (cy_ter, 900, .inl f_ter))] H := hP
    have hD : va_D A [(h_wr, .inr (6, [.ref h_td, .ref h_bd, .ref h_wb, .int x_wr_length, .ref h_wd, .int 0, .ref h_wh, .int 1])), (h_wb, .inl (cy_wb, 600, .inl f_wb)), (h_wd, .inl (cy_wd, 616, .inl f_wd)), (h_wh, .inl (cy_wh, 2048, .inl f2)), (h_bd, .inr (1, [.ref h_td, .ref h_bnd, (v_bd 2), (v_bd 3), (v_bd 4), (v_bd 5), (v_bd 6), (v_bd 7), (v_bd 8), (v_bd 9), (v_bd 10), (v_bd 11), (v_bd 12)])), (h_bnd, .inl (cy_bnd, 256, .inl f_bnd)), (h_td, .inr (5, [.ref h_nam, .ref h_var, .ref h_trm, .ref h_ter, (v_td 4), (v_td 5), (v_td 6), (v_td 7), (v_td 8), (v_td 9)])), (h_nam, .inl (cy_nam, 300, .inr (.inl f_nam))), (h_var, .inl (cy_var, 300, .inl f_var)), (h_trm, .inl (cy_trm, 300, .inl f_trm)), (h_ter, .inl (cy_ter, 900, .inl f_ter))] := hD
    refine lv_iconst (v := 0) hx hb dX9_write_27 (by decide) ?_
    refine lv_istore (lv' := [(4, .int 0), (0, .ref h_wr), (1, .int p1), (2, .int p2), (3, .int p3)]) hx hb dX9_write_28 hl (by decide) rfl (fun ls hl => ?_)
    have lp8 : ∀ (n : Nat) (x3 : Int32) (x4 : Int32) (x5 : Int32) (f6 : Nat → Int32) (f7 : Nat → Int32) (H : Heap) (locs : List Loc) (ls : Array Slot), (0 ≤ (x3).toInt ∧ (x3).toInt ≤ 1000000) → (0 ≤ (x4).toInt ∧ (x4).toInt ≤ 616) → (0 ≤ (x5).toInt ∧ (x5).toInt ≤ 2048) → (Rg (-127) 9599 f7) → (1000000 - (x3).toInt).toNat + 1 ≤ n → va_P (dC, dI) cls [(h_wr, .inr (6, [.ref h_td, .ref h_bd, .ref h_wb, .int x_wr_length, .ref h_wd, .int x4, .ref h_wh, .int x5])), (h_wb, .inl (cy_wb, 600, .inl f_wb)), (h_wd, .inl (cy_wd, 616, .inl f6)), (h_wh, .inl (cy_wh, 2048, .inl f7)), (h_bd, .inr (1, [.ref h_td, .ref h_bnd, (v_bd 2), (v_bd 3), (v_bd 4), (v_bd 5), (v_bd 6), (v_bd 7), (v_bd 8), (v_bd 9), (v_bd 10), (v_bd 11), (v_bd 12)])), (h_bnd, .inl (cy_bnd, 256, .inl f_bnd)), (h_td, .inr (5, [.ref h_nam, .ref h_var, .ref h_trm, .ref h_ter, (v_td 4), (v_td 5), (v_td 6), (v_td 7), (v_td 8), (v_td 9)])), (h_nam, .inl (cy_nam, 300, .inr (.inl f_nam))), (h_var, .inl (cy_var, 300, .inl f_var)), (h_trm, .inl (cy_trm, 300, .inl f_trm)), (h_ter, .inl (cy_ter, 900, .inl f_ter))] H → va_D A [(h_wr, .inr (6, [.ref h_td, .ref h_bd, .ref h_wb, .int x_wr_length, .ref h_wd, .int x4, .ref h_wh, .int x5])), (h_wb, .inl (cy_wb, 600, .inl f_wb)), (h_wd, .inl (cy_wd, 616, .inl f6)), (h_wh, .inl (cy_wh, 2048, .inl f7)), (h_bd, .inr (1, [.ref h_td, .ref h_bnd, (v_bd 2), (v_bd 3), (v_bd 4), (v_bd 5), (v_bd 6), (v_bd 7), (v_bd 8), (v_bd 9), (v_bd 10), (v_bd 11), (v_bd 12)])), (h_bnd, .inl (cy_bnd, 256, .inl f_bnd)), (h_td, .inr (5, [.ref h_nam, .ref h_var, .ref h_trm, .ref h_ter, (v_td 4), (v_td 5), (v_td 6), (v_td 7), (v_td 8), (v_td 9)])), (h_nam, .inl (cy_nam, 300, .inr (.inl f_nam))), (h_var, .inl (cy_var, 300, .inl f_var)), (h_trm, .inl (cy_trm, 300, .inl f_trm)), (h_ter, .inl (cy_ter, 900, .inl f_ter))] → va_S A s.heap H locs → lv_has ls 5 [(0, .ref h_wr), (1, .int p1), (2, .int p2), (3, .int p3), (4, .int x3)] → W p l e ({ frames := 3, cells := 0, slots := 0, locals := 80 } : Room) s m ([.ref h_wr, .int p1, .int p2, .int p3] : List Value).toArray below meth c H locs 0 0 (MQ below (va_Qi (fun (r : Int32) (u : (Int32) × (Int32) × (Int32) × (Nat → Int32) × (Nat → Int32) × (Nat → Int32)) => (0 ≤ (u.1).toInt ∧ (u.1).toInt ≤ 600) ∧ (0 ≤ (u.2.1).toInt ∧ (u.2.1).toInt ≤ 616) ∧ (0 ≤ (u.2.2.1).toInt ∧ (u.2.2.1).toInt ≤ 2048) ∧ (Rg (-127) 9599 u.2.2.2.2.2)) (fun (u : (Int32) × (Int32) × (Int32) × (Nat → Int32) × (Nat → Int32) × (Nat → Int32)) (t : State) => va_P (dC, dI) cls [(h_wr, .inr (6, [.ref h_td, .ref h_bd, .ref h_wb, .int u.1, .ref h_wd, .int u.2.1, .ref h_wh, .int u.2.2.1])), (h_wb, .inl (cy_wb, 600, .inl u.2.2.2.1)), (h_wd, .inl (cy_wd, 616, .inl u.2.2.2.2.1)), (h_wh, .inl (cy_wh, 2048, .inl u.2.2.2.2.2)), (h_bd, .inr (1, [.ref h_td, .ref h_bnd, (v_bd 2), (v_bd 3), (v_bd 4), (v_bd 5), (v_bd 6), (v_bd 7), (v_bd 8), (v_bd 9), (v_bd 10), (v_bd 11), (v_bd 12)])), (h_bnd, .inl (cy_bnd, 256, .inl f_bnd)), (h_td, .inr (5, [.ref h_nam, .ref h_var, .ref h_trm, .ref h_ter, (v_td 4), (v_td 5), (v_td 6), (v_td 7), (v_td 8), (v_td 9)])), (h_nam, .inl (cy_nam, 300, .inr (.inl f_nam))), (h_var, .inl (cy_var, 300, .inl f_var)), (h_trm, .inl (cy_trm, 300, .inl f_trm)), (h_ter, .inl (cy_ter, 900, .inl f_ter))] t.heap ∧ va_D A [(h_wr, .inr (6, [.ref h_td, .ref h_bd, .ref h_wb, .int u.1, .ref h_wd, .int u.2.1, .ref h_wh, .int u.2.2.1])), (h_wb, .inl (cy_wb, 600, .inl u.2.2.2.1)), (h_wd, .inl (cy_wd, 616, .inl u.2.2.2.2.1)), (h_wh, .inl (cy_wh, 2048, .inl u.2.2.2.2.2)), (h_bd, .inr (1, [.ref h_td, .ref h_bnd, (v_bd 2), (v_bd 3), (v_bd 4), (v_bd 5), (v_bd 6), (v_bd 7), (v_bd 8), (v_bd 9), (v_bd 10), (v_bd 11), (v_bd 12)])), (h_bnd, .inl (cy_bnd, 256, .inl f_bnd)), (h_td, .inr (5, [.ref h_nam, .ref h_var, .ref h_trm, .ref h_ter, (v_td 4), (v_td 5), (v_td 6), (v_td 7), (v_td 8), (v_td 9)])), (h_nam, .inl (cy_nam, 300, .inr (.inl f_nam))), (h_var, .inl (cy_var, 300, .inl f_var)), (h_trm, .inl (cy_trm, 300, .inl f_trm)), (h_ter, .inl (cy_ter, 900, .inl f_ter))]) A) ([.ref h_wr, .int p1, .int p2, .int p3] : List Value).toArray s 0 0 A) (F0 m 30 ls []) := by
      intro n
      induction n with
      | zero => intro x3 x4 x5 f6 f7 H locs ls klp8_0 klp8_1 klp8_2 hf7 hm hP hD hS hl; exact False.elim (by omega)
      | succ n ih => 
        intro x3 x4 x5 f6 f7 H locs ls klp8_0 klp8_1 klp8_2 hf7 hm hP hD hS hl
        have ih9 := ih
        clear ih
        refine lv_iload hx hb dX9_write_30 (lv_at hl 4 rfl) ?_
        refine lv_ldc (v := 1000000) hx hb hown (hw _ w_k_X9_40) dX9_write_32 ?_
        refine lv_icmp_ge (tgt := 117) hx hb dX9_write_34 (by decide) (fun c10 => ?_) (fun c10 => ?_)
        · have kc10 := (cv_le (by decide : (1000000 : Int32).toInt = 1000000) (rfl : (x3).toInt = (x3).toInt)).mp c10
          refine lv_aload_n hx hb dX9_write_117 rfl (lv_at hl 0 rfl) ?_
          refine va_get (D := (dC, dI)) (ci := 6) (v := .int x5) (C := RX9) (T := TX9) (N := 8) hx hb hw iwX9 hown hK hP 0 rfl rfl 7 (by decide) (hw _ w_f_X9_37) (fun _ h9 => h9) rfl dX9_write_118 ?_
          refine lv_if_gt (tgt := 142) hx hb dX9_write_121 (by decide) (fun c11 => ?_) (fun c11 => ?_)
          · have kc11 := (cv_lt (by decide : (0 : Int32).toInt = 0) (rfl : (x5).toInt = (x5).toInt)).mp c11
            refine lv_iconst (v := (-1)) hx hb dX9_write_142 (by decide) ?_
            refine W.widen (k := 0) (n := 0) (Nat.le_of_ble_eq_true rfl) (Nat.le_of_ble_eq_true rfl) ?_
            have cstm1 : ((-1) : Int32).toInt = -1 := by decide
            have w12 : 0 ≤ ((x_wr_length)).toInt ∧ ((x_wr_length)).toInt ≤ 600 := by omega
            have w13 : 0 ≤ ((x4)).toInt ∧ ((x4)).toInt ≤ 616 := by omega
            have w14 : 0 ≤ ((x5)).toInt ∧ ((x5)).toInt ≤ 2048 := by omega
            exact W.iret (v := (-1)) hx hb hr (fun t ht hW => ⟨⟨(-1), (x_wr_length, x4, x5, f_wb, f6, f7), rfl, ⟨w12, w13, w14, hf7⟩, by rw [ht]; exact hP, hD⟩, hS.F ht⟩) hS.2.2 dX9_write_143
          · have kc11 := (not_congr (cv_lt (by decide : (0 : Int32).toInt = 0) (rfl : (x5).toInt = (x5).toInt))).mp c11
            refine lv_aload_n hx hb dX9_write_124 rfl (lv_at hl 0 rfl) ?_
            refine va_get (D := (dC, dI)) (ci := 6) (v := .int x4) (C := RX9) (T := TX9) (N := 8) hx hb hw iwX9 hown hK hP 0 rfl rfl 5 (by decide) (hw _ w_f_X9_29) (fun _ h9 => h9) rfl dX9_write_125 ?_
            refine lv_iload_n hx hb dX9_write_128 rfl (lv_at hl 3 rfl) ?_
            refine lv_icmp_gt (tgt := 142) hx hb dX9_write_129 (by decide) (fun c15 => ?_) (fun c15 => ?_)
            · have kc15 := (cv_lt (rfl : (p3).toInt = (p3).toInt) (rfl : (x4).toInt = (x4).toInt)).mp c15
              refine lv_iconst (v := (-1)) hx hb dX9_write_142 (by decide) ?_
              refine W.widen (k := 0) (n := 0) (Nat.le_of_ble_eq_true rfl) (Nat.le_of_ble_eq_true rfl) ?_
              have cstm1 : ((-1) : Int32).toInt = -1 := by decide
              have w16 : 0 ≤ ((x_wr_length)).toInt ∧ ((x_wr_length)).toInt ≤ 600 := by omega
              have w17 : 0 ≤ ((x4)).toInt ∧ ((x4)).toInt ≤ 616 := by omega
              have w18 : 0 ≤ ((x5)).toInt ∧ ((x5)).toInt ≤ 2048 := by omega
              exact W.iret (v := (-1)) hx hb hr (fun t ht hW => ⟨⟨(-1), (x_wr_length, x4, x5, f_wb, f6, f7), rfl, ⟨w16, w17, w18, hf7⟩, by rw [ht]; exact hP, hD⟩, hS.F ht⟩) hS.2.2 dX9_write_143
            · have kc15 := (not_congr (cv_lt (rfl : (p3).toInt = (p3).toInt) (rfl : (x4).toInt = (x4).toInt))).mp c15
              refine lv_aload_n hx hb dX9_write_132 rfl (lv_at hl 0 rfl) ?_
              refine va_get (D := (dC, dI)) (ci := 6) (v := .int x4) (C := RX9) (T := TX9) (N := 8) hx hb hw iwX9 hown hK hP 0 rfl rfl 5 (by decide) (hw _ w_f_X9_29) (fun _ h9 => h9) rfl dX9_write_133 ?_
              refine lv_sipush (v := 600) hx hb dX9_write_136 (by decide) ?_
              refine lv_icmp_le (tgt := 144) hx hb dX9_write_139 (by decide) (fun c19 => ?_) (fun c19 => ?_)
              · have kc19 := (cv_le (rfl : (x4).toInt = (x4).toInt) (by decide : (600 : Int32).toInt = 600)).mp c19
                refine lv_aload_n hx hb dX9_write_144 rfl (lv_at hl 0 rfl) ?_
                refine va_get (D := (dC, dI)) (ci := 6) (v := .ref h_wd) (C := RX9) (T := TX9) (N := 8) hx hb hw iwX9 hown hK hP 0 rfl rfl 4 (by decide) (hw _ w_f_X9_15) (fun _ h9 => h9) rfl dX9_write_145 ?_
                refine lv_iconst (v := 0) hx hb dX9_write_148 (by decide) ?_
                refine lv_aload_n hx hb dX9_write_149 rfl (lv_at hl 0 rfl) ?_
                refine va_get (D := (dC, dI)) (ci := 6) (v := .ref h_wb) (C := RX9) (T := TX9) (N := 8) hx hb hw iwX9 hown hK hP 0 rfl rfl 2 (by decide) (hw _ w_f_X9_9) (fun _ h9 => h9) rfl dX9_write_150 ?_
                refine lv_iconst (v := 0) hx hb dX9_write_153 (by decide) ?_
                refine lv_aload_n hx hb dX9_write_154 rfl (lv_at hl 0 rfl) ?_
                refine va_get (D := (dC, dI)) (ci := 6) (v := .int x4) (C := RX9) (T := TX9) (N := 8) hx hb hw iwX9 hown hK hP 0 rfl rfl 5 (by decide) (hw _ w_f_X9_29) (fun _ h9 => h9) rfl dX9_write_155 ?_
                refine va_copyi hx hb (hml.trans hl.1.symm) hown (hw _ w_m_X9_50) (hw _ w_acn) (hw _ w_acs) (hw _ w_ini_System) hK hP hD hS 2 1 1 0 (sp := 0) (dp := 0) (n := x4) rfl rfl rfl rfl rfl (by decide) (by decide) (fun q => by have := (cv_lt (rfl : (x4).toInt = (x4).toInt) (by decide : (0 : Int32).toInt = 0)).mp q; omega) (by have : (0 : Int32).toNatClampNeg = 0 := (by decide); have := clamp_toInt (i := x4) (by omega); omega) (by have : (0 : Int32).toNatClampNeg = 0 := (by decide); have := clamp_toInt (i := x4) (by omega); omega) (fun _ _ => rfl) (Nat.le_of_ble_eq_true rfl) (Nat.le_of_ble_eq_true rfl) dX9_write_158 (fun H locs hP hD hS => ?_)
                obtain ⟨f20, ef20⟩ : ∃ g : Nat → Int32, g = va_cpy f6 f_wb (Int32.toNatClampNeg 0) (Int32.toNatClampNeg 0) (Int32.toNatClampNeg x4) := ⟨_, rfl⟩
                have hP : va_P (dC, dI) cls [(h_wr, .inr (6, [.ref h_td, .ref h_bd, .ref h_wb, .int x_wr_length, .ref h_wd, .int x4, .ref h_wh, .int x5])), (h_wb, .inl (cy_wb, 600, .inl f20)), (h_wd, .inl (cy_wd, 616, .inl f6)), (h_wh, .inl (cy_wh, 2048, .inl f7)), (h_bd, .inr (1, [.ref h_td, .ref h_bnd, (v_bd 2), (v_bd 3), (v_bd 4), (v_bd 5), (v_bd 6), (v_bd 7), (v_bd 8), (v_bd 9), (v_bd 10), (v_bd 11), (v_bd 12)])), (h_bnd, .inl (cy_bnd, 256, .inl f_bnd)), (h_td, .inr (5, [.ref h_nam, .ref h_var, .ref h_trm, .ref h_ter, (v_td 4), (v_td 5), (v_td 6), (v_td 7), (v_td 8), (v_td 9)])), (h_nam, .inl (cy_nam, 300, .inr (.inl f_nam))), (h_var, .inl (cy_var, 300, .inl f_var)), (h_trm, .inl (cy_trm, 300, .inl f_trm)), (h_ter, .inl (cy_ter, 900, .inl f_ter))] H := by rw [ef20]; exact hP
                have hD : va_D A [(h_wr, .inr (6, [.ref h_td, .ref h_bd, .ref h_wb, .int x_wr_length, .ref h_wd, .int x4, .ref h_wh, .int x5])), (h_wb, .inl (cy_wb, 600, .inl f20)), (h_wd, .inl (cy_wd, 616, .inl f6)), (h_wh, .inl (cy_wh, 2048, .inl f7)), (h_bd, .inr (1, [.ref h_td, .ref h_bnd, (v_bd 2), (v_bd 3), (v_bd 4), (v_bd 5), (v_bd 6), (v_bd 7), (v_bd 8), (v_bd 9), (v_bd 10), (v_bd 11), (v_bd 12)])), (h_bnd, .inl (cy_bnd, 256, .inl f_bnd)), (h_td, .inr (5, [.ref h_nam, .ref h_var, .ref h_trm, .ref h_ter, (v_td 4), (v_td 5), (v_td 6), (v_td 7), (v_td 8), (v_td 9)])), (h_nam, .inl (cy_nam, 300, .inr (.inl f_nam))), (h_var, .inl (cy_var, 300, .inl f_var)), (h_trm, .inl (cy_trm, 300, .inl f_trm)), (h_ter, .inl (cy_ter, 900, .inl f_ter))] := by rw [ef20]; exact hD
                clear ef20
                refine lv_aload_n hx hb dX9_write_161 rfl (lv_at hl 0 rfl) ?_
                refine lv_aload_n hx hb dX9_write_162 rfl (lv_at hl 0 rfl) ?_
                refine va_get (D := (dC, dI)) (ci := 6) (v := .int x4) (C := RX9) (T := TX9) (N := 8) hx hb hw iwX9 hown hK hP 0 rfl rfl 5 (by decide) (hw _ w_f_X9_29) (fun _ h9 => h9) rfl dX9_write_163 ?_
                refine va_put (D := (dC, dI)) (ci := 6) (v := .int x4) (ty := tyX9 3) (C := RX9) (T := TX9) (N := 8) hx hb hw iwX9 tyX9 tyX9_ok nmX9 hown hK hP hD hS 0 rfl rfl 3 (by decide) (hw _ w_f_X9_56) (fun _ h9 => h9) rfl (tyX9_ok 3 (by decide)) rfl rfl (Nat.le_of_ble_eq_true rfl) dX9_write_166 (fun H locs hP hD hS => ?_)
                have hP : va_P (dC, dI) cls [(h_wr, .inr (6, [.ref h_td, .ref h_bd, .ref h_wb, .int x4, .ref h_wd, .int x4, .ref h_wh, .int x5])), (h_wb, .inl (cy_wb, 600, .inl f20)), (h_wd, .inl (cy_wd, 616, .inl f6)), (h_wh, .inl (cy_wh, 2048, .inl f7)), (h_bd, .inr (1, [.ref h_td, .ref h_bnd, (v_bd 2), (v_bd 3), (v_bd 4), (v_bd 5), (v_bd 6), (v_bd 7), (v_bd 8), (v_bd 9), (v_bd 10), (v_bd 11), (v_bd 12)])), (h_bnd, .inl (cy_bnd, 256, .inl f_bnd)), (h_td, .inr (5, [.ref h_nam, .ref h_var, .ref h_trm, .ref h_ter, (v_td 4), (v_td 5), (v_td 6), (v_td 7), (v_td 8), (v_td 9)])), (h_nam, .inl (cy_nam, 300, .inr (.inl f_nam))), (h_var, .inl (cy_var, 300, .inl f_var)), (h_trm, .inl (cy_trm, 300, .inl f_trm)), (h_ter, .inl (cy_ter, 900, .inl f_ter))] H := hP
                have hD : va_D A [(h_wr, .inr (6, [.ref h_td, .ref h_bd, .ref h_wb, .int x4, .ref h_wd, .int x4, .ref h_wh, .int x5])), (h_wb, .inl (cy_wb, 600, .inl f20)), (h_wd, .inl (cy_wd, 616, .inl f6)), (h_wh, .inl (cy_wh, 2048, .inl f7)), (h_bd, .inr (1, [.ref h_td, .ref h_bnd, (v_bd 2), (v_bd 3), (v_bd 4), (v_bd 5), (v_bd 6), (v_bd 7), (v_bd 8), (v_bd 9), (v_bd 10), (v_bd 11), (v_bd 12)])), (h_bnd, .inl (cy_bnd, 256, .inl f_bnd)), (h_td, .inr (5, [.ref h_nam, .ref h_var, .ref h_trm, .ref h_ter, (v_td 4), (v_td 5), (v_td 6), (v_td 7), (v_td 8), (v_td 9)])), (h_nam, .inl (cy_nam, 300, .inr (.inl f_nam))), (h_var, .inl (cy_var, 300, .inl f_var)), (h_trm, .inl (cy_trm, 300, .inl f_trm)), (h_ter, .inl (cy_ter, 900, .inl f_ter))] := hD
                refine lv_aload_n hx hb dX9_write_169 rfl (lv_at hl 0 rfl) ?_
                refine va_get (D := (dC, dI)) (ci := 6) (v := .int x4) (C := RX9) (T := TX9) (N := 8) hx hb hw iwX9 hown hK hP 0 rfl rfl 3 (by decide) (hw _ w_f_X9_56) (fun _ h9 => h9) rfl dX9_write_170 ?_
                refine W.widen (k := 0) (n := 0) (Nat.le_of_ble_eq_true rfl) (Nat.le_of_ble_eq_true rfl) ?_
                have w21 : 0 ≤ ((x4)).toInt ∧ ((x4)).toInt ≤ 600 := by omega
                have w22 : 0 ≤ ((x4)).toInt ∧ ((x4)).toInt ≤ 616 := by omega
                have w23 : 0 ≤ ((x5)).toInt ∧ ((x5)).toInt ≤ 2048 := by omega
                exact W.iret (v := x4) hx hb hr (fun t ht hW => ⟨⟨x4, (x4, x4, x5, f20, f6, f7), rfl, ⟨w21, w22, w23, hf7⟩, by rw [ht]; exact hP, hD⟩, hS.F ht⟩) hS.2.2 dX9_write_173
              · have kc19 := (not_congr (cv_le (rfl : (x4).toInt = (x4).toInt) (by decide : (600 : Int32).toInt = 600))).mp c19
                refine lv_iconst (v := (-1)) hx hb dX9_write_142 (by decide) ?_
                refine W.widen (k := 0) (n := 0) (Nat.le_of_ble_eq_true rfl) (Nat.le_of_ble_eq_true rfl) ?_
                have cstm1 : ((-1) : Int32).toInt = -1 := by decide
                have w24 : 0 ≤ ((x_wr_length)).toInt ∧ ((x_wr_length)).toInt ≤ 600 := by omega
                have w25 : 0 ≤ ((x4)).toInt ∧ ((x4)).toInt ≤ 616 := by omega
                have w26 : 0 ≤ ((x5)).toInt ∧ ((x5)).toInt ≤ 2048 := by omega
                exact W.iret (v := (-1)) hx hb hr (fun t ht hW => ⟨⟨(-1), (x_wr_length, x4, x5, f_wb, f6, f7), rfl, ⟨w24, w25, w26, hf7⟩, by rw [ht]; exact hP, hD⟩, hS.F ht⟩) hS.2.2 dX9_write_143
        · have kc10 := (not_congr (cv_le (by decide : (1000000 : Int32).toInt = 1000000) (rfl : (x3).toInt = (x3).toInt))).mp c10
          refine lv_aload_n hx hb dX9_write_37 rfl (lv_at hl 0 rfl) ?_
          refine va_get (D := (dC, dI)) (ci := 6) (v := .int x5) (C := RX9) (T := TX9) (N := 8) hx hb hw iwX9 hown hK hP 0 rfl rfl 7 (by decide) (hw _ w_f_X9_37) (fun _ h9 => h9) rfl dX9_write_38 ?_
          refine lv_if_le (tgt := 117) hx hb dX9_write_41 (by decide) (fun c27 => ?_) (fun c27 => ?_)
          · have kc27 := (cv_le (rfl : (x5).toInt = (x5).toInt) (by decide : (0 : Int32).toInt = 0)).mp c27
            refine lv_aload_n hx hb dX9_write_117 rfl (lv_at hl 0 rfl) ?_
            refine va_get (D := (dC, dI)) (ci := 6) (v := .int x5) (C := RX9) (T := TX9) (N := 8) hx hb hw iwX9 hown hK hP 0 rfl rfl 7 (by decide) (hw _ w_f_X9_37) (fun _ h9 => h9) rfl dX9_write_118 ?_
            refine lv_if_gt (tgt := 142) hx hb dX9_write_121 (by decide) (fun c28 => False.elim (by have kc28 := (cv_lt (by decide : (0 : Int32).toInt = 0) (rfl : (x5).toInt = (x5).toInt)).mp c28; omega)) (fun _ => ?_)
            refine lv_aload_n hx hb dX9_write_124 rfl (lv_at hl 0 rfl) ?_
            refine va_get (D := (dC, dI)) (ci := 6) (v := .int x4) (C := RX9) (T := TX9) (N := 8) hx hb hw iwX9 hown hK hP 0 rfl rfl 5 (by decide) (hw _ w_f_X9_29) (fun _ h9 => h9) rfl dX9_write_125 ?_
            refine lv_iload_n hx hb dX9_write_128 rfl (lv_at hl 3 rfl) ?_
            refine lv_icmp_gt (tgt := 142) hx hb dX9_write_129 (by decide) (fun c29 => ?_) (fun c29 => ?_)
            · have kc29 := (cv_lt (rfl : (p3).toInt = (p3).toInt) (rfl : (x4).toInt = (x4).toInt)).mp c29
              refine lv_iconst (v := (-1)) hx hb dX9_write_142 (by decide) ?_
              refine W.widen (k := 0) (n := 0) (Nat.le_of_ble_eq_true rfl) (Nat.le_of_ble_eq_true rfl) ?_
              have cstm1 : ((-1) : Int32).toInt = -1 := by decide
              have w30 : 0 ≤ ((x_wr_length)).toInt ∧ ((x_wr_length)).toInt ≤ 600 := by omega
              have w31 : 0 ≤ ((x4)).toInt ∧ ((x4)).toInt ≤ 616 := by omega
              have w32 : 0 ≤ ((x5)).toInt ∧ ((x5)).toInt ≤ 2048 := by omega
              exact W.iret (v := (-1)) hx hb hr (fun t ht hW => ⟨⟨(-1), (x_wr_length, x4, x5, f_wb, f6, f7), rfl, ⟨w30, w31, w32, hf7⟩, by rw [ht]; exact hP, hD⟩, hS.F ht⟩) hS.2.2 dX9_write_143
            · have kc29 := (not_congr (cv_lt (rfl : (p3).toInt = (p3).toInt) (rfl : (x4).toInt = (x4).toInt))).mp c29
              refine lv_aload_n hx hb dX9_write_132 rfl (lv_at hl 0 rfl) ?_
              refine va_get (D := (dC, dI)) (ci := 6) (v := .int x4) (C := RX9) (T := TX9) (N := 8) hx hb hw iwX9 hown hK hP 0 rfl rfl 5 (by decide) (hw _ w_f_X9_29) (fun _ h9 => h9) rfl dX9_write_133 ?_
              refine lv_sipush (v := 600) hx hb dX9_write_136 (by decide) ?_
              refine lv_icmp_le (tgt := 144) hx hb dX9_write_139 (by decide) (fun c33 => ?_) (fun c33 => ?_)
              · have kc33 := (cv_le (rfl : (x4).toInt = (x4).toInt) (by decide : (600 : Int32).toInt = 600)).mp c33
                refine lv_aload_n hx hb dX9_write_144 rfl (lv_at hl 0 rfl) ?_
                refine va_get (D := (dC, dI)) (ci := 6) (v := .ref h_wd) (C := RX9) (T := TX9) (N := 8) hx hb hw iwX9 hown hK hP 0 rfl rfl 4 (by decide) (hw _ w_f_X9_15) (fun _ h9 => h9) rfl dX9_write_145 ?_
                refine lv_iconst (v := 0) hx hb dX9_write_148 (by decide) ?_
                refine lv_aload_n hx hb dX9_write_149 rfl (lv_at hl 0 rfl) ?_
                refine va_get (D := (dC, dI)) (ci := 6) (v := .ref h_wb) (C := RX9) (T := TX9) (N := 8) hx hb hw iwX9 hown hK hP 0 rfl rfl 2 (by decide) (hw _ w_f_X9_9) (fun _ h9 => h9) rfl dX9_write_150 ?_
                refine lv_iconst (v := 0) hx hb dX9_write_153 (by decide) ?_
                refine lv_aload_n hx hb dX9_write_154 rfl (lv_at hl 0 rfl) ?_
                refine va_get (D := (dC, dI)) (ci := 6) (v := .int x4) (C := RX9) (T := TX9) (N := 8) hx hb hw iwX9 hown hK hP 0 rfl rfl 5 (by decide) (hw _ w_f_X9_29) (fun _ h9 => h9) rfl dX9_write_155 ?_
                refine va_copyi hx hb (hml.trans hl.1.symm) hown (hw _ w_m_X9_50) (hw _ w_acn) (hw _ w_acs) (hw _ w_ini_System) hK hP hD hS 2 1 1 0 (sp := 0) (dp := 0) (n := x4) rfl rfl rfl rfl rfl (by decide) (by decide) (fun q => by have := (cv_lt (rfl : (x4).toInt = (x4).toInt) (by decide : (0 : Int32).toInt = 0)).mp q; omega) (by have : (0 : Int32).toNatClampNeg = 0 := (by decide); have := clamp_toInt (i := x4) (by omega); omega) (by have : (0 : Int32).toNatClampNeg = 0 := (by decide); have := clamp_toInt (i := x4) (by omega); omega) (fun _ _ => rfl) (Nat.le_of_ble_eq_true rfl) (Nat.le_of_ble_eq_true rfl) dX9_write_158 (fun H locs hP hD hS => ?_)
                obtain ⟨f34, ef34⟩ : ∃ g : Nat → Int32, g = va_cpy f6 f_wb (Int32.toNatClampNeg 0) (Int32.toNatClampNeg 0) (Int32.toNatClampNeg x4) := ⟨_, rfl⟩
                have hP : va_P (dC, dI) cls [(h_wr, .inr (6, [.ref h_td, .ref h_bd, .ref h_wb, .int x_wr_length, .ref h_wd, .int x4, .ref h_wh, .int x5])), (h_wb, .inl (cy_wb, 600, .inl f34)), (h_wd, .inl (cy_wd, 616, .inl f6)), (h_wh, .inl (cy_wh, 2048, .inl f7)), (h_bd, .inr (1, [.ref h_td, .ref h_bnd, (v_bd 2), (v_bd 3), (v_bd 4), (v_bd 5), (v_bd 6), (v_bd 7), (v_bd 8), (v_bd 9), (v_bd 10), (v_bd 11), (v_bd 12)])), (h_bnd, .inl (cy_bnd, 256, .inl f_bnd)), (h_td, .inr (5, [.ref h_nam, .ref h_var, .ref h_trm, .ref h_ter, (v_td 4), (v_td 5), (v_td 6), (v_td 7), (v_td 8), (v_td 9)])), (h_nam, .inl (cy_nam, 300, .inr (.inl f_nam))), (h_var, .inl (cy_var, 300, .inl f_var)), (h_trm, .inl (cy_trm, 300, .inl f_trm)), (h_ter, .inl (cy_ter, 900, .inl f_ter))] H := by rw [ef34]; exact hP
                have hD : va_D A [(h_wr, .inr (6, [.ref h_td, .ref h_bd, .ref h_wb, .int x_wr_length, .ref h_wd, .int x4, .ref h_wh, .int x5])), (h_wb, .inl (cy_wb, 600, .inl f34)), (h_wd, .inl (cy_wd, 616, .inl f6)), (h_wh, .inl (cy_wh, 2048, .inl f7)), (h_bd, .inr (1, [.ref h_td, .ref h_bnd, (v_bd 2), (v_bd 3), (v_bd 4), (v_bd 5), (v_bd 6), (v_bd 7), (v_bd 8), (v_bd 9), (v_bd 10), (v_bd 11), (v_bd 12)])), (h_bnd, .inl (cy_bnd, 256, .inl f_bnd)), (h_td, .inr (5, [.ref h_nam, .ref h_var, .ref h_trm, .ref h_ter, (v_td 4), (v_td 5), (v_td 6), (v_td 7), (v_td 8), (v_td 9)])), (h_nam, .inl (cy_nam, 300, .inr (.inl f_nam))), (h_var, .inl (cy_var, 300, .inl f_var)), (h_trm, .inl (cy_trm, 300, .inl f_trm)), (h_ter, .inl (cy_ter, 900, .inl f_ter))] := by rw [ef34]; exact hD
                clear ef34
                refine lv_aload_n hx hb dX9_write_161 rfl (lv_at hl 0 rfl) ?_
                refine lv_aload_n hx hb dX9_write_162 rfl (lv_at hl 0 rfl) ?_
                refine va_get (D := (dC, dI)) (ci := 6) (v := .int x4) (C := RX9) (T := TX9) (N := 8) hx hb hw iwX9 hown hK hP 0 rfl rfl 5 (by decide) (hw _ w_f_X9_29) (fun _ h9 => h9) rfl dX9_write_163 ?_
                refine va_put (D := (dC, dI)) (ci := 6) (v := .int x4) (ty := tyX9 3) (C := RX9) (T := TX9) (N := 8) hx hb hw iwX9 tyX9 tyX9_ok nmX9 hown hK hP hD hS 0 rfl rfl 3 (by decide) (hw _ w_f_X9_56) (fun _ h9 => h9) rfl (tyX9_ok 3 (by decide)) rfl rfl (Nat.le_of_ble_eq_true rfl) dX9_write_166 (fun H locs hP hD hS => ?_)
                have hP : va_P (dC, dI) cls [(h_wr, .inr (6, [.ref h_td, .ref h_bd, .ref h_wb, .int x4, .ref h_wd, .int x4, .ref h_wh, .int x5])), (h_wb, .inl (cy_wb, 600, .inl f34)), (h_wd, .inl (cy_wd, 616, .inl f6)), (h_wh, .inl (cy_wh, 2048, .inl f7)), (h_bd, .inr (1, [.ref h_td, .ref h_bnd, (v_bd 2), (v_bd 3), (v_bd 4), (v_bd 5), (v_bd 6), (v_bd 7), (v_bd 8), (v_bd 9), (v_bd 10), (v_bd 11), (v_bd 12)])), (h_bnd, .inl (cy_bnd, 256, .inl f_bnd)), (h_td, .inr (5, [.ref h_nam, .ref h_var, .ref h_trm, .ref h_ter, (v_td 4), (v_td 5), (v_td 6), (v_td 7), (v_td 8), (v_td 9)])), (h_nam, .inl (cy_nam, 300, .inr (.inl f_nam))), (h_var, .inl (cy_var, 300, .inl f_var)), (h_trm, .inl (cy_trm, 300, .inl f_trm)), (h_ter, .inl (cy_ter, 900, .inl f_ter))] H := hP
                have hD : va_D A [(h_wr, .inr (6, [.ref h_td, .ref h_bd, .ref h_wb, .int x4, .ref h_wd, .int x4, .ref h_wh, .int x5])), (h_wb, .inl (cy_wb, 600, .inl f34)), (h_wd, .inl (cy_wd, 616, .inl f6)), (h_wh, .inl (cy_wh, 2048, .inl f7)), (h_bd, .inr (1, [.ref h_td, .ref h_bnd, (v_bd 2), (v_bd 3), (v_bd 4), (v_bd 5), (v_bd 6), (v_bd 7), (v_bd 8), (v_bd 9), (v_bd 10), (v_bd 11), (v_bd 12)])), (h_bnd, .inl (cy_bnd, 256, .inl f_bnd)), (h_td, .inr (5, [.ref h_nam, .ref h_var, .ref h_trm, .ref h_ter, (v_td 4), (v_td 5), (v_td 6), (v_td 7), (v_td 8), (v_td 9)])), (h_nam, .inl (cy_nam, 300, .inr (.inl f_nam))), (h_var, .inl (cy_var, 300, .inl f_var)), (h_trm, .inl (cy_trm, 300, .inl f_trm)), (h_ter, .inl (cy_ter, 900, .inl f_ter))] := hD
                refine lv_aload_n hx hb dX9_write_169 rfl (lv_at hl 0 rfl) ?_
                refine va_get (D := (dC, dI)) (ci := 6) (v := .int x4) (C := RX9) (T := TX9) (N := 8) hx hb hw iwX9 hown hK hP 0 rfl rfl 3 (by decide) (hw _ w_f_X9_56) (fun _ h9 => h9) rfl dX9_write_170 ?_
                refine W.widen (k := 0) (n := 0) (Nat.le_of_ble_eq_true rfl) (Nat.le_of_ble_eq_true rfl) ?_
                have w35 : 0 ≤ ((x4)).toInt ∧ ((x4)).toInt ≤ 600 := by omega
                have w36 : 0 ≤ ((x4)).toInt ∧ ((x4)).toInt ≤ 616 := by omega
                have w37 : 0 ≤ ((x5)).toInt ∧ ((x5)).toInt ≤ 2048 := by omega
                exact W.iret (v := x4) hx hb hr (fun t ht hW => ⟨⟨x4, (x4, x4, x5, f34, f6, f7), rfl, ⟨w35, w36, w37, hf7⟩, by rw [ht]; exact hP, hD⟩, hS.F ht⟩) hS.2.2 dX9_write_173
              · have kc33 := (not_congr (cv_le (rfl : (x4).toInt = (x4).toInt) (by decide : (600 : Int32).toInt = 600))).mp c33
                refine lv_iconst (v := (-1)) hx hb dX9_write_142 (by decide) ?_
                refine W.widen (k := 0) (n := 0) (Nat.le_of_ble_eq_true rfl) (Nat.le_of_ble_eq_true rfl) ?_
                have cstm1 : ((-1) : Int32).toInt = -1 := by decide
                have w38 : 0 ≤ ((x_wr_length)).toInt ∧ ((x_wr_length)).toInt ≤ 600 := by omega
                have w39 : 0 ≤ ((x4)).toInt ∧ ((x4)).toInt ≤ 616 := by omega
                have w40 : 0 ≤ ((x5)).toInt ∧ ((x5)).toInt ≤ 2048 := by omega
                exact W.iret (v := (-1)) hx hb hr (fun t ht hW => ⟨⟨(-1), (x_wr_length, x4, x5, f_wb, f6, f7), rfl, ⟨w38, w39, w40, hf7⟩, by rw [ht]; exact hP, hD⟩, hS.F ht⟩) hS.2.2 dX9_write_143
          · have kc27 := (not_congr (cv_le (rfl : (x5).toInt = (x5).toInt) (by decide : (0 : Int32).toInt = 0))).mp c27
            refine lv_aload_n hx hb dX9_write_44 rfl (lv_at hl 0 rfl) ?_
            refine va_get (D := (dC, dI)) (ci := 6) (v := .int x4) (C := RX9) (T := TX9) (N := 8) hx hb hw iwX9 hown hK hP 0 rfl rfl 5 (by decide) (hw _ w_f_X9_29) (fun _ h9 => h9) rfl dX9_write_45 ?_
            refine lv_iload_n hx hb dX9_write_48 rfl (lv_at hl 3 rfl) ?_
            refine lv_icmp_gt (tgt := 117) hx hb dX9_write_49 (by decide) (fun c41 => ?_) (fun c41 => ?_)
            · have kc41 := (cv_lt (rfl : (p3).toInt = (p3).toInt) (rfl : (x4).toInt = (x4).toInt)).mp c41
              refine lv_aload_n hx hb dX9_write_117 rfl (lv_at hl 0 rfl) ?_
              refine va_get (D := (dC, dI)) (ci := 6) (v := .int x5) (C := RX9) (T := TX9) (N := 8) hx hb hw iwX9 hown hK hP 0 rfl rfl 7 (by decide) (hw _ w_f_X9_37) (fun _ h9 => h9) rfl dX9_write_118 ?_
              refine lv_if_gt (tgt := 142) hx hb dX9_write_121 (by decide) (fun _ => ?_) (fun c42 => False.elim (by have kc42 := (not_congr (cv_lt (by decide : (0 : Int32).toInt = 0) (rfl : (x5).toInt = (x5).toInt))).mp c42; omega))
              refine lv_iconst (v := (-1)) hx hb dX9_write_142 (by decide) ?_
              refine W.widen (k := 0) (n := 0) (Nat.le_of_ble_eq_true rfl) (Nat.le_of_ble_eq_true rfl) ?_
              have cstm1 : ((-1) : Int32).toInt = -1 := by decide
              have w43 : 0 ≤ ((x_wr_length)).toInt ∧ ((x_wr_length)).toInt ≤ 600 := by omega
              have w44 : 0 ≤ ((x4)).toInt ∧ ((x4)).toInt ≤ 616 := by omega
              have w45 : 0 ≤ ((x5)).toInt ∧ ((x5)).toInt ≤ 2048 := by omega
              exact W.iret (v := (-1)) hx hb hr (fun t ht hW => ⟨⟨(-1), (x_wr_length, x4, x5, f_wb, f6, f7), rfl, ⟨w43, w44, w45, hf7⟩, by rw [ht]; exact hP, hD⟩, hS.F ht⟩) hS.2.2 dX9_write_143
            · have kc41 := (not_congr (cv_lt (rfl : (p3).toInt = (p3).toInt) (rfl : (x4).toInt = (x4).toInt))).mp c41
              refine lv_aload_n hx hb dX9_write_52 rfl (lv_at hl 0 rfl) ?_
              refine lv_dup hx hb dX9_write_53 rfl ?_
              refine va_get (D := (dC, dI)) (ci := 6) (v := .int x5) (C := RX9) (T := TX9) (N := 8) hx hb hw iwX9 hown hK hP 0 rfl rfl 7 (by decide) (hw _ w_f_X9_37) (fun _ h9 => h9) rfl dX9_write_54 ?_
              refine lv_iconst (v := 1) hx hb dX9_write_57 (by decide) ?_
              refine lv_isub hx hb dX9_write_58 ?_
              refine lv_topi (fun z46 ez46 => ?_)
              have tz46 : (z46).toInt = (x5).toInt - 1 := by rw [ez46]; exact i_sub rfl (by decide) (by omega)
              refine va_put (D := (dC, dI)) (ci := 6) (v := .int z46) (ty := tyX9 7) (C := RX9) (T := TX9) (N := 8) hx hb hw iwX9 tyX9 tyX9_ok nmX9 hown hK hP hD hS 0 rfl rfl 7 (by decide) (hw _ w_f_X9_37) (fun _ h9 => h9) rfl (tyX9_ok 7 (by decide)) rfl rfl (Nat.le_of_ble_eq_true rfl) dX9_write_59 (fun H locs hP hD hS => ?_)
              have hP : va_P (dC, dI) cls [(h_wr, .inr (6, [.ref h_td, .ref h_bd, .ref h_wb, .int x_wr_length, .ref h_wd, .int x4, .ref h_wh, .int z46])), (h_wb, .inl (cy_wb, 600, .inl f_wb)), (h_wd, .inl (cy_wd, 616, .inl f6)), (h_wh, .inl (cy_wh, 2048, .inl f7)), (h_bd, .inr (1, [.ref h_td, .ref h_bnd, (v_bd 2), (v_bd 3), (v_bd 4), (v_bd 5), (v_bd 6), (v_bd 7), (v_bd 8), (v_bd 9), (v_bd 10), (v_bd 11), (v_bd 12)])), (h_bnd, .inl (cy_bnd, 256, .inl f_bnd)), (h_td, .inr (5, [.ref h_nam, .ref h_var, .ref h_trm, .ref h_ter, (v_td 4), (v_td 5), (v_td 6), (v_td 7), (v_td 8), (v_td 9)])), (h_nam, .inl (cy_nam, 300, .inr (.inl f_nam))), (h_var, .inl (cy_var, 300, .inl f_var)), (h_trm, .inl (cy_trm, 300, .inl f_trm)), (h_ter, .inl (cy_ter, 900, .inl f_ter))] H := hP
              have hD : va_D A [(h_wr, .inr (6, [.ref h_td, .ref h_bd, .ref h_wb, .int x_wr_length, .ref h_wd, .int x4, .ref h_wh, .int z46])), (h_wb, .inl (cy_wb, 600, .inl f_wb)), (h_wd, .inl (cy_wd, 616, .inl f6)), (h_wh, .inl (cy_wh, 2048, .inl f7)), (h_bd, .inr (1, [.ref h_td, .ref h_bnd, (v_bd 2), (v_bd 3), (v_bd 4), (v_bd 5), (v_bd 6), (v_bd 7), (v_bd 8), (v_bd 9), (v_bd 10), (v_bd 11), (v_bd 12)])), (h_bnd, .inl (cy_bnd, 256, .inl f_bnd)), (h_td, .inr (5, [.ref h_nam, .ref h_var, .ref h_trm, .ref h_ter, (v_td 4), (v_td 5), (v_td 6), (v_td 7), (v_td 8), (v_td 9)])), (h_nam, .inl (cy_nam, 300, .inr (.inl f_nam))), (h_var, .inl (cy_var, 300, .inl f_var)), (h_trm, .inl (cy_trm, 300, .inl f_trm)), (h_ter, .inl (cy_ter, 900, .inl f_ter))] := hD
              refine lv_aload_n hx hb dX9_write_62 rfl (lv_at hl 0 rfl) ?_
              refine va_get (D := (dC, dI)) (ci := 6) (v := .ref h_wh) (C := RX9) (T := TX9) (N := 8) hx hb hw iwX9 hown hK hP 0 rfl rfl 6 (by decide) (hw _ w_f_X9_18) (fun _ h9 => h9) rfl dX9_write_63 ?_
              refine lv_aload_n hx hb dX9_write_66 rfl (lv_at hl 0 rfl) ?_
              refine va_get (D := (dC, dI)) (ci := 6) (v := .int z46) (C := RX9) (T := TX9) (N := 8) hx hb hw iwX9 hown hK hP 0 rfl rfl 7 (by decide) (hw _ w_f_X9_37) (fun _ h9 => h9) rfl dX9_write_67 ?_
              refine va_iald hx hb hK hP 3 2 rfl rfl (i := z46) (vp_in_iff.mpr (by omega)) dX9_write_70 ?_
              refine lv_topi (fun z47 ez47 => ?_)
              have rz47 : -127 ≤ (z47).toInt ∧ (z47).toInt ≤ 9599 := by rw [ez47]; exact hf7 _
              refine lv_if_ge (tgt := 91) hx hb dX9_write_71 (by decide) (fun c48 => ?_) (fun c48 => ?_)
              · have kc48 := (cv_le (by decide : (0 : Int32).toInt = 0) (rfl : (z47).toInt = (z47).toInt)).mp c48
                refine lv_aload_n hx hb dX9_write_91 rfl (lv_at hl 0 rfl) ?_
                refine lv_aload_n hx hb dX9_write_92 rfl (lv_at hl 0 rfl) ?_
                refine va_get (D := (dC, dI)) (ci := 6) (v := .ref h_bd) (C := RX9) (T := TX9) (N := 8) hx hb hw iwX9 hown hK hP 0 rfl rfl 1 (by decide) (hw _ w_f_X9_25) (fun _ h9 => h9) rfl dX9_write_93 ?_
                refine lv_aload_n hx hb dX9_write_96 rfl (lv_at hl 0 rfl) ?_
                refine va_get (D := (dC, dI)) (ci := 6) (v := .ref h_wh) (C := RX9) (T := TX9) (N := 8) hx hb hw iwX9 hown hK hP 0 rfl rfl 6 (by decide) (hw _ w_f_X9_18) (fun _ h9 => h9) rfl dX9_write_97 ?_
                refine lv_aload_n hx hb dX9_write_100 rfl (lv_at hl 0 rfl) ?_
                refine va_get (D := (dC, dI)) (ci := 6) (v := .int z46) (C := RX9) (T := TX9) (N := 8) hx hb hw iwX9 hown hK hP 0 rfl rfl 7 (by decide) (hw _ w_f_X9_37) (fun _ h9 => h9) rfl dX9_write_101 ?_
                refine va_iald hx hb hK hP 3 2 rfl rfl (i := z46) (vp_in_iff.mpr (by omega)) dX9_write_104 ?_
                refine lv_topi (fun z49 ez49 => ?_)
                have qz49 : (z49).toInt = (z47).toInt := by rw [ez49, ez47]
                have rz49 : -127 ≤ (z49).toInt ∧ (z49).toInt ≤ 9599 := by rw [ez49]; exact hf7 _
                have hPc := hP.sub (ws' := [(h_bd, .inr (1, [.ref h_td, .ref h_bnd, (v_bd 2), (v_bd 3), (v_bd 4), (v_bd 5), (v_bd 6), (v_bd 7), (v_bd 8), (v_bd 9), (v_bd 10), (v_bd 11), (v_bd 12)])), (h_bnd, .inl (cy_bnd, 256, .inl f_bnd)), (h_td, .inr (5, [.ref h_nam, .ref h_var, .ref h_trm, .ref h_ter, (v_td 4), (v_td 5), (v_td 6), (v_td 7), (v_td 8), (v_td 9)])), (h_var, .inl (cy_var, 300, .inl f_var))]) [4, 5, 6, 8] rfl
                have hDc := hD.sub (ws' := [(h_bd, .inr (1, [.ref h_td, .ref h_bnd, (v_bd 2), (v_bd 3), (v_bd 4), (v_bd 5), (v_bd 6), (v_bd 7), (v_bd 8), (v_bd 9), (v_bd 10), (v_bd 11), (v_bd 12)])), (h_bnd, .inl (cy_bnd, 256, .inl f_bnd)), (h_td, .inr (5, [.ref h_nam, .ref h_var, .ref h_trm, .ref h_ter, (v_td 4), (v_td 5), (v_td 6), (v_td 7), (v_td 8), (v_td 9)])), (h_var, .inl (cy_var, 300, .inl f_var))]) [4, 5, 6, 8] (by decide) rfl
                have hKc := hK.sub (tys' := [(cy_bnd, .int), (cy_var, .int)]) [3, 5] rfl
                have hFc := va_free (wc := [(h_bd, .inr (1, [.ref h_td, .ref h_bnd, (v_bd 2), (v_bd 3), (v_bd 4), (v_bd 5), (v_bd 6), (v_bd 7), (v_bd 8), (v_bd 9), (v_bd 10), (v_bd 11), (v_bd 12)])), (h_bnd, .inl (cy_bnd, 256, .inl f_bnd)), (h_td, .inr (5, [.ref h_nam, .ref h_var, .ref h_trm, .ref h_ter, (v_td 4), (v_td 5), (v_td 6), (v_td 7), (v_td 8), (v_td 9)])), (h_var, .inl (cy_var, 300, .inl f_var))]) hD hS hA [4, 5, 6, 8] rfl
                refine va_calli (va_runVN (As := [.int z49]) (rest := [.ref h_wr]) ⟨hx, hb, hml, hown, hts⟩ (c_X1_bare l dC dI H.size h_bd h_bnd h_td h_var v_bd cy_bnd f_bnd (fun k => List.getD [.ref h_nam, .ref h_var, .ref h_trm, .ref h_ter, (v_td 4), (v_td 5), (v_td 6), (v_td 7), (v_td 8), (v_td 9)] k .null) cy_var f_var z49 hf_bnd hf_var (by omega)) ⟨va_cnB (host := "OppositePairs") 1 hts (gd hT w_code_X1_bare) rfl rfl rfl (hN _ n_m_X9_41) (hw _ w_ini_X1) (by decide +kernel) ⟨(Nat.le_of_ble_eq_true rfl), (Nat.le_of_ble_eq_true rfl)⟩, hw _ w_instanceMethod_X1_bare, hw _ ws_sel_X1_bare⟩ ⟨pre_blind, va_recv hK hP (ci := 1) (q0 := 4) rfl rfl, pre_of hPc hKc hDc hN⟩ rfl rfl hl.1 rfl (lv_room (Nat.le_of_ble_eq_true rfl)) dX9_write_105 ⟨(Nat.le_of_ble_eq_true rfl), (Nat.le_of_ble_eq_true rfl)⟩) hS (fun q _ h => hFc q h) hFc (fun r50 u t H locs ht hvm hq hB hz1 hk1 hS => ?_)
                obtain ⟨hP1, hD1⟩ := hB
                rw [ht] at hP1
                obtain ⟨hP, hD⟩ := va_join (wr := [(h_wr, .inr (6, [.ref h_td, .ref h_bd, .ref h_wb, .int x_wr_length, .ref h_wd, .int x4, .ref h_wh, .int z46])), (h_wb, .inl (cy_wb, 600, .inl f_wb)), (h_wd, .inl (cy_wd, 616, .inl f6)), (h_wh, .inl (cy_wh, 2048, .inl f7)), (h_nam, .inl (cy_nam, 300, .inr (.inl f_nam))), (h_trm, .inl (cy_trm, 300, .inl f_trm)), (h_ter, .inl (cy_ter, 900, .inl f_ter))]) (w1 := [(h_bd, .inr (1, [.ref h_td, .ref h_bnd, (v_bd 2), (v_bd 3), (v_bd 4), (v_bd 5), (v_bd 6), (v_bd 7), (v_bd 8), (v_bd 9), (v_bd 10), (v_bd 11), (v_bd 12)])), (h_bnd, .inl (cy_bnd, 256, .inl f_bnd)), (h_td, .inr (5, [.ref h_nam, .ref h_var, .ref h_trm, .ref h_ter, (v_td 4), (v_td 5), (v_td 6), (v_td 7), (v_td 8), (v_td 9)])), (h_var, .inl (cy_var, 300, .inl f_var))]) hP hD [4, 5, 6, 8] [0, 1, 2, 3, 7, 9, 10] rfl rfl (by decide) (by decide) hk1 hFc hP1 hD1
                have hP : va_P (dC, dI) cls [(h_wr, .inr (6, [.ref h_td, .ref h_bd, .ref h_wb, .int x_wr_length, .ref h_wd, .int x4, .ref h_wh, .int z46])), (h_wb, .inl (cy_wb, 600, .inl f_wb)), (h_wd, .inl (cy_wd, 616, .inl f6)), (h_wh, .inl (cy_wh, 2048, .inl f7)), (h_nam, .inl (cy_nam, 300, .inr (.inl f_nam))), (h_trm, .inl (cy_trm, 300, .inl f_trm)), (h_ter, .inl (cy_ter, 900, .inl f_ter)), (h_bd, .inr (1, [.ref h_td, .ref h_bnd, (v_bd 2), (v_bd 3), (v_bd 4), (v_bd 5), (v_bd 6), (v_bd 7), (v_bd 8), (v_bd 9), (v_bd 10), (v_bd 11), (v_bd 12)])), (h_bnd, .inl (cy_bnd, 256, .inl f_bnd)), (h_td, .inr (5, [.ref h_nam, .ref h_var, .ref h_trm, .ref h_ter, (v_td 4), (v_td 5), (v_td 6), (v_td 7), (v_td 8), (v_td 9)])), (h_var, .inl (cy_var, 300, .inl f_var))] H := hP
                have hD : va_D A [(h_wr, .inr (6, [.ref h_td, .ref h_bd, .ref h_wb, .int x_wr_length, .ref h_wd, .int x4, .ref h_wh, .int z46])), (h_wb, .inl (cy_wb, 600, .inl f_wb)), (h_wd, .inl (cy_wd, 616, .inl f6)), (h_wh, .inl (cy_wh, 2048, .inl f7)), (h_nam, .inl (cy_nam, 300, .inr (.inl f_nam))), (h_trm, .inl (cy_trm, 300, .inl f_trm)), (h_ter, .inl (cy_ter, 900, .inl f_ter)), (h_bd, .inr (1, [.ref h_td, .ref h_bnd, (v_bd 2), (v_bd 3), (v_bd 4), (v_bd 5), (v_bd 6), (v_bd 7), (v_bd 8), (v_bd 9), (v_bd 10), (v_bd 11), (v_bd 12)])), (h_bnd, .inl (cy_bnd, 256, .inl f_bnd)), (h_td, .inr (5, [.ref h_nam, .ref h_var, .ref h_trm, .ref h_ter, (v_td 4), (v_td 5), (v_td 6), (v_td 7), (v_td 8), (v_td 9)])), (h_var, .inl (cy_var, 300, .inl f_var))] := hD
                have k51 : 0 ≤ (r50).toInt ∧ (r50).toInt ≤ 9599 := hq
                have hPc := hP.sub (ws' := [(h_wr, .inr (6, [.ref h_td, .ref h_bd, .ref h_wb, .int x_wr_length, .ref h_wd, .int x4, .ref h_wh, .int z46])), (h_wd, .inl (cy_wd, 616, .inl f6)), (h_wh, .inl (cy_wh, 2048, .inl f7)), (h_td, .inr (5, [.ref h_nam, .ref h_var, .ref h_trm, .ref h_ter, (v_td 4), (v_td 5), (v_td 6), (v_td 7), (v_td 8), (v_td 9)])), (h_nam, .inl (cy_nam, 300, .inr (.inl f_nam))), (h_var, .inl (cy_var, 300, .inl f_var)), (h_trm, .inl (cy_trm, 300, .inl f_trm)), (h_ter, .inl (cy_ter, 900, .inl f_ter))]) [0, 2, 3, 9, 4, 10, 5, 6] rfl
                have hDc := hD.sub (ws' := [(h_wr, .inr (6, [.ref h_td, .ref h_bd, .ref h_wb, .int x_wr_length, .ref h_wd, .int x4, .ref h_wh, .int z46])), (h_wd, .inl (cy_wd, 616, .inl f6)), (h_wh, .inl (cy_wh, 2048, .inl f7)), (h_td, .inr (5, [.ref h_nam, .ref h_var, .ref h_trm, .ref h_ter, (v_td 4), (v_td 5), (v_td 6), (v_td 7), (v_td 8), (v_td 9)])), (h_nam, .inl (cy_nam, 300, .inr (.inl f_nam))), (h_var, .inl (cy_var, 300, .inl f_var)), (h_trm, .inl (cy_trm, 300, .inl f_trm)), (h_ter, .inl (cy_ter, 900, .inl f_ter))]) [0, 2, 3, 9, 4, 10, 5, 6] (by decide) rfl
                have hKc := hK.sub (tys' := [(cy_wd, .int), (cy_wh, .int), (cy_nam, .long), (cy_var, .int), (cy_trm, .int), (cy_ter, .int)]) [1, 2, 4, 5, 6, 7] rfl
                have hFc := va_free (wc := [(h_wr, .inr (6, [.ref h_td, .ref h_bd, .ref h_wb, .int x_wr_length, .ref h_wd, .int x4, .ref h_wh, .int z46])), (h_wd, .inl (cy_wd, 616, .inl f6)), (h_wh, .inl (cy_wh, 2048, .inl f7)), (h_td, .inr (5, [.ref h_nam, .ref h_var, .ref h_trm, .ref h_ter, (v_td 4), (v_td 5), (v_td 6), (v_td 7), (v_td 8), (v_td 9)])), (h_nam, .inl (cy_nam, 300, .inr (.inl f_nam))), (h_var, .inl (cy_var, 300, .inl f_var)), (h_trm, .inl (cy_trm, 300, .inl f_trm)), (h_ter, .inl (cy_ter, 900, .inl f_ter))]) hD hS hA [0, 2, 3, 9, 4, 10, 5, 6] rfl
                refine va_callv (va_runV (As := [.int r50]) (rest := []) ⟨hx, hb, hml, hown, hts⟩ (c_X9_putPart l dC dI H.size h_wr h_wd h_wh h_td h_nam h_var h_trm h_ter (fun k => List.getD [.ref h_td, .ref h_bd, .ref h_wb, .int x_wr_length, .ref h_wd, .int x4, .ref h_wh, .int z46] k .null) x4 z46 cy_wd f6 cy_wh f7 v_td cy_nam f_nam cy_var f_var cy_trm f_trm cy_ter f_ter r50 (by omega) (by omega) hf7 hf_var hf_trm hf_ter (by omega)) (cwV 1 hts (gv hT w_m_X9_47 w_instanceMethod_X9_putPart ws_sel_X9_putPart w_ini_X9 w_code_X9_putPart) rfl rfl rfl (by decide +kernel) ⟨(Nat.le_of_ble_eq_true rfl), (Nat.le_of_ble_eq_true rfl)⟩) ⟨pre_blind, va_recv hK hP (ci := 6) (q0 := 0) rfl rfl, pre_of hPc hKc hDc hN⟩ rfl rfl hl.1 rfl (lv_room (Nat.le_of_ble_eq_true rfl)) dX9_write_108 ⟨(Nat.le_of_ble_eq_true rfl), (Nat.le_of_ble_eq_true rfl)⟩) hS (fun q _ h => hFc q h) hFc (fun u t H locs ht hvm hq hB hz1 hk1 hS => ?_)
                obtain ⟨z53, z54, f55, f56⟩ := u
                obtain ⟨hP1, hD1⟩ := hB
                rw [ht] at hP1
                obtain ⟨hP, hD⟩ := va_join (wr := [(h_wb, .inl (cy_wb, 600, .inl f_wb)), (h_bd, .inr (1, [.ref h_td, .ref h_bnd, (v_bd 2), (v_bd 3), (v_bd 4), (v_bd 5), (v_bd 6), (v_bd 7), (v_bd 8), (v_bd 9), (v_bd 10), (v_bd 11), (v_bd 12)])), (h_bnd, .inl (cy_bnd, 256, .inl f_bnd))]) (w1 := [(h_wr, .inr (6, [.ref h_td, .ref h_bd, .ref h_wb, .int x_wr_length, .ref h_wd, .int z53, .ref h_wh, .int z54])), (h_wd, .inl (cy_wd, 616, .inl f55)), (h_wh, .inl (cy_wh, 2048, .inl f56)), (h_td, .inr (5, [.ref h_nam, .ref h_var, .ref h_trm, .ref h_ter, (v_td 4), (v_td 5), (v_td 6), (v_td 7), (v_td 8), (v_td 9)])), (h_nam, .inl (cy_nam, 300, .inr (.inl f_nam))), (h_var, .inl (cy_var, 300, .inl f_var)), (h_trm, .inl (cy_trm, 300, .inl f_trm)), (h_ter, .inl (cy_ter, 900, .inl f_ter))]) hP hD [0, 2, 3, 9, 4, 10, 5, 6] [1, 7, 8] rfl rfl (by decide) (by decide) hk1 hFc hP1 hD1
                have hP : va_P (dC, dI) cls [(h_wb, .inl (cy_wb, 600, .inl f_wb)), (h_bd, .inr (1, [.ref h_td, .ref h_bnd, (v_bd 2), (v_bd 3), (v_bd 4), (v_bd 5), (v_bd 6), (v_bd 7), (v_bd 8), (v_bd 9), (v_bd 10), (v_bd 11), (v_bd 12)])), (h_bnd, .inl (cy_bnd, 256, .inl f_bnd)), (h_wr, .inr (6, [.ref h_td, .ref h_bd, .ref h_wb, .int x_wr_length, .ref h_wd, .int z53, .ref h_wh, .int z54])), (h_wd, .inl (cy_wd, 616, .inl f55)), (h_wh, .inl (cy_wh, 2048, .inl f56)), (h_td, .inr (5, [.ref h_nam, .ref h_var, .ref h_trm, .ref h_ter, (v_td 4), (v_td 5), (v_td 6), (v_td 7), (v_td 8), (v_td 9)])), (h_nam, .inl (cy_nam, 300, .inr (.inl f_nam))), (h_var, .inl (cy_var, 300, .inl f_var)), (h_trm, .inl (cy_trm, 300, .inl f_trm)), (h_ter, .inl (cy_ter, 900, .inl f_ter))] H := hP
                have hD : va_D A [(h_wb, .inl (cy_wb, 600, .inl f_wb)), (h_bd, .inr (1, [.ref h_td, .ref h_bnd, (v_bd 2), (v_bd 3), (v_bd 4), (v_bd 5), (v_bd 6), (v_bd 7), (v_bd 8), (v_bd 9), (v_bd 10), (v_bd 11), (v_bd 12)])), (h_bnd, .inl (cy_bnd, 256, .inl f_bnd)), (h_wr, .inr (6, [.ref h_td, .ref h_bd, .ref h_wb, .int x_wr_length, .ref h_wd, .int z53, .ref h_wh, .int z54])), (h_wd, .inl (cy_wd, 616, .inl f55)), (h_wh, .inl (cy_wh, 2048, .inl f56)), (h_td, .inr (5, [.ref h_nam, .ref h_var, .ref h_trm, .ref h_ter, (v_td 4), (v_td 5), (v_td 6), (v_td 7), (v_td 8), (v_td 9)])), (h_nam, .inl (cy_nam, 300, .inr (.inl f_nam))), (h_var, .inl (cy_var, 300, .inl f_var)), (h_trm, .inl (cy_trm, 300, .inl f_trm)), (h_ter, .inl (cy_ter, 900, .inl f_ter))] := hD
                obtain ⟨k57, k58, hf56⟩ := hq
                have k57 : 0 ≤ ((z53)).toInt ∧ ((z53)).toInt ≤ 616 := k57
                have k58 : 0 ≤ ((z54)).toInt ∧ ((z54)).toInt ≤ 2048 := k58
                have hf56 : Rg (-127) 9599 (f56) := hf56
                obtain ⟨z59, ez59⟩ : ∃ y : Int32, y = x3 + 1 := ⟨_, rfl⟩
                have tz59 : (z59).toInt = (x3).toInt + 1 := by rw [ez59]; exact i_add rfl (by decide) (by omega)
                refine lv_iinc (v := z59) (lv' := [(4, .int z59), (0, .ref h_wr), (1, .int p1), (2, .int p2), (3, .int p3)]) hx hb dX9_write_111 hl (k := 4) rfl (by rw [ez59]; rfl) (by decide) rfl (fun ls hl => ?_)
                refine lv_goto (tgt := 30) hx hb dX9_write_114 (by decide) ?_
                have hP : va_P (dC, dI) cls [(h_wr, .inr (6, [.ref h_td, .ref h_bd, .ref h_wb, .int x_wr_length, .ref h_wd, .int z53, .ref h_wh, .int z54])), (h_wb, .inl (cy_wb, 600, .inl f_wb)), (h_wd, .inl (cy_wd, 616, .inl f55)), (h_wh, .inl (cy_wh, 2048, .inl f56)), (h_bd, .inr (1, [.ref h_td, .ref h_bnd, (v_bd 2), (v_bd 3), (v_bd 4), (v_bd 5), (v_bd 6), (v_bd 7), (v_bd 8), (v_bd 9), (v_bd 10), (v_bd 11), (v_bd 12)])), (h_bnd, .inl (cy_bnd, 256, .inl f_bnd)), (h_td, .inr (5, [.ref h_nam, .ref h_var, .ref h_trm, .ref h_ter, (v_td 4), (v_td 5), (v_td 6), (v_td 7), (v_td 8), (v_td 9)])), (h_nam, .inl (cy_nam, 300, .inr (.inl f_nam))), (h_var, .inl (cy_var, 300, .inl f_var)), (h_trm, .inl (cy_trm, 300, .inl f_trm)), (h_ter, .inl (cy_ter, 900, .inl f_ter))] H := hP.sub [3, 0, 4, 5, 1, 2, 6, 7, 8, 9, 10] rfl
                have hD : va_D A [(h_wr, .inr (6, [.ref h_td, .ref h_bd, .ref h_wb, .int x_wr_length, .ref h_wd, .int z53, .ref h_wh, .int z54])), (h_wb, .inl (cy_wb, 600, .inl f_wb)), (h_wd, .inl (cy_wd, 616, .inl f55)), (h_wh, .inl (cy_wh, 2048, .inl f56)), (h_bd, .inr (1, [.ref h_td, .ref h_bnd, (v_bd 2), (v_bd 3), (v_bd 4), (v_bd 5), (v_bd 6), (v_bd 7), (v_bd 8), (v_bd 9), (v_bd 10), (v_bd 11), (v_bd 12)])), (h_bnd, .inl (cy_bnd, 256, .inl f_bnd)), (h_td, .inr (5, [.ref h_nam, .ref h_var, .ref h_trm, .ref h_ter, (v_td 4), (v_td 5), (v_td 6), (v_td 7), (v_td 8), (v_td 9)])), (h_nam, .inl (cy_nam, 300, .inr (.inl f_nam))), (h_var, .inl (cy_var, 300, .inl f_var)), (h_trm, .inl (cy_trm, 300, .inl f_trm)), (h_ter, .inl (cy_ter, 900, .inl f_ter))] := hD.sub [3, 0, 4, 5, 1, 2, 6, 7, 8, 9, 10] (by decide) rfl
                exact ih9 (z59) (z53) (z54) (f55) (f56) _ _ _ (by omega) (by omega) (by omega) hf56 (by omega) hP hD hS (lv_sub hl [1, 2, 3, 4, 0] rfl)
              · have kc48 := (not_congr (cv_le (by decide : (0 : Int32).toInt = 0) (rfl : (z47).toInt = (z47).toInt))).mp c48
                refine lv_aload_n hx hb dX9_write_74 rfl (lv_at hl 0 rfl) ?_
                refine lv_aload_n hx hb dX9_write_75 rfl (lv_at hl 0 rfl) ?_
                refine va_get (D := (dC, dI)) (ci := 6) (v := .ref h_wh) (C := RX9) (T := TX9) (N := 8) hx hb hw iwX9 hown hK hP 0 rfl rfl 6 (by decide) (hw _ w_f_X9_18) (fun _ h9 => h9) rfl dX9_write_76 ?_
                refine lv_aload_n hx hb dX9_write_79 rfl (lv_at hl 0 rfl) ?_
                refine va_get (D := (dC, dI)) (ci := 6) (v := .int z46) (C := RX9) (T := TX9) (N := 8) hx hb hw iwX9 hown hK hP 0 rfl rfl 7 (by decide) (hw _ w_f_X9_37) (fun _ h9 => h9) rfl dX9_write_80 ?_
                refine va_iald hx hb hK hP 3 2 rfl rfl (i := z46) (vp_in_iff.mpr (by omega)) dX9_write_83 ?_
                refine lv_topi (fun z60 ez60 => ?_)
                have qz60 : (z60).toInt = (z47).toInt := by rw [ez60, ez47]
                have rz60 : -127 ≤ (z60).toInt ∧ (z60).toInt ≤ 9599 := by rw [ez60]; exact hf7 _
                refine lv_ineg hx hb dX9_write_84 ?_
                refine lv_topi (fun z61 ez61 => ?_)
                have tz61 : (z61).toInt = -((z60).toInt) := by rw [ez61]; exact i_neg rfl (by omega)
                have hPc := hP.sub (ws' := [(h_wr, .inr (6, [.ref h_td, .ref h_bd, .ref h_wb, .int x_wr_length, .ref h_wd, .int x4, .ref h_wh, .int z46])), (h_wd, .inl (cy_wd, 616, .inl f6))]) [0, 2] rfl
                have hDc := hD.sub (ws' := [(h_wr, .inr (6, [.ref h_td, .ref h_bd, .ref h_wb, .int x_wr_length, .ref h_wd, .int x4, .ref h_wh, .int z46])), (h_wd, .inl (cy_wd, 616, .inl f6))]) [0, 2] (by decide) rfl
                have hKc := hK.sub (tys' := [(cy_wd, .int)]) [1] rfl
                have hFc := va_free (wc := [(h_wr, .inr (6, [.ref h_td, .ref h_bd, .ref h_wb, .int x_wr_length, .ref h_wd, .int x4, .ref h_wh, .int z46])), (h_wd, .inl (cy_wd, 616, .inl f6))]) hD hS hA [0, 2] rfl
                refine va_callv (va_runV (As := [.int z61]) (rest := []) ⟨hx, hb, hml, hown, hts⟩ (c_X9_put l dC dI H.size h_wr h_wd (fun k => List.getD [.ref h_td, .ref h_bd, .ref h_wb, .int x_wr_length, .ref h_wd, .int x4, .ref h_wh, .int z46] k .null) x4 cy_wd f6 z61 (by omega)) (cwV 1 hts (gv hT w_m_X9_33 w_instanceMethod_X9_put ws_sel_X9_put w_ini_X9 w_code_X9_put) rfl rfl rfl (by decide +kernel) ⟨(Nat.le_of_ble_eq_true rfl), (Nat.le_of_ble_eq_true rfl)⟩) ⟨pre_blind, va_recv hK hP (ci := 6) (q0 := 0) rfl rfl, pre_of hPc hKc hDc hN⟩ rfl rfl hl.1 rfl (lv_room (Nat.le_of_ble_eq_true rfl)) dX9_write_85 ⟨(Nat.le_of_ble_eq_true rfl), (Nat.le_of_ble_eq_true rfl)⟩) hS (fun q _ h => hFc q h) hFc (fun u t H locs ht hvm hq hB hz1 hk1 hS => ?_)
                obtain ⟨z63, f64⟩ := u
                obtain ⟨hP1, hD1⟩ := hB
                rw [ht] at hP1
                obtain ⟨hP, hD⟩ := va_join (wr := [(h_wb, .inl (cy_wb, 600, .inl f_wb)), (h_wh, .inl (cy_wh, 2048, .inl f7)), (h_bd, .inr (1, [.ref h_td, .ref h_bnd, (v_bd 2), (v_bd 3), (v_bd 4), (v_bd 5), (v_bd 6), (v_bd 7), (v_bd 8), (v_bd 9), (v_bd 10), (v_bd 11), (v_bd 12)])), (h_bnd, .inl (cy_bnd, 256, .inl f_bnd)), (h_td, .inr (5, [.ref h_nam, .ref h_var, .ref h_trm, .ref h_ter, (v_td 4), (v_td 5), (v_td 6), (v_td 7), (v_td 8), (v_td 9)])), (h_nam, .inl (cy_nam, 300, .inr (.inl f_nam))), (h_var, .inl (cy_var, 300, .inl f_var)), (h_trm, .inl (cy_trm, 300, .inl f_trm)), (h_ter, .inl (cy_ter, 900, .inl f_ter))]) (w1 := [(h_wr, .inr (6, [.ref h_td, .ref h_bd, .ref h_wb, .int x_wr_length, .ref h_wd, .int z63, .ref h_wh, .int z46])), (h_wd, .inl (cy_wd, 616, .inl f64))]) hP hD [0, 2] [1, 3, 4, 5, 6, 7, 8, 9, 10] rfl rfl (by decide) (by decide) hk1 hFc hP1 hD1
                have hP : va_P (dC, dI) cls [(h_wb, .inl (cy_wb, 600, .inl f_wb)), (h_wh, .inl (cy_wh, 2048, .inl f7)), (h_bd, .inr (1, [.ref h_td, .ref h_bnd, (v_bd 2), (v_bd 3), (v_bd 4), (v_bd 5), (v_bd 6), (v_bd 7), (v_bd 8), (v_bd 9), (v_bd 10), (v_bd 11), (v_bd 12)])), (h_bnd, .inl (cy_bnd, 256, .inl f_bnd)), (h_td, .inr (5, [.ref h_nam, .ref h_var, .ref h_trm, .ref h_ter, (v_td 4), (v_td 5), (v_td 6), (v_td 7), (v_td 8), (v_td 9)])), (h_nam, .inl (cy_nam, 300, .inr (.inl f_nam))), (h_var, .inl (cy_var, 300, .inl f_var)), (h_trm, .inl (cy_trm, 300, .inl f_trm)), (h_ter, .inl (cy_ter, 900, .inl f_ter)), (h_wr, .inr (6, [.ref h_td, .ref h_bd, .ref h_wb, .int x_wr_length, .ref h_wd, .int z63, .ref h_wh, .int z46])), (h_wd, .inl (cy_wd, 616, .inl f64))] H := hP
                have hD : va_D A [(h_wb, .inl (cy_wb, 600, .inl f_wb)), (h_wh, .inl (cy_wh, 2048, .inl f7)), (h_bd, .inr (1, [.ref h_td, .ref h_bnd, (v_bd 2), (v_bd 3), (v_bd 4), (v_bd 5), (v_bd 6), (v_bd 7), (v_bd 8), (v_bd 9), (v_bd 10), (v_bd 11), (v_bd 12)])), (h_bnd, .inl (cy_bnd, 256, .inl f_bnd)), (h_td, .inr (5, [.ref h_nam, .ref h_var, .ref h_trm, .ref h_ter, (v_td 4), (v_td 5), (v_td 6), (v_td 7), (v_td 8), (v_td 9)])), (h_nam, .inl (cy_nam, 300, .inr (.inl f_nam))), (h_var, .inl (cy_var, 300, .inl f_var)), (h_trm, .inl (cy_trm, 300, .inl f_trm)), (h_ter, .inl (cy_ter, 900, .inl f_ter)), (h_wr, .inr (6, [.ref h_td, .ref h_bd, .ref h_wb, .int x_wr_length, .ref h_wd, .int z63, .ref h_wh, .int z46])), (h_wd, .inl (cy_wd, 616, .inl f64))] := hD
                have k65 : 0 ≤ ((z63)).toInt ∧ ((z63)).toInt ≤ 616 := hq
                refine lv_goto (tgt := 111) hx hb dX9_write_88 (by decide) ?_
                obtain ⟨z66, ez66⟩ : ∃ y : Int32, y = x3 + 1 := ⟨_, rfl⟩
                have tz66 : (z66).toInt = (x3).toInt + 1 := by rw [ez66]; exact i_add rfl (by decide) (by omega)
                refine lv_iinc (v := z66) (lv' := [(4, .int z66), (0, .ref h_wr), (1, .int p1), (2, .int p2), (3, .int p3)]) hx hb dX9_write_111 hl (k := 4) rfl (by rw [ez66]; rfl) (by decide) rfl (fun ls hl => ?_)
                refine lv_goto (tgt := 30) hx hb dX9_write_114 (by decide) ?_
                have hP : va_P (dC, dI) cls [(h_wr, .inr (6, [.ref h_td, .ref h_bd, .ref h_wb, .int x_wr_length, .ref h_wd, .int z63, .ref h_wh, .int z46])), (h_wb, .inl (cy_wb, 600, .inl f_wb)), (h_wd, .inl (cy_wd, 616, .inl f64)), (h_wh, .inl (cy_wh, 2048, .inl f7)), (h_bd, .inr (1, [.ref h_td, .ref h_bnd, (v_bd 2), (v_bd 3), (v_bd 4), (v_bd 5), (v_bd 6), (v_bd 7), (v_bd 8), (v_bd 9), (v_bd 10), (v_bd 11), (v_bd 12)])), (h_bnd, .inl (cy_bnd, 256, .inl f_bnd)), (h_td, .inr (5, [.ref h_nam, .ref h_var, .ref h_trm, .ref h_ter, (v_td 4), (v_td 5), (v_td 6), (v_td 7), (v_td 8), (v_td 9)])), (h_nam, .inl (cy_nam, 300, .inr (.inl f_nam))), (h_var, .inl (cy_var, 300, .inl f_var)), (h_trm, .inl (cy_trm, 300, .inl f_trm)), (h_ter, .inl (cy_ter, 900, .inl f_ter))] H := hP.sub [9, 0, 10, 1, 2, 3, 4, 5, 6, 7, 8] rfl
                have hD : va_D A [(h_wr, .inr (6, [.ref h_td, .ref h_bd, .ref h_wb, .int x_wr_length, .ref h_wd, .int z63, .ref h_wh, .int z46])), (h_wb, .inl (cy_wb, 600, .inl f_wb)), (h_wd, .inl (cy_wd, 616, .inl f64)), (h_wh, .inl (cy_wh, 2048, .inl f7)), (h_bd, .inr (1, [.ref h_td, .ref h_bnd, (v_bd 2), (v_bd 3), (v_bd 4), (v_bd 5), (v_bd 6), (v_bd 7), (v_bd 8), (v_bd 9), (v_bd 10), (v_bd 11), (v_bd 12)])), (h_bnd, .inl (cy_bnd, 256, .inl f_bnd)), (h_td, .inr (5, [.ref h_nam, .ref h_var, .ref h_trm, .ref h_ter, (v_td 4), (v_td 5), (v_td 6), (v_td 7), (v_td 8), (v_td 9)])), (h_nam, .inl (cy_nam, 300, .inr (.inl f_nam))), (h_var, .inl (cy_var, 300, .inl f_var)), (h_trm, .inl (cy_trm, 300, .inl f_trm)), (h_ter, .inl (cy_ter, 900, .inl f_ter))] := hD.sub [9, 0, 10, 1, 2, 3, 4, 5, 6, 7, 8] (by decide) rfl
                exact ih9 (z66) (z63) (z46) (f64) (f7) _ _ _ (by omega) (by omega) (by omega) hf7 (by omega) hP hD hS (lv_sub hl [1, 2, 3, 4, 0] rfl)
    have cst0 : (0 : Int32).toInt = 0 := by decide
    have cst1 : (1 : Int32).toInt = 1 := by decide
    exact lp8 _ (0) (0) (1) (f_wd) (f2) _ _ _ (by decide) (by decide) (by decide) hf2 (Nat.le_refl _) hP hD hS (lv_sub hl [1, 2, 3, 4, 0] rfl)
  · have kc1 := (not_congr (cv_eq (rfl : (p2).toInt = (p2).toInt) (by decide : (0 : Int32).toInt = 0))).mp c1
    refine lv_aload_n hx hb dX9_write_9 rfl (lv_at hl 0 rfl) ?_
    refine lv_bipush (v := 45) hx hb dX9_write_10 (by decide) ?_
    have cst45 : (45 : Int32).toInt = 45 := by decide
    have hPc := hP.sub (ws' := [(h_wr, .inr (6, [.ref h_td, .ref h_bd, .ref h_wb, .int x_wr_length, .ref h_wd, .int 0, .ref h_wh, .int x_wr_held])), (h_wd, .inl (cy_wd, 616, .inl f_wd))]) [0, 2] rfl
    have hDc := hD.sub (ws' := [(h_wr, .inr (6, [.ref h_td, .ref h_bd, .ref h_wb, .int x_wr_length, .ref h_wd, .int 0, .ref h_wh, .int x_wr_held])), (h_wd, .inl (cy_wd, 616, .inl f_wd))]) [0, 2] (by decide) rfl
    have hKc := hK.sub (tys' := [(cy_wd, .int)]) [1] rfl
    have hFc := va_free (wc := [(h_wr, .inr (6, [.ref h_td, .ref h_bd, .ref h_wb, .int x_wr_length, .ref h_wd, .int 0, .ref h_wh, .int x_wr_held])), (h_wd, .inl (cy_wd, 616, .inl f_wd))]) hD hS hA [0, 2] rfl
    refine va_callv (va_runV (As := [.int 45]) (rest := []) ⟨hx, hb, hml, hown, hts⟩ (c_X9_put l dC dI H.size h_wr h_wd (fun k => List.getD [.ref h_td, .ref h_bd, .ref h_wb, .int x_wr_length, .ref h_wd, .int 0, .ref h_wh, .int x_wr_held] k .null) 0 cy_wd f_wd 45 (by decide)) (cwV 1 hts (gv hT w_m_X9_33 w_instanceMethod_X9_put ws_sel_X9_put w_ini_X9 w_code_X9_put) rfl rfl rfl (by decide +kernel) ⟨(Nat.le_of_ble_eq_true rfl), (Nat.le_of_ble_eq_true rfl)⟩) ⟨pre_blind, va_recv hK hP (ci := 6) (q0 := 0) rfl rfl, pre_of hPc hKc hDc hN⟩ rfl rfl hl.1 rfl (lv_room (Nat.le_of_ble_eq_true rfl)) dX9_write_12 ⟨(Nat.le_of_ble_eq_true rfl), (Nat.le_of_ble_eq_true rfl)⟩) hS (fun q _ h => hFc q h) hFc (fun u t H locs ht hvm hq hB hz1 hk1 hS => ?_)
    obtain ⟨z68, f69⟩ := u
    obtain ⟨hP1, hD1⟩ := hB
    rw [ht] at hP1
    obtain ⟨hP, hD⟩ := va_join (wr := [(h_wb, .inl (cy_wb, 600, .inl f_wb)), (h_wh, .inl (cy_wh, 2048, .inl f_wh)), (h_bd, .inr (1, [.ref h_td, .ref h_bnd, (v_bd 2), (v_bd 3), (v_bd 4), (v_bd 5), (v_bd 6), (v_bd 7), (v_bd 8), (v_bd 9), (v_bd 10), (v_bd 11), (v_bd 12)])), (h_bnd, .inl (cy_bnd, 256, .inl f_bnd)), (h_td, .inr (5, [.ref h_nam, .ref h_var, .ref h_trm, .ref h_ter, (v_td 4), (v_td 5), (v_td 6), (v_td 7), (v_td 8), (v_td 9)])), (h_nam, .inl (cy_nam, 300, .inr (.inl f_nam))), (h_var, .inl (cy_var, 300, .inl f_var)), (h_trm, .inl (cy_trm, 300, .inl f_trm)), (h_ter, .inl (cy_ter, 900, .inl f_ter))]) (w1 := [(h_wr, .inr (6, [.ref h_td, .ref h_bd, .ref h_wb, .int x_wr_length, .ref h_wd, .int z68, .ref h_wh, .int x_wr_held])), (h_wd, .inl (cy_wd, 616, .inl f69))]) hP hD [0, 2] [1, 3, 4, 5, 6, 7, 8, 9, 10] rfl rfl (by decide) (by decide) hk1 hFc hP1 hD1
    have hP : va_P (dC, dI) cls [(h_wb, .inl (cy_wb, 600, .inl f_wb)), (h_wh, .inl (cy_wh, 2048, .inl f_wh)), (h_bd, .inr (1, [.ref h_td, .ref h_bnd, (v_bd 2), (v_bd 3), (v_bd 4), (v_bd 5), (v_bd 6), (v_bd 7), (v_bd 8), (v_bd 9), (v_bd 10), (v_bd 11), (v_bd 12)])), (h_bnd, .inl (cy_bnd, 256, .inl f_bnd)), (h_td, .inr (5, [.ref h_nam, .ref h_var, .ref h_trm, .ref h_ter, (v_td 4), (v_td 5), (v_td 6), (v_td 7), (v_td 8), (v_td 9)])), (h_nam, .inl (cy_nam, 300, .inr (.inl f_nam))), (h_var, .inl (cy_var, 300, .inl f_var)), (h_trm, .inl (cy_trm, 300, .inl f_trm)), (h_ter, .inl (cy_ter, 900, .inl f_ter)), (h_wr, .inr (6, [.ref h_td, .ref h_bd, .ref h_wb, .int x_wr_length, .ref h_wd, .int z68, .ref h_wh, .int x_wr_held])), (h_wd, .inl (cy_wd, 616, .inl f69))] H := hP
    have hD : va_D A [(h_wb, .inl (cy_wb, 600, .inl f_wb)), (h_wh, .inl (cy_wh, 2048, .inl f_wh)), (h_bd, .inr (1, [.ref h_td, .ref h_bnd, (v_bd 2), (v_bd 3), (v_bd 4), (v_bd 5), (v_bd 6), (v_bd 7), (v_bd 8), (v_bd 9), (v_bd 10), (v_bd 11), (v_bd 12)])), (h_bnd, .inl (cy_bnd, 256, .inl f_bnd)), (h_td, .inr (5, [.ref h_nam, .ref h_var, .ref h_trm, .ref h_ter, (v_td 4), (v_td 5), (v_td 6), (v_td 7), (v_td 8), (v_td 9)])), (h_nam, .inl (cy_nam, 300, .inr (.inl f_nam))), (h_var, .inl (cy_var, 300, .inl f_var)), (h_trm, .inl (cy_trm, 300, .inl f_trm)), (h_ter, .inl (cy_ter, 900, .inl f_ter)), (h_wr, .inr (6, [.ref h_td, .ref h_bd, .ref h_wb, .int x_wr_length, .ref h_wd, .int z68, .ref h_wh, .int x_wr_held])), (h_wd, .inl (cy_wd, 616, .inl f69))] := hD
    have k70 : 0 ≤ ((z68)).toInt ∧ ((z68)).toInt ≤ 616 := hq
    refine lv_aload_n hx hb dX9_write_15 rfl (lv_at hl 0 rfl) ?_
    refine va_get (D := (dC, dI)) (ci := 6) (v := .ref h_wh) (C := RX9) (T := TX9) (N := 8) hx hb hw iwX9 hown hK hP 9 rfl rfl 6 (by decide) (hw _ w_f_X9_18) (fun _ h9 => h9) rfl dX9_write_16 ?_
    refine lv_iconst (v := 0) hx hb dX9_write_19 (by decide) ?_
    refine lv_iload_n hx hb dX9_write_20 rfl (lv_at hl 1 rfl) ?_
    refine va_iast hx hb hK hP hD hS 1 2 rfl rfl (i := 0) (x := p1) (show ¬ _ from by decide) dX9_write_21 (fun H locs hP hD hS => ?_)
    obtain ⟨f71, ef71⟩ : ∃ g : Nat → Int32, g = upd f_wh (Int32.toNatClampNeg 0) p1 := ⟨_, rfl⟩
    have hP : va_P (dC, dI) cls [(h_wb, .inl (cy_wb, 600, .inl f_wb)), (h_wh, .inl (cy_wh, 2048, .inl f71)), (h_bd, .inr (1, [.ref h_td, .ref h_bnd, (v_bd 2), (v_bd 3), (v_bd 4), (v_bd 5), (v_bd 6), (v_bd 7), (v_bd 8), (v_bd 9), (v_bd 10), (v_bd 11), (v_bd 12)])), (h_bnd, .inl (cy_bnd, 256, .inl f_bnd)), (h_td, .inr (5, [.ref h_nam, .ref h_var, .ref h_trm, .ref h_ter, (v_td 4), (v_td 5), (v_td 6), (v_td 7), (v_td 8), (v_td 9)])), (h_nam, .inl (cy_nam, 300, .inr (.inl f_nam))), (h_var, .inl (cy_var, 300, .inl f_var)), (h_trm, .inl (cy_trm, 300, .inl f_trm)), (h_ter, .inl (cy_ter, 900, .inl f_ter)), (h_wr, .inr (6, [.ref h_td, .ref h_bd, .ref h_wb, .int x_wr_length, .ref h_wd, .int z68, .ref h_wh, .int x_wr_held])), (h_wd, .inl (cy_wd, 616, .inl f69))] H := by rw [ef71]; exact hP
    have hD : va_D A [(h_wb, .inl (cy_wb, 600, .inl f_wb)), (h_wh, .inl (cy_wh, 2048, .inl f71)), (h_bd, .inr (1, [.ref h_td, .ref h_bnd, (v_bd 2), (v_bd 3), (v_bd 4), (v_bd 5), (v_bd 6), (v_bd 7), (v_bd 8), (v_bd 9), (v_bd 10), (v_bd 11), (v_bd 12)])), (h_bnd, .inl (cy_bnd, 256, .inl f_bnd)), (h_td, .inr (5, [.ref h_nam, .ref h_var, .ref h_trm, .ref h_ter, (v_td 4), (v_td 5), (v_td 6), (v_td 7), (v_td 8), (v_td 9)])), (h_nam, .inl (cy_nam, 300, .inr (.inl f_nam))), (h_var, .inl (cy_var, 300, .inl f_var)), (h_trm, .inl (cy_trm, 300, .inl f_trm)), (h_ter, .inl (cy_ter, 900, .inl f_ter)), (h_wr, .inr (6, [.ref h_td, .ref h_bd, .ref h_wb, .int x_wr_length, .ref h_wd, .int z68, .ref h_wh, .int x_wr_held])), (h_wd, .inl (cy_wd, 616, .inl f69))] := by rw [ef71]; exact hD
    have hf71 : Rg (-127) 9599 f71 := by rw [ef71]; exact rg_upd hf_wh (by omega)
    clear ef71
    refine lv_aload_n hx hb dX9_write_22 rfl (lv_at hl 0 rfl) ?_
    refine lv_iconst (v := 1) hx hb dX9_write_23 (by decide) ?_
    refine va_put (D := (dC, dI)) (ci := 6) (v := .int 1) (ty := tyX9 7) (C := RX9) (T := TX9) (N := 8) hx hb hw iwX9 tyX9 tyX9_ok nmX9 hown hK hP hD hS 9 rfl rfl 7 (by decide) (hw _ w_f_X9_37) (fun _ h9 => h9) rfl (tyX9_ok 7 (by decide)) rfl rfl (Nat.le_of_ble_eq_true rfl) dX9_write_24 (fun H locs hP hD hS => ?_)
    have hP : va_P (dC, dI) cls [(h_wb, .inl (cy_wb, 600, .inl f_wb)), (h_wh, .inl (cy_wh, 2048, .inl f71)), (h_bd, .inr (1, [.ref h_td, .ref h_bnd, (v_bd 2), (v_bd 3), (v_bd 4), (v_bd 5), (v_bd 6), (v_bd 7), (v_bd 8), (v_bd 9), (v_bd 10), (v_bd 11), (v_bd 12)])), (h_bnd, .inl (cy_bnd, 256, .inl f_bnd)), (h_td, .inr (5, [.ref h_nam, .ref h_var, .ref h_trm, .ref h_ter, (v_td 4), (v_td 5), (v_td 6), (v_td 7), (v_td 8), (v_td 9)])), (h_nam, .inl (cy_nam, 300, .inr (.inl f_nam))), (h_var, .inl (cy_var, 300, .inl f_var)), (h_trm, .inl (cy_trm, 300, .inl f_trm)), (h_ter, .inl (cy_ter, 900, .inl f_ter)), (h_wr, .inr (6, [.ref h_td, .ref h_bd, .ref h_wb, .int x_wr_length, .ref h_wd, .int z68, .ref h_wh, .int 1])), (h_wd, .inl (cy_wd, 616, .inl f69))] H := hP
    have hD : va_D A [(h_wb, .inl (cy_wb, 600, .inl f_wb)), (h_wh, .inl (cy_wh, 2048, .inl f71)), (h_bd, .inr (1, [.ref h_td, .ref h_bnd, (v_bd 2), (v_bd 3), (v_bd 4), (v_bd 5), (v_bd 6), (v_bd 7), (v_bd 8), (v_bd 9), (v_bd 10), (v_bd 11), (v_bd 12)])), (h_bnd, .inl (cy_bnd, 256, .inl f_bnd)), (h_td, .inr (5, [.ref h_nam, .ref h_var, .ref h_trm, .ref h_ter, (v_td 4), (v_td 5), (v_td 6), (v_td 7), (v_td 8), (v_td 9)])), (h_nam, .inl (cy_nam, 300, .inr (.inl f_nam))), (h_var, .inl (cy_var, 300, .inl f_var)), (h_trm, .inl (cy_trm, 300, .inl f_trm)), (h_ter, .inl (cy_ter, 900, .inl f_ter)), (h_wr, .inr (6, [.ref h_td, .ref h_bd, .ref h_wb, .int x_wr_length, .ref h_wd, .int z68, .ref h_wh, .int 1])), (h_wd, .inl (cy_wd, 616, .inl f69))] := hD
    refine lv_iconst (v := 0) hx hb dX9_write_27 (by decide) ?_
    refine lv_istore (lv' := [(4, .int 0), (0, .ref h_wr), (1, .int p1), (2, .int p2), (3, .int p3)]) hx hb dX9_write_28 hl (by decide) rfl (fun ls hl => ?_)
    have lp77 : ∀ (n : Nat) (x72 : Int32) (f73 : Nat → Int32) (x74 : Int32) (x75 : Int32) (f76 : Nat → Int32) (H : Heap) (locs : List Loc) (ls : Array Slot), (0 ≤ (x72).toInt ∧ (x72).toInt ≤ 1000000) → (Rg (-127) 9599 f73) → (0 ≤ (x74).toInt ∧ (x74).toInt ≤ 616) → (0 ≤ (x75).toInt ∧ (x75).toInt ≤ 2048) → (1000000 - (x72).toInt).toNat + 1 ≤ n → va_P (dC, dI) cls [(h_wb, .inl (cy_wb, 600, .inl f_wb)), (h_wh, .inl (cy_wh, 2048, .inl f73)), (h_bd, .inr (1, [.ref h_td, .ref h_bnd, (v_bd 2), (v_bd 3), (v_bd 4), (v_bd 5), (v_bd 6), (v_bd 7), (v_bd 8), (v_bd 9), (v_bd 10), (v_bd 11), (v_bd 12)])), (h_bnd, .inl (cy_bnd, 256, .inl f_bnd)), (h_td, .inr (5, [.ref h_nam, .ref h_var, .ref h_trm, .ref h_ter, (v_td 4), (v_td 5), (v_td 6), (v_td 7), (v_td 8), (v_td 9)])), (h_nam, .inl (cy_nam, 300, .inr (.inl f_nam))), (h_var, .inl (cy_var, 300, .inl f_var)), (h_trm, .inl (cy_trm, 300, .inl f_trm)), (h_ter, .inl (cy_ter, 900, .inl f_ter)), (h_wr, .inr (6, [.ref h_td, .ref h_bd, .ref h_wb, .int x_wr_length, .ref h_wd, .int x74, .ref h_wh, .int x75])), (h_wd, .inl (cy_wd, 616, .inl f76))] H → va_D A [(h_wb, .inl (cy_wb, 600, .inl f_wb)), (h_wh, .inl (cy_wh, 2048, .inl f73)), (h_bd, .inr (1, [.ref h_td, .ref h_bnd, (v_bd 2), (v_bd 3), (v_bd 4), (v_bd 5), (v_bd 6), (v_bd 7), (v_bd 8), (v_bd 9), (v_bd 10), (v_bd 11), (v_bd 12)])), (h_bnd, .inl (cy_bnd, 256, .inl f_bnd)), (h_td, .inr (5, [.ref h_nam, .ref h_var, .ref h_trm, .ref h_ter, (v_td 4), (v_td 5), (v_td 6), (v_td 7), (v_td 8), (v_td 9)])), (h_nam, .inl (cy_nam, 300, .inr (.inl f_nam))), (h_var, .inl (cy_var, 300, .inl f_var)), (h_trm, .inl (cy_trm, 300, .inl f_trm)), (h_ter, .inl (cy_ter, 900, .inl f_ter)), (h_wr, .inr (6, [.ref h_td, .ref h_bd, .ref h_wb, .int x_wr_length, .ref h_wd, .int x74, .ref h_wh, .int x75])), (h_wd, .inl (cy_wd, 616, .inl f76))] → va_S A s.heap H locs → lv_has ls 5 [(0, .ref h_wr), (1, .int p1), (2, .int p2), (3, .int p3), (4, .int x72)] → W p l e ({ frames := 3, cells := 0, slots := 0, locals := 80 } : Room) s m ([.ref h_wr, .int p1, .int p2, .int p3] : List Value).toArray below meth c H locs 0 0 (MQ below (va_Qi (fun (r : Int32) (u : (Int32) × (Int32) × (Int32) × (Nat → Int32) × (Nat → Int32) × (Nat → Int32)) => (0 ≤ (u.1).toInt ∧ (u.1).toInt ≤ 600) ∧ (0 ≤ (u.2.1).toInt ∧ (u.2.1).toInt ≤ 616) ∧ (0 ≤ (u.2.2.1).toInt ∧ (u.2.2.1).toInt ≤ 2048) ∧ (Rg (-127) 9599 u.2.2.2.2.2)) (fun (u : (Int32) × (Int32) × (Int32) × (Nat → Int32) × (Nat → Int32) × (Nat → Int32)) (t : State) => va_P (dC, dI) cls [(h_wr, .inr (6, [.ref h_td, .ref h_bd, .ref h_wb, .int u.1, .ref h_wd, .int u.2.1, .ref h_wh, .int u.2.2.1])), (h_wb, .inl (cy_wb, 600, .inl u.2.2.2.1)), (h_wd, .inl (cy_wd, 616, .inl u.2.2.2.2.1)), (h_wh, .inl (cy_wh, 2048, .inl u.2.2.2.2.2)), (h_bd, .inr (1, [.ref h_td, .ref h_bnd, (v_bd 2), (v_bd 3), (v_bd 4), (v_bd 5), (v_bd 6), (v_bd 7), (v_bd 8), (v_bd 9), (v_bd 10), (v_bd 11), (v_bd 12)])), (h_bnd, .inl (cy_bnd, 256, .inl f_bnd)), (h_td, .inr (5, [.ref h_nam, .ref h_var, .ref h_trm, .ref h_ter, (v_td 4), (v_td 5), (v_td 6), (v_td 7), (v_td 8), (v_td 9)])), (h_nam, .inl (cy_nam, 300, .inr (.inl f_nam))), (h_var, .inl (cy_var, 300, .inl f_var)), (h_trm, .inl (cy_trm, 300, .inl f_trm)), (h_ter, .inl (cy_ter, 900, .inl f_ter))] t.heap ∧ va_D A [(h_wr, .inr (6, [.ref h_td, .ref h_bd, .ref h_wb, .int u.1, .ref h_wd, .int u.2.1, .ref h_wh, .int u.2.2.1])), (h_wb, .inl (cy_wb, 600, .inl u.2.2.2.1)), (h_wd, .inl (cy_wd, 616, .inl u.2.2.2.2.1)), (h_wh, .inl (cy_wh, 2048, .inl u.2.2.2.2.2)), (h_bd, .inr (1, [.ref h_td, .ref h_bnd, (v_bd 2), (v_bd 3), (v_bd 4), (v_bd 5), (v_bd 6), (v_bd 7), (v_bd 8), (v_bd 9), (v_bd 10), (v_bd 11), (v_bd 12)])), (h_bnd, .inl (cy_bnd, 256, .inl f_bnd)), (h_td, .inr (5, [.ref h_nam, .ref h_var, .ref h_trm, .ref h_ter, (v_td 4), (v_td 5), (v_td 6), (v_td 7), (v_td 8), (v_td 9)])), (h_nam, .inl (cy_nam, 300, .inr (.inl f_nam))), (h_var, .inl (cy_var, 300, .inl f_var)), (h_trm, .inl (cy_trm, 300, .inl f_trm)), (h_ter, .inl (cy_ter, 900, .inl f_ter))]) A) ([.ref h_wr, .int p1, .int p2, .int p3] : List Value).toArray s 0 0 A) (F0 m 30 ls []) := by
      intro n
      induction n with
      | zero => intro x72 f73 x74 x75 f76 H locs ls klp77_0 hf73 klp77_2 klp77_3 hm hP hD hS hl; exact False.elim (by omega)
      | succ n ih => 
        intro x72 f73 x74 x75 f76 H locs ls klp77_0 hf73 klp77_2 klp77_3 hm hP hD hS hl
        have ih78 := ih
        clear ih
        refine lv_iload hx hb dX9_write_30 (lv_at hl 4 rfl) ?_
        refine lv_ldc (v := 1000000) hx hb hown (hw _ w_k_X9_40) dX9_write_32 ?_
        refine lv_icmp_ge (tgt := 117) hx hb dX9_write_34 (by decide) (fun c79 => ?_) (fun c79 => ?_)
        · have kc79 := (cv_le (by decide : (1000000 : Int32).toInt = 1000000) (rfl : (x72).toInt = (x72).toInt)).mp c79
          refine lv_aload_n hx hb dX9_write_117 rfl (lv_at hl 0 rfl) ?_
          refine va_get (D := (dC, dI)) (ci := 6) (v := .int x75) (C := RX9) (T := TX9) (N := 8) hx hb hw iwX9 hown hK hP 9 rfl rfl 7 (by decide) (hw _ w_f_X9_37) (fun _ h9 => h9) rfl dX9_write_118 ?_
          refine lv_if_gt (tgt := 142) hx hb dX9_write_121 (by decide) (fun c80 => ?_) (fun c80 => ?_)
          · have kc80 := (cv_lt (by decide : (0 : Int32).toInt = 0) (rfl : (x75).toInt = (x75).toInt)).mp c80
            refine lv_iconst (v := (-1)) hx hb dX9_write_142 (by decide) ?_
            have hP : va_P (dC, dI) cls [(h_wr, .inr (6, [.ref h_td, .ref h_bd, .ref h_wb, .int x_wr_length, .ref h_wd, .int x74, .ref h_wh, .int x75])), (h_wb, .inl (cy_wb, 600, .inl f_wb)), (h_wd, .inl (cy_wd, 616, .inl f76)), (h_wh, .inl (cy_wh, 2048, .inl f73)), (h_bd, .inr (1, [.ref h_td, .ref h_bnd, (v_bd 2), (v_bd 3), (v_bd 4), (v_bd 5), (v_bd 6), (v_bd 7), (v_bd 8), (v_bd 9), (v_bd 10), (v_bd 11), (v_bd 12)])), (h_bnd, .inl (cy_bnd, 256, .inl f_bnd)), (h_td, .inr (5, [.ref h_nam, .ref h_var, .ref h_trm, .ref h_ter, (v_td 4), (v_td 5), (v_td 6), (v_td 7), (v_td 8), (v_td 9)])), (h_nam, .inl (cy_nam, 300, .inr (.inl f_nam))), (h_var, .inl (cy_var, 300, .inl f_var)), (h_trm, .inl (cy_trm, 300, .inl f_trm)), (h_ter, .inl (cy_ter, 900, .inl f_ter))] H := hP.sub [9, 0, 10, 1, 2, 3, 4, 5, 6, 7, 8] rfl
            have hD : va_D A [(h_wr, .inr (6, [.ref h_td, .ref h_bd, .ref h_wb, .int x_wr_length, .ref h_wd, .int x74, .ref h_wh, .int x75])), (h_wb, .inl (cy_wb, 600, .inl f_wb)), (h_wd, .inl (cy_wd, 616, .inl f76)), (h_wh, .inl (cy_wh, 2048, .inl f73)), (h_bd, .inr (1, [.ref h_td, .ref h_bnd, (v_bd 2), (v_bd 3), (v_bd 4), (v_bd 5), (v_bd 6), (v_bd 7), (v_bd 8), (v_bd 9), (v_bd 10), (v_bd 11), (v_bd 12)])), (h_bnd, .inl (cy_bnd, 256, .inl f_bnd)), (h_td, .inr (5, [.ref h_nam, .ref h_var, .ref h_trm, .ref h_ter, (v_td 4), (v_td 5), (v_td 6), (v_td 7), (v_td 8), (v_td 9)])), (h_nam, .inl (cy_nam, 300, .inr (.inl f_nam))), (h_var, .inl (cy_var, 300, .inl f_var)), (h_trm, .inl (cy_trm, 300, .inl f_trm)), (h_ter, .inl (cy_ter, 900, .inl f_ter))] := hD.sub [9, 0, 10, 1, 2, 3, 4, 5, 6, 7, 8] (by decide) rfl
            refine W.widen (k := 0) (n := 0) (Nat.le_of_ble_eq_true rfl) (Nat.le_of_ble_eq_true rfl) ?_
            have cstm1 : ((-1) : Int32).toInt = -1 := by decide
            have w81 : 0 ≤ ((x_wr_length)).toInt ∧ ((x_wr_length)).toInt ≤ 600 := by omega
            have w82 : 0 ≤ ((x74)).toInt ∧ ((x74)).toInt ≤ 616 := by omega
            have w83 : 0 ≤ ((x75)).toInt ∧ ((x75)).toInt ≤ 2048 := by omega
            exact W.iret (v := (-1)) hx hb hr (fun t ht hW => ⟨⟨(-1), (x_wr_length, x74, x75, f_wb, f76, f73), rfl, ⟨w81, w82, w83, hf73⟩, by rw [ht]; exact hP, hD⟩, hS.F ht⟩) hS.2.2 dX9_write_143
          · have kc80 := (not_congr (cv_lt (by decide : (0 : Int32).toInt = 0) (rfl : (x75).toInt = (x75).toInt))).mp c80
            refine lv_aload_n hx hb dX9_write_124 rfl (lv_at hl 0 rfl) ?_
            refine va_get (D := (dC, dI)) (ci := 6) (v := .int x74) (C := RX9) (T := TX9) (N := 8) hx hb hw iwX9 hown hK hP 9 rfl rfl 5 (by decide) (hw _ w_f_X9_29) (fun _ h9 => h9) rfl dX9_write_125 ?_
            refine lv_iload_n hx hb dX9_write_128 rfl (lv_at hl 3 rfl) ?_
            refine lv_icmp_gt (tgt := 142) hx hb dX9_write_129 (by decide) (fun c84 => ?_) (fun c84 => ?_)
            · have kc84 := (cv_lt (rfl : (p3).toInt = (p3).toInt) (rfl : (x74).toInt = (x74).toInt)).mp c84
              refine lv_iconst (v := (-1)) hx hb dX9_write_142 (by decide) ?_
              have hP : va_P (dC, dI) cls [(h_wr, .inr (6, [.ref h_td, .ref h_bd, .ref h_wb, .int x_wr_length, .ref h_wd, .int x74, .ref h_wh, .int x75])), (h_wb, .inl (cy_wb, 600, .inl f_wb)), (h_wd, .inl (cy_wd, 616, .inl f76)), (h_wh, .inl (cy_wh, 2048, .inl f73)), (h_bd, .inr (1, [.ref h_td, .ref h_bnd, (v_bd 2), (v_bd 3), (v_bd 4), (v_bd 5), (v_bd 6), (v_bd 7), (v_bd 8), (v_bd 9), (v_bd 10), (v_bd 11), (v_bd 12)])), (h_bnd, .inl (cy_bnd, 256, .inl f_bnd)), (h_td, .inr (5, [.ref h_nam, .ref h_var, .ref h_trm, .ref h_ter, (v_td 4), (v_td 5), (v_td 6), (v_td 7), (v_td 8), (v_td 9)])), (h_nam, .inl (cy_nam, 300, .inr (.inl f_nam))), (h_var, .inl (cy_var, 300, .inl f_var)), (h_trm, .inl (cy_trm, 300, .inl f_trm)), (h_ter, .inl (cy_ter, 900, .inl f_ter))] H := hP.sub [9, 0, 10, 1, 2, 3, 4, 5, 6, 7, 8] rfl
              have hD : va_D A [(h_wr, .inr (6, [.ref h_td, .ref h_bd, .ref h_wb, .int x_wr_length, .ref h_wd, .int x74, .ref h_wh, .int x75])), (h_wb, .inl (cy_wb, 600, .inl f_wb)), (h_wd, .inl (cy_wd, 616, .inl f76)), (h_wh, .inl (cy_wh, 2048, .inl f73)), (h_bd, .inr (1, [.ref h_td, .ref h_bnd, (v_bd 2), (v_bd 3), (v_bd 4), (v_bd 5), (v_bd 6), (v_bd 7), (v_bd 8), (v_bd 9), (v_bd 10), (v_bd 11), (v_bd 12)])), (h_bnd, .inl (cy_bnd, 256, .inl f_bnd)), (h_td, .inr (5, [.ref h_nam, .ref h_var, .ref h_trm, .ref h_ter, (v_td 4), (v_td 5), (v_td 6), (v_td 7), (v_td 8), (v_td 9)])), (h_nam, .inl (cy_nam, 300, .inr (.inl f_nam))), (h_var, .inl (cy_var, 300, .inl f_var)), (h_trm, .inl (cy_trm, 300, .inl f_trm)), (h_ter, .inl (cy_ter, 900, .inl f_ter))] := hD.sub [9, 0, 10, 1, 2, 3, 4, 5, 6, 7, 8] (by decide) rfl
              refine W.widen (k := 0) (n := 0) (Nat.le_of_ble_eq_true rfl) (Nat.le_of_ble_eq_true rfl) ?_
              have cstm1 : ((-1) : Int32).toInt = -1 := by decide
              have w85 : 0 ≤ ((x_wr_length)).toInt ∧ ((x_wr_length)).toInt ≤ 600 := by omega
              have w86 : 0 ≤ ((x74)).toInt ∧ ((x74)).toInt ≤ 616 := by omega
              have w87 : 0 ≤ ((x75)).toInt ∧ ((x75)).toInt ≤ 2048 := by omega
              exact W.iret (v := (-1)) hx hb hr (fun t ht hW => ⟨⟨(-1), (x_wr_length, x74, x75, f_wb, f76, f73), rfl, ⟨w85, w86, w87, hf73⟩, by rw [ht]; exact hP, hD⟩, hS.F ht⟩) hS.2.2 dX9_write_143
            · have kc84 := (not_congr (cv_lt (rfl : (p3).toInt = (p3).toInt) (rfl : (x74).toInt = (x74).toInt))).mp c84
              refine lv_aload_n hx hb dX9_write_132 rfl (lv_at hl 0 rfl) ?_
              refine va_get (D := (dC, dI)) (ci := 6) (v := .int x74) (C := RX9) (T := TX9) (N := 8) hx hb hw iwX9 hown hK hP 9 rfl rfl 5 (by decide) (hw _ w_f_X9_29) (fun _ h9 => h9) rfl dX9_write_133 ?_
              refine lv_sipush (v := 600) hx hb dX9_write_136 (by decide) ?_
              refine lv_icmp_le (tgt := 144) hx hb dX9_write_139 (by decide) (fun c88 => ?_) (fun c88 => ?_)
              · have kc88 := (cv_le (rfl : (x74).toInt = (x74).toInt) (by decide : (600 : Int32).toInt = 600)).mp c88
                refine lv_aload_n hx hb dX9_write_144 rfl (lv_at hl 0 rfl) ?_
                refine va_get (D := (dC, dI)) (ci := 6) (v := .ref h_wd) (C := RX9) (T := TX9) (N := 8) hx hb hw iwX9 hown hK hP 9 rfl rfl 4 (by decide) (hw _ w_f_X9_15) (fun _ h9 => h9) rfl dX9_write_145 ?_
                refine lv_iconst (v := 0) hx hb dX9_write_148 (by decide) ?_
                refine lv_aload_n hx hb dX9_write_149 rfl (lv_at hl 0 rfl) ?_
                refine va_get (D := (dC, dI)) (ci := 6) (v := .ref h_wb) (C := RX9) (T := TX9) (N := 8) hx hb hw iwX9 hown hK hP 9 rfl rfl 2 (by decide) (hw _ w_f_X9_9) (fun _ h9 => h9) rfl dX9_write_150 ?_
                refine lv_iconst (v := 0) hx hb dX9_write_153 (by decide) ?_
                refine lv_aload_n hx hb dX9_write_154 rfl (lv_at hl 0 rfl) ?_
                refine va_get (D := (dC, dI)) (ci := 6) (v := .int x74) (C := RX9) (T := TX9) (N := 8) hx hb hw iwX9 hown hK hP 9 rfl rfl 5 (by decide) (hw _ w_f_X9_29) (fun _ h9 => h9) rfl dX9_write_155 ?_
                refine va_copyi hx hb (hml.trans hl.1.symm) hown (hw _ w_m_X9_50) (hw _ w_acn) (hw _ w_acs) (hw _ w_ini_System) hK hP hD hS 10 0 1 0 (sp := 0) (dp := 0) (n := x74) rfl rfl rfl rfl rfl (by decide) (by decide) (fun q => by have := (cv_lt (rfl : (x74).toInt = (x74).toInt) (by decide : (0 : Int32).toInt = 0)).mp q; omega) (by have : (0 : Int32).toNatClampNeg = 0 := (by decide); have := clamp_toInt (i := x74) (by omega); omega) (by have : (0 : Int32).toNatClampNeg = 0 := (by decide); have := clamp_toInt (i := x74) (by omega); omega) (fun _ _ => rfl) (Nat.le_of_ble_eq_true rfl) (Nat.le_of_ble_eq_true rfl) dX9_write_158 (fun H locs hP hD hS => ?_)
                obtain ⟨f89, ef89⟩ : ∃ g : Nat → Int32, g = va_cpy f76 f_wb (Int32.toNatClampNeg 0) (Int32.toNatClampNeg 0) (Int32.toNatClampNeg x74) := ⟨_, rfl⟩
                have hP : va_P (dC, dI) cls [(h_wb, .inl (cy_wb, 600, .inl f89)), (h_wh, .inl (cy_wh, 2048, .inl f73)), (h_bd, .inr (1, [.ref h_td, .ref h_bnd, (v_bd 2), (v_bd 3), (v_bd 4), (v_bd 5), (v_bd 6), (v_bd 7), (v_bd 8), (v_bd 9), (v_bd 10), (v_bd 11), (v_bd 12)])), (h_bnd, .inl (cy_bnd, 256, .inl f_bnd)), (h_td, .inr (5, [.ref h_nam, .ref h_var, .ref h_trm, .ref h_ter, (v_td 4), (v_td 5), (v_td 6), (v_td 7), (v_td 8), (v_td 9)])), (h_nam, .inl (cy_nam, 300, .inr (.inl f_nam))), (h_var, .inl (cy_var, 300, .inl f_var)), (h_trm, .inl (cy_trm, 300, .inl f_trm)), (h_ter, .inl (cy_ter, 900, .inl f_ter)), (h_wr, .inr (6, [.ref h_td, .ref h_bd, .ref h_wb, .int x_wr_length, .ref h_wd, .int x74, .ref h_wh, .int x75])), (h_wd, .inl (cy_wd, 616, .inl f76))] H := by rw [ef89]; exact hP
                have hD : va_D A [(h_wb, .inl (cy_wb, 600, .inl f89)), (h_wh, .inl (cy_wh, 2048, .inl f73)), (h_bd, .inr (1, [.ref h_td, .ref h_bnd, (v_bd 2), (v_bd 3), (v_bd 4), (v_bd 5), (v_bd 6), (v_bd 7), (v_bd 8), (v_bd 9), (v_bd 10), (v_bd 11), (v_bd 12)])), (h_bnd, .inl (cy_bnd, 256, .inl f_bnd)), (h_td, .inr (5, [.ref h_nam, .ref h_var, .ref h_trm, .ref h_ter, (v_td 4), (v_td 5), (v_td 6), (v_td 7), (v_td 8), (v_td 9)])), (h_nam, .inl (cy_nam, 300, .inr (.inl f_nam))), (h_var, .inl (cy_var, 300, .inl f_var)), (h_trm, .inl (cy_trm, 300, .inl f_trm)), (h_ter, .inl (cy_ter, 900, .inl f_ter)), (h_wr, .inr (6, [.ref h_td, .ref h_bd, .ref h_wb, .int x_wr_length, .ref h_wd, .int x74, .ref h_wh, .int x75])), (h_wd, .inl (cy_wd, 616, .inl f76))] := by rw [ef89]; exact hD
                clear ef89
                refine lv_aload_n hx hb dX9_write_161 rfl (lv_at hl 0 rfl) ?_
                refine lv_aload_n hx hb dX9_write_162 rfl (lv_at hl 0 rfl) ?_
                refine va_get (D := (dC, dI)) (ci := 6) (v := .int x74) (C := RX9) (T := TX9) (N := 8) hx hb hw iwX9 hown hK hP 9 rfl rfl 5 (by decide) (hw _ w_f_X9_29) (fun _ h9 => h9) rfl dX9_write_163 ?_
                refine va_put (D := (dC, dI)) (ci := 6) (v := .int x74) (ty := tyX9 3) (C := RX9) (T := TX9) (N := 8) hx hb hw iwX9 tyX9 tyX9_ok nmX9 hown hK hP hD hS 9 rfl rfl 3 (by decide) (hw _ w_f_X9_56) (fun _ h9 => h9) rfl (tyX9_ok 3 (by decide)) rfl rfl (Nat.le_of_ble_eq_true rfl) dX9_write_166 (fun H locs hP hD hS => ?_)
                have hP : va_P (dC, dI) cls [(h_wb, .inl (cy_wb, 600, .inl f89)), (h_wh, .inl (cy_wh, 2048, .inl f73)), (h_bd, .inr (1, [.ref h_td, .ref h_bnd, (v_bd 2), (v_bd 3), (v_bd 4), (v_bd 5), (v_bd 6), (v_bd 7), (v_bd 8), (v_bd 9), (v_bd 10), (v_bd 11), (v_bd 12)])), (h_bnd, .inl (cy_bnd, 256, .inl f_bnd)), (h_td, .inr (5, [.ref h_nam, .ref h_var, .ref h_trm, .ref h_ter, (v_td 4), (v_td 5), (v_td 6), (v_td 7), (v_td 8), (v_td 9)])), (h_nam, .inl (cy_nam, 300, .inr (.inl f_nam))), (h_var, .inl (cy_var, 300, .inl f_var)), (h_trm, .inl (cy_trm, 300, .inl f_trm)), (h_ter, .inl (cy_ter, 900, .inl f_ter)), (h_wr, .inr (6, [.ref h_td, .ref h_bd, .ref h_wb, .int x74, .ref h_wd, .int x74, .ref h_wh, .int x75])), (h_wd, .inl (cy_wd, 616, .inl f76))] H := hP
                have hD : va_D A [(h_wb, .inl (cy_wb, 600, .inl f89)), (h_wh, .inl (cy_wh, 2048, .inl f73)), (h_bd, .inr (1, [.ref h_td, .ref h_bnd, (v_bd 2), (v_bd 3), (v_bd 4), (v_bd 5), (v_bd 6), (v_bd 7), (v_bd 8), (v_bd 9), (v_bd 10), (v_bd 11), (v_bd 12)])), (h_bnd, .inl (cy_bnd, 256, .inl f_bnd)), (h_td, .inr (5, [.ref h_nam, .ref h_var, .ref h_trm, .ref h_ter, (v_td 4), (v_td 5), (v_td 6), (v_td 7), (v_td 8), (v_td 9)])), (h_nam, .inl (cy_nam, 300, .inr (.inl f_nam))), (h_var, .inl (cy_var, 300, .inl f_var)), (h_trm, .inl (cy_trm, 300, .inl f_trm)), (h_ter, .inl (cy_ter, 900, .inl f_ter)), (h_wr, .inr (6, [.ref h_td, .ref h_bd, .ref h_wb, .int x74, .ref h_wd, .int x74, .ref h_wh, .int x75])), (h_wd, .inl (cy_wd, 616, .inl f76))] := hD
                refine lv_aload_n hx hb dX9_write_169 rfl (lv_at hl 0 rfl) ?_
                refine va_get (D := (dC, dI)) (ci := 6) (v := .int x74) (C := RX9) (T := TX9) (N := 8) hx hb hw iwX9 hown hK hP 9 rfl rfl 3 (by decide) (hw _ w_f_X9_56) (fun _ h9 => h9) rfl dX9_write_170 ?_
                have hP : va_P (dC, dI) cls [(h_wr, .inr (6, [.ref h_td, .ref h_bd, .ref h_wb, .int x74, .ref h_wd, .int x74, .ref h_wh, .int x75])), (h_wb, .inl (cy_wb, 600, .inl f89)), (h_wd, .inl (cy_wd, 616, .inl f76)), (h_wh, .inl (cy_wh, 2048, .inl f73)), (h_bd, .inr (1, [.ref h_td, .ref h_bnd, (v_bd 2), (v_bd 3), (v_bd 4), (v_bd 5), (v_bd 6), (v_bd 7), (v_bd 8), (v_bd 9), (v_bd 10), (v_bd 11), (v_bd 12)])), (h_bnd, .inl (cy_bnd, 256, .inl f_bnd)), (h_td, .inr (5, [.ref h_nam, .ref h_var, .ref h_trm, .ref h_ter, (v_td 4), (v_td 5), (v_td 6), (v_td 7), (v_td 8), (v_td 9)])), (h_nam, .inl (cy_nam, 300, .inr (.inl f_nam))), (h_var, .inl (cy_var, 300, .inl f_var)), (h_trm, .inl (cy_trm, 300, .inl f_trm)), (h_ter, .inl (cy_ter, 900, .inl f_ter))] H := hP.sub [9, 0, 10, 1, 2, 3, 4, 5, 6, 7, 8] rfl
                have hD : va_D A [(h_wr, .inr (6, [.ref h_td, .ref h_bd, .ref h_wb, .int x74, .ref h_wd, .int x74, .ref h_wh, .int x75])), (h_wb, .inl (cy_wb, 600, .inl f89)), (h_wd, .inl (cy_wd, 616, .inl f76)), (h_wh, .inl (cy_wh, 2048, .inl f73)), (h_bd, .inr (1, [.ref h_td, .ref h_bnd, (v_bd 2), (v_bd 3), (v_bd 4), (v_bd 5), (v_bd 6), (v_bd 7), (v_bd 8), (v_bd 9), (v_bd 10), (v_bd 11), (v_bd 12)])), (h_bnd, .inl (cy_bnd, 256, .inl f_bnd)), (h_td, .inr (5, [.ref h_nam, .ref h_var, .ref h_trm, .ref h_ter, (v_td 4), (v_td 5), (v_td 6), (v_td 7), (v_td 8), (v_td 9)])), (h_nam, .inl (cy_nam, 300, .inr (.inl f_nam))), (h_var, .inl (cy_var, 300, .inl f_var)), (h_trm, .inl (cy_trm, 300, .inl f_trm)), (h_ter, .inl (cy_ter, 900, .inl f_ter))] := hD.sub [9, 0, 10, 1, 2, 3, 4, 5, 6, 7, 8] (by decide) rfl
                refine W.widen (k := 0) (n := 0) (Nat.le_of_ble_eq_true rfl) (Nat.le_of_ble_eq_true rfl) ?_
                have w90 : 0 ≤ ((x74)).toInt ∧ ((x74)).toInt ≤ 600 := by omega
                have w91 : 0 ≤ ((x74)).toInt ∧ ((x74)).toInt ≤ 616 := by omega
                have w92 : 0 ≤ ((x75)).toInt ∧ ((x75)).toInt ≤ 2048 := by omega
                exact W.iret (v := x74) hx hb hr (fun t ht hW => ⟨⟨x74, (x74, x74, x75, f89, f76, f73), rfl, ⟨w90, w91, w92, hf73⟩, by rw [ht]; exact hP, hD⟩, hS.F ht⟩) hS.2.2 dX9_write_173
              · have kc88 := (not_congr (cv_le (rfl : (x74).toInt = (x74).toInt) (by decide : (600 : Int32).toInt = 600))).mp c88
                refine lv_iconst (v := (-1)) hx hb dX9_write_142 (by decide) ?_
                have hP : va_P (dC, dI) cls [(h_wr, .inr (6, [.ref h_td, .ref h_bd, .ref h_wb, .int x_wr_length, .ref h_wd, .int x74, .ref h_wh, .int x75])), (h_wb, .inl (cy_wb, 600, .inl f_wb)), (h_wd, .inl (cy_wd, 616, .inl f76)), (h_wh, .inl (cy_wh, 2048, .inl f73)), (h_bd, .inr (1, [.ref h_td, .ref h_bnd, (v_bd 2), (v_bd 3), (v_bd 4), (v_bd 5), (v_bd 6), (v_bd 7), (v_bd 8), (v_bd 9), (v_bd 10), (v_bd 11), (v_bd 12)])), (h_bnd, .inl (cy_bnd, 256, .inl f_bnd)), (h_td, .inr (5, [.ref h_nam, .ref h_var, .ref h_trm, .ref h_ter, (v_td 4), (v_td 5), (v_td 6), (v_td 7), (v_td 8), (v_td 9)])), (h_nam, .inl (cy_nam, 300, .inr (.inl f_nam))), (h_var, .inl (cy_var, 300, .inl f_var)), (h_trm, .inl (cy_trm, 300, .inl f_trm)), (h_ter, .inl (cy_ter, 900, .inl f_ter))] H := hP.sub [9, 0, 10, 1, 2, 3, 4, 5, 6, 7, 8] rfl
                have hD : va_D A [(h_wr, .inr (6, [.ref h_td, .ref h_bd, .ref h_wb, .int x_wr_length, .ref h_wd, .int x74, .ref h_wh, .int x75])), (h_wb, .inl (cy_wb, 600, .inl f_wb)), (h_wd, .inl (cy_wd, 616, .inl f76)), (h_wh, .inl (cy_wh, 2048, .inl f73)), (h_bd, .inr (1, [.ref h_td, .ref h_bnd, (v_bd 2), (v_bd 3), (v_bd 4), (v_bd 5), (v_bd 6), (v_bd 7), (v_bd 8), (v_bd 9), (v_bd 10), (v_bd 11), (v_bd 12)])), (h_bnd, .inl (cy_bnd, 256, .inl f_bnd)), (h_td, .inr (5, [.ref h_nam, .ref h_var, .ref h_trm, .ref h_ter, (v_td 4), (v_td 5), (v_td 6), (v_td 7), (v_td 8), (v_td 9)])), (h_nam, .inl (cy_nam, 300, .inr (.inl f_nam))), (h_var, .inl (cy_var, 300, .inl f_var)), (h_trm, .inl (cy_trm, 300, .inl f_trm)), (h_ter, .inl (cy_ter, 900, .inl f_ter))] := hD.sub [9, 0, 10, 1, 2, 3, 4, 5, 6, 7, 8] (by decide) rfl
                refine W.widen (k := 0) (n := 0) (Nat.le_of_ble_eq_true rfl) (Nat.le_of_ble_eq_true rfl) ?_
                have cstm1 : ((-1) : Int32).toInt = -1 := by decide
                have w93 : 0 ≤ ((x_wr_length)).toInt ∧ ((x_wr_length)).toInt ≤ 600 := by omega
                have w94 : 0 ≤ ((x74)).toInt ∧ ((x74)).toInt ≤ 616 := by omega
                have w95 : 0 ≤ ((x75)).toInt ∧ ((x75)).toInt ≤ 2048 := by omega
                exact W.iret (v := (-1)) hx hb hr (fun t ht hW => ⟨⟨(-1), (x_wr_length, x74, x75, f_wb, f76, f73), rfl, ⟨w93, w94, w95, hf73⟩, by rw [ht]; exact hP, hD⟩, hS.F ht⟩) hS.2.2 dX9_write_143
        · have kc79 := (not_congr (cv_le (by decide : (1000000 : Int32).toInt = 1000000) (rfl : (x72).toInt = (x72).toInt))).mp c79
          refine lv_aload_n hx hb dX9_write_37 rfl (lv_at hl 0 rfl) ?_
          refine va_get (D := (dC, dI)) (ci := 6) (v := .int x75) (C := RX9) (T := TX9) (N := 8) hx hb hw iwX9 hown hK hP 9 rfl rfl 7 (by decide) (hw _ w_f_X9_37) (fun _ h9 => h9) rfl dX9_write_38 ?_
          refine lv_if_le (tgt := 117) hx hb dX9_write_41 (by decide) (fun c96 => ?_) (fun c96 => ?_)
          · have kc96 := (cv_le (rfl : (x75).toInt = (x75).toInt) (by decide : (0 : Int32).toInt = 0)).mp c96
            refine lv_aload_n hx hb dX9_write_117 rfl (lv_at hl 0 rfl) ?_
            refine va_get (D := (dC, dI)) (ci := 6) (v := .int x75) (C := RX9) (T := TX9) (N := 8) hx hb hw iwX9 hown hK hP 9 rfl rfl 7 (by decide) (hw _ w_f_X9_37) (fun _ h9 => h9) rfl dX9_write_118 ?_
            refine lv_if_gt (tgt := 142) hx hb dX9_write_121 (by decide) (fun c97 => False.elim (by have kc97 := (cv_lt (by decide : (0 : Int32).toInt = 0) (rfl : (x75).toInt = (x75).toInt)).mp c97; omega)) (fun _ => ?_)
            refine lv_aload_n hx hb dX9_write_124 rfl (lv_at hl 0 rfl) ?_
            refine va_get (D := (dC, dI)) (ci := 6) (v := .int x74) (C := RX9) (T := TX9) (N := 8) hx hb hw iwX9 hown hK hP 9 rfl rfl 5 (by decide) (hw _ w_f_X9_29) (fun _ h9 => h9) rfl dX9_write_125 ?_
            refine lv_iload_n hx hb dX9_write_128 rfl (lv_at hl 3 rfl) ?_
            refine lv_icmp_gt (tgt := 142) hx hb dX9_write_129 (by decide) (fun c98 => ?_) (fun c98 => ?_)
            · have kc98 := (cv_lt (rfl : (p3).toInt = (p3).toInt) (rfl : (x74).toInt = (x74).toInt)).mp c98
              refine lv_iconst (v := (-1)) hx hb dX9_write_142 (by decide) ?_
              have hP : va_P (dC, dI) cls [(h_wr, .inr (6, [.ref h_td, .ref h_bd, .ref h_wb, .int x_wr_length, .ref h_wd, .int x74, .ref h_wh, .int x75])), (h_wb, .inl (cy_wb, 600, .inl f_wb)), (h_wd, .inl (cy_wd, 616, .inl f76)), (h_wh, .inl (cy_wh, 2048, .inl f73)), (h_bd, .inr (1, [.ref h_td, .ref h_bnd, (v_bd 2), (v_bd 3), (v_bd 4), (v_bd 5), (v_bd 6), (v_bd 7), (v_bd 8), (v_bd 9), (v_bd 10), (v_bd 11), (v_bd 12)])), (h_bnd, .inl (cy_bnd, 256, .inl f_bnd)), (h_td, .inr (5, [.ref h_nam, .ref h_var, .ref h_trm, .ref h_ter, (v_td 4), (v_td 5), (v_td 6), (v_td 7), (v_td 8), (v_td 9)])), (h_nam, .inl (cy_nam, 300, .inr (.inl f_nam))), (h_var, .inl (cy_var, 300, .inl f_var)), (h_trm, .inl (cy_trm, 300, .inl f_trm)), (h_ter, .inl (cy_ter, 900, .inl f_ter))] H := hP.sub [9, 0, 10, 1, 2, 3, 4, 5, 6, 7, 8] rfl
              have hD : va_D A [(h_wr, .inr (6, [.ref h_td, .ref h_bd, .ref h_wb, .int x_wr_length, .ref h_wd, .int x74, .ref h_wh, .int x75])), (h_wb, .inl (cy_wb, 600, .inl f_wb)), (h_wd, .inl (cy_wd, 616, .inl f76)), (h_wh, .inl (cy_wh, 2048, .inl f73)), (h_bd, .inr (1, [.ref h_td, .ref h_bnd, (v_bd 2), (v_bd 3), (v_bd 4), (v_bd 5), (v_bd 6), (v_bd 7), (v_bd 8), (v_bd 9), (v_bd 10), (v_bd 11), (v_bd 12)])), (h_bnd, .inl (cy_bnd, 256, .inl f_bnd)), (h_td, .inr (5, [.ref h_nam, .ref h_var, .ref h_trm, .ref h_ter, (v_td 4), (v_td 5), (v_td 6), (v_td 7), (v_td 8), (v_td 9)])), (h_nam, .inl (cy_nam, 300, .inr (.inl f_nam))), (h_var, .inl (cy_var, 300, .inl f_var)), (h_trm, .inl (cy_trm, 300, .inl f_trm)), (h_ter, .inl (cy_ter, 900, .inl f_ter))] := hD.sub [9, 0, 10, 1, 2, 3, 4, 5, 6, 7, 8] (by decide) rfl
              refine W.widen (k := 0) (n := 0) (Nat.le_of_ble_eq_true rfl) (Nat.le_of_ble_eq_true rfl) ?_
              have cstm1 : ((-1) : Int32).toInt = -1 := by decide
              have w99 : 0 ≤ ((x_wr_length)).toInt ∧ ((x_wr_length)).toInt ≤ 600 := by omega
              have w100 : 0 ≤ ((x74)).toInt ∧ ((x74)).toInt ≤ 616 := by omega
              have w101 : 0 ≤ ((x75)).toInt ∧ ((x75)).toInt ≤ 2048 := by omega
              exact W.iret (v := (-1)) hx hb hr (fun t ht hW => ⟨⟨(-1), (x_wr_length, x74, x75, f_wb, f76, f73), rfl, ⟨w99, w100, w101, hf73⟩, by rw [ht]; exact hP, hD⟩, hS.F ht⟩) hS.2.2 dX9_write_143
            · have kc98 := (not_congr (cv_lt (rfl : (p3).toInt = (p3).toInt) (rfl : (x74).toInt = (x74).toInt))).mp c98
              refine lv_aload_n hx hb dX9_write_132 rfl (lv_at hl 0 rfl) ?_
              refine va_get (D := (dC, dI)) (ci := 6) (v := .int x74) (C := RX9) (T := TX9) (N := 8) hx hb hw iwX9 hown hK hP 9 rfl rfl 5 (by decide) (hw _ w_f_X9_29) (fun _ h9 => h9) rfl dX9_write_133 ?_
              refine lv_sipush (v := 600) hx hb dX9_write_136 (by decide) ?_
              refine lv_icmp_le (tgt := 144) hx hb dX9_write_139 (by decide) (fun c102 => ?_) (fun c102 => ?_)
              · have kc102 := (cv_le (rfl : (x74).toInt = (x74).toInt) (by decide : (600 : Int32).toInt = 600)).mp c102
                refine lv_aload_n hx hb dX9_write_144 rfl (lv_at hl 0 rfl) ?_
                refine va_get (D := (dC, dI)) (ci := 6) (v := .ref h_wd) (C := RX9) (T := TX9) (N := 8) hx hb hw iwX9 hown hK hP 9 rfl rfl 4 (by decide) (hw _ w_f_X9_15) (fun _ h9 => h9) rfl dX9_write_145 ?_
                refine lv_iconst (v := 0) hx hb dX9_write_148 (by decide) ?_
                refine lv_aload_n hx hb dX9_write_149 rfl (lv_at hl 0 rfl) ?_
                refine va_get (D := (dC, dI)) (ci := 6) (v := .ref h_wb) (C := RX9) (T := TX9) (N := 8) hx hb hw iwX9 hown hK hP 9 rfl rfl 2 (by decide) (hw _ w_f_X9_9) (fun _ h9 => h9) rfl dX9_write_150 ?_
                refine lv_iconst (v := 0) hx hb dX9_write_153 (by decide) ?_
                refine lv_aload_n hx hb dX9_write_154 rfl (lv_at hl 0 rfl) ?_
                refine va_get (D := (dC, dI)) (ci := 6) (v := .int x74) (C := RX9) (T := TX9) (N := 8) hx hb hw iwX9 hown hK hP 9 rfl rfl 5 (by decide) (hw _ w_f_X9_29) (fun _ h9 => h9) rfl dX9_write_155 ?_
                refine va_copyi hx hb (hml.trans hl.1.symm) hown (hw _ w_m_X9_50) (hw _ w_acn) (hw _ w_acs) (hw _ w_ini_System) hK hP hD hS 10 0 1 0 (sp := 0) (dp := 0) (n := x74) rfl rfl rfl rfl rfl (by decide) (by decide) (fun q => by have := (cv_lt (rfl : (x74).toInt = (x74).toInt) (by decide : (0 : Int32).toInt = 0)).mp q; omega) (by have : (0 : Int32).toNatClampNeg = 0 := (by decide); have := clamp_toInt (i := x74) (by omega); omega) (by have : (0 : Int32).toNatClampNeg = 0 := (by decide); have := clamp_toInt (i := x74) (by omega); omega) (fun _ _ => rfl) (Nat.le_of_ble_eq_true rfl) (Nat.le_of_ble_eq_true rfl) dX9_write_158 (fun H locs hP hD hS => ?_)
                obtain ⟨f103, ef103⟩ : ∃ g : Nat → Int32, g = va_cpy f76 f_wb (Int32.toNatClampNeg 0) (Int32.toNatClampNeg 0) (Int32.toNatClampNeg x74) := ⟨_, rfl⟩
                have hP : va_P (dC, dI) cls [(h_wb, .inl (cy_wb, 600, .inl f103)), (h_wh, .inl (cy_wh, 2048, .inl f73)), (h_bd, .inr (1, [.ref h_td, .ref h_bnd, (v_bd 2), (v_bd 3), (v_bd 4), (v_bd 5), (v_bd 6), (v_bd 7), (v_bd 8), (v_bd 9), (v_bd 10), (v_bd 11), (v_bd 12)])), (h_bnd, .inl (cy_bnd, 256, .inl f_bnd)), (h_td, .inr (5, [.ref h_nam, .ref h_var, .ref h_trm, .ref h_ter, (v_td 4), (v_td 5), (v_td 6), (v_td 7), (v_td 8), (v_td 9)])), (h_nam, .inl (cy_nam, 300, .inr (.inl f_nam))), (h_var, .inl (cy_var, 300, .inl f_var)), (h_trm, .inl (cy_trm, 300, .inl f_trm)), (h_ter, .inl (cy_ter, 900, .inl f_ter)), (h_wr, .inr (6, [.ref h_td, .ref h_bd, .ref h_wb, .int x_wr_length, .ref h_wd, .int x74, .ref h_wh, .int x75])), (h_wd, .inl (cy_wd, 616, .inl f76))] H := by rw [ef103]; exact hP
                have hD : va_D A [(h_wb, .inl (cy_wb, 600, .inl f103)), (h_wh, .inl (cy_wh, 2048, .inl f73)), (h_bd, .inr (1, [.ref h_td, .ref h_bnd, (v_bd 2), (v_bd 3), (v_bd 4), (v_bd 5), (v_bd 6), (v_bd 7), (v_bd 8), (v_bd 9), (v_bd 10), (v_bd 11), (v_bd 12)])), (h_bnd, .inl (cy_bnd, 256, .inl f_bnd)), (h_td, .inr (5, [.ref h_nam, .ref h_var, .ref h_trm, .ref h_ter, (v_td 4), (v_td 5), (v_td 6), (v_td 7), (v_td 8), (v_td 9)])), (h_nam, .inl (cy_nam, 300, .inr (.inl f_nam))), (h_var, .inl (cy_var, 300, .inl f_var)), (h_trm, .inl (cy_trm, 300, .inl f_trm)), (h_ter, .inl (cy_ter, 900, .inl f_ter)), (h_wr, .inr (6, [.ref h_td, .ref h_bd, .ref h_wb, .int x_wr_length, .ref h_wd, .int x74, .ref h_wh, .int x75])), (h_wd, .inl (cy_wd, 616, .inl f76))] := by rw [ef103]; exact hD
                clear ef103
                refine lv_aload_n hx hb dX9_write_161 rfl (lv_at hl 0 rfl) ?_
                refine lv_aload_n hx hb dX9_write_162 rfl (lv_at hl 0 rfl) ?_
                refine va_get (D := (dC, dI)) (ci := 6) (v := .int x74) (C := RX9) (T := TX9) (N := 8) hx hb hw iwX9 hown hK hP 9 rfl rfl 5 (by decide) (hw _ w_f_X9_29) (fun _ h9 => h9) rfl dX9_write_163 ?_
                refine va_put (D := (dC, dI)) (ci := 6) (v := .int x74) (ty := tyX9 3) (C := RX9) (T := TX9) (N := 8) hx hb hw iwX9 tyX9 tyX9_ok nmX9 hown hK hP hD hS 9 rfl rfl 3 (by decide) (hw _ w_f_X9_56) (fun _ h9 => h9) rfl (tyX9_ok 3 (by decide)) rfl rfl (Nat.le_of_ble_eq_true rfl) dX9_write_166 (fun H locs hP hD hS => ?_)
                have hP : va_P (dC, dI) cls [(h_wb, .inl (cy_wb, 600, .inl f103)), (h_wh, .inl (cy_wh, 2048, .inl f73)), (h_bd, .inr (1, [.ref h_td, .ref h_bnd, (v_bd 2), (v_bd 3), (v_bd 4), (v_bd 5), (v_bd 6), (v_bd 7), (v_bd 8), (v_bd 9), (v_bd 10), (v_bd 11), (v_bd 12)])), (h_bnd, .inl (cy_bnd, 256, .inl f_bnd)), (h_td, .inr (5, [.ref h_nam, .ref h_var, .ref h_trm, .ref h_ter, (v_td 4), (v_td 5), (v_td 6), (v_td 7), (v_td 8), (v_td 9)])), (h_nam, .inl (cy_nam, 300, .inr (.inl f_nam))), (h_var, .inl (cy_var, 300, .inl f_var)), (h_trm, .inl (cy_trm, 300, .inl f_trm)), (h_ter, .inl (cy_ter, 900, .inl f_ter)), (h_wr, .inr (6, [.ref h_td, .ref h_bd, .ref h_wb, .int x74, .ref h_wd, .int x74, .ref h_wh, .int x75])), (h_wd, .inl (cy_wd, 616, .inl f76))] H := hP
                have hD : va_D A [(h_wb, .inl (cy_wb, 600, .inl f103)), (h_wh, .inl (cy_wh, 2048, .inl f73)), (h_bd, .inr (1, [.ref h_td, .ref h_bnd, (v_bd 2), (v_bd 3), (v_bd 4), (v_bd 5), (v_bd 6), (v_bd 7), (v_bd 8), (v_bd 9), (v_bd 10), (v_bd 11), (v_bd 12)])), (h_bnd, .inl (cy_bnd, 256, .inl f_bnd)), (h_td, .inr (5, [.ref h_nam, .ref h_var, .ref h_trm, .ref h_ter, (v_td 4), (v_td 5), (v_td 6), (v_td 7), (v_td 8), (v_td 9)])), (h_nam, .inl (cy_nam, 300, .inr (.inl f_nam))), (h_var, .inl (cy_var, 300, .inl f_var)), (h_trm, .inl (cy_trm, 300, .inl f_trm)), (h_ter, .inl (cy_ter, 900, .inl f_ter)), (h_wr, .inr (6, [.ref h_td, .ref h_bd, .ref h_wb, .int x74, .ref h_wd, .int x74, .ref h_wh, .int x75])), (h_wd, .inl (cy_wd, 616, .inl f76))] := hD
                refine lv_aload_n hx hb dX9_write_169 rfl (lv_at hl 0 rfl) ?_
                refine va_get (D := (dC, dI)) (ci := 6) (v := .int x74) (C := RX9) (T := TX9) (N := 8) hx hb hw iwX9 hown hK hP 9 rfl rfl 3 (by decide) (hw _ w_f_X9_56) (fun _ h9 => h9) rfl dX9_write_170 ?_
                have hP : va_P (dC, dI) cls [(h_wr, .inr (6, [.ref h_td, .ref h_bd, .ref h_wb, .int x74, .ref h_wd, .int x74, .ref h_wh, .int x75])), (h_wb, .inl (cy_wb, 600, .inl f103)), (h_wd, .inl (cy_wd, 616, .inl f76)), (h_wh, .inl (cy_wh, 2048, .inl f73)), (h_bd, .inr (1, [.ref h_td, .ref h_bnd, (v_bd 2), (v_bd 3), (v_bd 4), (v_bd 5), (v_bd 6), (v_bd 7), (v_bd 8), (v_bd 9), (v_bd 10), (v_bd 11), (v_bd 12)])), (h_bnd, .inl (cy_bnd, 256, .inl f_bnd)), (h_td, .inr (5, [.ref h_nam, .ref h_var, .ref h_trm, .ref h_ter, (v_td 4), (v_td 5), (v_td 6), (v_td 7), (v_td 8), (v_td 9)])), (h_nam, .inl (cy_nam, 300, .inr (.inl f_nam))), (h_var, .inl (cy_var, 300, .inl f_var)), (h_trm, .inl (cy_trm, 300, .inl f_trm)), (h_ter, .inl (cy_ter, 900, .inl f_ter))] H := hP.sub [9, 0, 10, 1, 2, 3, 4, 5, 6, 7, 8] rfl
                have hD : va_D A [(h_wr, .inr (6, [.ref h_td, .ref h_bd, .ref h_wb, .int x74, .ref h_wd, .int x74, .ref h_wh, .int x75])), (h_wb, .inl (cy_wb, 600, .inl f103)), (h_wd, .inl (cy_wd, 616, .inl f76)), (h_wh, .inl (cy_wh, 2048, .inl f73)), (h_bd, .inr (1, [.ref h_td, .ref h_bnd, (v_bd 2), (v_bd 3), (v_bd 4), (v_bd 5), (v_bd 6), (v_bd 7), (v_bd 8), (v_bd 9), (v_bd 10), (v_bd 11), (v_bd 12)])), (h_bnd, .inl (cy_bnd, 256, .inl f_bnd)), (h_td, .inr (5, [.ref h_nam, .ref h_var, .ref h_trm, .ref h_ter, (v_td 4), (v_td 5), (v_td 6), (v_td 7), (v_td 8), (v_td 9)])), (h_nam, .inl (cy_nam, 300, .inr (.inl f_nam))), (h_var, .inl (cy_var, 300, .inl f_var)), (h_trm, .inl (cy_trm, 300, .inl f_trm)), (h_ter, .inl (cy_ter, 900, .inl f_ter))] := hD.sub [9, 0, 10, 1, 2, 3, 4, 5, 6, 7, 8] (by decide) rfl
                refine W.widen (k := 0) (n := 0) (Nat.le_of_ble_eq_true rfl) (Nat.le_of_ble_eq_true rfl) ?_
                have w104 : 0 ≤ ((x74)).toInt ∧ ((x74)).toInt ≤ 600 := by omega
                have w105 : 0 ≤ ((x74)).toInt ∧ ((x74)).toInt ≤ 616 := by omega
                have w106 : 0 ≤ ((x75)).toInt ∧ ((x75)).toInt ≤ 2048 := by omega
                exact W.iret (v := x74) hx hb hr (fun t ht hW => ⟨⟨x74, (x74, x74, x75, f103, f76, f73), rfl, ⟨w104, w105, w106, hf73⟩, by rw [ht]; exact hP, hD⟩, hS.F ht⟩) hS.2.2 dX9_write_173
              · have kc102 := (not_congr (cv_le (rfl : (x74).toInt = (x74).toInt) (by decide : (600 : Int32).toInt = 600))).mp c102
                refine lv_iconst (v := (-1)) hx hb dX9_write_142 (by decide) ?_
                have hP : va_P (dC, dI) cls [(h_wr, .inr (6, [.ref h_td, .ref h_bd, .ref h_wb, .int x_wr_length, .ref h_wd, .int x74, .ref h_wh, .int x75])), (h_wb, .inl (cy_wb, 600, .inl f_wb)), (h_wd, .inl (cy_wd, 616, .inl f76)), (h_wh, .inl (cy_wh, 2048, .inl f73)), (h_bd, .inr (1, [.ref h_td, .ref h_bnd, (v_bd 2), (v_bd 3), (v_bd 4), (v_bd 5), (v_bd 6), (v_bd 7), (v_bd 8), (v_bd 9), (v_bd 10), (v_bd 11), (v_bd 12)])), (h_bnd, .inl (cy_bnd, 256, .inl f_bnd)), (h_td, .inr (5, [.ref h_nam, .ref h_var, .ref h_trm, .ref h_ter, (v_td 4), (v_td 5), (v_td 6), (v_td 7), (v_td 8), (v_td 9)])), (h_nam, .inl (cy_nam, 300, .inr (.inl f_nam))), (h_var, .inl (cy_var, 300, .inl f_var)), (h_trm, .inl (cy_trm, 300, .inl f_trm)), (h_ter, .inl (cy_ter, 900, .inl f_ter))] H := hP.sub [9, 0, 10, 1, 2, 3, 4, 5, 6, 7, 8] rfl
                have hD : va_D A [(h_wr, .inr (6, [.ref h_td, .ref h_bd, .ref h_wb, .int x_wr_length, .ref h_wd, .int x74, .ref h_wh, .int x75])), (h_wb, .inl (cy_wb, 600, .inl f_wb)), (h_wd, .inl (cy_wd, 616, .inl f76)), (h_wh, .inl (cy_wh, 2048, .inl f73)), (h_bd, .inr (1, [.ref h_td, .ref h_bnd, (v_bd 2), (v_bd 3), (v_bd 4), (v_bd 5), (v_bd 6), (v_bd 7), (v_bd 8), (v_bd 9), (v_bd 10), (v_bd 11), (v_bd 12)])), (h_bnd, .inl (cy_bnd, 256, .inl f_bnd)), (h_td, .inr (5, [.ref h_nam, .ref h_var, .ref h_trm, .ref h_ter, (v_td 4), (v_td 5), (v_td 6), (v_td 7), (v_td 8), (v_td 9)])), (h_nam, .inl (cy_nam, 300, .inr (.inl f_nam))), (h_var, .inl (cy_var, 300, .inl f_var)), (h_trm, .inl (cy_trm, 300, .inl f_trm)), (h_ter, .inl (cy_ter, 900, .inl f_ter))] := hD.sub [9, 0, 10, 1, 2, 3, 4, 5, 6, 7, 8] (by decide) rfl
                refine W.widen (k := 0) (n := 0) (Nat.le_of_ble_eq_true rfl) (Nat.le_of_ble_eq_true rfl) ?_
                have cstm1 : ((-1) : Int32).toInt = -1 := by decide
                have w107 : 0 ≤ ((x_wr_length)).toInt ∧ ((x_wr_length)).toInt ≤ 600 := by omega
                have w108 : 0 ≤ ((x74)).toInt ∧ ((x74)).toInt ≤ 616 := by omega
                have w109 : 0 ≤ ((x75)).toInt ∧ ((x75)).toInt ≤ 2048 := by omega
                exact W.iret (v := (-1)) hx hb hr (fun t ht hW => ⟨⟨(-1), (x_wr_length, x74, x75, f_wb, f76, f73), rfl, ⟨w107, w108, w109, hf73⟩, by rw [ht]; exact hP, hD⟩, hS.F ht⟩) hS.2.2 dX9_write_143
          · have kc96 := (not_congr (cv_le (rfl : (x75).toInt = (x75).toInt) (by decide : (0 : Int32).toInt = 0))).mp c96
            refine lv_aload_n hx hb dX9_write_44 rfl (lv_at hl 0 rfl) ?_
            refine va_get (D := (dC, dI)) (ci := 6) (v := .int x74) (C := RX9) (T := TX9) (N := 8) hx hb hw iwX9 hown hK hP 9 rfl rfl 5 (by decide) (hw _ w_f_X9_29) (fun _ h9 => h9) rfl dX9_write_45 ?_
            refine lv_iload_n hx hb dX9_write_48 rfl (lv_at hl 3 rfl) ?_
            refine lv_icmp_gt (tgt := 117) hx hb dX9_write_49 (by decide) (fun c110 => ?_) (fun c110 => ?_)
            · have kc110 := (cv_lt (rfl : (p3).toInt = (p3).toInt) (rfl : (x74).toInt = (x74).toInt)).mp c110
              refine lv_aload_n hx hb dX9_write_117 rfl (lv_at hl 0 rfl) ?_
              refine va_get (D := (dC, dI)) (ci := 6) (v := .int x75) (C := RX9) (T := TX9) (N := 8) hx hb hw iwX9 hown hK hP 9 rfl rfl 7 (by decide) (hw _ w_f_X9_37) (fun _ h9 => h9) rfl dX9_write_118 ?_
              refine lv_if_gt (tgt := 142) hx hb dX9_write_121 (by decide) (fun _ => ?_) (fun c111 => False.elim (by have kc111 := (not_congr (cv_lt (by decide : (0 : Int32).toInt = 0) (rfl : (x75).toInt = (x75).toInt))).mp c111; omega))
              refine lv_iconst (v := (-1)) hx hb dX9_write_142 (by decide) ?_
              have hP : va_P (dC, dI) cls [(h_wr, .inr (6, [.ref h_td, .ref h_bd, .ref h_wb, .int x_wr_length, .ref h_wd, .int x74, .ref h_wh, .int x75])), (h_wb, .inl (cy_wb, 600, .inl f_wb)), (h_wd, .inl (cy_wd, 616, .inl f76)), (h_wh, .inl (cy_wh, 2048, .inl f73)), (h_bd, .inr (1, [.ref h_td, .ref h_bnd, (v_bd 2), (v_bd 3), (v_bd 4), (v_bd 5), (v_bd 6), (v_bd 7), (v_bd 8), (v_bd 9), (v_bd 10), (v_bd 11), (v_bd 12)])), (h_bnd, .inl (cy_bnd, 256, .inl f_bnd)), (h_td, .inr (5, [.ref h_nam, .ref h_var, .ref h_trm, .ref h_ter, (v_td 4), (v_td 5), (v_td 6), (v_td 7), (v_td 8), (v_td 9)])), (h_nam, .inl (cy_nam, 300, .inr (.inl f_nam))), (h_var, .inl (cy_var, 300, .inl f_var)), (h_trm, .inl (cy_trm, 300, .inl f_trm)), (h_ter, .inl (cy_ter, 900, .inl f_ter))] H := hP.sub [9, 0, 10, 1, 2, 3, 4, 5, 6, 7, 8] rfl
              have hD : va_D A [(h_wr, .inr (6, [.ref h_td, .ref h_bd, .ref h_wb, .int x_wr_length, .ref h_wd, .int x74, .ref h_wh, .int x75])), (h_wb, .inl (cy_wb, 600, .inl f_wb)), (h_wd, .inl (cy_wd, 616, .inl f76)), (h_wh, .inl (cy_wh, 2048, .inl f73)), (h_bd, .inr (1, [.ref h_td, .ref h_bnd, (v_bd 2), (v_bd 3), (v_bd 4), (v_bd 5), (v_bd 6), (v_bd 7), (v_bd 8), (v_bd 9), (v_bd 10), (v_bd 11), (v_bd 12)])), (h_bnd, .inl (cy_bnd, 256, .inl f_bnd)), (h_td, .inr (5, [.ref h_nam, .ref h_var, .ref h_trm, .ref h_ter, (v_td 4), (v_td 5), (v_td 6), (v_td 7), (v_td 8), (v_td 9)])), (h_nam, .inl (cy_nam, 300, .inr (.inl f_nam))), (h_var, .inl (cy_var, 300, .inl f_var)), (h_trm, .inl (cy_trm, 300, .inl f_trm)), (h_ter, .inl (cy_ter, 900, .inl f_ter))] := hD.sub [9, 0, 10, 1, 2, 3, 4, 5, 6, 7, 8] (by decide) rfl
              refine W.widen (k := 0) (n := 0) (Nat.le_of_ble_eq_true rfl) (Nat.le_of_ble_eq_true rfl) ?_
              have cstm1 : ((-1) : Int32).toInt = -1 := by decide
              have w112 : 0 ≤ ((x_wr_length)).toInt ∧ ((x_wr_length)).toInt ≤ 600 := by omega
              have w113 : 0 ≤ ((x74)).toInt ∧ ((x74)).toInt ≤ 616 := by omega
              have w114 : 0 ≤ ((x75)).toInt ∧ ((x75)).toInt ≤ 2048 := by omega
              exact W.iret (v := (-1)) hx hb hr (fun t ht hW => ⟨⟨(-1), (x_wr_length, x74, x75, f_wb, f76, f73), rfl, ⟨w112, w113, w114, hf73⟩, by rw [ht]; exact hP, hD⟩, hS.F ht⟩) hS.2.2 dX9_write_143
            · have kc110 := (not_congr (cv_lt (rfl : (p3).toInt = (p3).toInt) (rfl : (x74).toInt = (x74).toInt))).mp c110
              refine lv_aload_n hx hb dX9_write_52 rfl (lv_at hl 0 rfl) ?_
              refine lv_dup hx hb dX9_write_53 rfl ?_
              refine va_get (D := (dC, dI)) (ci := 6) (v := .int x75) (C := RX9) (T := TX9) (N := 8) hx hb hw iwX9 hown hK hP 9 rfl rfl 7 (by decide) (hw _ w_f_X9_37) (fun _ h9 => h9) rfl dX9_write_54 ?_
              refine lv_iconst (v := 1) hx hb dX9_write_57 (by decide) ?_
              refine lv_isub hx hb dX9_write_58 ?_
              refine lv_topi (fun z115 ez115 => ?_)
              have tz115 : (z115).toInt = (x75).toInt - 1 := by rw [ez115]; exact i_sub rfl (by decide) (by omega)
              refine va_put (D := (dC, dI)) (ci := 6) (v := .int z115) (ty := tyX9 7) (C := RX9) (T := TX9) (N := 8) hx hb hw iwX9 tyX9 tyX9_ok nmX9 hown hK hP hD hS 9 rfl rfl 7 (by decide) (hw _ w_f_X9_37) (fun _ h9 => h9) rfl (tyX9_ok 7 (by decide)) rfl rfl (Nat.le_of_ble_eq_true rfl) dX9_write_59 (fun H locs hP hD hS => ?_)
              have hP : va_P (dC, dI) cls [(h_wb, .inl (cy_wb, 600, .inl f_wb)), (h_wh, .inl (cy_wh, 2048, .inl f73)), (h_bd, .inr (1, [.ref h_td, .ref h_bnd, (v_bd 2), (v_bd 3), (v_bd 4), (v_bd 5), (v_bd 6), (v_bd 7), (v_bd 8), (v_bd 9), (v_bd 10), (v_bd 11), (v_bd 12)])), (h_bnd, .inl (cy_bnd, 256, .inl f_bnd)), (h_td, .inr (5, [.ref h_nam, .ref h_var, .ref h_trm, .ref h_ter, (v_td 4), (v_td 5), (v_td 6), (v_td 7), (v_td 8), (v_td 9)])), (h_nam, .inl (cy_nam, 300, .inr (.inl f_nam))), (h_var, .inl (cy_var, 300, .inl f_var)), (h_trm, .inl (cy_trm, 300, .inl f_trm)), (h_ter, .inl (cy_ter, 900, .inl f_ter)), (h_wr, .inr (6, [.ref h_td, .ref h_bd, .ref h_wb, .int x_wr_length, .ref h_wd, .int x74, .ref h_wh, .int z115])), (h_wd, .inl (cy_wd, 616, .inl f76))] H := hP
              have hD : va_D A [(h_wb, .inl (cy_wb, 600, .inl f_wb)), (h_wh, .inl (cy_wh, 2048, .inl f73)), (h_bd, .inr (1, [.ref h_td, .ref h_bnd, (v_bd 2), (v_bd 3), (v_bd 4), (v_bd 5), (v_bd 6), (v_bd 7), (v_bd 8), (v_bd 9), (v_bd 10), (v_bd 11), (v_bd 12)])), (h_bnd, .inl (cy_bnd, 256, .inl f_bnd)), (h_td, .inr (5, [.ref h_nam, .ref h_var, .ref h_trm, .ref h_ter, (v_td 4), (v_td 5), (v_td 6), (v_td 7), (v_td 8), (v_td 9)])), (h_nam, .inl (cy_nam, 300, .inr (.inl f_nam))), (h_var, .inl (cy_var, 300, .inl f_var)), (h_trm, .inl (cy_trm, 300, .inl f_trm)), (h_ter, .inl (cy_ter, 900, .inl f_ter)), (h_wr, .inr (6, [.ref h_td, .ref h_bd, .ref h_wb, .int x_wr_length, .ref h_wd, .int x74, .ref h_wh, .int z115])), (h_wd, .inl (cy_wd, 616, .inl f76))] := hD
              refine lv_aload_n hx hb dX9_write_62 rfl (lv_at hl 0 rfl) ?_
              refine va_get (D := (dC, dI)) (ci := 6) (v := .ref h_wh) (C := RX9) (T := TX9) (N := 8) hx hb hw iwX9 hown hK hP 9 rfl rfl 6 (by decide) (hw _ w_f_X9_18) (fun _ h9 => h9) rfl dX9_write_63 ?_
              refine lv_aload_n hx hb dX9_write_66 rfl (lv_at hl 0 rfl) ?_
              refine va_get (D := (dC, dI)) (ci := 6) (v := .int z115) (C := RX9) (T := TX9) (N := 8) hx hb hw iwX9 hown hK hP 9 rfl rfl 7 (by decide) (hw _ w_f_X9_37) (fun _ h9 => h9) rfl dX9_write_67 ?_
              refine va_iald hx hb hK hP 1 2 rfl rfl (i := z115) (vp_in_iff.mpr (by omega)) dX9_write_70 ?_
              refine lv_topi (fun z116 ez116 => ?_)
              have rz116 : -127 ≤ (z116).toInt ∧ (z116).toInt ≤ 9599 := by rw [ez116]; exact hf73 _
              refine lv_if_ge (tgt := 91) hx hb dX9_write_71 (by decide) (fun c117 => ?_) (fun c117 => ?_)
              · have kc117 := (cv_le (by decide : (0 : Int32).toInt = 0) (rfl : (z116).toInt = (z116).toInt)).mp c117
                refine lv_aload_n hx hb dX9_write_91 rfl (lv_at hl 0 rfl) ?_
                refine lv_aload_n hx hb dX9_write_92 rfl (lv_at hl 0 rfl) ?_
                refine va_get (D := (dC, dI)) (ci := 6) (v := .ref h_bd) (C := RX9) (T := TX9) (N := 8) hx hb hw iwX9 hown hK hP 9 rfl rfl 1 (by decide) (hw _ w_f_X9_25) (fun _ h9 => h9) rfl dX9_write_93 ?_
                refine lv_aload_n hx hb dX9_write_96 rfl (lv_at hl 0 rfl) ?_
                refine va_get (D := (dC, dI)) (ci := 6) (v := .ref h_wh) (C := RX9) (T := TX9) (N := 8) hx hb hw iwX9 hown hK hP 9 rfl rfl 6 (by decide) (hw _ w_f_X9_18) (fun _ h9 => h9) rfl dX9_write_97 ?_
                refine lv_aload_n hx hb dX9_write_100 rfl (lv_at hl 0 rfl) ?_
                refine va_get (D := (dC, dI)) (ci := 6) (v := .int z115) (C := RX9) (T := TX9) (N := 8) hx hb hw iwX9 hown hK hP 9 rfl rfl 7 (by decide) (hw _ w_f_X9_37) (fun _ h9 => h9) rfl dX9_write_101 ?_
                refine va_iald hx hb hK hP 1 2 rfl rfl (i := z115) (vp_in_iff.mpr (by omega)) dX9_write_104 ?_
                refine lv_topi (fun z118 ez118 => ?_)
                have qz118 : (z118).toInt = (z116).toInt := by rw [ez118, ez116]
                have rz118 : -127 ≤ (z118).toInt ∧ (z118).toInt ≤ 9599 := by rw [ez118]; exact hf73 _
                have hPc := hP.sub (ws' := [(h_bd, .inr (1, [.ref h_td, .ref h_bnd, (v_bd 2), (v_bd 3), (v_bd 4), (v_bd 5), (v_bd 6), (v_bd 7), (v_bd 8), (v_bd 9), (v_bd 10), (v_bd 11), (v_bd 12)])), (h_bnd, .inl (cy_bnd, 256, .inl f_bnd)), (h_td, .inr (5, [.ref h_nam, .ref h_var, .ref h_trm, .ref h_ter, (v_td 4), (v_td 5), (v_td 6), (v_td 7), (v_td 8), (v_td 9)])), (h_var, .inl (cy_var, 300, .inl f_var))]) [2, 3, 4, 6] rfl
                have hDc := hD.sub (ws' := [(h_bd, .inr (1, [.ref h_td, .ref h_bnd, (v_bd 2), (v_bd 3), (v_bd 4), (v_bd 5), (v_bd 6), (v_bd 7), (v_bd 8), (v_bd 9), (v_bd 10), (v_bd 11), (v_bd 12)])), (h_bnd, .inl (cy_bnd, 256, .inl f_bnd)), (h_td, .inr (5, [.ref h_nam, .ref h_var, .ref h_trm, .ref h_ter, (v_td 4), (v_td 5), (v_td 6), (v_td 7), (v_td 8), (v_td 9)])), (h_var, .inl (cy_var, 300, .inl f_var))]) [2, 3, 4, 6] (by decide) rfl
                have hKc := hK.sub (tys' := [(cy_bnd, .int), (cy_var, .int)]) [3, 5] rfl
                have hFc := va_free (wc := [(h_bd, .inr (1, [.ref h_td, .ref h_bnd, (v_bd 2), (v_bd 3), (v_bd 4), (v_bd 5), (v_bd 6), (v_bd 7), (v_bd 8), (v_bd 9), (v_bd 10), (v_bd 11), (v_bd 12)])), (h_bnd, .inl (cy_bnd, 256, .inl f_bnd)), (h_td, .inr (5, [.ref h_nam, .ref h_var, .ref h_trm, .ref h_ter, (v_td 4), (v_td 5), (v_td 6), (v_td 7), (v_td 8), (v_td 9)])), (h_var, .inl (cy_var, 300, .inl f_var))]) hD hS hA [2, 3, 4, 6] rfl
                refine va_calli (va_runVN (As := [.int z118]) (rest := [.ref h_wr]) ⟨hx, hb, hml, hown, hts⟩ (c_X1_bare l dC dI H.size h_bd h_bnd h_td h_var v_bd cy_bnd f_bnd (fun k => List.getD [.ref h_nam, .ref h_var, .ref h_trm, .ref h_ter, (v_td 4), (v_td 5), (v_td 6), (v_td 7), (v_td 8), (v_td 9)] k .null) cy_var f_var z118 hf_bnd hf_var (by omega)) ⟨va_cnB (host := "OppositePairs") 1 hts (gd hT w_code_X1_bare) rfl rfl rfl (hN _ n_m_X9_41) (hw _ w_ini_X1) (by decide +kernel) ⟨(Nat.le_of_ble_eq_true rfl), (Nat.le_of_ble_eq_true rfl)⟩, hw _ w_instanceMethod_X1_bare, hw _ ws_sel_X1_bare⟩ ⟨pre_blind, va_recv hK hP (ci := 1) (q0 := 2) rfl rfl, pre_of hPc hKc hDc hN⟩ rfl rfl hl.1 rfl (lv_room (Nat.le_of_ble_eq_true rfl)) dX9_write_105 ⟨(Nat.le_of_ble_eq_true rfl), (Nat.le_of_ble_eq_true rfl)⟩) hS (fun q _ h => hFc q h) hFc (fun r119 u t H locs ht hvm hq hB hz1 hk1 hS => ?_)
                obtain ⟨hP1, hD1⟩ := hB
                rw [ht] at hP1
                obtain ⟨hP, hD⟩ := va_join (wr := [(h_wb, .inl (cy_wb, 600, .inl f_wb)), (h_wh, .inl (cy_wh, 2048, .inl f73)), (h_nam, .inl (cy_nam, 300, .inr (.inl f_nam))), (h_trm, .inl (cy_trm, 300, .inl f_trm)), (h_ter, .inl (cy_ter, 900, .inl f_ter)), (h_wr, .inr (6, [.ref h_td, .ref h_bd, .ref h_wb, .int x_wr_length, .ref h_wd, .int x74, .ref h_wh, .int z115])), (h_wd, .inl (cy_wd, 616, .inl f76))]) (w1 := [(h_bd, .inr (1, [.ref h_td, .ref h_bnd, (v_bd 2), (v_bd 3), (v_bd 4), (v_bd 5), (v_bd 6), (v_bd 7), (v_bd 8), (v_bd 9), (v_bd 10), (v_bd 11), (v_bd 12)])), (h_bnd, .inl (cy_bnd, 256, .inl f_bnd)), (h_td, .inr (5, [.ref h_nam, .ref h_var, .ref h_trm, .ref h_ter, (v_td 4), (v_td 5), (v_td 6), (v_td 7), (v_td 8), (v_td 9)])), (h_var, .inl (cy_var, 300, .inl f_var))]) hP hD [2, 3, 4, 6] [0, 1, 5, 7, 8, 9, 10] rfl rfl (by decide) (by decide) hk1 hFc hP1 hD1
                have hP : va_P (dC, dI) cls [(h_wb, .inl (cy_wb, 600, .inl f_wb)), (h_wh, .inl (cy_wh, 2048, .inl f73)), (h_nam, .inl (cy_nam, 300, .inr (.inl f_nam))), (h_trm, .inl (cy_trm, 300, .inl f_trm)), (h_ter, .inl (cy_ter, 900, .inl f_ter)), (h_wr, .inr (6, [.ref h_td, .ref h_bd, .ref h_wb, .int x_wr_length, .ref h_wd, .int x74, .ref h_wh, .int z115])), (h_wd, .inl (cy_wd, 616, .inl f76)), (h_bd, .inr (1, [.ref h_td, .ref h_bnd, (v_bd 2), (v_bd 3), (v_bd 4), (v_bd 5), (v_bd 6), (v_bd 7), (v_bd 8), (v_bd 9), (v_bd 10), (v_bd 11), (v_bd 12)])), (h_bnd, .inl (cy_bnd, 256, .inl f_bnd)), (h_td, .inr (5, [.ref h_nam, .ref h_var, .ref h_trm, .ref h_ter, (v_td 4), (v_td 5), (v_td 6), (v_td 7), (v_td 8), (v_td 9)])), (h_var, .inl (cy_var, 300, .inl f_var))] H := hP
                have hD : va_D A [(h_wb, .inl (cy_wb, 600, .inl f_wb)), (h_wh, .inl (cy_wh, 2048, .inl f73)), (h_nam, .inl (cy_nam, 300, .inr (.inl f_nam))), (h_trm, .inl (cy_trm, 300, .inl f_trm)), (h_ter, .inl (cy_ter, 900, .inl f_ter)), (h_wr, .inr (6, [.ref h_td, .ref h_bd, .ref h_wb, .int x_wr_length, .ref h_wd, .int x74, .ref h_wh, .int z115])), (h_wd, .inl (cy_wd, 616, .inl f76)), (h_bd, .inr (1, [.ref h_td, .ref h_bnd, (v_bd 2), (v_bd 3), (v_bd 4), (v_bd 5), (v_bd 6), (v_bd 7), (v_bd 8), (v_bd 9), (v_bd 10), (v_bd 11), (v_bd 12)])), (h_bnd, .inl (cy_bnd, 256, .inl f_bnd)), (h_td, .inr (5, [.ref h_nam, .ref h_var, .ref h_trm, .ref h_ter, (v_td 4), (v_td 5), (v_td 6), (v_td 7), (v_td 8), (v_td 9)])), (h_var, .inl (cy_var, 300, .inl f_var))] := hD
                have k120 : 0 ≤ (r119).toInt ∧ (r119).toInt ≤ 9599 := hq
                have hPc := hP.sub (ws' := [(h_wr, .inr (6, [.ref h_td, .ref h_bd, .ref h_wb, .int x_wr_length, .ref h_wd, .int x74, .ref h_wh, .int z115])), (h_wd, .inl (cy_wd, 616, .inl f76)), (h_wh, .inl (cy_wh, 2048, .inl f73)), (h_td, .inr (5, [.ref h_nam, .ref h_var, .ref h_trm, .ref h_ter, (v_td 4), (v_td 5), (v_td 6), (v_td 7), (v_td 8), (v_td 9)])), (h_nam, .inl (cy_nam, 300, .inr (.inl f_nam))), (h_var, .inl (cy_var, 300, .inl f_var)), (h_trm, .inl (cy_trm, 300, .inl f_trm)), (h_ter, .inl (cy_ter, 900, .inl f_ter))]) [5, 6, 1, 9, 2, 10, 3, 4] rfl
                have hDc := hD.sub (ws' := [(h_wr, .inr (6, [.ref h_td, .ref h_bd, .ref h_wb, .int x_wr_length, .ref h_wd, .int x74, .ref h_wh, .int z115])), (h_wd, .inl (cy_wd, 616, .inl f76)), (h_wh, .inl (cy_wh, 2048, .inl f73)), (h_td, .inr (5, [.ref h_nam, .ref h_var, .ref h_trm, .ref h_ter, (v_td 4), (v_td 5), (v_td 6), (v_td 7), (v_td 8), (v_td 9)])), (h_nam, .inl (cy_nam, 300, .inr (.inl f_nam))), (h_var, .inl (cy_var, 300, .inl f_var)), (h_trm, .inl (cy_trm, 300, .inl f_trm)), (h_ter, .inl (cy_ter, 900, .inl f_ter))]) [5, 6, 1, 9, 2, 10, 3, 4] (by decide) rfl
                have hKc := hK.sub (tys' := [(cy_wd, .int), (cy_wh, .int), (cy_nam, .long), (cy_var, .int), (cy_trm, .int), (cy_ter, .int)]) [1, 2, 4, 5, 6, 7] rfl
                have hFc := va_free (wc := [(h_wr, .inr (6, [.ref h_td, .ref h_bd, .ref h_wb, .int x_wr_length, .ref h_wd, .int x74, .ref h_wh, .int z115])), (h_wd, .inl (cy_wd, 616, .inl f76)), (h_wh, .inl (cy_wh, 2048, .inl f73)), (h_td, .inr (5, [.ref h_nam, .ref h_var, .ref h_trm, .ref h_ter, (v_td 4), (v_td 5), (v_td 6), (v_td 7), (v_td 8), (v_td 9)])), (h_nam, .inl (cy_nam, 300, .inr (.inl f_nam))), (h_var, .inl (cy_var, 300, .inl f_var)), (h_trm, .inl (cy_trm, 300, .inl f_trm)), (h_ter, .inl (cy_ter, 900, .inl f_ter))]) hD hS hA [5, 6, 1, 9, 2, 10, 3, 4] rfl
                refine va_callv (va_runV (As := [.int r119]) (rest := []) ⟨hx, hb, hml, hown, hts⟩ (c_X9_putPart l dC dI H.size h_wr h_wd h_wh h_td h_nam h_var h_trm h_ter (fun k => List.getD [.ref h_td, .ref h_bd, .ref h_wb, .int x_wr_length, .ref h_wd, .int x74, .ref h_wh, .int z115] k .null) x74 z115 cy_wd f76 cy_wh f73 v_td cy_nam f_nam cy_var f_var cy_trm f_trm cy_ter f_ter r119 (by omega) (by omega) hf73 hf_var hf_trm hf_ter (by omega)) (cwV 1 hts (gv hT w_m_X9_47 w_instanceMethod_X9_putPart ws_sel_X9_putPart w_ini_X9 w_code_X9_putPart) rfl rfl rfl (by decide +kernel) ⟨(Nat.le_of_ble_eq_true rfl), (Nat.le_of_ble_eq_true rfl)⟩) ⟨pre_blind, va_recv hK hP (ci := 6) (q0 := 5) rfl rfl, pre_of hPc hKc hDc hN⟩ rfl rfl hl.1 rfl (lv_room (Nat.le_of_ble_eq_true rfl)) dX9_write_108 ⟨(Nat.le_of_ble_eq_true rfl), (Nat.le_of_ble_eq_true rfl)⟩) hS (fun q _ h => hFc q h) hFc (fun u t H locs ht hvm hq hB hz1 hk1 hS => ?_)
                obtain ⟨z122, z123, f124, f125⟩ := u
                obtain ⟨hP1, hD1⟩ := hB
                rw [ht] at hP1
                obtain ⟨hP, hD⟩ := va_join (wr := [(h_wb, .inl (cy_wb, 600, .inl f_wb)), (h_bd, .inr (1, [.ref h_td, .ref h_bnd, (v_bd 2), (v_bd 3), (v_bd 4), (v_bd 5), (v_bd 6), (v_bd 7), (v_bd 8), (v_bd 9), (v_bd 10), (v_bd 11), (v_bd 12)])), (h_bnd, .inl (cy_bnd, 256, .inl f_bnd))]) (w1 := [(h_wr, .inr (6, [.ref h_td, .ref h_bd, .ref h_wb, .int x_wr_length, .ref h_wd, .int z122, .ref h_wh, .int z123])), (h_wd, .inl (cy_wd, 616, .inl f124)), (h_wh, .inl (cy_wh, 2048, .inl f125)), (h_td, .inr (5, [.ref h_nam, .ref h_var, .ref h_trm, .ref h_ter, (v_td 4), (v_td 5), (v_td 6), (v_td 7), (v_td 8), (v_td 9)])), (h_nam, .inl (cy_nam, 300, .inr (.inl f_nam))), (h_var, .inl (cy_var, 300, .inl f_var)), (h_trm, .inl (cy_trm, 300, .inl f_trm)), (h_ter, .inl (cy_ter, 900, .inl f_ter))]) hP hD [5, 6, 1, 9, 2, 10, 3, 4] [0, 7, 8] rfl rfl (by decide) (by decide) hk1 hFc hP1 hD1
                have hP : va_P (dC, dI) cls [(h_wb, .inl (cy_wb, 600, .inl f_wb)), (h_bd, .inr (1, [.ref h_td, .ref h_bnd, (v_bd 2), (v_bd 3), (v_bd 4), (v_bd 5), (v_bd 6), (v_bd 7), (v_bd 8), (v_bd 9), (v_bd 10), (v_bd 11), (v_bd 12)])), (h_bnd, .inl (cy_bnd, 256, .inl f_bnd)), (h_wr, .inr (6, [.ref h_td, .ref h_bd, .ref h_wb, .int x_wr_length, .ref h_wd, .int z122, .ref h_wh, .int z123])), (h_wd, .inl (cy_wd, 616, .inl f124)), (h_wh, .inl (cy_wh, 2048, .inl f125)), (h_td, .inr (5, [.ref h_nam, .ref h_var, .ref h_trm, .ref h_ter, (v_td 4), (v_td 5), (v_td 6), (v_td 7), (v_td 8), (v_td 9)])), (h_nam, .inl (cy_nam, 300, .inr (.inl f_nam))), (h_var, .inl (cy_var, 300, .inl f_var)), (h_trm, .inl (cy_trm, 300, .inl f_trm)), (h_ter, .inl (cy_ter, 900, .inl f_ter))] H := hP
                have hD : va_D A [(h_wb, .inl (cy_wb, 600, .inl f_wb)), (h_bd, .inr (1, [.ref h_td, .ref h_bnd, (v_bd 2), (v_bd 3), (v_bd 4), (v_bd 5), (v_bd 6), (v_bd 7), (v_bd 8), (v_bd 9), (v_bd 10), (v_bd 11), (v_bd 12)])), (h_bnd, .inl (cy_bnd, 256, .inl f_bnd)), (h_wr, .inr (6, [.ref h_td, .ref h_bd, .ref h_wb, .int x_wr_length, .ref h_wd, .int z122, .ref h_wh, .int z123])), (h_wd, .inl (cy_wd, 616, .inl f124)), (h_wh, .inl (cy_wh, 2048, .inl f125)), (h_td, .inr (5, [.ref h_nam, .ref h_var, .ref h_trm, .ref h_ter, (v_td 4), (v_td 5), (v_td 6), (v_td 7), (v_td 8), (v_td 9)])), (h_nam, .inl (cy_nam, 300, .inr (.inl f_nam))), (h_var, .inl (cy_var, 300, .inl f_var)), (h_trm, .inl (cy_trm, 300, .inl f_trm)), (h_ter, .inl (cy_ter, 900, .inl f_ter))] := hD
                obtain ⟨k126, k127, hf125⟩ := hq
                have k126 : 0 ≤ ((z122)).toInt ∧ ((z122)).toInt ≤ 616 := k126
                have k127 : 0 ≤ ((z123)).toInt ∧ ((z123)).toInt ≤ 2048 := k127
                have hf125 : Rg (-127) 9599 (f125) := hf125
                obtain ⟨z128, ez128⟩ : ∃ y : Int32, y = x72 + 1 := ⟨_, rfl⟩
                have tz128 : (z128).toInt = (x72).toInt + 1 := by rw [ez128]; exact i_add rfl (by decide) (by omega)
                refine lv_iinc (v := z128) (lv' := [(4, .int z128), (0, .ref h_wr), (1, .int p1), (2, .int p2), (3, .int p3)]) hx hb dX9_write_111 hl (k := 4) rfl (by rw [ez128]; rfl) (by decide) rfl (fun ls hl => ?_)
                refine lv_goto (tgt := 30) hx hb dX9_write_114 (by decide) ?_
                have hP : va_P (dC, dI) cls [(h_wb, .inl (cy_wb, 600, .inl f_wb)), (h_wh, .inl (cy_wh, 2048, .inl f125)), (h_bd, .inr (1, [.ref h_td, .ref h_bnd, (v_bd 2), (v_bd 3), (v_bd 4), (v_bd 5), (v_bd 6), (v_bd 7), (v_bd 8), (v_bd 9), (v_bd 10), (v_bd 11), (v_bd 12)])), (h_bnd, .inl (cy_bnd, 256, .inl f_bnd)), (h_td, .inr (5, [.ref h_nam, .ref h_var, .ref h_trm, .ref h_ter, (v_td 4), (v_td 5), (v_td 6), (v_td 7), (v_td 8), (v_td 9)])), (h_nam, .inl (cy_nam, 300, .inr (.inl f_nam))), (h_var, .inl (cy_var, 300, .inl f_var)), (h_trm, .inl (cy_trm, 300, .inl f_trm)), (h_ter, .inl (cy_ter, 900, .inl f_ter)), (h_wr, .inr (6, [.ref h_td, .ref h_bd, .ref h_wb, .int x_wr_length, .ref h_wd, .int z122, .ref h_wh, .int z123])), (h_wd, .inl (cy_wd, 616, .inl f124))] H := hP.sub [0, 5, 1, 2, 6, 7, 8, 9, 10, 3, 4] rfl
                have hD : va_D A [(h_wb, .inl (cy_wb, 600, .inl f_wb)), (h_wh, .inl (cy_wh, 2048, .inl f125)), (h_bd, .inr (1, [.ref h_td, .ref h_bnd, (v_bd 2), (v_bd 3), (v_bd 4), (v_bd 5), (v_bd 6), (v_bd 7), (v_bd 8), (v_bd 9), (v_bd 10), (v_bd 11), (v_bd 12)])), (h_bnd, .inl (cy_bnd, 256, .inl f_bnd)), (h_td, .inr (5, [.ref h_nam, .ref h_var, .ref h_trm, .ref h_ter, (v_td 4), (v_td 5), (v_td 6), (v_td 7), (v_td 8), (v_td 9)])), (h_nam, .inl (cy_nam, 300, .inr (.inl f_nam))), (h_var, .inl (cy_var, 300, .inl f_var)), (h_trm, .inl (cy_trm, 300, .inl f_trm)), (h_ter, .inl (cy_ter, 900, .inl f_ter)), (h_wr, .inr (6, [.ref h_td, .ref h_bd, .ref h_wb, .int x_wr_length, .ref h_wd, .int z122, .ref h_wh, .int z123])), (h_wd, .inl (cy_wd, 616, .inl f124))] := hD.sub [0, 5, 1, 2, 6, 7, 8, 9, 10, 3, 4] (by decide) rfl
                exact ih78 (z128) (f125) (z122) (z123) (f124) _ _ _ (by omega) hf125 (by omega) (by omega) (by omega) hP hD hS (lv_sub hl [1, 2, 3, 4, 0] rfl)
              · have kc117 := (not_congr (cv_le (by decide : (0 : Int32).toInt = 0) (rfl : (z116).toInt = (z116).toInt))).mp c117
                refine lv_aload_n hx hb dX9_write_74 rfl (lv_at hl 0 rfl) ?_
                refine lv_aload_n hx hb dX9_write_75 rfl (lv_at hl 0 rfl) ?_
                refine va_get (D := (dC, dI)) (ci := 6) (v := .ref h_wh) (C := RX9) (T := TX9) (N := 8) hx hb hw iwX9 hown hK hP 9 rfl rfl 6 (by decide) (hw _ w_f_X9_18) (fun _ h9 => h9) rfl dX9_write_76 ?_
                refine lv_aload_n hx hb dX9_write_79 rfl (lv_at hl 0 rfl) ?_
                refine va_get (D := (dC, dI)) (ci := 6) (v := .int z115) (C := RX9) (T := TX9) (N := 8) hx hb hw iwX9 hown hK hP 9 rfl rfl 7 (by decide) (hw _ w_f_X9_37) (fun _ h9 => h9) rfl dX9_write_80 ?_
                refine va_iald hx hb hK hP 1 2 rfl rfl (i := z115) (vp_in_iff.mpr (by omega)) dX9_write_83 ?_
                refine lv_topi (fun z129 ez129 => ?_)
                have qz129 : (z129).toInt = (z116).toInt := by rw [ez129, ez116]
                have rz129 : -127 ≤ (z129).toInt ∧ (z129).toInt ≤ 9599 := by rw [ez129]; exact hf73 _
                refine lv_ineg hx hb dX9_write_84 ?_
                refine lv_topi (fun z130 ez130 => ?_)
                have tz130 : (z130).toInt = -((z129).toInt) := by rw [ez130]; exact i_neg rfl (by omega)
                have hPc := hP.sub (ws' := [(h_wr, .inr (6, [.ref h_td, .ref h_bd, .ref h_wb, .int x_wr_length, .ref h_wd, .int x74, .ref h_wh, .int z115])), (h_wd, .inl (cy_wd, 616, .inl f76))]) [9, 10] rfl
                have hDc := hD.sub (ws' := [(h_wr, .inr (6, [.ref h_td, .ref h_bd, .ref h_wb, .int x_wr_length, .ref h_wd, .int x74, .ref h_wh, .int z115])), (h_wd, .inl (cy_wd, 616, .inl f76))]) [9, 10] (by decide) rfl
                have hKc := hK.sub (tys' := [(cy_wd, .int)]) [1] rfl
                have hFc := va_free (wc := [(h_wr, .inr (6, [.ref h_td, .ref h_bd, .ref h_wb, .int x_wr_length, .ref h_wd, .int x74, .ref h_wh, .int z115])), (h_wd, .inl (cy_wd, 616, .inl f76))]) hD hS hA [9, 10] rfl
                refine va_callv (va_runV (As := [.int z130]) (rest := []) ⟨hx, hb, hml, hown, hts⟩ (c_X9_put l dC dI H.size h_wr h_wd (fun k => List.getD [.ref h_td, .ref h_bd, .ref h_wb, .int x_wr_length, .ref h_wd, .int x74, .ref h_wh, .int z115] k .null) x74 cy_wd f76 z130 (by omega)) (cwV 1 hts (gv hT w_m_X9_33 w_instanceMethod_X9_put ws_sel_X9_put w_ini_X9 w_code_X9_put) rfl rfl rfl (by decide +kernel) ⟨(Nat.le_of_ble_eq_true rfl), (Nat.le_of_ble_eq_true rfl)⟩) ⟨pre_blind, va_recv hK hP (ci := 6) (q0 := 9) rfl rfl, pre_of hPc hKc hDc hN⟩ rfl rfl hl.1 rfl (lv_room (Nat.le_of_ble_eq_true rfl)) dX9_write_85 ⟨(Nat.le_of_ble_eq_true rfl), (Nat.le_of_ble_eq_true rfl)⟩) hS (fun q _ h => hFc q h) hFc (fun u t H locs ht hvm hq hB hz1 hk1 hS => ?_)
                obtain ⟨z132, f133⟩ := u
                obtain ⟨hP1, hD1⟩ := hB
                rw [ht] at hP1
                obtain ⟨hP, hD⟩ := va_join (wr := [(h_wb, .inl (cy_wb, 600, .inl f_wb)), (h_wh, .inl (cy_wh, 2048, .inl f73)), (h_bd, .inr (1, [.ref h_td, .ref h_bnd, (v_bd 2), (v_bd 3), (v_bd 4), (v_bd 5), (v_bd 6), (v_bd 7), (v_bd 8), (v_bd 9), (v_bd 10), (v_bd 11), (v_bd 12)])), (h_bnd, .inl (cy_bnd, 256, .inl f_bnd)), (h_td, .inr (5, [.ref h_nam, .ref h_var, .ref h_trm, .ref h_ter, (v_td 4), (v_td 5), (v_td 6), (v_td 7), (v_td 8), (v_td 9)])), (h_nam, .inl (cy_nam, 300, .inr (.inl f_nam))), (h_var, .inl (cy_var, 300, .inl f_var)), (h_trm, .inl (cy_trm, 300, .inl f_trm)), (h_ter, .inl (cy_ter, 900, .inl f_ter))]) (w1 := [(h_wr, .inr (6, [.ref h_td, .ref h_bd, .ref h_wb, .int x_wr_length, .ref h_wd, .int z132, .ref h_wh, .int z115])), (h_wd, .inl (cy_wd, 616, .inl f133))]) hP hD [9, 10] [0, 1, 2, 3, 4, 5, 6, 7, 8] rfl rfl (by decide) (by decide) hk1 hFc hP1 hD1
                have hP : va_P (dC, dI) cls [(h_wb, .inl (cy_wb, 600, .inl f_wb)), (h_wh, .inl (cy_wh, 2048, .inl f73)), (h_bd, .inr (1, [.ref h_td, .ref h_bnd, (v_bd 2), (v_bd 3), (v_bd 4), (v_bd 5), (v_bd 6), (v_bd 7), (v_bd 8), (v_bd 9), (v_bd 10), (v_bd 11), (v_bd 12)])), (h_bnd, .inl (cy_bnd, 256, .inl f_bnd)), (h_td, .inr (5, [.ref h_nam, .ref h_var, .ref h_trm, .ref h_ter, (v_td 4), (v_td 5), (v_td 6), (v_td 7), (v_td 8), (v_td 9)])), (h_nam, .inl (cy_nam, 300, .inr (.inl f_nam))), (h_var, .inl (cy_var, 300, .inl f_var)), (h_trm, .inl (cy_trm, 300, .inl f_trm)), (h_ter, .inl (cy_ter, 900, .inl f_ter)), (h_wr, .inr (6, [.ref h_td, .ref h_bd, .ref h_wb, .int x_wr_length, .ref h_wd, .int z132, .ref h_wh, .int z115])), (h_wd, .inl (cy_wd, 616, .inl f133))] H := hP
                have hD : va_D A [(h_wb, .inl (cy_wb, 600, .inl f_wb)), (h_wh, .inl (cy_wh, 2048, .inl f73)), (h_bd, .inr (1, [.ref h_td, .ref h_bnd, (v_bd 2), (v_bd 3), (v_bd 4), (v_bd 5), (v_bd 6), (v_bd 7), (v_bd 8), (v_bd 9), (v_bd 10), (v_bd 11), (v_bd 12)])), (h_bnd, .inl (cy_bnd, 256, .inl f_bnd)), (h_td, .inr (5, [.ref h_nam, .ref h_var, .ref h_trm, .ref h_ter, (v_td 4), (v_td 5), (v_td 6), (v_td 7), (v_td 8), (v_td 9)])), (h_nam, .inl (cy_nam, 300, .inr (.inl f_nam))), (h_var, .inl (cy_var, 300, .inl f_var)), (h_trm, .inl (cy_trm, 300, .inl f_trm)), (h_ter, .inl (cy_ter, 900, .inl f_ter)), (h_wr, .inr (6, [.ref h_td, .ref h_bd, .ref h_wb, .int x_wr_length, .ref h_wd, .int z132, .ref h_wh, .int z115])), (h_wd, .inl (cy_wd, 616, .inl f133))] := hD
                have k134 : 0 ≤ ((z132)).toInt ∧ ((z132)).toInt ≤ 616 := hq
                refine lv_goto (tgt := 111) hx hb dX9_write_88 (by decide) ?_
                obtain ⟨z135, ez135⟩ : ∃ y : Int32, y = x72 + 1 := ⟨_, rfl⟩
                have tz135 : (z135).toInt = (x72).toInt + 1 := by rw [ez135]; exact i_add rfl (by decide) (by omega)
                refine lv_iinc (v := z135) (lv' := [(4, .int z135), (0, .ref h_wr), (1, .int p1), (2, .int p2), (3, .int p3)]) hx hb dX9_write_111 hl (k := 4) rfl (by rw [ez135]; rfl) (by decide) rfl (fun ls hl => ?_)
                refine lv_goto (tgt := 30) hx hb dX9_write_114 (by decide) ?_
                exact ih78 (z135) (f73) (z132) (z115) (f133) _ _ _ (by omega) hf73 (by omega) (by omega) (by omega) hP hD hS (lv_sub hl [1, 2, 3, 4, 0] rfl)
    have cst0 : (0 : Int32).toInt = 0 := by decide
    have cst1 : (1 : Int32).toInt = 1 := by decide
    exact lp77 _ (0) (f71) (z68) (1) (f69) _ _ _ (by decide) hf71 (by omega) (by decide) (Nat.le_refl _) hP hD hS (lv_sub hl [1, 2, 3, 4, 0] rfl)

set_option maxHeartbeats 8000000 in
set_option maxRecDepth 100000 in
theorem c_X0_remove (l : Launch) (dC : Nat → ClassId) (dI : Nat → Nat → Nat) (sz : Nat) (h_an : Nat) (h_as : Nat) (h_ad : Nat) (h_ao : Nat) (h_af : Nat) (v_an : Nat → Value) (x_an_count : Int32) (cy_as : ClassId) (f_as : Nat → Int32) (cy_ad : ClassId) (f_ad : Nat → Int32) (cy_ao : ClassId) (f_ao : Nat → Int32) (cy_af : ClassId) (f_af : Nat → Int32) (p1 : Int32) (hx_an_count : 0 ≤ (x_an_count).toInt ∧ (x_an_count).toInt ≤ 8) (q0 : 0 ≤ (p1).toInt) (q1 : (p1).toInt < (x_an_count).toInt) : Met l yX0_remove (Ws yX0_remove cX0_remove 3 none) (({ frames := 0, cells := 0, slots := 0, locals := 0 } : Room)) (PRE (dC, dI) cls [(cy_as, .int), (cy_ad, .int), (cy_ao, .int), (cy_af, .int)] [(h_an, .inr (0, [.ref h_as, .ref h_ad, .ref h_ao, .ref h_af, .int x_an_count, (v_an 5)])), (h_as, .inl (cy_as, 8, .inl f_as)), (h_ad, .inl (cy_ad, 8, .inl f_ad)), (h_ao, .inl (cy_ao, 8, .inl f_ao)), (h_af, .inl (cy_af, 8, .inl f_af))] sz [.ref h_an, .int p1]) (va_Qv (fun (u : (Int32) × (Nat → Int32) × (Nat → Int32) × (Nat → Int32) × (Nat → Int32)) => (0 ≤ (u.1).toInt ∧ (u.1).toInt ≤ 8) ∧ ((u.1).toInt = (x_an_count).toInt - 1)) (fun (u : (Int32) × (Nat → Int32) × (Nat → Int32) × (Nat → Int32) × (Nat → Int32)) (t : State) => va_P (dC, dI) cls [(h_an, .inr (0, [.ref h_as, .ref h_ad, .ref h_ao, .ref h_af, .int u.1, (v_an 5)])), (h_as, .inl (cy_as, 8, .inl u.2.1)), (h_ad, .inl (cy_ad, 8, .inl u.2.2.1)), (h_ao, .inl (cy_ao, 8, .inl u.2.2.2.1)), (h_af, .inl (cy_af, 8, .inl u.2.2.2.2))] t.heap ∧ va_D (va_A [(h_an, .inr (0, [.ref h_as, .ref h_ad, .ref h_ao, .ref h_af, .int x_an_count, (v_an 5)])), (h_as, .inl (cy_as, 8, .inl f_as)), (h_ad, .inl (cy_ad, 8, .inl f_ad)), (h_ao, .inl (cy_ao, 8, .inl f_ao)), (h_af, .inl (cy_af, 8, .inl f_af))] sz) [(h_an, .inr (0, [.ref h_as, .ref h_ad, .ref h_ao, .ref h_af, .int u.1, (v_an 5)])), (h_as, .inl (cy_as, 8, .inl u.2.1)), (h_ad, .inl (cy_ad, 8, .inl u.2.2.1)), (h_ao, .inl (cy_ao, 8, .inl u.2.2.2.1)), (h_af, .inl (cy_af, 8, .inl u.2.2.2.2))]) (va_A [(h_an, .inr (0, [.ref h_as, .ref h_ad, .ref h_ao, .ref h_af, .int x_an_count, (v_an 5)])), (h_as, .inl (cy_as, 8, .inl f_as)), (h_ad, .inl (cy_ad, 8, .inl f_ad)), (h_ao, .inl (cy_ao, 8, .inl f_ao)), (h_af, .inl (cy_af, 8, .inl f_af))] sz)) 0 0 (va_A [(h_an, .inr (0, [.ref h_as, .ref h_ad, .ref h_ao, .ref h_af, .int x_an_count, (v_an 5)])), (h_as, .inl (cy_as, 8, .inl f_as)), (h_ad, .inl (cy_ad, 8, .inl f_ad)), (h_ao, .inl (cy_ao, 8, .inl f_ao)), (h_af, .inl (cy_af, 8, .inl f_af))] sz) := by
  refine Met.ofW (cc := cX0_remove) (maxL := 3) (ret := none) (by decide) rfl ?_
  intro p e s m args below meth c s₁ B hml hv
  obtain ⟨rfl, hsz, hP, hK, hD0, hN⟩ := hv
  have hx := B.exec
  have hb := B.bytes
  have hr := B.returns
  have hts := atoms_spec (ws := Ws yX0_remove cX0_remove 3 none) B.pre
  have hT : ∀ w ∈ WALL, w ∈ Ws yX0_remove cX0_remove 3 none := fun w h => List.mem_cons_of_mem _ h
  have hw := fun w (h : w ∈ WALL) => hts w (hT w h)
  have hown : s.vm.findClass RX0 = some m.cls := findClass_of_methodNamed B.named
  have hlocks := B.notSynchronized
  subst hsz
  have hD := hD0.self (sz := s.heap.size)
  generalize hAe : va_A [(h_an, .inr (0, [.ref h_as, .ref h_ad, .ref h_ao, .ref h_af, .int x_an_count, (v_an 5)])), (h_as, .inl (cy_as, 8, .inl f_as)), (h_ad, .inl (cy_ad, 8, .inl f_ad)), (h_ao, .inl (cy_ao, 8, .inl f_ao)), (h_af, .inl (cy_af, 8, .inl f_af))] s.heap.size = A at hD ⊢
  have hA : ∀ q : Nat, s.heap.size ≤ q → A q := fun q h => by rw [← hAe]; exact Or.inr h
  have hS : va_S A s.heap s.heap [] := va_S.rf
  have hl := lv_entry ([.ref h_an, .int p1]) (n := 3) (Nat.le_of_ble_eq_true rfl)
  rw [lg_entry_eq]
  generalize (lg_sl ([.ref h_an, .int p1]) ++ List.replicate (3 - (lg_sl ([.ref h_an, .int p1])).length) Slot.unset).toArray = ls at hl ⊢
  have hl : lv_has ls 3 [(0, .ref h_an), (1, .int p1)] := hl
  refine lv_iload_n hx hb dX0_remove_0 rfl (lv_at hl 1 rfl) ?_
  refine lv_istore_n (lv' := [(2, .int p1), (0, .ref h_an), (1, .int p1)]) hx hb dX0_remove_1 rfl hl (by decide) rfl (fun ls hl => ?_)
  have lp6 : ∀ (n : Nat) (x1 : Int32) (f2 : Nat → Int32) (f3 : Nat → Int32) (f4 : Nat → Int32) (f5 : Nat → Int32) (H : Heap) (locs : List Loc) (ls : Array Slot), (0 ≤ (x1).toInt ∧ (x1).toInt ≤ 7) → ((x1).toInt < (x_an_count).toInt) → (8 - (x1).toInt).toNat + 1 ≤ n → va_P (dC, dI) cls [(h_an, .inr (0, [.ref h_as, .ref h_ad, .ref h_ao, .ref h_af, .int x_an_count, (v_an 5)])), (h_as, .inl (cy_as, 8, .inl f2)), (h_ad, .inl (cy_ad, 8, .inl f3)), (h_ao, .inl (cy_ao, 8, .inl f4)), (h_af, .inl (cy_af, 8, .inl f5))] H → va_D A [(h_an, .inr (0, [.ref h_as, .ref h_ad, .ref h_ao, .ref h_af, .int x_an_count, (v_an 5)])), (h_as, .inl (cy_as, 8, .inl f2)), (h_ad, .inl (cy_ad, 8, .inl f3)), (h_ao, .inl (cy_ao, 8, .inl f4)), (h_af, .inl (cy_af, 8, .inl f5))] → va_S A s.heap H locs → lv_has ls 3 [(0, .ref h_an), (1, .int p1), (2, .int x1)] → W p l e ({ frames := 0, cells := 0, slots := 0, locals := 0 } : Room) s m ([.ref h_an, .int p1] : List Value).toArray below meth c H locs 0 0 (MQ below (va_Qv (fun (u : (Int32) × (Nat → Int32) × (Nat → Int32) × (Nat → Int32) × (Nat → Int32)) => (0 ≤ (u.1).toInt ∧ (u.1).toInt ≤ 8) ∧ ((u.1).toInt = (x_an_count).toInt - 1)) (fun (u : (Int32) × (Nat → Int32) × (Nat → Int32) × (Nat → Int32) × (Nat → Int32)) (t : State) => va_P (dC, dI) cls [(h_an, .inr (0, [.ref h_as, .ref h_ad, .ref h_ao, .ref h_af, .int u.1, (v_an 5)])), (h_as, .inl (cy_as, 8, .inl u.2.1)), (h_ad, .inl (cy_ad, 8, .inl u.2.2.1)), (h_ao, .inl (cy_ao, 8, .inl u.2.2.2.1)), (h_af, .inl (cy_af, 8, .inl u.2.2.2.2))] t.heap ∧ va_D A [(h_an, .inr (0, [.ref h_as, .ref h_ad, .ref h_ao, .ref h_af, .int u.1, (v_an 5)])), (h_as, .inl (cy_as, 8, .inl u.2.1)), (h_ad, .inl (cy_ad, 8, .inl u.2.2.1)), (h_ao, .inl (cy_ao, 8, .inl u.2.2.2.1)), (h_af, .inl (cy_af, 8, .inl u.2.2.2.2))]) A) ([.ref h_an, .int p1] : List Value).toArray s 0 0 A) (F0 m 2 ls []) := by
    intro n
    induction n with
    | zero => intro x1 f2 f3 f4 f5 H locs ls klp6_0 klp6_1 hm hP hD hS hl; exact False.elim (by omega)
    | succ n ih => 
      intro x1 f2 f3 f4 f5 H locs ls klp6_0 klp6_1 hm hP hD hS hl
      have ih7 := ih
      clear ih
      refine lv_iload_n hx hb dX0_remove_2 rfl (lv_at hl 2 rfl) ?_
      refine lv_iconst (v := 1) hx hb dX0_remove_3 (by decide) ?_
      refine lv_iadd hx hb dX0_remove_4 ?_
      refine lv_topi (fun z8 ez8 => ?_)
      have tz8 : (z8).toInt = (x1).toInt + 1 := by rw [ez8]; exact i_add rfl (by decide) (by omega)
      refine lv_aload_n hx hb dX0_remove_5 rfl (lv_at hl 0 rfl) ?_
      refine va_get (D := (dC, dI)) (ci := 0) (v := .int x_an_count) (C := RX0) (T := TX0) (N := 6) hx hb hw iwX0 hown hK hP 0 rfl rfl 4 (by decide) (hw _ w_f_X0_24) (fun _ h9 => h9) rfl dX0_remove_6 ?_
      refine lv_icmp_ge (tgt := 74) hx hb dX0_remove_9 (by decide) (fun c9 => ?_) (fun c9 => ?_)
      · have kc9 := (cv_le (rfl : (x_an_count).toInt = (x_an_count).toInt) (rfl : (z8).toInt = (z8).toInt)).mp c9
        refine lv_aload_n hx hb dX0_remove_74 rfl (lv_at hl 0 rfl) ?_
        refine lv_dup hx hb dX0_remove_75 rfl ?_
        refine va_get (D := (dC, dI)) (ci := 0) (v := .int x_an_count) (C := RX0) (T := TX0) (N := 6) hx hb hw iwX0 hown hK hP 0 rfl rfl 4 (by decide) (hw _ w_f_X0_24) (fun _ h9 => h9) rfl dX0_remove_76 ?_
        refine lv_iconst (v := 1) hx hb dX0_remove_79 (by decide) ?_
        refine lv_isub hx hb dX0_remove_80 ?_
        refine lv_topi (fun z10 ez10 => ?_)
        have tz10 : (z10).toInt = (x_an_count).toInt - 1 := by rw [ez10]; exact i_sub rfl (by decide) (by omega)
        refine va_put (D := (dC, dI)) (ci := 0) (v := .int z10) (ty := tyX0 4) (C := RX0) (T := TX0) (N := 6) hx hb hw iwX0 tyX0 tyX0_ok nmX0 hown hK hP hD hS 0 rfl rfl 4 (by decide) (hw _ w_f_X0_24) (fun _ h9 => h9) rfl (tyX0_ok 4 (by decide)) rfl rfl (Nat.le_of_ble_eq_true rfl) dX0_remove_81 (fun H locs hP hD hS => ?_)
        have hP : va_P (dC, dI) cls [(h_an, .inr (0, [.ref h_as, .ref h_ad, .ref h_ao, .ref h_af, .int z10, (v_an 5)])), (h_as, .inl (cy_as, 8, .inl f2)), (h_ad, .inl (cy_ad, 8, .inl f3)), (h_ao, .inl (cy_ao, 8, .inl f4)), (h_af, .inl (cy_af, 8, .inl f5))] H := hP
        have hD : va_D A [(h_an, .inr (0, [.ref h_as, .ref h_ad, .ref h_ao, .ref h_af, .int z10, (v_an 5)])), (h_as, .inl (cy_as, 8, .inl f2)), (h_ad, .inl (cy_ad, 8, .inl f3)), (h_ao, .inl (cy_ao, 8, .inl f4)), (h_af, .inl (cy_af, 8, .inl f5))] := hD
        refine W.widen (k := 0) (n := 0) (Nat.le_of_ble_eq_true rfl) (Nat.le_of_ble_eq_true rfl) ?_
        have w11 : 0 ≤ ((z10)).toInt ∧ ((z10)).toInt ≤ 8 := by omega
        have w12 : ((z10)).toInt = (x_an_count).toInt - 1 := by omega
        exact W.vret hx hb hr (fun t ht hW => ⟨⟨(z10, f2, f3, f4, f5), rfl, ⟨w11, w12⟩, by rw [ht]; exact hP, hD⟩, hS.F ht⟩) hS.2.2 dX0_remove_84
      · have kc9 := (not_congr (cv_le (rfl : (x_an_count).toInt = (x_an_count).toInt) (rfl : (z8).toInt = (z8).toInt))).mp c9
        refine lv_aload_n hx hb dX0_remove_12 rfl (lv_at hl 0 rfl) ?_
        refine va_get (D := (dC, dI)) (ci := 0) (v := .ref h_as) (C := RX0) (T := TX0) (N := 6) hx hb hw iwX0 hown hK hP 0 rfl rfl 0 (by decide) (hw _ w_f_X0_9) (fun _ h9 => h9) rfl dX0_remove_13 ?_
        refine lv_iload_n hx hb dX0_remove_16 rfl (lv_at hl 2 rfl) ?_
        refine lv_aload_n hx hb dX0_remove_17 rfl (lv_at hl 0 rfl) ?_
        refine va_get (D := (dC, dI)) (ci := 0) (v := .ref h_as) (C := RX0) (T := TX0) (N := 6) hx hb hw iwX0 hown hK hP 0 rfl rfl 0 (by decide) (hw _ w_f_X0_9) (fun _ h9 => h9) rfl dX0_remove_18 ?_
        refine lv_iload_n hx hb dX0_remove_21 rfl (lv_at hl 2 rfl) ?_
        refine lv_iconst (v := 1) hx hb dX0_remove_22 (by decide) ?_
        refine lv_iadd hx hb dX0_remove_23 ?_
        refine lv_topi (fun z13 ez13 => ?_)
        have qz13 : (z13).toInt = (z8).toInt := by rw [ez13, ez8]
        have tz13 : (z13).toInt = (x1).toInt + 1 := by rw [ez13]; exact i_add rfl (by decide) (by omega)
        refine va_iald hx hb hK hP 1 0 rfl rfl (i := z13) (vp_in_iff.mpr (by omega)) dX0_remove_24 ?_
        refine lv_topi (fun z14 ez14 => ?_)
        refine va_iast hx hb hK hP hD hS 1 0 rfl rfl (i := x1) (x := z14) (vp_in_iff.mpr (by omega)) dX0_remove_25 (fun H locs hP hD hS => ?_)
        obtain ⟨f15, ef15⟩ : ∃ g : Nat → Int32, g = upd f2 (Int32.toNatClampNeg x1) z14 := ⟨_, rfl⟩
        have hP : va_P (dC, dI) cls [(h_an, .inr (0, [.ref h_as, .ref h_ad, .ref h_ao, .ref h_af, .int x_an_count, (v_an 5)])), (h_as, .inl (cy_as, 8, .inl f15)), (h_ad, .inl (cy_ad, 8, .inl f3)), (h_ao, .inl (cy_ao, 8, .inl f4)), (h_af, .inl (cy_af, 8, .inl f5))] H := by rw [ef15]; exact hP
        have hD : va_D A [(h_an, .inr (0, [.ref h_as, .ref h_ad, .ref h_ao, .ref h_af, .int x_an_count, (v_an 5)])), (h_as, .inl (cy_as, 8, .inl f15)), (h_ad, .inl (cy_ad, 8, .inl f3)), (h_ao, .inl (cy_ao, 8, .inl f4)), (h_af, .inl (cy_af, 8, .inl f5))] := by rw [ef15]; exact hD
        clear ef15
        refine lv_aload_n hx hb dX0_remove_26 rfl (lv_at hl 0 rfl) ?_
        refine va_get (D := (dC, dI)) (ci := 0) (v := .ref h_ad) (C := RX0) (T := TX0) (N := 6) hx hb hw iwX0 hown hK hP 0 rfl rfl 1 (by decide) (hw _ w_f_X0_15) (fun _ h9 => h9) rfl dX0_remove_27 ?_
        refine lv_iload_n hx hb dX0_remove_30 rfl (lv_at hl 2 rfl) ?_
        refine lv_aload_n hx hb dX0_remove_31 rfl (lv_at hl 0 rfl) ?_
        refine va_get (D := (dC, dI)) (ci := 0) (v := .ref h_ad) (C := RX0) (T := TX0) (N := 6) hx hb hw iwX0 hown hK hP 0 rfl rfl 1 (by decide) (hw _ w_f_X0_15) (fun _ h9 => h9) rfl dX0_remove_32 ?_
        refine lv_iload_n hx hb dX0_remove_35 rfl (lv_at hl 2 rfl) ?_
        refine lv_iconst (v := 1) hx hb dX0_remove_36 (by decide) ?_
        refine lv_iadd hx hb dX0_remove_37 ?_
        refine lv_topi (fun z16 ez16 => ?_)
        have qz16 : (z16).toInt = (z8).toInt := by rw [ez16, ez8]
        have tz16 : (z16).toInt = (x1).toInt + 1 := by rw [ez16]; exact i_add rfl (by decide) (by omega)
        refine va_iald hx hb hK hP 2 1 rfl rfl (i := z16) (vp_in_iff.mpr (by omega)) dX0_remove_38 ?_
        refine lv_topi (fun z17 ez17 => ?_)
        refine va_iast hx hb hK hP hD hS 2 1 rfl rfl (i := x1) (x := z17) (vp_in_iff.mpr (by omega)) dX0_remove_39 (fun H locs hP hD hS => ?_)
        obtain ⟨f18, ef18⟩ : ∃ g : Nat → Int32, g = upd f3 (Int32.toNatClampNeg x1) z17 := ⟨_, rfl⟩
        have hP : va_P (dC, dI) cls [(h_an, .inr (0, [.ref h_as, .ref h_ad, .ref h_ao, .ref h_af, .int x_an_count, (v_an 5)])), (h_as, .inl (cy_as, 8, .inl f15)), (h_ad, .inl (cy_ad, 8, .inl f18)), (h_ao, .inl (cy_ao, 8, .inl f4)), (h_af, .inl (cy_af, 8, .inl f5))] H := by rw [ef18]; exact hP
        have hD : va_D A [(h_an, .inr (0, [.ref h_as, .ref h_ad, .ref h_ao, .ref h_af, .int x_an_count, (v_an 5)])), (h_as, .inl (cy_as, 8, .inl f15)), (h_ad, .inl (cy_ad, 8, .inl f18)), (h_ao, .inl (cy_ao, 8, .inl f4)), (h_af, .inl (cy_af, 8, .inl f5))] := by rw [ef18]; exact hD
        clear ef18
        refine lv_aload_n hx hb dX0_remove_40 rfl (lv_at hl 0 rfl) ?_
        refine va_get (D := (dC, dI)) (ci := 0) (v := .ref h_ao) (C := RX0) (T := TX0) (N := 6) hx hb hw iwX0 hown hK hP 0 rfl rfl 2 (by decide) (hw _ w_f_X0_18) (fun _ h9 => h9) rfl dX0_remove_41 ?_
        refine lv_iload_n hx hb dX0_remove_44 rfl (lv_at hl 2 rfl) ?_
        refine lv_aload_n hx hb dX0_remove_45 rfl (lv_at hl 0 rfl) ?_
        refine va_get (D := (dC, dI)) (ci := 0) (v := .ref h_ao) (C := RX0) (T := TX0) (N := 6) hx hb hw iwX0 hown hK hP 0 rfl rfl 2 (by decide) (hw _ w_f_X0_18) (fun _ h9 => h9) rfl dX0_remove_46 ?_
        refine lv_iload_n hx hb dX0_remove_49 rfl (lv_at hl 2 rfl) ?_
        refine lv_iconst (v := 1) hx hb dX0_remove_50 (by decide) ?_
        refine lv_iadd hx hb dX0_remove_51 ?_
        refine lv_topi (fun z19 ez19 => ?_)
        have qz19 : (z19).toInt = (z8).toInt := by rw [ez19, ez8]
        have tz19 : (z19).toInt = (x1).toInt + 1 := by rw [ez19]; exact i_add rfl (by decide) (by omega)
        refine va_iald hx hb hK hP 3 2 rfl rfl (i := z19) (vp_in_iff.mpr (by omega)) dX0_remove_52 ?_
        refine lv_topi (fun z20 ez20 => ?_)
        refine va_iast hx hb hK hP hD hS 3 2 rfl rfl (i := x1) (x := z20) (vp_in_iff.mpr (by omega)) dX0_remove_53 (fun H locs hP hD hS => ?_)
        obtain ⟨f21, ef21⟩ : ∃ g : Nat → Int32, g = upd f4 (Int32.toNatClampNeg x1) z20 := ⟨_, rfl⟩
        have hP : va_P (dC, dI) cls [(h_an, .inr (0, [.ref h_as, .ref h_ad, .ref h_ao, .ref h_af, .int x_an_count, (v_an 5)])), (h_as, .inl (cy_as, 8, .inl f15)), (h_ad, .inl (cy_ad, 8, .inl f18)), (h_ao, .inl (cy_ao, 8, .inl f21)), (h_af, .inl (cy_af, 8, .inl f5))] H := by rw [ef21]; exact hP
        have hD : va_D A [(h_an, .inr (0, [.ref h_as, .ref h_ad, .ref h_ao, .ref h_af, .int x_an_count, (v_an 5)])), (h_as, .inl (cy_as, 8, .inl f15)), (h_ad, .inl (cy_ad, 8, .inl f18)), (h_ao, .inl (cy_ao, 8, .inl f21)), (h_af, .inl (cy_af, 8, .inl f5))] := by rw [ef21]; exact hD
        clear ef21
        refine lv_aload_n hx hb dX0_remove_54 rfl (lv_at hl 0 rfl) ?_
        refine va_get (D := (dC, dI)) (ci := 0) (v := .ref h_af) (C := RX0) (T := TX0) (N := 6) hx hb hw iwX0 hown hK hP 0 rfl rfl 3 (by decide) (hw _ w_f_X0_21) (fun _ h9 => h9) rfl dX0_remove_55 ?_
        refine lv_iload_n hx hb dX0_remove_58 rfl (lv_at hl 2 rfl) ?_
        refine lv_aload_n hx hb dX0_remove_59 rfl (lv_at hl 0 rfl) ?_
        refine va_get (D := (dC, dI)) (ci := 0) (v := .ref h_af) (C := RX0) (T := TX0) (N := 6) hx hb hw iwX0 hown hK hP 0 rfl rfl 3 (by decide) (hw _ w_f_X0_21) (fun _ h9 => h9) rfl dX0_remove_60 ?_
        refine lv_iload_n hx hb dX0_remove_63 rfl (lv_at hl 2 rfl) ?_
        refine lv_iconst (v := 1) hx hb dX0_remove_64 (by decide) ?_
        refine lv_iadd hx hb dX0_remove_65 ?_
        refine lv_topi (fun z22 ez22 => ?_)
        have qz22 : (z22).toInt = (z8).toInt := by rw [ez22, ez8]
        have tz22 : (z22).toInt = (x1).toInt + 1 := by rw [ez22]; exact i_add rfl (by decide) (by omega)
        refine va_iald hx hb hK hP 4 3 rfl rfl (i := z22) (vp_in_iff.mpr (by omega)) dX0_remove_66 ?_
        refine lv_topi (fun z23 ez23 => ?_)
        refine va_iast hx hb hK hP hD hS 4 3 rfl rfl (i := x1) (x := z23) (vp_in_iff.mpr (by omega)) dX0_remove_67 (fun H locs hP hD hS => ?_)
        obtain ⟨f24, ef24⟩ : ∃ g : Nat → Int32, g = upd f5 (Int32.toNatClampNeg x1) z23 := ⟨_, rfl⟩
        have hP : va_P (dC, dI) cls [(h_an, .inr (0, [.ref h_as, .ref h_ad, .ref h_ao, .ref h_af, .int x_an_count, (v_an 5)])), (h_as, .inl (cy_as, 8, .inl f15)), (h_ad, .inl (cy_ad, 8, .inl f18)), (h_ao, .inl (cy_ao, 8, .inl f21)), (h_af, .inl (cy_af, 8, .inl f24))] H := by rw [ef24]; exact hP
        have hD : va_D A [(h_an, .inr (0, [.ref h_as, .ref h_ad, .ref h_ao, .ref h_af, .int x_an_count, (v_an 5)])), (h_as, .inl (cy_as, 8, .inl f15)), (h_ad, .inl (cy_ad, 8, .inl f18)), (h_ao, .inl (cy_ao, 8, .inl f21)), (h_af, .inl (cy_af, 8, .inl f24))] := by rw [ef24]; exact hD
        clear ef24
        obtain ⟨z25, ez25⟩ : ∃ y : Int32, y = x1 + 1 := ⟨_, rfl⟩
        have tz25 : (z25).toInt = (x1).toInt + 1 := by rw [ez25]; exact i_add rfl (by decide) (by omega)
        refine lv_iinc (v := z25) (lv' := [(2, .int z25), (0, .ref h_an), (1, .int p1)]) hx hb dX0_remove_68 hl (k := 2) rfl (by rw [ez25]; rfl) (by decide) rfl (fun ls hl => ?_)
        refine lv_goto (tgt := 2) hx hb dX0_remove_71 (by decide) ?_
        exact ih7 (z25) (f15) (f18) (f21) (f24) _ _ _ (by omega) (by omega) (by omega) hP hD hS (lv_sub hl [1, 2, 0] rfl)
  exact lp6 _ (p1) (f_as) (f_ad) (f_ao) (f_af) _ _ _ (by omega) (by omega) (Nat.le_refl _) hP hD hS (lv_sub hl [1, 2, 0] rfl)

set_option maxHeartbeats 8000000 in
set_option maxRecDepth 100000 in
theorem c_X0_put (l : Launch) (dC : Nat → ClassId) (dI : Nat → Nat → Nat) (sz : Nat) (h_an : Nat) (h_as : Nat) (h_ad : Nat) (h_ao : Nat) (h_af : Nat) (x_an_count : Int32) (x_an_again : Int32) (cy_as : ClassId) (f_as : Nat → Int32) (cy_ad : ClassId) (f_ad : Nat → Int32) (cy_ao : ClassId) (f_ao : Nat → Int32) (cy_af : ClassId) (f_af : Nat → Int32) (p1 : Int32) (p2 : Int32) (p3 : Int32) (p4 : Int32) (hx_an_count : 0 ≤ (x_an_count).toInt ∧ (x_an_count).toInt ≤ 8) : Met l yX0_put (Ws yX0_put cX0_put 6 none) (({ frames := 1, cells := 0, slots := 0, locals := 22 } : Room)) (PRE (dC, dI) cls [(cy_as, .int), (cy_ad, .int), (cy_ao, .int), (cy_af, .int)] [(h_an, .inr (0, [.ref h_as, .ref h_ad, .ref h_ao, .ref h_af, .int x_an_count, .int x_an_again])), (h_as, .inl (cy_as, 8, .inl f_as)), (h_ad, .inl (cy_ad, 8, .inl f_ad)), (h_ao, .inl (cy_ao, 8, .inl f_ao)), (h_af, .inl (cy_af, 8, .inl f_af))] sz [.ref h_an, .int p1, .int p2, .int p3, .int p4]) (va_Qv (fun (u : (Int32) × (Int32) × (Nat → Int32) × (Nat → Int32) × (Nat → Int32) × (Nat → Int32)) => (0 ≤ (u.1).toInt ∧ (u.1).toInt ≤ 8)) (fun (u : (Int32) × (Int32) × (Nat → Int32) × (Nat → Int32) × (Nat → Int32) × (Nat → Int32)) (t : State) => va_P (dC, dI) cls [(h_an, .inr (0, [.ref h_as, .ref h_ad, .ref h_ao, .ref h_af, .int u.1, .int u.2.1])), (h_as, .inl (cy_as, 8, .inl u.2.2.1)), (h_ad, .inl (cy_ad, 8, .inl u.2.2.2.1)), (h_ao, .inl (cy_ao, 8, .inl u.2.2.2.2.1)), (h_af, .inl (cy_af, 8, .inl u.2.2.2.2.2))] t.heap ∧ va_D (va_A [(h_an, .inr (0, [.ref h_as, .ref h_ad, .ref h_ao, .ref h_af, .int x_an_count, .int x_an_again])), (h_as, .inl (cy_as, 8, .inl f_as)), (h_ad, .inl (cy_ad, 8, .inl f_ad)), (h_ao, .inl (cy_ao, 8, .inl f_ao)), (h_af, .inl (cy_af, 8, .inl f_af))] sz) [(h_an, .inr (0, [.ref h_as, .ref h_ad, .ref h_ao, .ref h_af, .int u.1, .int u.2.1])), (h_as, .inl (cy_as, 8, .inl u.2.2.1)), (h_ad, .inl (cy_ad, 8, .inl u.2.2.2.1)), (h_ao, .inl (cy_ao, 8, .inl u.2.2.2.2.1)), (h_af, .inl (cy_af, 8, .inl u.2.2.2.2.2))]) (va_A [(h_an, .inr (0, [.ref h_as, .ref h_ad, .ref h_ao, .ref h_af, .int x_an_count, .int x_an_again])), (h_as, .inl (cy_as, 8, .inl f_as)), (h_ad, .inl (cy_ad, 8, .inl f_ad)), (h_ao, .inl (cy_ao, 8, .inl f_ao)), (h_af, .inl (cy_af, 8, .inl f_af))] sz)) 0 0 (va_A [(h_an, .inr (0, [.ref h_as, .ref h_ad, .ref h_ao, .ref h_af, .int x_an_count, .int x_an_again])), (h_as, .inl (cy_as, 8, .inl f_as)), (h_ad, .inl (cy_ad, 8, .inl f_ad)), (h_ao, .inl (cy_ao, 8, .inl f_ao)), (h_af, .inl (cy_af, 8, .inl f_af))] sz) := by
  refine Met.ofW (cc := cX0_put) (maxL := 6) (ret := none) (by decide) rfl ?_
  intro p e s m args below meth c s₁ B hml hv
  obtain ⟨rfl, hsz, hP, hK, hD0, hN⟩ := hv
  have hx := B.exec
  have hb := B.bytes
  have hr := B.returns
  have hts := atoms_spec (ws := Ws yX0_put cX0_put 6 none) B.pre
  have hT : ∀ w ∈ WALL, w ∈ Ws yX0_put cX0_put 6 none := fun w h => List.mem_cons_of_mem _ h
  have hw := fun w (h : w ∈ WALL) => hts w (hT w h)
  have hown : s.vm.findClass RX0 = some m.cls := findClass_of_methodNamed B.named
  have hlocks := B.notSynchronized
  subst hsz
  have hD := hD0.self (sz := s.heap.size)
  generalize hAe : va_A [(h_an, .inr (0, [.ref h_as, .ref h_ad, .ref h_ao, .ref h_af, .int x_an_count, .int x_an_again])), (h_as, .inl (cy_as, 8, .inl f_as)), (h_ad, .inl (cy_ad, 8, .inl f_ad)), (h_ao, .inl (cy_ao, 8, .inl f_ao)), (h_af, .inl (cy_af, 8, .inl f_af))] s.heap.size = A at hD ⊢
  have hA : ∀ q : Nat, s.heap.size ≤ q → A q := fun q h => by rw [← hAe]; exact Or.inr h
  have hS : va_S A s.heap s.heap [] := va_S.rf
  have hl := lv_entry ([.ref h_an, .int p1, .int p2, .int p3, .int p4]) (n := 6) (Nat.le_of_ble_eq_true rfl)
  rw [lg_entry_eq]
  generalize (lg_sl ([.ref h_an, .int p1, .int p2, .int p3, .int p4]) ++ List.replicate (6 - (lg_sl ([.ref h_an, .int p1, .int p2, .int p3, .int p4])).length) Slot.unset).toArray = ls at hl ⊢
  have hl : lv_has ls 6 [(0, .ref h_an), (1, .int p1), (2, .int p2), (3, .int p3), (4, .int p4)] := hl
  refine lv_iconst (v := 0) hx hb dX0_put_0 (by decide) ?_
  refine lv_istore (lv' := [(5, .int 0), (0, .ref h_an), (1, .int p1), (2, .int p2), (3, .int p3), (4, .int p4)]) hx hb dX0_put_1 hl (by decide) rfl (fun ls hl => ?_)
  have lp8 : ∀ (n : Nat) (x1 : Int32) (x2 : Int32) (x3 : Int32) (f4 : Nat → Int32) (f5 : Nat → Int32) (f6 : Nat → Int32) (f7 : Nat → Int32) (H : Heap) (locs : List Loc) (ls : Array Slot), (0 ≤ (x1).toInt ∧ (x1).toInt ≤ 8) → (0 ≤ (x2).toInt ∧ (x2).toInt ≤ 8) → (8 - (x1).toInt).toNat + 1 ≤ n → va_P (dC, dI) cls [(h_an, .inr (0, [.ref h_as, .ref h_ad, .ref h_ao, .ref h_af, .int x2, .int x3])), (h_as, .inl (cy_as, 8, .inl f4)), (h_ad, .inl (cy_ad, 8, .inl f5)), (h_ao, .inl (cy_ao, 8, .inl f6)), (h_af, .inl (cy_af, 8, .inl f7))] H → va_D A [(h_an, .inr (0, [.ref h_as, .ref h_ad, .ref h_ao, .ref h_af, .int x2, .int x3])), (h_as, .inl (cy_as, 8, .inl f4)), (h_ad, .inl (cy_ad, 8, .inl f5)), (h_ao, .inl (cy_ao, 8, .inl f6)), (h_af, .inl (cy_af, 8, .inl f7))] → va_S A s.heap H locs → lv_has ls 6 [(0, .ref h_an), (1, .int p1), (2, .int p2), (3, .int p3), (4, .int p4), (5, .int x1)] → W p l e ({ frames := 1, cells := 0, slots := 0, locals := 22 } : Room) s m ([.ref h_an, .int p1, .int p2, .int p3, .int p4] : List Value).toArray below meth c H locs 0 0 (MQ below (va_Qv (fun (u : (Int32) × (Int32) × (Nat → Int32) × (Nat → Int32) × (Nat → Int32) × (Nat → Int32)) => (0 ≤ (u.1).toInt ∧ (u.1).toInt ≤ 8)) (fun (u : (Int32) × (Int32) × (Nat → Int32) × (Nat → Int32) × (Nat → Int32) × (Nat → Int32)) (t : State) => va_P (dC, dI) cls [(h_an, .inr (0, [.ref h_as, .ref h_ad, .ref h_ao, .ref h_af, .int u.1, .int u.2.1])), (h_as, .inl (cy_as, 8, .inl u.2.2.1)), (h_ad, .inl (cy_ad, 8, .inl u.2.2.2.1)), (h_ao, .inl (cy_ao, 8, .inl u.2.2.2.2.1)), (h_af, .inl (cy_af, 8, .inl u.2.2.2.2.2))] t.heap ∧ va_D A [(h_an, .inr (0, [.ref h_as, .ref h_ad, .ref h_ao, .ref h_af, .int u.1, .int u.2.1])), (h_as, .inl (cy_as, 8, .inl u.2.2.1)), (h_ad, .inl (cy_ad, 8, .inl u.2.2.2.1)), (h_ao, .inl (cy_ao, 8, .inl u.2.2.2.2.1)), (h_af, .inl (cy_af, 8, .inl u.2.2.2.2.2))]) A) ([.ref h_an, .int p1, .int p2, .int p3, .int p4] : List Value).toArray s 0 0 A) (F0 m 3 ls []) := by
    intro n
    induction n with
    | zero => intro x1 x2 x3 f4 f5 f6 f7 H locs ls klp8_0 klp8_1 hm hP hD hS hl; exact False.elim (by omega)
    | succ n ih => 
      intro x1 x2 x3 f4 f5 f6 f7 H locs ls klp8_0 klp8_1 hm hP hD hS hl
      have ih9 := ih
      clear ih
      refine lv_iload hx hb dX0_put_3 (lv_at hl 5 rfl) ?_
      refine lv_aload_n hx hb dX0_put_5 rfl (lv_at hl 0 rfl) ?_
      refine va_get (D := (dC, dI)) (ci := 0) (v := .int x2) (C := RX0) (T := TX0) (N := 6) hx hb hw iwX0 hown hK hP 0 rfl rfl 4 (by decide) (hw _ w_f_X0_24) (fun _ h9 => h9) rfl dX0_put_6 ?_
      refine lv_icmp_ge (tgt := 67) hx hb dX0_put_9 (by decide) (fun c10 => ?_) (fun c10 => ?_)
      · have kc10 := (cv_le (rfl : (x2).toInt = (x2).toInt) (rfl : (x1).toInt = (x1).toInt)).mp c10
        refine lv_aload_n hx hb dX0_put_67 rfl (lv_at hl 0 rfl) ?_
        refine va_get (D := (dC, dI)) (ci := 0) (v := .int x2) (C := RX0) (T := TX0) (N := 6) hx hb hw iwX0 hown hK hP 0 rfl rfl 4 (by decide) (hw _ w_f_X0_24) (fun _ h9 => h9) rfl dX0_put_68 ?_
        refine lv_bipush (v := 8) hx hb dX0_put_71 (by decide) ?_
        refine lv_icmp_ne (tgt := 81) hx hb dX0_put_73 (by decide) (fun c11 => ?_) (fun c11 => ?_)
        · have kc11 := (not_congr (cv_eq (rfl : (x2).toInt = (x2).toInt) (by decide : (8 : Int32).toInt = 8))).mp c11
          refine lv_aload_n hx hb dX0_put_81 rfl (lv_at hl 0 rfl) ?_
          refine va_get (D := (dC, dI)) (ci := 0) (v := .ref h_as) (C := RX0) (T := TX0) (N := 6) hx hb hw iwX0 hown hK hP 0 rfl rfl 0 (by decide) (hw _ w_f_X0_9) (fun _ h9 => h9) rfl dX0_put_82 ?_
          refine lv_aload_n hx hb dX0_put_85 rfl (lv_at hl 0 rfl) ?_
          refine va_get (D := (dC, dI)) (ci := 0) (v := .int x2) (C := RX0) (T := TX0) (N := 6) hx hb hw iwX0 hown hK hP 0 rfl rfl 4 (by decide) (hw _ w_f_X0_24) (fun _ h9 => h9) rfl dX0_put_86 ?_
          refine lv_iload_n hx hb dX0_put_89 rfl (lv_at hl 1 rfl) ?_
          refine va_iast hx hb hK hP hD hS 1 0 rfl rfl (i := x2) (x := p1) (vp_in_iff.mpr (by omega)) dX0_put_90 (fun H locs hP hD hS => ?_)
          obtain ⟨f12, ef12⟩ : ∃ g : Nat → Int32, g = upd f4 (Int32.toNatClampNeg x2) p1 := ⟨_, rfl⟩
          have hP : va_P (dC, dI) cls [(h_an, .inr (0, [.ref h_as, .ref h_ad, .ref h_ao, .ref h_af, .int x2, .int x3])), (h_as, .inl (cy_as, 8, .inl f12)), (h_ad, .inl (cy_ad, 8, .inl f5)), (h_ao, .inl (cy_ao, 8, .inl f6)), (h_af, .inl (cy_af, 8, .inl f7))] H := by rw [ef12]; exact hP
          have hD : va_D A [(h_an, .inr (0, [.ref h_as, .ref h_ad, .ref h_ao, .ref h_af, .int x2, .int x3])), (h_as, .inl (cy_as, 8, .inl f12)), (h_ad, .inl (cy_ad, 8, .inl f5)), (h_ao, .inl (cy_ao, 8, .inl f6)), (h_af, .inl (cy_af, 8, .inl f7))] := by rw [ef12]; exact hD
          clear ef12
          refine lv_aload_n hx hb dX0_put_91 rfl (lv_at hl 0 rfl) ?_
          refine va_get (D := (dC, dI)) (ci := 0) (v := .ref h_ad) (C := RX0) (T := TX0) (N := 6) hx hb hw iwX0 hown hK hP 0 rfl rfl 1 (by decide) (hw _ w_f_X0_15) (fun _ h9 => h9) rfl dX0_put_92 ?_
          refine lv_aload_n hx hb dX0_put_95 rfl (lv_at hl 0 rfl) ?_
          refine va_get (D := (dC, dI)) (ci := 0) (v := .int x2) (C := RX0) (T := TX0) (N := 6) hx hb hw iwX0 hown hK hP 0 rfl rfl 4 (by decide) (hw _ w_f_X0_24) (fun _ h9 => h9) rfl dX0_put_96 ?_
          refine lv_iload_n hx hb dX0_put_99 rfl (lv_at hl 2 rfl) ?_
          refine va_iast hx hb hK hP hD hS 2 1 rfl rfl (i := x2) (x := p2) (vp_in_iff.mpr (by omega)) dX0_put_100 (fun H locs hP hD hS => ?_)
          obtain ⟨f13, ef13⟩ : ∃ g : Nat → Int32, g = upd f5 (Int32.toNatClampNeg x2) p2 := ⟨_, rfl⟩
          have hP : va_P (dC, dI) cls [(h_an, .inr (0, [.ref h_as, .ref h_ad, .ref h_ao, .ref h_af, .int x2, .int x3])), (h_as, .inl (cy_as, 8, .inl f12)), (h_ad, .inl (cy_ad, 8, .inl f13)), (h_ao, .inl (cy_ao, 8, .inl f6)), (h_af, .inl (cy_af, 8, .inl f7))] H := by rw [ef13]; exact hP
          have hD : va_D A [(h_an, .inr (0, [.ref h_as, .ref h_ad, .ref h_ao, .ref h_af, .int x2, .int x3])), (h_as, .inl (cy_as, 8, .inl f12)), (h_ad, .inl (cy_ad, 8, .inl f13)), (h_ao, .inl (cy_ao, 8, .inl f6)), (h_af, .inl (cy_af, 8, .inl f7))] := by rw [ef13]; exact hD
          clear ef13
          refine lv_aload_n hx hb dX0_put_101 rfl (lv_at hl 0 rfl) ?_
          refine va_get (D := (dC, dI)) (ci := 0) (v := .ref h_ao) (C := RX0) (T := TX0) (N := 6) hx hb hw iwX0 hown hK hP 0 rfl rfl 2 (by decide) (hw _ w_f_X0_18) (fun _ h9 => h9) rfl dX0_put_102 ?_
          refine lv_aload_n hx hb dX0_put_105 rfl (lv_at hl 0 rfl) ?_
          refine va_get (D := (dC, dI)) (ci := 0) (v := .int x2) (C := RX0) (T := TX0) (N := 6) hx hb hw iwX0 hown hK hP 0 rfl rfl 4 (by decide) (hw _ w_f_X0_24) (fun _ h9 => h9) rfl dX0_put_106 ?_
          refine lv_iload_n hx hb dX0_put_109 rfl (lv_at hl 3 rfl) ?_
          refine va_iast hx hb hK hP hD hS 3 2 rfl rfl (i := x2) (x := p3) (vp_in_iff.mpr (by omega)) dX0_put_110 (fun H locs hP hD hS => ?_)
          obtain ⟨f14, ef14⟩ : ∃ g : Nat → Int32, g = upd f6 (Int32.toNatClampNeg x2) p3 := ⟨_, rfl⟩
          have hP : va_P (dC, dI) cls [(h_an, .inr (0, [.ref h_as, .ref h_ad, .ref h_ao, .ref h_af, .int x2, .int x3])), (h_as, .inl (cy_as, 8, .inl f12)), (h_ad, .inl (cy_ad, 8, .inl f13)), (h_ao, .inl (cy_ao, 8, .inl f14)), (h_af, .inl (cy_af, 8, .inl f7))] H := by rw [ef14]; exact hP
          have hD : va_D A [(h_an, .inr (0, [.ref h_as, .ref h_ad, .ref h_ao, .ref h_af, .int x2, .int x3])), (h_as, .inl (cy_as, 8, .inl f12)), (h_ad, .inl (cy_ad, 8, .inl f13)), (h_ao, .inl (cy_ao, 8, .inl f14)), (h_af, .inl (cy_af, 8, .inl f7))] := by rw [ef14]; exact hD
          clear ef14
          refine lv_aload_n hx hb dX0_put_111 rfl (lv_at hl 0 rfl) ?_
          refine va_get (D := (dC, dI)) (ci := 0) (v := .ref h_af) (C := RX0) (T := TX0) (N := 6) hx hb hw iwX0 hown hK hP 0 rfl rfl 3 (by decide) (hw _ w_f_X0_21) (fun _ h9 => h9) rfl dX0_put_112 ?_
          refine lv_aload_n hx hb dX0_put_115 rfl (lv_at hl 0 rfl) ?_
          refine va_get (D := (dC, dI)) (ci := 0) (v := .int x2) (C := RX0) (T := TX0) (N := 6) hx hb hw iwX0 hown hK hP 0 rfl rfl 4 (by decide) (hw _ w_f_X0_24) (fun _ h9 => h9) rfl dX0_put_116 ?_
          refine lv_iload hx hb dX0_put_119 (lv_at hl 4 rfl) ?_
          refine va_iast hx hb hK hP hD hS 4 3 rfl rfl (i := x2) (x := p4) (vp_in_iff.mpr (by omega)) dX0_put_121 (fun H locs hP hD hS => ?_)
          obtain ⟨f15, ef15⟩ : ∃ g : Nat → Int32, g = upd f7 (Int32.toNatClampNeg x2) p4 := ⟨_, rfl⟩
          have hP : va_P (dC, dI) cls [(h_an, .inr (0, [.ref h_as, .ref h_ad, .ref h_ao, .ref h_af, .int x2, .int x3])), (h_as, .inl (cy_as, 8, .inl f12)), (h_ad, .inl (cy_ad, 8, .inl f13)), (h_ao, .inl (cy_ao, 8, .inl f14)), (h_af, .inl (cy_af, 8, .inl f15))] H := by rw [ef15]; exact hP
          have hD : va_D A [(h_an, .inr (0, [.ref h_as, .ref h_ad, .ref h_ao, .ref h_af, .int x2, .int x3])), (h_as, .inl (cy_as, 8, .inl f12)), (h_ad, .inl (cy_ad, 8, .inl f13)), (h_ao, .inl (cy_ao, 8, .inl f14)), (h_af, .inl (cy_af, 8, .inl f15))] := by rw [ef15]; exact hD
          clear ef15
          refine lv_aload_n hx hb dX0_put_122 rfl (lv_at hl 0 rfl) ?_
          refine lv_dup hx hb dX0_put_123 rfl ?_
          refine va_get (D := (dC, dI)) (ci := 0) (v := .int x2) (C := RX0) (T := TX0) (N := 6) hx hb hw iwX0 hown hK hP 0 rfl rfl 4 (by decide) (hw _ w_f_X0_24) (fun _ h9 => h9) rfl dX0_put_124 ?_
          refine lv_iconst (v := 1) hx hb dX0_put_127 (by decide) ?_
          refine lv_iadd hx hb dX0_put_128 ?_
          refine lv_topi (fun z16 ez16 => ?_)
          have tz16 : (z16).toInt = (x2).toInt + 1 := by rw [ez16]; exact i_add rfl (by decide) (by omega)
          refine va_put (D := (dC, dI)) (ci := 0) (v := .int z16) (ty := tyX0 4) (C := RX0) (T := TX0) (N := 6) hx hb hw iwX0 tyX0 tyX0_ok nmX0 hown hK hP hD hS 0 rfl rfl 4 (by decide) (hw _ w_f_X0_24) (fun _ h9 => h9) rfl (tyX0_ok 4 (by decide)) rfl rfl (Nat.le_of_ble_eq_true rfl) dX0_put_129 (fun H locs hP hD hS => ?_)
          have hP : va_P (dC, dI) cls [(h_an, .inr (0, [.ref h_as, .ref h_ad, .ref h_ao, .ref h_af, .int z16, .int x3])), (h_as, .inl (cy_as, 8, .inl f12)), (h_ad, .inl (cy_ad, 8, .inl f13)), (h_ao, .inl (cy_ao, 8, .inl f14)), (h_af, .inl (cy_af, 8, .inl f15))] H := hP
          have hD : va_D A [(h_an, .inr (0, [.ref h_as, .ref h_ad, .ref h_ao, .ref h_af, .int z16, .int x3])), (h_as, .inl (cy_as, 8, .inl f12)), (h_ad, .inl (cy_ad, 8, .inl f13)), (h_ao, .inl (cy_ao, 8, .inl f14)), (h_af, .inl (cy_af, 8, .inl f15))] := hD
          refine W.widen (k := 0) (n := 0) (Nat.le_of_ble_eq_true rfl) (Nat.le_of_ble_eq_true rfl) ?_
          have w17 : 0 ≤ ((z16)).toInt ∧ ((z16)).toInt ≤ 8 := by omega
          exact W.vret hx hb hr (fun t ht hW => ⟨⟨(z16, x3, f12, f13, f14, f15), rfl, w17, by rw [ht]; exact hP, hD⟩, hS.F ht⟩) hS.2.2 dX0_put_132
        · have kc11 := (cv_eq (rfl : (x2).toInt = (x2).toInt) (by decide : (8 : Int32).toInt = 8)).mp c11
          refine lv_aload_n hx hb dX0_put_76 rfl (lv_at hl 0 rfl) ?_
          refine lv_iconst (v := 0) hx hb dX0_put_77 (by decide) ?_
          have cst0 : (0 : Int32).toInt = 0 := by decide
          have hPc := hP.sub (ws' := [(h_an, .inr (0, [.ref h_as, .ref h_ad, .ref h_ao, .ref h_af, .int x2, .int x3])), (h_as, .inl (cy_as, 8, .inl f4)), (h_ad, .inl (cy_ad, 8, .inl f5)), (h_ao, .inl (cy_ao, 8, .inl f6)), (h_af, .inl (cy_af, 8, .inl f7))]) [0, 1, 2, 3, 4] rfl
          have hDc := hD.sub (ws' := [(h_an, .inr (0, [.ref h_as, .ref h_ad, .ref h_ao, .ref h_af, .int x2, .int x3])), (h_as, .inl (cy_as, 8, .inl f4)), (h_ad, .inl (cy_ad, 8, .inl f5)), (h_ao, .inl (cy_ao, 8, .inl f6)), (h_af, .inl (cy_af, 8, .inl f7))]) [0, 1, 2, 3, 4] (by decide) rfl
          have hKc := hK.sub (tys' := [(cy_as, .int), (cy_ad, .int), (cy_ao, .int), (cy_af, .int)]) [0, 1, 2, 3] rfl
          have hFc := va_free (wc := [(h_an, .inr (0, [.ref h_as, .ref h_ad, .ref h_ao, .ref h_af, .int x2, .int x3])), (h_as, .inl (cy_as, 8, .inl f4)), (h_ad, .inl (cy_ad, 8, .inl f5)), (h_ao, .inl (cy_ao, 8, .inl f6)), (h_af, .inl (cy_af, 8, .inl f7))]) hD hS hA [0, 1, 2, 3, 4] rfl
          refine va_callv (va_runV (As := [.int 0]) (rest := []) ⟨hx, hb, hml, hown, hts⟩ (c_X0_remove l dC dI H.size h_an h_as h_ad h_ao h_af (fun k => List.getD [.ref h_as, .ref h_ad, .ref h_ao, .ref h_af, .int x2, .int x3] k .null) x2 cy_as f4 cy_ad f5 cy_ao f6 cy_af f7 0 (by omega) (by omega) (by omega)) (cwV 1 hts (gv hT w_m_X0_31 w_instanceMethod_X0_remove ws_sel_X0_remove w_ini_X0 w_code_X0_remove) rfl rfl rfl (by decide +kernel) ⟨(Nat.le_of_ble_eq_true rfl), (Nat.le_of_ble_eq_true rfl)⟩) ⟨pre_blind, va_recv hK hP (ci := 0) (q0 := 0) rfl rfl, pre_of hPc hKc hDc hN⟩ rfl rfl hl.1 rfl (lv_room (Nat.le_of_ble_eq_true rfl)) dX0_put_78 ⟨(Nat.le_of_ble_eq_true rfl), (Nat.le_of_ble_eq_true rfl)⟩) hS (fun q _ h => hFc q h) hFc (fun u t H locs ht hvm hq hB hz1 hk1 hS => ?_)
          obtain ⟨z19, f20, f21, f22, f23⟩ := u
          obtain ⟨hP1, hD1⟩ := hB
          rw [ht] at hP1
          obtain ⟨hP, hD⟩ := va_join (wr := []) (w1 := [(h_an, .inr (0, [.ref h_as, .ref h_ad, .ref h_ao, .ref h_af, .int z19, .int x3])), (h_as, .inl (cy_as, 8, .inl f20)), (h_ad, .inl (cy_ad, 8, .inl f21)), (h_ao, .inl (cy_ao, 8, .inl f22)), (h_af, .inl (cy_af, 8, .inl f23))]) hP hD [0, 1, 2, 3, 4] [] rfl rfl (by decide) (by decide) hk1 hFc hP1 hD1
          have hP : va_P (dC, dI) cls [(h_an, .inr (0, [.ref h_as, .ref h_ad, .ref h_ao, .ref h_af, .int z19, .int x3])), (h_as, .inl (cy_as, 8, .inl f20)), (h_ad, .inl (cy_ad, 8, .inl f21)), (h_ao, .inl (cy_ao, 8, .inl f22)), (h_af, .inl (cy_af, 8, .inl f23))] H := hP
          have hD : va_D A [(h_an, .inr (0, [.ref h_as, .ref h_ad, .ref h_ao, .ref h_af, .int z19, .int x3])), (h_as, .inl (cy_as, 8, .inl f20)), (h_ad, .inl (cy_ad, 8, .inl f21)), (h_ao, .inl (cy_ao, 8, .inl f22)), (h_af, .inl (cy_af, 8, .inl f23))] := hD
          obtain ⟨k24, k25⟩ := hq
          have k24 : 0 ≤ ((z19)).toInt ∧ ((z19)).toInt ≤ 8 := k24
          have k25 : ((z19)).toInt = ((x2)).toInt - 1 := k25
          refine lv_aload_n hx hb dX0_put_81 rfl (lv_at hl 0 rfl) ?_
          refine va_get (D := (dC, dI)) (ci := 0) (v := .ref h_as) (C := RX0) (T := TX0) (N := 6) hx hb hw iwX0 hown hK hP 0 rfl rfl 0 (by decide) (hw _ w_f_X0_9) (fun _ h9 => h9) rfl dX0_put_82 ?_
          refine lv_aload_n hx hb dX0_put_85 rfl (lv_at hl 0 rfl) ?_
          refine va_get (D := (dC, dI)) (ci := 0) (v := .int z19) (C := RX0) (T := TX0) (N := 6) hx hb hw iwX0 hown hK hP 0 rfl rfl 4 (by decide) (hw _ w_f_X0_24) (fun _ h9 => h9) rfl dX0_put_86 ?_
          refine lv_iload_n hx hb dX0_put_89 rfl (lv_at hl 1 rfl) ?_
          refine va_iast hx hb hK hP hD hS 1 0 rfl rfl (i := z19) (x := p1) (vp_in_iff.mpr (by omega)) dX0_put_90 (fun H locs hP hD hS => ?_)
          obtain ⟨f26, ef26⟩ : ∃ g : Nat → Int32, g = upd f20 (Int32.toNatClampNeg z19) p1 := ⟨_, rfl⟩
          have hP : va_P (dC, dI) cls [(h_an, .inr (0, [.ref h_as, .ref h_ad, .ref h_ao, .ref h_af, .int z19, .int x3])), (h_as, .inl (cy_as, 8, .inl f26)), (h_ad, .inl (cy_ad, 8, .inl f21)), (h_ao, .inl (cy_ao, 8, .inl f22)), (h_af, .inl (cy_af, 8, .inl f23))] H := by rw [ef26]; exact hP
          have hD : va_D A [(h_an, .inr (0, [.ref h_as, .ref h_ad, .ref h_ao, .ref h_af, .int z19, .int x3])), (h_as, .inl (cy_as, 8, .inl f26)), (h_ad, .inl (cy_ad, 8, .inl f21)), (h_ao, .inl (cy_ao, 8, .inl f22)), (h_af, .inl (cy_af, 8, .inl f23))] := by rw [ef26]; exact hD
          clear ef26
          refine lv_aload_n hx hb dX0_put_91 rfl (lv_at hl 0 rfl) ?_
          refine va_get (D := (dC, dI)) (ci := 0) (v := .ref h_ad) (C := RX0) (T := TX0) (N := 6) hx hb hw iwX0 hown hK hP 0 rfl rfl 1 (by decide) (hw _ w_f_X0_15) (fun _ h9 => h9) rfl dX0_put_92 ?_
          refine lv_aload_n hx hb dX0_put_95 rfl (lv_at hl 0 rfl) ?_
          refine va_get (D := (dC, dI)) (ci := 0) (v := .int z19) (C := RX0) (T := TX0) (N := 6) hx hb hw iwX0 hown hK hP 0 rfl rfl 4 (by decide) (hw _ w_f_X0_24) (fun _ h9 => h9) rfl dX0_put_96 ?_
          refine lv_iload_n hx hb dX0_put_99 rfl (lv_at hl 2 rfl) ?_
          refine va_iast hx hb hK hP hD hS 2 1 rfl rfl (i := z19) (x := p2) (vp_in_iff.mpr (by omega)) dX0_put_100 (fun H locs hP hD hS => ?_)
          obtain ⟨f27, ef27⟩ : ∃ g : Nat → Int32, g = upd f21 (Int32.toNatClampNeg z19) p2 := ⟨_, rfl⟩
          have hP : va_P (dC, dI) cls [(h_an, .inr (0, [.ref h_as, .ref h_ad, .ref h_ao, .ref h_af, .int z19, .int x3])), (h_as, .inl (cy_as, 8, .inl f26)), (h_ad, .inl (cy_ad, 8, .inl f27)), (h_ao, .inl (cy_ao, 8, .inl f22)), (h_af, .inl (cy_af, 8, .inl f23))] H := by rw [ef27]; exact hP
          have hD : va_D A [(h_an, .inr (0, [.ref h_as, .ref h_ad, .ref h_ao, .ref h_af, .int z19, .int x3])), (h_as, .inl (cy_as, 8, .inl f26)), (h_ad, .inl (cy_ad, 8, .inl f27)), (h_ao, .inl (cy_ao, 8, .inl f22)), (h_af, .inl (cy_af, 8, .inl f23))] := by rw [ef27]; exact hD
          clear ef27
          refine lv_aload_n hx hb dX0_put_101 rfl (lv_at hl 0 rfl) ?_
          refine va_get (D := (dC, dI)) (ci := 0) (v := .ref h_ao) (C := RX0) (T := TX0) (N := 6) hx hb hw iwX0 hown hK hP 0 rfl rfl 2 (by decide) (hw _ w_f_X0_18) (fun _ h9 => h9) rfl dX0_put_102 ?_
          refine lv_aload_n hx hb dX0_put_105 rfl (lv_at hl 0 rfl) ?_
          refine va_get (D := (dC, dI)) (ci := 0) (v := .int z19) (C := RX0) (T := TX0) (N := 6) hx hb hw iwX0 hown hK hP 0 rfl rfl 4 (by decide) (hw _ w_f_X0_24) (fun _ h9 => h9) rfl dX0_put_106 ?_
          refine lv_iload_n hx hb dX0_put_109 rfl (lv_at hl 3 rfl) ?_
          refine va_iast hx hb hK hP hD hS 3 2 rfl rfl (i := z19) (x := p3) (vp_in_iff.mpr (by omega)) dX0_put_110 (fun H locs hP hD hS => ?_)
          obtain ⟨f28, ef28⟩ : ∃ g : Nat → Int32, g = upd f22 (Int32.toNatClampNeg z19) p3 := ⟨_, rfl⟩
          have hP : va_P (dC, dI) cls [(h_an, .inr (0, [.ref h_as, .ref h_ad, .ref h_ao, .ref h_af, .int z19, .int x3])), (h_as, .inl (cy_as, 8, .inl f26)), (h_ad, .inl (cy_ad, 8, .inl f27)), (h_ao, .inl (cy_ao, 8, .inl f28)), (h_af, .inl (cy_af, 8, .inl f23))] H := by rw [ef28]; exact hP
          have hD : va_D A [(h_an, .inr (0, [.ref h_as, .ref h_ad, .ref h_ao, .ref h_af, .int z19, .int x3])), (h_as, .inl (cy_as, 8, .inl f26)), (h_ad, .inl (cy_ad, 8, .inl f27)), (h_ao, .inl (cy_ao, 8, .inl f28)), (h_af, .inl (cy_af, 8, .inl f23))] := by rw [ef28]; exact hD
          clear ef28
          refine lv_aload_n hx hb dX0_put_111 rfl (lv_at hl 0 rfl) ?_
          refine va_get (D := (dC, dI)) (ci := 0) (v := .ref h_af) (C := RX0) (T := TX0) (N := 6) hx hb hw iwX0 hown hK hP 0 rfl rfl 3 (by decide) (hw _ w_f_X0_21) (fun _ h9 => h9) rfl dX0_put_112 ?_
          refine lv_aload_n hx hb dX0_put_115 rfl (lv_at hl 0 rfl) ?_
          refine va_get (D := (dC, dI)) (ci := 0) (v := .int z19) (C := RX0) (T := TX0) (N := 6) hx hb hw iwX0 hown hK hP 0 rfl rfl 4 (by decide) (hw _ w_f_X0_24) (fun _ h9 => h9) rfl dX0_put_116 ?_
          refine lv_iload hx hb dX0_put_119 (lv_at hl 4 rfl) ?_
          refine va_iast hx hb hK hP hD hS 4 3 rfl rfl (i := z19) (x := p4) (vp_in_iff.mpr (by omega)) dX0_put_121 (fun H locs hP hD hS => ?_)
          obtain ⟨f29, ef29⟩ : ∃ g : Nat → Int32, g = upd f23 (Int32.toNatClampNeg z19) p4 := ⟨_, rfl⟩
          have hP : va_P (dC, dI) cls [(h_an, .inr (0, [.ref h_as, .ref h_ad, .ref h_ao, .ref h_af, .int z19, .int x3])), (h_as, .inl (cy_as, 8, .inl f26)), (h_ad, .inl (cy_ad, 8, .inl f27)), (h_ao, .inl (cy_ao, 8, .inl f28)), (h_af, .inl (cy_af, 8, .inl f29))] H := by rw [ef29]; exact hP
          have hD : va_D A [(h_an, .inr (0, [.ref h_as, .ref h_ad, .ref h_ao, .ref h_af, .int z19, .int x3])), (h_as, .inl (cy_as, 8, .inl f26)), (h_ad, .inl (cy_ad, 8, .inl f27)), (h_ao, .inl (cy_ao, 8, .inl f28)), (h_af, .inl (cy_af, 8, .inl f29))] := by rw [ef29]; exact hD
          clear ef29
          refine lv_aload_n hx hb dX0_put_122 rfl (lv_at hl 0 rfl) ?_
          refine lv_dup hx hb dX0_put_123 rfl ?_
          refine va_get (D := (dC, dI)) (ci := 0) (v := .int z19) (C := RX0) (T := TX0) (N := 6) hx hb hw iwX0 hown hK hP 0 rfl rfl 4 (by decide) (hw _ w_f_X0_24) (fun _ h9 => h9) rfl dX0_put_124 ?_
          refine lv_iconst (v := 1) hx hb dX0_put_127 (by decide) ?_
          refine lv_iadd hx hb dX0_put_128 ?_
          refine lv_topi (fun z30 ez30 => ?_)
          have tz30 : (z30).toInt = (z19).toInt + 1 := by rw [ez30]; exact i_add rfl (by decide) (by omega)
          refine va_put (D := (dC, dI)) (ci := 0) (v := .int z30) (ty := tyX0 4) (C := RX0) (T := TX0) (N := 6) hx hb hw iwX0 tyX0 tyX0_ok nmX0 hown hK hP hD hS 0 rfl rfl 4 (by decide) (hw _ w_f_X0_24) (fun _ h9 => h9) rfl (tyX0_ok 4 (by decide)) rfl rfl (Nat.le_of_ble_eq_true rfl) dX0_put_129 (fun H locs hP hD hS => ?_)
          have hP : va_P (dC, dI) cls [(h_an, .inr (0, [.ref h_as, .ref h_ad, .ref h_ao, .ref h_af, .int z30, .int x3])), (h_as, .inl (cy_as, 8, .inl f26)), (h_ad, .inl (cy_ad, 8, .inl f27)), (h_ao, .inl (cy_ao, 8, .inl f28)), (h_af, .inl (cy_af, 8, .inl f29))] H := hP
          have hD : va_D A [(h_an, .inr (0, [.ref h_as, .ref h_ad, .ref h_ao, .ref h_af, .int z30, .int x3])), (h_as, .inl (cy_as, 8, .inl f26)), (h_ad, .inl (cy_ad, 8, .inl f27)), (h_ao, .inl (cy_ao, 8, .inl f28)), (h_af, .inl (cy_af, 8, .inl f29))] := hD
          refine W.widen (k := 0) (n := 0) (Nat.le_of_ble_eq_true rfl) (Nat.le_of_ble_eq_true rfl) ?_
          have w31 : 0 ≤ ((z30)).toInt ∧ ((z30)).toInt ≤ 8 := by omega
          exact W.vret hx hb hr (fun t ht hW => ⟨⟨(z30, x3, f26, f27, f28, f29), rfl, w31, by rw [ht]; exact hP, hD⟩, hS.F ht⟩) hS.2.2 dX0_put_132
      · have kc10 := (not_congr (cv_le (rfl : (x2).toInt = (x2).toInt) (rfl : (x1).toInt = (x1).toInt))).mp c10
        refine lv_aload_n hx hb dX0_put_12 rfl (lv_at hl 0 rfl) ?_
        refine va_get (D := (dC, dI)) (ci := 0) (v := .ref h_as) (C := RX0) (T := TX0) (N := 6) hx hb hw iwX0 hown hK hP 0 rfl rfl 0 (by decide) (hw _ w_f_X0_9) (fun _ h9 => h9) rfl dX0_put_13 ?_
        refine lv_iload hx hb dX0_put_16 (lv_at hl 5 rfl) ?_
        refine va_iald hx hb hK hP 1 0 rfl rfl (i := x1) (vp_in_iff.mpr (by omega)) dX0_put_18 ?_
        refine lv_topi (fun z32 ez32 => ?_)
        refine lv_iload_n hx hb dX0_put_19 rfl (lv_at hl 1 rfl) ?_
        refine lv_icmp_ne (tgt := 61) hx hb dX0_put_20 (by decide) (fun c33 => ?_) (fun c33 => ?_)
        · have kc33 := (not_congr (cv_eq (rfl : (z32).toInt = (z32).toInt) (rfl : (p1).toInt = (p1).toInt))).mp c33
          obtain ⟨z34, ez34⟩ : ∃ y : Int32, y = x1 + 1 := ⟨_, rfl⟩
          have tz34 : (z34).toInt = (x1).toInt + 1 := by rw [ez34]; exact i_add rfl (by decide) (by omega)
          refine lv_iinc (v := z34) (lv' := [(5, .int z34), (0, .ref h_an), (1, .int p1), (2, .int p2), (3, .int p3), (4, .int p4)]) hx hb dX0_put_61 hl (k := 5) rfl (by rw [ez34]; rfl) (by decide) rfl (fun ls hl => ?_)
          refine lv_goto (tgt := 3) hx hb dX0_put_64 (by decide) ?_
          exact ih9 (z34) (x2) (x3) (f4) (f5) (f6) (f7) _ _ _ (by omega) (by omega) (by omega) hP hD hS (lv_sub hl [1, 2, 3, 4, 5, 0] rfl)
        · have kc33 := (cv_eq (rfl : (z32).toInt = (z32).toInt) (rfl : (p1).toInt = (p1).toInt)).mp c33
          refine lv_aload_n hx hb dX0_put_23 rfl (lv_at hl 0 rfl) ?_
          refine va_get (D := (dC, dI)) (ci := 0) (v := .ref h_ad) (C := RX0) (T := TX0) (N := 6) hx hb hw iwX0 hown hK hP 0 rfl rfl 1 (by decide) (hw _ w_f_X0_15) (fun _ h9 => h9) rfl dX0_put_24 ?_
          refine lv_iload hx hb dX0_put_27 (lv_at hl 5 rfl) ?_
          refine va_iald hx hb hK hP 2 1 rfl rfl (i := x1) (vp_in_iff.mpr (by omega)) dX0_put_29 ?_
          refine lv_topi (fun z35 ez35 => ?_)
          refine lv_iload_n hx hb dX0_put_30 rfl (lv_at hl 2 rfl) ?_
          refine lv_icmp_ne (tgt := 61) hx hb dX0_put_31 (by decide) (fun c36 => ?_) (fun c36 => ?_)
          · have kc36 := (not_congr (cv_eq (rfl : (z35).toInt = (z35).toInt) (rfl : (p2).toInt = (p2).toInt))).mp c36
            obtain ⟨z37, ez37⟩ : ∃ y : Int32, y = x1 + 1 := ⟨_, rfl⟩
            have tz37 : (z37).toInt = (x1).toInt + 1 := by rw [ez37]; exact i_add rfl (by decide) (by omega)
            refine lv_iinc (v := z37) (lv' := [(5, .int z37), (0, .ref h_an), (1, .int p1), (2, .int p2), (3, .int p3), (4, .int p4)]) hx hb dX0_put_61 hl (k := 5) rfl (by rw [ez37]; rfl) (by decide) rfl (fun ls hl => ?_)
            refine lv_goto (tgt := 3) hx hb dX0_put_64 (by decide) ?_
            exact ih9 (z37) (x2) (x3) (f4) (f5) (f6) (f7) _ _ _ (by omega) (by omega) (by omega) hP hD hS (lv_sub hl [1, 2, 3, 4, 5, 0] rfl)
          · have kc36 := (cv_eq (rfl : (z35).toInt = (z35).toInt) (rfl : (p2).toInt = (p2).toInt)).mp c36
            refine lv_aload_n hx hb dX0_put_34 rfl (lv_at hl 0 rfl) ?_
            refine va_get (D := (dC, dI)) (ci := 0) (v := .ref h_ao) (C := RX0) (T := TX0) (N := 6) hx hb hw iwX0 hown hK hP 0 rfl rfl 2 (by decide) (hw _ w_f_X0_18) (fun _ h9 => h9) rfl dX0_put_35 ?_
            refine lv_iload hx hb dX0_put_38 (lv_at hl 5 rfl) ?_
            refine va_iald hx hb hK hP 3 2 rfl rfl (i := x1) (vp_in_iff.mpr (by omega)) dX0_put_40 ?_
            refine lv_topi (fun z38 ez38 => ?_)
            refine lv_iload_n hx hb dX0_put_41 rfl (lv_at hl 3 rfl) ?_
            refine lv_icmp_ne (tgt := 61) hx hb dX0_put_42 (by decide) (fun c39 => ?_) (fun c39 => ?_)
            · have kc39 := (not_congr (cv_eq (rfl : (z38).toInt = (z38).toInt) (rfl : (p3).toInt = (p3).toInt))).mp c39
              obtain ⟨z40, ez40⟩ : ∃ y : Int32, y = x1 + 1 := ⟨_, rfl⟩
              have tz40 : (z40).toInt = (x1).toInt + 1 := by rw [ez40]; exact i_add rfl (by decide) (by omega)
              refine lv_iinc (v := z40) (lv' := [(5, .int z40), (0, .ref h_an), (1, .int p1), (2, .int p2), (3, .int p3), (4, .int p4)]) hx hb dX0_put_61 hl (k := 5) rfl (by rw [ez40]; rfl) (by decide) rfl (fun ls hl => ?_)
              refine lv_goto (tgt := 3) hx hb dX0_put_64 (by decide) ?_
              exact ih9 (z40) (x2) (x3) (f4) (f5) (f6) (f7) _ _ _ (by omega) (by omega) (by omega) hP hD hS (lv_sub hl [1, 2, 3, 4, 5, 0] rfl)
            · have kc39 := (cv_eq (rfl : (z38).toInt = (z38).toInt) (rfl : (p3).toInt = (p3).toInt)).mp c39
              refine lv_aload_n hx hb dX0_put_45 rfl (lv_at hl 0 rfl) ?_
              refine lv_dup hx hb dX0_put_46 rfl ?_
              refine va_get (D := (dC, dI)) (ci := 0) (v := .int x3) (C := RX0) (T := TX0) (N := 6) hx hb hw iwX0 hown hK hP 0 rfl rfl 5 (by decide) (hw _ w_f_X0_28) (fun _ h9 => h9) rfl dX0_put_47 ?_
              refine lv_iconst (v := 1) hx hb dX0_put_50 (by decide) ?_
              refine lv_iadd hx hb dX0_put_51 ?_
              refine lv_topi (fun z41 ez41 => ?_)
              refine va_put (D := (dC, dI)) (ci := 0) (v := .int z41) (ty := tyX0 5) (C := RX0) (T := TX0) (N := 6) hx hb hw iwX0 tyX0 tyX0_ok nmX0 hown hK hP hD hS 0 rfl rfl 5 (by decide) (hw _ w_f_X0_28) (fun _ h9 => h9) rfl (tyX0_ok 5 (by decide)) rfl rfl (Nat.le_of_ble_eq_true rfl) dX0_put_52 (fun H locs hP hD hS => ?_)
              have hP : va_P (dC, dI) cls [(h_an, .inr (0, [.ref h_as, .ref h_ad, .ref h_ao, .ref h_af, .int x2, .int z41])), (h_as, .inl (cy_as, 8, .inl f4)), (h_ad, .inl (cy_ad, 8, .inl f5)), (h_ao, .inl (cy_ao, 8, .inl f6)), (h_af, .inl (cy_af, 8, .inl f7))] H := hP
              have hD : va_D A [(h_an, .inr (0, [.ref h_as, .ref h_ad, .ref h_ao, .ref h_af, .int x2, .int z41])), (h_as, .inl (cy_as, 8, .inl f4)), (h_ad, .inl (cy_ad, 8, .inl f5)), (h_ao, .inl (cy_ao, 8, .inl f6)), (h_af, .inl (cy_af, 8, .inl f7))] := hD
              refine lv_aload_n hx hb dX0_put_55 rfl (lv_at hl 0 rfl) ?_
              refine lv_iload hx hb dX0_put_56 (lv_at hl 5 rfl) ?_
              have hPc := hP.sub (ws' := [(h_an, .inr (0, [.ref h_as, .ref h_ad, .ref h_ao, .ref h_af, .int x2, .int z41])), (h_as, .inl (cy_as, 8, .inl f4)), (h_ad, .inl (cy_ad, 8, .inl f5)), (h_ao, .inl (cy_ao, 8, .inl f6)), (h_af, .inl (cy_af, 8, .inl f7))]) [0, 1, 2, 3, 4] rfl
              have hDc := hD.sub (ws' := [(h_an, .inr (0, [.ref h_as, .ref h_ad, .ref h_ao, .ref h_af, .int x2, .int z41])), (h_as, .inl (cy_as, 8, .inl f4)), (h_ad, .inl (cy_ad, 8, .inl f5)), (h_ao, .inl (cy_ao, 8, .inl f6)), (h_af, .inl (cy_af, 8, .inl f7))]) [0, 1, 2, 3, 4] (by decide) rfl
              have hKc := hK.sub (tys' := [(cy_as, .int), (cy_ad, .int), (cy_ao, .int), (cy_af, .int)]) [0, 1, 2, 3] rfl
              have hFc := va_free (wc := [(h_an, .inr (0, [.ref h_as, .ref h_ad, .ref h_ao, .ref h_af, .int x2, .int z41])), (h_as, .inl (cy_as, 8, .inl f4)), (h_ad, .inl (cy_ad, 8, .inl f5)), (h_ao, .inl (cy_ao, 8, .inl f6)), (h_af, .inl (cy_af, 8, .inl f7))]) hD hS hA [0, 1, 2, 3, 4] rfl
              refine va_callv (va_runV (As := [.int x1]) (rest := []) ⟨hx, hb, hml, hown, hts⟩ (c_X0_remove l dC dI H.size h_an h_as h_ad h_ao h_af (fun k => List.getD [.ref h_as, .ref h_ad, .ref h_ao, .ref h_af, .int x2, .int z41] k .null) x2 cy_as f4 cy_ad f5 cy_ao f6 cy_af f7 x1 (by omega) (by omega) (by omega)) (cwV 1 hts (gv hT w_m_X0_31 w_instanceMethod_X0_remove ws_sel_X0_remove w_ini_X0 w_code_X0_remove) rfl rfl rfl (by decide +kernel) ⟨(Nat.le_of_ble_eq_true rfl), (Nat.le_of_ble_eq_true rfl)⟩) ⟨pre_blind, va_recv hK hP (ci := 0) (q0 := 0) rfl rfl, pre_of hPc hKc hDc hN⟩ rfl rfl hl.1 rfl (lv_room (Nat.le_of_ble_eq_true rfl)) dX0_put_58 ⟨(Nat.le_of_ble_eq_true rfl), (Nat.le_of_ble_eq_true rfl)⟩) hS (fun q _ h => hFc q h) hFc (fun u t H locs ht hvm hq hB hz1 hk1 hS => ?_)
              obtain ⟨z43, f44, f45, f46, f47⟩ := u
              obtain ⟨hP1, hD1⟩ := hB
              rw [ht] at hP1
              obtain ⟨hP, hD⟩ := va_join (wr := []) (w1 := [(h_an, .inr (0, [.ref h_as, .ref h_ad, .ref h_ao, .ref h_af, .int z43, .int z41])), (h_as, .inl (cy_as, 8, .inl f44)), (h_ad, .inl (cy_ad, 8, .inl f45)), (h_ao, .inl (cy_ao, 8, .inl f46)), (h_af, .inl (cy_af, 8, .inl f47))]) hP hD [0, 1, 2, 3, 4] [] rfl rfl (by decide) (by decide) hk1 hFc hP1 hD1
              have hP : va_P (dC, dI) cls [(h_an, .inr (0, [.ref h_as, .ref h_ad, .ref h_ao, .ref h_af, .int z43, .int z41])), (h_as, .inl (cy_as, 8, .inl f44)), (h_ad, .inl (cy_ad, 8, .inl f45)), (h_ao, .inl (cy_ao, 8, .inl f46)), (h_af, .inl (cy_af, 8, .inl f47))] H := hP
              have hD : va_D A [(h_an, .inr (0, [.ref h_as, .ref h_ad, .ref h_ao, .ref h_af, .int z43, .int z41])), (h_as, .inl (cy_as, 8, .inl f44)), (h_ad, .inl (cy_ad, 8, .inl f45)), (h_ao, .inl (cy_ao, 8, .inl f46)), (h_af, .inl (cy_af, 8, .inl f47))] := hD
              obtain ⟨k48, k49⟩ := hq
              have k48 : 0 ≤ ((z43)).toInt ∧ ((z43)).toInt ≤ 8 := k48
              have k49 : ((z43)).toInt = ((x2)).toInt - 1 := k49
              obtain ⟨z50, ez50⟩ : ∃ y : Int32, y = x1 + 1 := ⟨_, rfl⟩
              have tz50 : (z50).toInt = (x1).toInt + 1 := by rw [ez50]; exact i_add rfl (by decide) (by omega)
              refine lv_iinc (v := z50) (lv' := [(5, .int z50), (0, .ref h_an), (1, .int p1), (2, .int p2), (3, .int p3), (4, .int p4)]) hx hb dX0_put_61 hl (k := 5) rfl (by rw [ez50]; rfl) (by decide) rfl (fun ls hl => ?_)
              refine lv_goto (tgt := 3) hx hb dX0_put_64 (by decide) ?_
              exact ih9 (z50) (z43) (z41) (f44) (f45) (f46) (f47) _ _ _ (by omega) (by omega) (by omega) hP hD hS (lv_sub hl [1, 2, 3, 4, 5, 0] rfl)
  have cst0 : (0 : Int32).toInt = 0 := by decide
  exact lp8 _ (0) (x_an_count) (x_an_again) (f_as) (f_ad) (f_ao) (f_af) _ _ _ (by decide) (by omega) (Nat.le_refl _) hP hD hS (lv_sub hl [1, 2, 3, 4, 5, 0] rfl)

