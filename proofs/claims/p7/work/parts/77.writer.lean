theorem w_cl_X9_84 : Cond.constantLong "OppositePairs$Writer" 84 (31 : Int64) ∈ WALL := wall_t (tb_3 62 (by decide +kernel)) rfl
theorem w_code_X0_remove : Cond.code yX0_remove prog_2_method_3_code 3 none ∈ WALL := wall_t (tb_4 127 (by decide +kernel)) rfl
theorem w_code_X9_push : Cond.code yX9_push prog_11_method_4_code 2 none ∈ WALL := wall_t (tb_3 66 (by decide +kernel)) rfl
theorem w_code_X9_put : Cond.code yX9_put prog_11_method_3_code 2 none ∈ WALL := wall_t (tb_3 47 (by decide +kernel)) rfl
theorem w_code_X9_putInstance : Cond.code yX9_putInstance prog_11_method_6_code 2 none ∈ WALL := wall_t (tb_3 57 (by decide +kernel)) rfl
theorem w_code_X9_putName : Cond.code yX9_putName prog_11_method_7_code 5 none ∈ WALL := wall_t (tb_3 61 (by decide +kernel)) rfl
theorem w_code_X9_putPart : Cond.code yX9_putPart prog_11_method_5_code 5 none ∈ WALL := wall_t (tb_3 53 (by decide +kernel)) rfl
theorem w_f_X0_15 : Cond.fieldLink "OppositePairs$Answers" 15 "OppositePairs$Answers" "depth" "[I" ∈ WALL := wall_t (tb_2 98 (by decide +kernel)) rfl
theorem w_f_X0_18 : Cond.fieldLink "OppositePairs$Answers" 18 "OppositePairs$Answers" "options" "[I" ∈ WALL := wall_t (tb_2 100 (by decide +kernel)) rfl
theorem w_f_X0_21 : Cond.fieldLink "OppositePairs$Answers" 21 "OppositePairs$Answers" "found" "[I" ∈ WALL := wall_t (tb_2 102 (by decide +kernel)) rfl
theorem w_f_X0_24 : Cond.fieldLink "OppositePairs$Answers" 24 "OppositePairs$Answers" "count" "I" ∈ WALL := wall_t (tb_2 104 (by decide +kernel)) rfl
theorem w_f_X0_28 : Cond.fieldLink "OppositePairs$Answers" 28 "OppositePairs$Answers" "again" "I" ∈ WALL := wall_t (tb_2 106 (by decide +kernel)) rfl
theorem w_f_X0_9 : Cond.fieldLink "OppositePairs$Answers" 9 "OppositePairs$Answers" "start" "[I" ∈ WALL := wall_t (tb_2 96 (by decide +kernel)) rfl
theorem w_f_X9_15 : Cond.fieldLink "OppositePairs$Writer" 15 "OppositePairs$Writer" "draft" "[I" ∈ WALL := wall_t (tb_1 188 (by decide +kernel)) rfl
theorem w_f_X9_18 : Cond.fieldLink "OppositePairs$Writer" 18 "OppositePairs$Writer" "hold" "[I" ∈ WALL := wall_t (tb_1 190 (by decide +kernel)) rfl
theorem w_f_X9_21 : Cond.fieldLink "OppositePairs$Writer" 21 "OppositePairs$Writer" "told" "LOppositePairs$Told;" ∈ WALL := wall_t (tb_1 182 (by decide +kernel)) rfl
theorem w_f_X9_25 : Cond.fieldLink "OppositePairs$Writer" 25 "OppositePairs$Writer" "bonds" "LOppositePairs$Bonds;" ∈ WALL := wall_t (tb_1 183 (by decide +kernel)) rfl
theorem w_f_X9_29 : Cond.fieldLink "OppositePairs$Writer" 29 "OppositePairs$Writer" "drafted" "I" ∈ WALL := wall_t (tb_1 189 (by decide +kernel)) rfl
theorem w_f_X9_37 : Cond.fieldLink "OppositePairs$Writer" 37 "OppositePairs$Writer" "held" "I" ∈ WALL := wall_t (tb_1 191 (by decide +kernel)) rfl
theorem w_f_X9_56 : Cond.fieldLink "OppositePairs$Writer" 56 "OppositePairs$Writer" "length" "I" ∈ WALL := wall_t (tb_1 186 (by decide +kernel)) rfl
theorem w_f_X9_9 : Cond.fieldLink "OppositePairs$Writer" 9 "OppositePairs$Writer" "bytes" "[I" ∈ WALL := wall_t (tb_1 184 (by decide +kernel)) rfl
theorem w_ini_X0 : Cond.initialized "OppositePairs$Answers" ∈ WALL := wall_t (tb_1 8 (by decide +kernel)) rfl
theorem w_ini_X9 : Cond.initialized "OppositePairs$Writer" ∈ WALL := wall_t (tb_1 5 (by decide +kernel)) rfl
theorem w_instanceMethod_X0_remove : Cond.instanceMethod yX0_remove ∈ WALL := wall_t (tb_4 126 (by decide +kernel)) rfl
theorem w_instanceMethod_X9_push : Cond.instanceMethod yX9_push ∈ WALL := wall_t (tb_3 65 (by decide +kernel)) rfl
theorem w_instanceMethod_X9_put : Cond.instanceMethod yX9_put ∈ WALL := wall_t (tb_3 46 (by decide +kernel)) rfl
theorem w_instanceMethod_X9_putInstance : Cond.instanceMethod yX9_putInstance ∈ WALL := wall_t (tb_3 56 (by decide +kernel)) rfl
theorem w_instanceMethod_X9_putName : Cond.instanceMethod yX9_putName ∈ WALL := wall_t (tb_3 60 (by decide +kernel)) rfl
theorem w_instanceMethod_X9_putPart : Cond.instanceMethod yX9_putPart ∈ WALL := wall_t (tb_3 52 (by decide +kernel)) rfl
theorem w_k_X9_40 : Cond.constant "OppositePairs$Writer" 40 (1000000 : Int32) ∈ WALL := wall_t (tb_3 48 (by decide +kernel)) rfl
theorem w_m_X0_31 : Cond.methodLink "OppositePairs$Answers" 31 yX0_remove ∈ WALL := wall_t (tb_4 124 (by decide +kernel)) rfl
theorem w_m_X9_33 : Cond.methodLink "OppositePairs$Writer" 33 yX9_put ∈ WALL := wall_t (tb_3 44 (by decide +kernel)) rfl
theorem w_m_X9_47 : Cond.methodLink "OppositePairs$Writer" 47 yX9_putPart ∈ WALL := wall_t (tb_3 50 (by decide +kernel)) rfl
theorem w_m_X9_50 : Cond.methodLink "OppositePairs$Writer" 50 arraycopyName ∈ WALL := wall_t (tb_3 67 (by decide +kernel)) rfl
theorem w_m_X9_68 : Cond.methodLink "OppositePairs$Writer" 68 yX9_putInstance ∈ WALL := wall_t (tb_3 54 (by decide +kernel)) rfl
theorem w_m_X9_71 : Cond.methodLink "OppositePairs$Writer" 71 yX9_putName ∈ WALL := wall_t (tb_3 58 (by decide +kernel)) rfl
theorem w_m_X9_78 : Cond.methodLink "OppositePairs$Writer" 78 yX9_push ∈ WALL := wall_t (tb_3 63 (by decide +kernel)) rfl
theorem ws_sel_X0_remove : Cond.selects "OppositePairs$Answers" yX0_remove yX0_remove ∈ WALL := wall_s 69 (by decide +kernel) rfl
theorem ws_sel_X9_push : Cond.selects "OppositePairs$Writer" yX9_push yX9_push ∈ WALL := wall_s 28 (by decide +kernel) rfl
theorem ws_sel_X9_put : Cond.selects "OppositePairs$Writer" yX9_put yX9_put ∈ WALL := wall_s 24 (by decide +kernel) rfl
theorem ws_sel_X9_putInstance : Cond.selects "OppositePairs$Writer" yX9_putInstance yX9_putInstance ∈ WALL := wall_s 26 (by decide +kernel) rfl
theorem ws_sel_X9_putName : Cond.selects "OppositePairs$Writer" yX9_putName yX9_putName ∈ WALL := wall_s 27 (by decide +kernel) rfl
theorem ws_sel_X9_putPart : Cond.selects "OppositePairs$Writer" yX9_putPart yX9_putPart ∈ WALL := wall_s 25 (by decide +kernel) rfl
theorem n_f_X9_59 : Cond.fieldLinkNest "OppositePairs$Writer" 59 "OppositePairs$Told" "variable" "[I" "OppositePairs" ∈ NWL := nwl_t (tb_1 79 (by decide +kernel)) rfl
theorem n_f_X9_64 : Cond.fieldLinkNest "OppositePairs$Writer" 64 "OppositePairs$Told" "name" "[J" "OppositePairs" ∈ NWL := nwl_t (tb_1 75 (by decide +kernel)) rfl
theorem n_f_X9_75 : Cond.fieldLinkNest "OppositePairs$Writer" 75 "OppositePairs$Told" "terms" "[I" "OppositePairs" ∈ NWL := nwl_t (tb_1 81 (by decide +kernel)) rfl
theorem n_f_X9_81 : Cond.fieldLinkNest "OppositePairs$Writer" 81 "OppositePairs$Told" "term" "[I" "OppositePairs" ∈ NWL := nwl_t (tb_1 86 (by decide +kernel)) rfl
theorem n_m_X9_41 : Cond.methodLinkNest "OppositePairs$Writer" 41 yX1_bare "OppositePairs" ∈ NWL := nwl_t (tb_3 49 (by decide +kernel)) rfl
theorem dX0_put_0 : decode cX0_put 0 = .ok (.iconst 0, 1) := by decide +kernel
theorem dX0_put_1 : decode cX0_put 1 = .ok (.istore 5, 2) := by decide +kernel
theorem dX0_put_100 : decode cX0_put 100 = .ok (.iastore, 1) := by decide +kernel
theorem dX0_put_101 : decode cX0_put 101 = .ok (.aload_n 0, 1) := by decide +kernel
theorem dX0_put_102 : decode cX0_put 102 = .ok (.getfield 18, 3) := by decide +kernel
theorem dX0_put_105 : decode cX0_put 105 = .ok (.aload_n 0, 1) := by decide +kernel
theorem dX0_put_106 : decode cX0_put 106 = .ok (.getfield 24, 3) := by decide +kernel
theorem dX0_put_109 : decode cX0_put 109 = .ok (.iload_n 3, 1) := by decide +kernel
theorem dX0_put_110 : decode cX0_put 110 = .ok (.iastore, 1) := by decide +kernel
theorem dX0_put_111 : decode cX0_put 111 = .ok (.aload_n 0, 1) := by decide +kernel
theorem dX0_put_112 : decode cX0_put 112 = .ok (.getfield 21, 3) := by decide +kernel
theorem dX0_put_115 : decode cX0_put 115 = .ok (.aload_n 0, 1) := by decide +kernel
theorem dX0_put_116 : decode cX0_put 116 = .ok (.getfield 24, 3) := by decide +kernel
theorem dX0_put_119 : decode cX0_put 119 = .ok (.iload 4, 2) := by decide +kernel
theorem dX0_put_12 : decode cX0_put 12 = .ok (.aload_n 0, 1) := by decide +kernel
theorem dX0_put_121 : decode cX0_put 121 = .ok (.iastore, 1) := by decide +kernel
theorem dX0_put_122 : decode cX0_put 122 = .ok (.aload_n 0, 1) := by decide +kernel
theorem dX0_put_123 : decode cX0_put 123 = .ok (.dup, 1) := by decide +kernel
theorem dX0_put_124 : decode cX0_put 124 = .ok (.getfield 24, 3) := by decide +kernel
theorem dX0_put_127 : decode cX0_put 127 = .ok (.iconst 1, 1) := by decide +kernel
theorem dX0_put_128 : decode cX0_put 128 = .ok (.iadd, 1) := by decide +kernel
theorem dX0_put_129 : decode cX0_put 129 = .ok (.putfield 24, 3) := by decide +kernel
theorem dX0_put_13 : decode cX0_put 13 = .ok (.getfield 9, 3) := by decide +kernel
theorem dX0_put_132 : decode cX0_put 132 = .ok (.return_, 1) := by decide +kernel
theorem dX0_put_16 : decode cX0_put 16 = .ok (.iload 5, 2) := by decide +kernel
theorem dX0_put_18 : decode cX0_put 18 = .ok (.iaload, 1) := by decide +kernel
theorem dX0_put_19 : decode cX0_put 19 = .ok (.iload_n 1, 1) := by decide +kernel
theorem dX0_put_20 : decode cX0_put 20 = .ok (.if_icmp .ne 41, 3) := by decide +kernel
theorem dX0_put_23 : decode cX0_put 23 = .ok (.aload_n 0, 1) := by decide +kernel
theorem dX0_put_24 : decode cX0_put 24 = .ok (.getfield 15, 3) := by decide +kernel
theorem dX0_put_27 : decode cX0_put 27 = .ok (.iload 5, 2) := by decide +kernel
theorem dX0_put_29 : decode cX0_put 29 = .ok (.iaload, 1) := by decide +kernel
theorem dX0_put_3 : decode cX0_put 3 = .ok (.iload 5, 2) := by decide +kernel
theorem dX0_put_30 : decode cX0_put 30 = .ok (.iload_n 2, 1) := by decide +kernel
theorem dX0_put_31 : decode cX0_put 31 = .ok (.if_icmp .ne 30, 3) := by decide +kernel
theorem dX0_put_34 : decode cX0_put 34 = .ok (.aload_n 0, 1) := by decide +kernel
theorem dX0_put_35 : decode cX0_put 35 = .ok (.getfield 18, 3) := by decide +kernel
theorem dX0_put_38 : decode cX0_put 38 = .ok (.iload 5, 2) := by decide +kernel
theorem dX0_put_40 : decode cX0_put 40 = .ok (.iaload, 1) := by decide +kernel
theorem dX0_put_41 : decode cX0_put 41 = .ok (.iload_n 3, 1) := by decide +kernel
theorem dX0_put_42 : decode cX0_put 42 = .ok (.if_icmp .ne 19, 3) := by decide +kernel
theorem dX0_put_45 : decode cX0_put 45 = .ok (.aload_n 0, 1) := by decide +kernel
theorem dX0_put_46 : decode cX0_put 46 = .ok (.dup, 1) := by decide +kernel
theorem dX0_put_47 : decode cX0_put 47 = .ok (.getfield 28, 3) := by decide +kernel
theorem dX0_put_5 : decode cX0_put 5 = .ok (.aload_n 0, 1) := by decide +kernel
theorem dX0_put_50 : decode cX0_put 50 = .ok (.iconst 1, 1) := by decide +kernel
theorem dX0_put_51 : decode cX0_put 51 = .ok (.iadd, 1) := by decide +kernel
theorem dX0_put_52 : decode cX0_put 52 = .ok (.putfield 28, 3) := by decide +kernel
theorem dX0_put_55 : decode cX0_put 55 = .ok (.aload_n 0, 1) := by decide +kernel
theorem dX0_put_56 : decode cX0_put 56 = .ok (.iload 5, 2) := by decide +kernel
theorem dX0_put_58 : decode cX0_put 58 = .ok (.invokevirtual 31, 3) := by decide +kernel
theorem dX0_put_6 : decode cX0_put 6 = .ok (.getfield 24, 3) := by decide +kernel
theorem dX0_put_61 : decode cX0_put 61 = .ok (.iinc 5 1, 3) := by decide +kernel
theorem dX0_put_64 : decode cX0_put 64 = .ok (.goto (-61), 3) := by decide +kernel
theorem dX0_put_67 : decode cX0_put 67 = .ok (.aload_n 0, 1) := by decide +kernel
theorem dX0_put_68 : decode cX0_put 68 = .ok (.getfield 24, 3) := by decide +kernel
theorem dX0_put_71 : decode cX0_put 71 = .ok (.bipush 8, 2) := by decide +kernel
theorem dX0_put_73 : decode cX0_put 73 = .ok (.if_icmp .ne 8, 3) := by decide +kernel
theorem dX0_put_76 : decode cX0_put 76 = .ok (.aload_n 0, 1) := by decide +kernel
theorem dX0_put_77 : decode cX0_put 77 = .ok (.iconst 0, 1) := by decide +kernel
theorem dX0_put_78 : decode cX0_put 78 = .ok (.invokevirtual 31, 3) := by decide +kernel
theorem dX0_put_81 : decode cX0_put 81 = .ok (.aload_n 0, 1) := by decide +kernel
theorem dX0_put_82 : decode cX0_put 82 = .ok (.getfield 9, 3) := by decide +kernel
theorem dX0_put_85 : decode cX0_put 85 = .ok (.aload_n 0, 1) := by decide +kernel
theorem dX0_put_86 : decode cX0_put 86 = .ok (.getfield 24, 3) := by decide +kernel
theorem dX0_put_89 : decode cX0_put 89 = .ok (.iload_n 1, 1) := by decide +kernel
theorem dX0_put_9 : decode cX0_put 9 = .ok (.if_icmp .ge 58, 3) := by decide +kernel
theorem dX0_put_90 : decode cX0_put 90 = .ok (.iastore, 1) := by decide +kernel
theorem dX0_put_91 : decode cX0_put 91 = .ok (.aload_n 0, 1) := by decide +kernel
theorem dX0_put_92 : decode cX0_put 92 = .ok (.getfield 15, 3) := by decide +kernel
theorem dX0_put_95 : decode cX0_put 95 = .ok (.aload_n 0, 1) := by decide +kernel
theorem dX0_put_96 : decode cX0_put 96 = .ok (.getfield 24, 3) := by decide +kernel
theorem dX0_put_99 : decode cX0_put 99 = .ok (.iload_n 2, 1) := by decide +kernel
theorem dX0_remove_0 : decode cX0_remove 0 = .ok (.iload_n 1, 1) := by decide +kernel
theorem dX0_remove_1 : decode cX0_remove 1 = .ok (.istore_n 2, 1) := by decide +kernel
theorem dX0_remove_12 : decode cX0_remove 12 = .ok (.aload_n 0, 1) := by decide +kernel
theorem dX0_remove_13 : decode cX0_remove 13 = .ok (.getfield 9, 3) := by decide +kernel
theorem dX0_remove_16 : decode cX0_remove 16 = .ok (.iload_n 2, 1) := by decide +kernel
theorem dX0_remove_17 : decode cX0_remove 17 = .ok (.aload_n 0, 1) := by decide +kernel
theorem dX0_remove_18 : decode cX0_remove 18 = .ok (.getfield 9, 3) := by decide +kernel
theorem dX0_remove_2 : decode cX0_remove 2 = .ok (.iload_n 2, 1) := by decide +kernel
theorem dX0_remove_21 : decode cX0_remove 21 = .ok (.iload_n 2, 1) := by decide +kernel
theorem dX0_remove_22 : decode cX0_remove 22 = .ok (.iconst 1, 1) := by decide +kernel
theorem dX0_remove_23 : decode cX0_remove 23 = .ok (.iadd, 1) := by decide +kernel
theorem dX0_remove_24 : decode cX0_remove 24 = .ok (.iaload, 1) := by decide +kernel
theorem dX0_remove_25 : decode cX0_remove 25 = .ok (.iastore, 1) := by decide +kernel
theorem dX0_remove_26 : decode cX0_remove 26 = .ok (.aload_n 0, 1) := by decide +kernel
theorem dX0_remove_27 : decode cX0_remove 27 = .ok (.getfield 15, 3) := by decide +kernel
theorem dX0_remove_3 : decode cX0_remove 3 = .ok (.iconst 1, 1) := by decide +kernel
theorem dX0_remove_30 : decode cX0_remove 30 = .ok (.iload_n 2, 1) := by decide +kernel
theorem dX0_remove_31 : decode cX0_remove 31 = .ok (.aload_n 0, 1) := by decide +kernel
theorem dX0_remove_32 : decode cX0_remove 32 = .ok (.getfield 15, 3) := by decide +kernel
theorem dX0_remove_35 : decode cX0_remove 35 = .ok (.iload_n 2, 1) := by decide +kernel
theorem dX0_remove_36 : decode cX0_remove 36 = .ok (.iconst 1, 1) := by decide +kernel
theorem dX0_remove_37 : decode cX0_remove 37 = .ok (.iadd, 1) := by decide +kernel
theorem dX0_remove_38 : decode cX0_remove 38 = .ok (.iaload, 1) := by decide +kernel
theorem dX0_remove_39 : decode cX0_remove 39 = .ok (.iastore, 1) := by decide +kernel
theorem dX0_remove_4 : decode cX0_remove 4 = .ok (.iadd, 1) := by decide +kernel
theorem dX0_remove_40 : decode cX0_remove 40 = .ok (.aload_n 0, 1) := by decide +kernel
theorem dX0_remove_41 : decode cX0_remove 41 = .ok (.getfield 18, 3) := by decide +kernel
theorem dX0_remove_44 : decode cX0_remove 44 = .ok (.iload_n 2, 1) := by decide +kernel
theorem dX0_remove_45 : decode cX0_remove 45 = .ok (.aload_n 0, 1) := by decide +kernel
theorem dX0_remove_46 : decode cX0_remove 46 = .ok (.getfield 18, 3) := by decide +kernel
theorem dX0_remove_49 : decode cX0_remove 49 = .ok (.iload_n 2, 1) := by decide +kernel
theorem dX0_remove_5 : decode cX0_remove 5 = .ok (.aload_n 0, 1) := by decide +kernel
theorem dX0_remove_50 : decode cX0_remove 50 = .ok (.iconst 1, 1) := by decide +kernel
theorem dX0_remove_51 : decode cX0_remove 51 = .ok (.iadd, 1) := by decide +kernel
theorem dX0_remove_52 : decode cX0_remove 52 = .ok (.iaload, 1) := by decide +kernel
theorem dX0_remove_53 : decode cX0_remove 53 = .ok (.iastore, 1) := by decide +kernel
theorem dX0_remove_54 : decode cX0_remove 54 = .ok (.aload_n 0, 1) := by decide +kernel
theorem dX0_remove_55 : decode cX0_remove 55 = .ok (.getfield 21, 3) := by decide +kernel
theorem dX0_remove_58 : decode cX0_remove 58 = .ok (.iload_n 2, 1) := by decide +kernel
theorem dX0_remove_59 : decode cX0_remove 59 = .ok (.aload_n 0, 1) := by decide +kernel
theorem dX0_remove_6 : decode cX0_remove 6 = .ok (.getfield 24, 3) := by decide +kernel
theorem dX0_remove_60 : decode cX0_remove 60 = .ok (.getfield 21, 3) := by decide +kernel
theorem dX0_remove_63 : decode cX0_remove 63 = .ok (.iload_n 2, 1) := by decide +kernel
theorem dX0_remove_64 : decode cX0_remove 64 = .ok (.iconst 1, 1) := by decide +kernel
theorem dX0_remove_65 : decode cX0_remove 65 = .ok (.iadd, 1) := by decide +kernel
theorem dX0_remove_66 : decode cX0_remove 66 = .ok (.iaload, 1) := by decide +kernel
theorem dX0_remove_67 : decode cX0_remove 67 = .ok (.iastore, 1) := by decide +kernel
theorem dX0_remove_68 : decode cX0_remove 68 = .ok (.iinc 2 1, 3) := by decide +kernel
theorem dX0_remove_71 : decode cX0_remove 71 = .ok (.goto (-69), 3) := by decide +kernel
theorem dX0_remove_74 : decode cX0_remove 74 = .ok (.aload_n 0, 1) := by decide +kernel
theorem dX0_remove_75 : decode cX0_remove 75 = .ok (.dup, 1) := by decide +kernel
theorem dX0_remove_76 : decode cX0_remove 76 = .ok (.getfield 24, 3) := by decide +kernel
theorem dX0_remove_79 : decode cX0_remove 79 = .ok (.iconst 1, 1) := by decide +kernel
theorem dX0_remove_80 : decode cX0_remove 80 = .ok (.isub, 1) := by decide +kernel
theorem dX0_remove_81 : decode cX0_remove 81 = .ok (.putfield 24, 3) := by decide +kernel
theorem dX0_remove_84 : decode cX0_remove 84 = .ok (.return_, 1) := by decide +kernel
theorem dX0_remove_9 : decode cX0_remove 9 = .ok (.if_icmp .ge 65, 3) := by decide +kernel
theorem dX9_push_0 : decode cX9_push 0 = .ok (.aload_n 0, 1) := by decide +kernel
theorem dX9_push_1 : decode cX9_push 1 = .ok (.getfield 37, 3) := by decide +kernel
theorem dX9_push_10 : decode cX9_push 10 = .ok (.aload_n 0, 1) := by decide +kernel
theorem dX9_push_11 : decode cX9_push 11 = .ok (.getfield 18, 3) := by decide +kernel
theorem dX9_push_14 : decode cX9_push 14 = .ok (.aload_n 0, 1) := by decide +kernel
theorem dX9_push_15 : decode cX9_push 15 = .ok (.dup, 1) := by decide +kernel
theorem dX9_push_16 : decode cX9_push 16 = .ok (.getfield 37, 3) := by decide +kernel
theorem dX9_push_19 : decode cX9_push 19 = .ok (.dup_x1, 1) := by decide +kernel
theorem dX9_push_20 : decode cX9_push 20 = .ok (.iconst 1, 1) := by decide +kernel
theorem dX9_push_21 : decode cX9_push 21 = .ok (.iadd, 1) := by decide +kernel
theorem dX9_push_22 : decode cX9_push 22 = .ok (.putfield 37, 3) := by decide +kernel
theorem dX9_push_25 : decode cX9_push 25 = .ok (.iload_n 1, 1) := by decide +kernel
theorem dX9_push_26 : decode cX9_push 26 = .ok (.iastore, 1) := by decide +kernel
theorem dX9_push_27 : decode cX9_push 27 = .ok (.return_, 1) := by decide +kernel
theorem dX9_push_4 : decode cX9_push 4 = .ok (.sipush 2048, 3) := by decide +kernel
theorem dX9_push_7 : decode cX9_push 7 = .ok (.if_icmp .ge 20, 3) := by decide +kernel
theorem dX9_putInstance_0 : decode cX9_putInstance 0 = .ok (.iload_n 1, 1) := by decide +kernel
theorem dX9_putInstance_1 : decode cX9_putInstance 1 = .ok (.bipush 30, 2) := by decide +kernel
theorem dX9_putInstance_10 : decode cX9_putInstance 10 = .ok (.if_icmp .lt 14, 3) := by decide +kernel
theorem dX9_putInstance_13 : decode cX9_putInstance 13 = .ok (.aload_n 0, 1) := by decide +kernel
theorem dX9_putInstance_14 : decode cX9_putInstance 14 = .ok (.bipush 48, 2) := by decide +kernel
theorem dX9_putInstance_16 : decode cX9_putInstance 16 = .ok (.iload_n 1, 1) := by decide +kernel
theorem dX9_putInstance_17 : decode cX9_putInstance 17 = .ok (.bipush 10, 2) := by decide +kernel
theorem dX9_putInstance_19 : decode cX9_putInstance 19 = .ok (.idiv, 1) := by decide +kernel
theorem dX9_putInstance_20 : decode cX9_putInstance 20 = .ok (.iadd, 1) := by decide +kernel
theorem dX9_putInstance_21 : decode cX9_putInstance 21 = .ok (.invokevirtual 33, 3) := by decide +kernel
theorem dX9_putInstance_24 : decode cX9_putInstance 24 = .ok (.aload_n 0, 1) := by decide +kernel
theorem dX9_putInstance_25 : decode cX9_putInstance 25 = .ok (.bipush 48, 2) := by decide +kernel
theorem dX9_putInstance_27 : decode cX9_putInstance 27 = .ok (.iload_n 1, 1) := by decide +kernel
theorem dX9_putInstance_28 : decode cX9_putInstance 28 = .ok (.bipush 10, 2) := by decide +kernel
theorem dX9_putInstance_3 : decode cX9_putInstance 3 = .ok (.if_icmp .lt 4, 3) := by decide +kernel
theorem dX9_putInstance_30 : decode cX9_putInstance 30 = .ok (.irem, 1) := by decide +kernel
theorem dX9_putInstance_31 : decode cX9_putInstance 31 = .ok (.iadd, 1) := by decide +kernel
theorem dX9_putInstance_32 : decode cX9_putInstance 32 = .ok (.invokevirtual 33, 3) := by decide +kernel
theorem dX9_putInstance_35 : decode cX9_putInstance 35 = .ok (.return_, 1) := by decide +kernel
theorem dX9_putInstance_6 : decode cX9_putInstance 6 = .ok (.return_, 1) := by decide +kernel
theorem dX9_putInstance_7 : decode cX9_putInstance 7 = .ok (.iload_n 1, 1) := by decide +kernel
theorem dX9_putInstance_8 : decode cX9_putInstance 8 = .ok (.bipush 10, 2) := by decide +kernel
theorem dX9_putName_0 : decode cX9_putName 0 = .ok (.bipush 35, 2) := by decide +kernel
theorem dX9_putName_10 : decode cX9_putName 10 = .ok (.ldc2_w 84, 3) := by decide +kernel
theorem dX9_putName_13 : decode cX9_putName 13 = .ok (.land, 1) := by decide +kernel
theorem dX9_putName_14 : decode cX9_putName 14 = .ok (.l2i, 1) := by decide +kernel
theorem dX9_putName_15 : decode cX9_putName 15 = .ok (.istore 4, 2) := by decide +kernel
theorem dX9_putName_17 : decode cX9_putName 17 = .ok (.iload 4, 2) := by decide +kernel
theorem dX9_putName_19 : decode cX9_putName 19 = .ok (.ifCond .eq 14, 3) := by decide +kernel
theorem dX9_putName_2 : decode cX9_putName 2 = .ok (.istore_n 3, 1) := by decide +kernel
theorem dX9_putName_22 : decode cX9_putName 22 = .ok (.aload_n 0, 1) := by decide +kernel
theorem dX9_putName_23 : decode cX9_putName 23 = .ok (.bipush 97, 2) := by decide +kernel
theorem dX9_putName_25 : decode cX9_putName 25 = .ok (.iload 4, 2) := by decide +kernel
theorem dX9_putName_27 : decode cX9_putName 27 = .ok (.iadd, 1) := by decide +kernel
theorem dX9_putName_28 : decode cX9_putName 28 = .ok (.iconst 1, 1) := by decide +kernel
theorem dX9_putName_29 : decode cX9_putName 29 = .ok (.isub, 1) := by decide +kernel
theorem dX9_putName_3 : decode cX9_putName 3 = .ok (.iload_n 3, 1) := by decide +kernel
theorem dX9_putName_30 : decode cX9_putName 30 = .ok (.invokevirtual 33, 3) := by decide +kernel
theorem dX9_putName_33 : decode cX9_putName 33 = .ok (.iinc 3 (-5), 3) := by decide +kernel
theorem dX9_putName_36 : decode cX9_putName 36 = .ok (.goto (-33), 3) := by decide +kernel
theorem dX9_putName_39 : decode cX9_putName 39 = .ok (.return_, 1) := by decide +kernel
theorem dX9_putName_4 : decode cX9_putName 4 = .ok (.ifCond .lt 35, 3) := by decide +kernel
theorem dX9_putName_7 : decode cX9_putName 7 = .ok (.lload_n 1, 1) := by decide +kernel
theorem dX9_putName_8 : decode cX9_putName 8 = .ok (.iload_n 3, 1) := by decide +kernel
theorem dX9_putName_9 : decode cX9_putName 9 = .ok (.lshr, 1) := by decide +kernel
theorem dX9_putPart_0 : decode cX9_putPart 0 = .ok (.iload_n 1, 1) := by decide +kernel
theorem dX9_putPart_1 : decode cX9_putPart 1 = .ok (.sipush 300, 3) := by decide +kernel
theorem dX9_putPart_10 : decode cX9_putPart 10 = .ok (.getfield 59, 3) := by decide +kernel
theorem dX9_putPart_100 : decode cX9_putPart 100 = .ok (.getfield 81, 3) := by decide +kernel
theorem dX9_putPart_103 : decode cX9_putPart 103 = .ok (.iload_n 2, 1) := by decide +kernel
theorem dX9_putPart_104 : decode cX9_putPart 104 = .ok (.iconst 3, 1) := by decide +kernel
theorem dX9_putPart_105 : decode cX9_putPart 105 = .ok (.imul, 1) := by decide +kernel
theorem dX9_putPart_106 : decode cX9_putPart 106 = .ok (.iload 4, 2) := by decide +kernel
theorem dX9_putPart_108 : decode cX9_putPart 108 = .ok (.iadd, 1) := by decide +kernel
theorem dX9_putPart_109 : decode cX9_putPart 109 = .ok (.iaload, 1) := by decide +kernel
theorem dX9_putPart_110 : decode cX9_putPart 110 = .ok (.iadd, 1) := by decide +kernel
theorem dX9_putPart_111 : decode cX9_putPart 111 = .ok (.invokevirtual 78, 3) := by decide +kernel
theorem dX9_putPart_114 : decode cX9_putPart 114 = .ok (.iload 4, 2) := by decide +kernel
theorem dX9_putPart_116 : decode cX9_putPart 116 = .ok (.ifCond .le 9, 3) := by decide +kernel
theorem dX9_putPart_119 : decode cX9_putPart 119 = .ok (.aload_n 0, 1) := by decide +kernel
theorem dX9_putPart_120 : decode cX9_putPart 120 = .ok (.bipush (-44), 2) := by decide +kernel
theorem dX9_putPart_122 : decode cX9_putPart 122 = .ok (.invokevirtual 78, 3) := by decide +kernel
theorem dX9_putPart_125 : decode cX9_putPart 125 = .ok (.iinc 4 (-1), 3) := by decide +kernel
theorem dX9_putPart_128 : decode cX9_putPart 128 = .ok (.goto (-41), 3) := by decide +kernel
theorem dX9_putPart_13 : decode cX9_putPart 13 = .ok (.iload_n 2, 1) := by decide +kernel
theorem dX9_putPart_131 : decode cX9_putPart 131 = .ok (.return_, 1) := by decide +kernel
theorem dX9_putPart_14 : decode cX9_putPart 14 = .ok (.iaload, 1) := by decide +kernel
theorem dX9_putPart_15 : decode cX9_putPart 15 = .ok (.iconst (-1), 1) := by decide +kernel
theorem dX9_putPart_16 : decode cX9_putPart 16 = .ok (.if_icmp .eq 27, 3) := by decide +kernel
theorem dX9_putPart_19 : decode cX9_putPart 19 = .ok (.aload_n 0, 1) := by decide +kernel
theorem dX9_putPart_20 : decode cX9_putPart 20 = .ok (.aload_n 0, 1) := by decide +kernel
theorem dX9_putPart_21 : decode cX9_putPart 21 = .ok (.getfield 21, 3) := by decide +kernel
theorem dX9_putPart_24 : decode cX9_putPart 24 = .ok (.getfield 64, 3) := by decide +kernel
theorem dX9_putPart_27 : decode cX9_putPart 27 = .ok (.iload_n 2, 1) := by decide +kernel
theorem dX9_putPart_28 : decode cX9_putPart 28 = .ok (.laload, 1) := by decide +kernel
theorem dX9_putPart_29 : decode cX9_putPart 29 = .ok (.l2i, 1) := by decide +kernel
theorem dX9_putPart_30 : decode cX9_putPart 30 = .ok (.invokevirtual 33, 3) := by decide +kernel
theorem dX9_putPart_33 : decode cX9_putPart 33 = .ok (.aload_n 0, 1) := by decide +kernel
theorem dX9_putPart_34 : decode cX9_putPart 34 = .ok (.iload_n 1, 1) := by decide +kernel
theorem dX9_putPart_35 : decode cX9_putPart 35 = .ok (.sipush 300, 3) := by decide +kernel
theorem dX9_putPart_38 : decode cX9_putPart 38 = .ok (.idiv, 1) := by decide +kernel
theorem dX9_putPart_39 : decode cX9_putPart 39 = .ok (.invokevirtual 68, 3) := by decide +kernel
theorem dX9_putPart_4 : decode cX9_putPart 4 = .ok (.irem, 1) := by decide +kernel
theorem dX9_putPart_42 : decode cX9_putPart 42 = .ok (.return_, 1) := by decide +kernel
theorem dX9_putPart_43 : decode cX9_putPart 43 = .ok (.aload_n 0, 1) := by decide +kernel
theorem dX9_putPart_44 : decode cX9_putPart 44 = .ok (.aload_n 0, 1) := by decide +kernel
theorem dX9_putPart_45 : decode cX9_putPart 45 = .ok (.getfield 21, 3) := by decide +kernel
theorem dX9_putPart_48 : decode cX9_putPart 48 = .ok (.getfield 64, 3) := by decide +kernel
theorem dX9_putPart_5 : decode cX9_putPart 5 = .ok (.istore_n 2, 1) := by decide +kernel
theorem dX9_putPart_51 : decode cX9_putPart 51 = .ok (.iload_n 2, 1) := by decide +kernel
theorem dX9_putPart_52 : decode cX9_putPart 52 = .ok (.laload, 1) := by decide +kernel
theorem dX9_putPart_53 : decode cX9_putPart 53 = .ok (.invokevirtual 71, 3) := by decide +kernel
theorem dX9_putPart_56 : decode cX9_putPart 56 = .ok (.aload_n 0, 1) := by decide +kernel
theorem dX9_putPart_57 : decode cX9_putPart 57 = .ok (.getfield 21, 3) := by decide +kernel
theorem dX9_putPart_6 : decode cX9_putPart 6 = .ok (.aload_n 0, 1) := by decide +kernel
theorem dX9_putPart_60 : decode cX9_putPart 60 = .ok (.getfield 75, 3) := by decide +kernel
theorem dX9_putPart_63 : decode cX9_putPart 63 = .ok (.iload_n 2, 1) := by decide +kernel
theorem dX9_putPart_64 : decode cX9_putPart 64 = .ok (.iaload, 1) := by decide +kernel
theorem dX9_putPart_65 : decode cX9_putPart 65 = .ok (.istore_n 3, 1) := by decide +kernel
theorem dX9_putPart_66 : decode cX9_putPart 66 = .ok (.iload_n 3, 1) := by decide +kernel
theorem dX9_putPart_67 : decode cX9_putPart 67 = .ok (.ifCond .le 15, 3) := by decide +kernel
theorem dX9_putPart_7 : decode cX9_putPart 7 = .ok (.getfield 21, 3) := by decide +kernel
theorem dX9_putPart_70 : decode cX9_putPart 70 = .ok (.aload_n 0, 1) := by decide +kernel
theorem dX9_putPart_71 : decode cX9_putPart 71 = .ok (.bipush 40, 2) := by decide +kernel
theorem dX9_putPart_73 : decode cX9_putPart 73 = .ok (.invokevirtual 33, 3) := by decide +kernel
theorem dX9_putPart_76 : decode cX9_putPart 76 = .ok (.aload_n 0, 1) := by decide +kernel
theorem dX9_putPart_77 : decode cX9_putPart 77 = .ok (.bipush (-41), 2) := by decide +kernel
theorem dX9_putPart_79 : decode cX9_putPart 79 = .ok (.invokevirtual 78, 3) := by decide +kernel
theorem dX9_putPart_82 : decode cX9_putPart 82 = .ok (.iload_n 3, 1) := by decide +kernel
theorem dX9_putPart_83 : decode cX9_putPart 83 = .ok (.iconst 1, 1) := by decide +kernel
theorem dX9_putPart_84 : decode cX9_putPart 84 = .ok (.isub, 1) := by decide +kernel
theorem dX9_putPart_85 : decode cX9_putPart 85 = .ok (.istore 4, 2) := by decide +kernel
theorem dX9_putPart_87 : decode cX9_putPart 87 = .ok (.iload 4, 2) := by decide +kernel
theorem dX9_putPart_89 : decode cX9_putPart 89 = .ok (.ifCond .lt 42, 3) := by decide +kernel
theorem dX9_putPart_92 : decode cX9_putPart 92 = .ok (.aload_n 0, 1) := by decide +kernel
theorem dX9_putPart_93 : decode cX9_putPart 93 = .ok (.iload_n 1, 1) := by decide +kernel
theorem dX9_putPart_94 : decode cX9_putPart 94 = .ok (.iload_n 2, 1) := by decide +kernel
theorem dX9_putPart_95 : decode cX9_putPart 95 = .ok (.isub, 1) := by decide +kernel
theorem dX9_putPart_96 : decode cX9_putPart 96 = .ok (.aload_n 0, 1) := by decide +kernel
theorem dX9_putPart_97 : decode cX9_putPart 97 = .ok (.getfield 21, 3) := by decide +kernel
theorem dX9_put_0 : decode cX9_put 0 = .ok (.aload_n 0, 1) := by decide +kernel
theorem dX9_put_1 : decode cX9_put 1 = .ok (.getfield 29, 3) := by decide +kernel
theorem dX9_put_10 : decode cX9_put 10 = .ok (.aload_n 0, 1) := by decide +kernel
theorem dX9_put_11 : decode cX9_put 11 = .ok (.getfield 15, 3) := by decide +kernel
theorem dX9_put_14 : decode cX9_put 14 = .ok (.aload_n 0, 1) := by decide +kernel
theorem dX9_put_15 : decode cX9_put 15 = .ok (.dup, 1) := by decide +kernel
theorem dX9_put_16 : decode cX9_put 16 = .ok (.getfield 29, 3) := by decide +kernel
theorem dX9_put_19 : decode cX9_put 19 = .ok (.dup_x1, 1) := by decide +kernel
theorem dX9_put_20 : decode cX9_put 20 = .ok (.iconst 1, 1) := by decide +kernel
theorem dX9_put_21 : decode cX9_put 21 = .ok (.iadd, 1) := by decide +kernel
theorem dX9_put_22 : decode cX9_put 22 = .ok (.putfield 29, 3) := by decide +kernel
theorem dX9_put_25 : decode cX9_put 25 = .ok (.iload_n 1, 1) := by decide +kernel
theorem dX9_put_26 : decode cX9_put 26 = .ok (.iastore, 1) := by decide +kernel
theorem dX9_put_27 : decode cX9_put 27 = .ok (.return_, 1) := by decide +kernel
theorem dX9_put_4 : decode cX9_put 4 = .ok (.sipush 616, 3) := by decide +kernel
theorem dX9_put_7 : decode cX9_put 7 = .ok (.if_icmp .ge 20, 3) := by decide +kernel
theorem dX9_write_0 : decode cX9_write 0 = .ok (.aload_n 0, 1) := by decide +kernel
theorem dX9_write_1 : decode cX9_write 1 = .ok (.iconst 0, 1) := by decide +kernel
theorem dX9_write_10 : decode cX9_write 10 = .ok (.bipush 45, 2) := by decide +kernel
theorem dX9_write_100 : decode cX9_write 100 = .ok (.aload_n 0, 1) := by decide +kernel
theorem dX9_write_101 : decode cX9_write 101 = .ok (.getfield 37, 3) := by decide +kernel
theorem dX9_write_104 : decode cX9_write 104 = .ok (.iaload, 1) := by decide +kernel
theorem dX9_write_105 : decode cX9_write 105 = .ok (.invokevirtual 41, 3) := by decide +kernel
theorem dX9_write_108 : decode cX9_write 108 = .ok (.invokevirtual 47, 3) := by decide +kernel
theorem dX9_write_111 : decode cX9_write 111 = .ok (.iinc 4 1, 3) := by decide +kernel
theorem dX9_write_114 : decode cX9_write 114 = .ok (.goto (-84), 3) := by decide +kernel
theorem dX9_write_117 : decode cX9_write 117 = .ok (.aload_n 0, 1) := by decide +kernel
theorem dX9_write_118 : decode cX9_write 118 = .ok (.getfield 37, 3) := by decide +kernel
theorem dX9_write_12 : decode cX9_write 12 = .ok (.invokevirtual 33, 3) := by decide +kernel
theorem dX9_write_121 : decode cX9_write 121 = .ok (.ifCond .gt 21, 3) := by decide +kernel
theorem dX9_write_124 : decode cX9_write 124 = .ok (.aload_n 0, 1) := by decide +kernel
theorem dX9_write_125 : decode cX9_write 125 = .ok (.getfield 29, 3) := by decide +kernel
theorem dX9_write_128 : decode cX9_write 128 = .ok (.iload_n 3, 1) := by decide +kernel
theorem dX9_write_129 : decode cX9_write 129 = .ok (.if_icmp .gt 13, 3) := by decide +kernel
theorem dX9_write_132 : decode cX9_write 132 = .ok (.aload_n 0, 1) := by decide +kernel
theorem dX9_write_133 : decode cX9_write 133 = .ok (.getfield 29, 3) := by decide +kernel
theorem dX9_write_136 : decode cX9_write 136 = .ok (.sipush 600, 3) := by decide +kernel
theorem dX9_write_139 : decode cX9_write 139 = .ok (.if_icmp .le 5, 3) := by decide +kernel
theorem dX9_write_142 : decode cX9_write 142 = .ok (.iconst (-1), 1) := by decide +kernel
theorem dX9_write_143 : decode cX9_write 143 = .ok (.ireturn, 1) := by decide +kernel
theorem dX9_write_144 : decode cX9_write 144 = .ok (.aload_n 0, 1) := by decide +kernel
theorem dX9_write_145 : decode cX9_write 145 = .ok (.getfield 15, 3) := by decide +kernel
theorem dX9_write_148 : decode cX9_write 148 = .ok (.iconst 0, 1) := by decide +kernel
theorem dX9_write_149 : decode cX9_write 149 = .ok (.aload_n 0, 1) := by decide +kernel
theorem dX9_write_15 : decode cX9_write 15 = .ok (.aload_n 0, 1) := by decide +kernel
theorem dX9_write_150 : decode cX9_write 150 = .ok (.getfield 9, 3) := by decide +kernel
theorem dX9_write_153 : decode cX9_write 153 = .ok (.iconst 0, 1) := by decide +kernel
theorem dX9_write_154 : decode cX9_write 154 = .ok (.aload_n 0, 1) := by decide +kernel
theorem dX9_write_155 : decode cX9_write 155 = .ok (.getfield 29, 3) := by decide +kernel
theorem dX9_write_158 : decode cX9_write 158 = .ok (.invokestatic 50, 3) := by decide +kernel
theorem dX9_write_16 : decode cX9_write 16 = .ok (.getfield 18, 3) := by decide +kernel
theorem dX9_write_161 : decode cX9_write 161 = .ok (.aload_n 0, 1) := by decide +kernel
theorem dX9_write_162 : decode cX9_write 162 = .ok (.aload_n 0, 1) := by decide +kernel
theorem dX9_write_163 : decode cX9_write 163 = .ok (.getfield 29, 3) := by decide +kernel
theorem dX9_write_166 : decode cX9_write 166 = .ok (.putfield 56, 3) := by decide +kernel
theorem dX9_write_169 : decode cX9_write 169 = .ok (.aload_n 0, 1) := by decide +kernel
theorem dX9_write_170 : decode cX9_write 170 = .ok (.getfield 56, 3) := by decide +kernel
theorem dX9_write_173 : decode cX9_write 173 = .ok (.ireturn, 1) := by decide +kernel
theorem dX9_write_19 : decode cX9_write 19 = .ok (.iconst 0, 1) := by decide +kernel
theorem dX9_write_2 : decode cX9_write 2 = .ok (.putfield 29, 3) := by decide +kernel
theorem dX9_write_20 : decode cX9_write 20 = .ok (.iload_n 1, 1) := by decide +kernel
theorem dX9_write_21 : decode cX9_write 21 = .ok (.iastore, 1) := by decide +kernel
theorem dX9_write_22 : decode cX9_write 22 = .ok (.aload_n 0, 1) := by decide +kernel
theorem dX9_write_23 : decode cX9_write 23 = .ok (.iconst 1, 1) := by decide +kernel
theorem dX9_write_24 : decode cX9_write 24 = .ok (.putfield 37, 3) := by decide +kernel
theorem dX9_write_27 : decode cX9_write 27 = .ok (.iconst 0, 1) := by decide +kernel
theorem dX9_write_28 : decode cX9_write 28 = .ok (.istore 4, 2) := by decide +kernel
theorem dX9_write_30 : decode cX9_write 30 = .ok (.iload 4, 2) := by decide +kernel
theorem dX9_write_32 : decode cX9_write 32 = .ok (.ldc 40, 2) := by decide +kernel
theorem dX9_write_34 : decode cX9_write 34 = .ok (.if_icmp .ge 83, 3) := by decide +kernel
theorem dX9_write_37 : decode cX9_write 37 = .ok (.aload_n 0, 1) := by decide +kernel
theorem dX9_write_38 : decode cX9_write 38 = .ok (.getfield 37, 3) := by decide +kernel
theorem dX9_write_41 : decode cX9_write 41 = .ok (.ifCond .le 76, 3) := by decide +kernel
theorem dX9_write_44 : decode cX9_write 44 = .ok (.aload_n 0, 1) := by decide +kernel
theorem dX9_write_45 : decode cX9_write 45 = .ok (.getfield 29, 3) := by decide +kernel
theorem dX9_write_48 : decode cX9_write 48 = .ok (.iload_n 3, 1) := by decide +kernel
theorem dX9_write_49 : decode cX9_write 49 = .ok (.if_icmp .gt 68, 3) := by decide +kernel
theorem dX9_write_5 : decode cX9_write 5 = .ok (.iload_n 2, 1) := by decide +kernel
theorem dX9_write_52 : decode cX9_write 52 = .ok (.aload_n 0, 1) := by decide +kernel
theorem dX9_write_53 : decode cX9_write 53 = .ok (.dup, 1) := by decide +kernel
theorem dX9_write_54 : decode cX9_write 54 = .ok (.getfield 37, 3) := by decide +kernel
theorem dX9_write_57 : decode cX9_write 57 = .ok (.iconst 1, 1) := by decide +kernel
theorem dX9_write_58 : decode cX9_write 58 = .ok (.isub, 1) := by decide +kernel
theorem dX9_write_59 : decode cX9_write 59 = .ok (.putfield 37, 3) := by decide +kernel
theorem dX9_write_6 : decode cX9_write 6 = .ok (.ifCond .eq 9, 3) := by decide +kernel
theorem dX9_write_62 : decode cX9_write 62 = .ok (.aload_n 0, 1) := by decide +kernel
theorem dX9_write_63 : decode cX9_write 63 = .ok (.getfield 18, 3) := by decide +kernel
theorem dX9_write_66 : decode cX9_write 66 = .ok (.aload_n 0, 1) := by decide +kernel
theorem dX9_write_67 : decode cX9_write 67 = .ok (.getfield 37, 3) := by decide +kernel
theorem dX9_write_70 : decode cX9_write 70 = .ok (.iaload, 1) := by decide +kernel
theorem dX9_write_71 : decode cX9_write 71 = .ok (.ifCond .ge 20, 3) := by decide +kernel
theorem dX9_write_74 : decode cX9_write 74 = .ok (.aload_n 0, 1) := by decide +kernel
theorem dX9_write_75 : decode cX9_write 75 = .ok (.aload_n 0, 1) := by decide +kernel
theorem dX9_write_76 : decode cX9_write 76 = .ok (.getfield 18, 3) := by decide +kernel
theorem dX9_write_79 : decode cX9_write 79 = .ok (.aload_n 0, 1) := by decide +kernel
theorem dX9_write_80 : decode cX9_write 80 = .ok (.getfield 37, 3) := by decide +kernel
theorem dX9_write_83 : decode cX9_write 83 = .ok (.iaload, 1) := by decide +kernel
theorem dX9_write_84 : decode cX9_write 84 = .ok (.ineg, 1) := by decide +kernel
theorem dX9_write_85 : decode cX9_write 85 = .ok (.invokevirtual 33, 3) := by decide +kernel
theorem dX9_write_88 : decode cX9_write 88 = .ok (.goto 23, 3) := by decide +kernel
theorem dX9_write_9 : decode cX9_write 9 = .ok (.aload_n 0, 1) := by decide +kernel
theorem dX9_write_91 : decode cX9_write 91 = .ok (.aload_n 0, 1) := by decide +kernel
theorem dX9_write_92 : decode cX9_write 92 = .ok (.aload_n 0, 1) := by decide +kernel
theorem dX9_write_93 : decode cX9_write 93 = .ok (.getfield 25, 3) := by decide +kernel
theorem dX9_write_96 : decode cX9_write 96 = .ok (.aload_n 0, 1) := by decide +kernel
theorem dX9_write_97 : decode cX9_write 97 = .ok (.getfield 18, 3) := by decide +kernel
abbrev mo36 (v : Nat → Value) (a4 a5 : Value) : List Value := [(v 0), (v 1), (v 2), (v 3), a4, a5, (v 6), (v 7)]
abbrev mo37 (v : Nat → Value) (a6 a7 : Value) : List Value := [(v 0), (v 1), (v 2), (v 3), (v 4), (v 5), a6, a7]
abbrev mo38 (v : Nat → Value) (a0 a4 a5 a6 a7 : Value) : List Value := [a0, (v 1), (v 2), (v 3), a4, a5, a6, a7]
abbrev mo39 (a0 a1 a2 a3 a4 a5 a6 a7 : Value) : List Value := [a0, a1, a2, a3, a4, a5, a6, a7]
abbrev mo40 (v : Nat → Value) (a0 a1 a2 a3 a4 : Value) : List Value := [a0, a1, a2, a3, a4, (v 5)]
abbrev mo41 (a0 a1 a2 a3 a4 a5 : Value) : List Value := [a0, a1, a2, a3, a4, a5]
set_option maxRecDepth 100000 in
theorem mq38_36 (v : Nat → Value) (b0 b6 b7 : Value) : ∃ w : Nat → Value, ∀ (a4 a5 : Value), mo36 w a4 a5 = (mo38 v b0 a4 a5 b6 b7) := ⟨fun k => List.getD (mo38 v b0 .null .null b6 b7) k .null, fun _ _ => rfl⟩
set_option maxRecDepth 100000 in
theorem mq38_37 (v : Nat → Value) (b0 b4 b5 : Value) : ∃ w : Nat → Value, ∀ (a6 a7 : Value), mo37 w a6 a7 = (mo38 v b0 b4 b5 a6 a7) := ⟨fun k => List.getD (mo38 v b0 b4 b5 .null .null) k .null, fun _ _ => rfl⟩
set_option maxRecDepth 100000 in
theorem mq39_38 (b1 b2 b3 : Value) : ∃ w : Nat → Value, ∀ (a0 a4 a5 a6 a7 : Value), mo38 w a0 a4 a5 a6 a7 = (mo39 a0 b1 b2 b3 a4 a5 a6 a7) := ⟨fun k => List.getD (mo39 .null b1 b2 b3 .null .null .null .null) k .null, fun _ _ _ _ _ => rfl⟩
set_option maxRecDepth 100000 in
theorem mq39_36 (b0 b1 b2 b3 b6 b7 : Value) : ∃ w : Nat → Value, ∀ (a4 a5 : Value), mo36 w a4 a5 = (mo39 b0 b1 b2 b3 a4 a5 b6 b7) := ⟨fun k => List.getD (mo39 b0 b1 b2 b3 .null .null b6 b7) k .null, fun _ _ => rfl⟩
set_option maxRecDepth 100000 in
theorem mq41_40 (b5 : Value) : ∃ w : Nat → Value, ∀ (a0 a1 a2 a3 a4 : Value), mo40 w a0 a1 a2 a3 a4 = (mo41 a0 a1 a2 a3 a4 b5) := ⟨fun k => List.getD (mo41 .null .null .null .null .null b5) k .null, fun _ _ _ _ _ => rfl⟩
set_option maxHeartbeats 8000000 in
set_option maxRecDepth 100000 in
theorem c_X9_put (l : Launch) (dC : Nat → ClassId) (dI : Nat → Nat → Nat) (sz : Nat) (h_wr : Nat) (h_wd : Nat) (v_wr : Nat → Value) (x_wr_drafted : Int32) (cy_wd : ClassId) (f_wd : Nat → Int32) (p1 : Int32) (hx_wr_drafted : 0 ≤ (x_wr_drafted).toInt ∧ (x_wr_drafted).toInt ≤ 616) : Met l yX9_put (Ws yX9_put cX9_put 2 none) (({ frames := 0, cells := 0, slots := 0, locals := 0 } : Room)) (PRE (dC, dI) cls [(cy_wd, .int)] [(h_wr, .inr (6, (mo36 v_wr (.ref h_wd) (.int x_wr_drafted)))), (h_wd, .inl (cy_wd, 616, .inl f_wd))] sz [.ref h_wr, .int p1]) (va_Qv (fun (u : (Int32) × (Nat → Int32)) => (0 ≤ (u.1).toInt ∧ (u.1).toInt ≤ 616)) (fun (u : (Int32) × (Nat → Int32)) (t : State) => va_P (dC, dI) cls [(h_wr, .inr (6, (mo36 v_wr (.ref h_wd) (.int u.1)))), (h_wd, .inl (cy_wd, 616, .inl u.2))] t.heap ∧ va_D (va_A [(h_wr, .inr (6, (mo36 v_wr (.ref h_wd) (.int x_wr_drafted)))), (h_wd, .inl (cy_wd, 616, .inl f_wd))] sz) [(h_wr, .inr (6, (mo36 v_wr (.ref h_wd) (.int u.1)))), (h_wd, .inl (cy_wd, 616, .inl u.2))]) (va_A [(h_wr, .inr (6, (mo36 v_wr (.ref h_wd) (.int x_wr_drafted)))), (h_wd, .inl (cy_wd, 616, .inl f_wd))] sz)) 0 0 (va_A [(h_wr, .inr (6, (mo36 v_wr (.ref h_wd) (.int x_wr_drafted)))), (h_wd, .inl (cy_wd, 616, .inl f_wd))] sz) := by
  refine Met.ofW (cc := cX9_put) (maxL := 2) (ret := none) (by decide) rfl ?_
  intro p e s m args below meth c s₁ B hml hv
  obtain ⟨rfl, hsz, hP, hK, hD0, hN⟩ := hv
  have hx := B.exec
  have hb := B.bytes
  have hr := B.returns
  have hts := atoms_spec (ws := Ws yX9_put cX9_put 2 none) B.pre
  have hT : ∀ w ∈ WALL, w ∈ Ws yX9_put cX9_put 2 none := fun w h => List.mem_cons_of_mem _ h
  have hw := fun w (h : w ∈ WALL) => hts w (hT w h)
  have hown : s.vm.findClass RX9 = some m.cls := findClass_of_methodNamed B.named
  have hlocks := B.notSynchronized
  subst hsz
  have hD := hD0.self (sz := s.heap.size)
  generalize hAe : va_A [(h_wr, .inr (6, (mo36 v_wr (.ref h_wd) (.int x_wr_drafted)))), (h_wd, .inl (cy_wd, 616, .inl f_wd))] s.heap.size = A at hD ⊢
  have hA : ∀ q : Nat, s.heap.size ≤ q → A q := fun q h => by rw [← hAe]; exact Or.inr h
  have hS : va_S A s.heap s.heap [] := va_S.rf
  have hl := lv_entry ([.ref h_wr, .int p1]) (n := 2) (Nat.le_of_ble_eq_true rfl)
  rw [lg_entry_eq]
  generalize (lg_sl ([.ref h_wr, .int p1]) ++ List.replicate (2 - (lg_sl ([.ref h_wr, .int p1])).length) Slot.unset).toArray = ls at hl ⊢
  have hl : lv_has ls 2 [(0, .ref h_wr), (1, .int p1)] := hl
  refine lv_aload_n hx hb dX9_put_0 rfl (lv_at hl 0 rfl) ?_
  refine va_get (D := (dC, dI)) (ci := 6) (v := .int x_wr_drafted) (C := RX9) (T := TX9) (N := 8) hx hb hw iwX9 hown hK hP 0 rfl rfl 5 (by decide) (hw _ w_f_X9_29) (fun _ h9 => h9) rfl dX9_put_1 ?_
  refine lv_sipush (v := 616) hx hb dX9_put_4 (by decide) ?_
  refine lv_icmp_ge (tgt := 27) hx hb dX9_put_7 (by decide) (fun c1 => ?_) (fun c1 => ?_)
  · have kc1 := (cv_le (by decide : (616 : Int32).toInt = 616) (rfl : (x_wr_drafted).toInt = (x_wr_drafted).toInt)).mp c1
    refine W.widen (k := 0) (n := 0) (Nat.le_of_ble_eq_true rfl) (Nat.le_of_ble_eq_true rfl) ?_
    have w2 : 0 ≤ ((x_wr_drafted)).toInt ∧ ((x_wr_drafted)).toInt ≤ 616 := by first | exact hx_wr_drafted | omega
    exact W.vret hx hb hr (fun t ht hW => ⟨⟨(x_wr_drafted, f_wd), rfl, w2, by rw [ht]; exact hP, hD⟩, hS.F ht⟩) hS.2.2 dX9_put_27
  · have kc1 := (not_congr (cv_le (by decide : (616 : Int32).toInt = 616) (rfl : (x_wr_drafted).toInt = (x_wr_drafted).toInt))).mp c1
    refine lv_aload_n hx hb dX9_put_10 rfl (lv_at hl 0 rfl) ?_
    refine va_get (D := (dC, dI)) (ci := 6) (v := .ref h_wd) (C := RX9) (T := TX9) (N := 8) hx hb hw iwX9 hown hK hP 0 rfl rfl 4 (by decide) (hw _ w_f_X9_15) (fun _ h9 => h9) rfl dX9_put_11 ?_
    refine lv_aload_n hx hb dX9_put_14 rfl (lv_at hl 0 rfl) ?_
    refine lv_dup hx hb dX9_put_15 rfl ?_
    refine va_get (D := (dC, dI)) (ci := 6) (v := .int x_wr_drafted) (C := RX9) (T := TX9) (N := 8) hx hb hw iwX9 hown hK hP 0 rfl rfl 5 (by decide) (hw _ w_f_X9_29) (fun _ h9 => h9) rfl dX9_put_16 ?_
    refine lv_dup_x1 hx hb dX9_put_19 rfl rfl ?_
    refine lv_iconst (v := 1) hx hb dX9_put_20 (by decide) ?_
    refine lv_iadd hx hb dX9_put_21 ?_
    refine lv_topi (fun z3 ez3 => ?_)
    have tz3 : (z3).toInt = (x_wr_drafted).toInt + 1 := by rw [ez3]; exact i_add rfl (by decide) (by omega)
    refine va_put (D := (dC, dI)) (ci := 6) (v := .int z3) (ty := tyX9 5) (C := RX9) (T := TX9) (N := 8) hx hb hw iwX9 tyX9 tyX9_ok nmX9 hown hK hP hD hS 0 rfl rfl 5 (by decide) (hw _ w_f_X9_29) (fun _ h9 => h9) rfl (tyX9_ok 5 (by decide)) rfl rfl (Nat.le_of_ble_eq_true rfl) dX9_put_22 (fun H locs hP9 hD9 hS9 => ?_)
    clear hP hD hS
    have hP : va_P (dC, dI) cls [(h_wr, .inr (6, (mo36 v_wr (.ref h_wd) (.int z3)))), (h_wd, .inl (cy_wd, 616, .inl f_wd))] H := hP9
    have hD : va_D A [(h_wr, .inr (6, (mo36 v_wr (.ref h_wd) (.int z3)))), (h_wd, .inl (cy_wd, 616, .inl f_wd))] := hD9
    have hS := hS9
    clear hP9 hD9 hS9
    refine lv_iload_n hx hb dX9_put_25 rfl (lv_at hl 1 rfl) ?_
    refine va_iast hx hb hK hP hD hS 1 0 rfl rfl (i := x_wr_drafted) (x := p1) (vp_in_iff.mpr (by omega)) dX9_put_26 (fun H locs hP9 hD9 hS9 => ?_)
    obtain ⟨f4, ef4⟩ : ∃ g : Nat → Int32, g = upd f_wd (Int32.toNatClampNeg x_wr_drafted) p1 := ⟨_, rfl⟩
    clear hP hD hS
    have hP : va_P (dC, dI) cls [(h_wr, .inr (6, (mo36 v_wr (.ref h_wd) (.int z3)))), (h_wd, .inl (cy_wd, 616, .inl f4))] H := by rw [ef4]; exact hP9
    have hD : va_D A [(h_wr, .inr (6, (mo36 v_wr (.ref h_wd) (.int z3)))), (h_wd, .inl (cy_wd, 616, .inl f4))] := by rw [ef4]; exact hD9
    have hS := hS9
    clear hP9 hD9 hS9
    clear ef4
    refine W.widen (k := 0) (n := 0) (Nat.le_of_ble_eq_true rfl) (Nat.le_of_ble_eq_true rfl) ?_
    have w5 : 0 ≤ ((z3)).toInt ∧ ((z3)).toInt ≤ 616 := by omega
    exact W.vret hx hb hr (fun t ht hW => ⟨⟨(z3, f4), rfl, w5, by rw [ht]; exact hP, hD⟩, hS.F ht⟩) hS.2.2 dX9_put_27

set_option maxHeartbeats 8000000 in
set_option maxRecDepth 100000 in
theorem c_X9_push (l : Launch) (dC : Nat → ClassId) (dI : Nat → Nat → Nat) (sz : Nat) (h_wr : Nat) (h_wh : Nat) (v_wr : Nat → Value) (x_wr_held : Int32) (cy_wh : ClassId) (f_wh : Nat → Int32) (p1 : Int32) (hx_wr_held : 0 ≤ (x_wr_held).toInt ∧ (x_wr_held).toInt ≤ 2048) (hf_wh : Rg (-127) 9599 f_wh) (q0 : -127 ≤ (p1).toInt ∧ (p1).toInt ≤ 9599) : Met l yX9_push (Ws yX9_push cX9_push 2 none) (({ frames := 0, cells := 0, slots := 0, locals := 0 } : Room)) (PRE (dC, dI) cls [(cy_wh, .int)] [(h_wr, .inr (6, (mo37 v_wr (.ref h_wh) (.int x_wr_held)))), (h_wh, .inl (cy_wh, 2048, .inl f_wh))] sz [.ref h_wr, .int p1]) (va_Qv (fun (u : (Int32) × (Nat → Int32)) => (0 ≤ (u.1).toInt ∧ (u.1).toInt ≤ 2048) ∧ (Rg (-127) 9599 u.2)) (fun (u : (Int32) × (Nat → Int32)) (t : State) => va_P (dC, dI) cls [(h_wr, .inr (6, (mo37 v_wr (.ref h_wh) (.int u.1)))), (h_wh, .inl (cy_wh, 2048, .inl u.2))] t.heap ∧ va_D (va_A [(h_wr, .inr (6, (mo37 v_wr (.ref h_wh) (.int x_wr_held)))), (h_wh, .inl (cy_wh, 2048, .inl f_wh))] sz) [(h_wr, .inr (6, (mo37 v_wr (.ref h_wh) (.int u.1)))), (h_wh, .inl (cy_wh, 2048, .inl u.2))]) (va_A [(h_wr, .inr (6, (mo37 v_wr (.ref h_wh) (.int x_wr_held)))), (h_wh, .inl (cy_wh, 2048, .inl f_wh))] sz)) 0 0 (va_A [(h_wr, .inr (6, (mo37 v_wr (.ref h_wh) (.int x_wr_held)))), (h_wh, .inl (cy_wh, 2048, .inl f_wh))] sz) := by
  refine Met.ofW (cc := cX9_push) (maxL := 2) (ret := none) (by decide) rfl ?_
  intro p e s m args below meth c s₁ B hml hv
  obtain ⟨rfl, hsz, hP, hK, hD0, hN⟩ := hv
  have hx := B.exec
  have hb := B.bytes
  have hr := B.returns
  have hts := atoms_spec (ws := Ws yX9_push cX9_push 2 none) B.pre
  have hT : ∀ w ∈ WALL, w ∈ Ws yX9_push cX9_push 2 none := fun w h => List.mem_cons_of_mem _ h
  have hw := fun w (h : w ∈ WALL) => hts w (hT w h)
  have hown : s.vm.findClass RX9 = some m.cls := findClass_of_methodNamed B.named
  have hlocks := B.notSynchronized
  subst hsz
  have hD := hD0.self (sz := s.heap.size)
  generalize hAe : va_A [(h_wr, .inr (6, (mo37 v_wr (.ref h_wh) (.int x_wr_held)))), (h_wh, .inl (cy_wh, 2048, .inl f_wh))] s.heap.size = A at hD ⊢
  have hA : ∀ q : Nat, s.heap.size ≤ q → A q := fun q h => by rw [← hAe]; exact Or.inr h
  have hS : va_S A s.heap s.heap [] := va_S.rf
  have hl := lv_entry ([.ref h_wr, .int p1]) (n := 2) (Nat.le_of_ble_eq_true rfl)
  rw [lg_entry_eq]
  generalize (lg_sl ([.ref h_wr, .int p1]) ++ List.replicate (2 - (lg_sl ([.ref h_wr, .int p1])).length) Slot.unset).toArray = ls at hl ⊢
  have hl : lv_has ls 2 [(0, .ref h_wr), (1, .int p1)] := hl
  refine lv_aload_n hx hb dX9_push_0 rfl (lv_at hl 0 rfl) ?_
  refine va_get (D := (dC, dI)) (ci := 6) (v := .int x_wr_held) (C := RX9) (T := TX9) (N := 8) hx hb hw iwX9 hown hK hP 0 rfl rfl 7 (by decide) (hw _ w_f_X9_37) (fun _ h9 => h9) rfl dX9_push_1 ?_
  refine lv_sipush (v := 2048) hx hb dX9_push_4 (by decide) ?_
  refine lv_icmp_ge (tgt := 27) hx hb dX9_push_7 (by decide) (fun c1 => ?_) (fun c1 => ?_)
  · have kc1 := (cv_le (by decide : (2048 : Int32).toInt = 2048) (rfl : (x_wr_held).toInt = (x_wr_held).toInt)).mp c1
    refine W.widen (k := 0) (n := 0) (Nat.le_of_ble_eq_true rfl) (Nat.le_of_ble_eq_true rfl) ?_
    have w2 : 0 ≤ ((x_wr_held)).toInt ∧ ((x_wr_held)).toInt ≤ 2048 := by first | exact hx_wr_held | omega
    exact W.vret hx hb hr (fun t ht hW => ⟨⟨(x_wr_held, f_wh), rfl, ⟨w2, hf_wh⟩, by rw [ht]; exact hP, hD⟩, hS.F ht⟩) hS.2.2 dX9_push_27
  · have kc1 := (not_congr (cv_le (by decide : (2048 : Int32).toInt = 2048) (rfl : (x_wr_held).toInt = (x_wr_held).toInt))).mp c1
    refine lv_aload_n hx hb dX9_push_10 rfl (lv_at hl 0 rfl) ?_
    refine va_get (D := (dC, dI)) (ci := 6) (v := .ref h_wh) (C := RX9) (T := TX9) (N := 8) hx hb hw iwX9 hown hK hP 0 rfl rfl 6 (by decide) (hw _ w_f_X9_18) (fun _ h9 => h9) rfl dX9_push_11 ?_
    refine lv_aload_n hx hb dX9_push_14 rfl (lv_at hl 0 rfl) ?_
    refine lv_dup hx hb dX9_push_15 rfl ?_
    refine va_get (D := (dC, dI)) (ci := 6) (v := .int x_wr_held) (C := RX9) (T := TX9) (N := 8) hx hb hw iwX9 hown hK hP 0 rfl rfl 7 (by decide) (hw _ w_f_X9_37) (fun _ h9 => h9) rfl dX9_push_16 ?_
    refine lv_dup_x1 hx hb dX9_push_19 rfl rfl ?_
    refine lv_iconst (v := 1) hx hb dX9_push_20 (by decide) ?_
    refine lv_iadd hx hb dX9_push_21 ?_
    refine lv_topi (fun z3 ez3 => ?_)
    have tz3 : (z3).toInt = (x_wr_held).toInt + 1 := by rw [ez3]; exact i_add rfl (by decide) (by omega)
    refine va_put (D := (dC, dI)) (ci := 6) (v := .int z3) (ty := tyX9 7) (C := RX9) (T := TX9) (N := 8) hx hb hw iwX9 tyX9 tyX9_ok nmX9 hown hK hP hD hS 0 rfl rfl 7 (by decide) (hw _ w_f_X9_37) (fun _ h9 => h9) rfl (tyX9_ok 7 (by decide)) rfl rfl (Nat.le_of_ble_eq_true rfl) dX9_push_22 (fun H locs hP9 hD9 hS9 => ?_)
    clear hP hD hS
    have hP : va_P (dC, dI) cls [(h_wr, .inr (6, (mo37 v_wr (.ref h_wh) (.int z3)))), (h_wh, .inl (cy_wh, 2048, .inl f_wh))] H := hP9
    have hD : va_D A [(h_wr, .inr (6, (mo37 v_wr (.ref h_wh) (.int z3)))), (h_wh, .inl (cy_wh, 2048, .inl f_wh))] := hD9
    have hS := hS9
    clear hP9 hD9 hS9
    refine lv_iload_n hx hb dX9_push_25 rfl (lv_at hl 1 rfl) ?_
    refine va_iast hx hb hK hP hD hS 1 0 rfl rfl (i := x_wr_held) (x := p1) (vp_in_iff.mpr (by omega)) dX9_push_26 (fun H locs hP9 hD9 hS9 => ?_)
    obtain ⟨f4, ef4⟩ : ∃ g : Nat → Int32, g = upd f_wh (Int32.toNatClampNeg x_wr_held) p1 := ⟨_, rfl⟩
    clear hP hD hS
    have hP : va_P (dC, dI) cls [(h_wr, .inr (6, (mo37 v_wr (.ref h_wh) (.int z3)))), (h_wh, .inl (cy_wh, 2048, .inl f4))] H := by rw [ef4]; exact hP9
    have hD : va_D A [(h_wr, .inr (6, (mo37 v_wr (.ref h_wh) (.int z3)))), (h_wh, .inl (cy_wh, 2048, .inl f4))] := by rw [ef4]; exact hD9
    have hS := hS9
    clear hP9 hD9 hS9
    have hf4 : Rg (-127) 9599 f4 := by rw [ef4]; exact rg_upd hf_wh (by omega)
    clear ef4
    refine W.widen (k := 0) (n := 0) (Nat.le_of_ble_eq_true rfl) (Nat.le_of_ble_eq_true rfl) ?_
    have w5 : 0 ≤ ((z3)).toInt ∧ ((z3)).toInt ≤ 2048 := by omega
    exact W.vret hx hb hr (fun t ht hW => ⟨⟨(z3, f4), rfl, ⟨w5, hf4⟩, by rw [ht]; exact hP, hD⟩, hS.F ht⟩) hS.2.2 dX9_push_27

set_option maxHeartbeats 8000000 in
set_option maxRecDepth 100000 in
theorem c_X9_putInstance (l : Launch) (dC : Nat → ClassId) (dI : Nat → Nat → Nat) (sz : Nat) (h_wr : Nat) (h_wd : Nat) (v_wr : Nat → Value) (x_wr_drafted : Int32) (cy_wd : ClassId) (f_wd : Nat → Int32) (p1 : Int32) (hx_wr_drafted : 0 ≤ (x_wr_drafted).toInt ∧ (x_wr_drafted).toInt ≤ 616) (q0 : 0 ≤ (p1).toInt ∧ (p1).toInt ≤ 31) : Met l yX9_putInstance (Ws yX9_putInstance cX9_putInstance 2 none) (({ frames := 1, cells := 0, slots := 0, locals := 21 } : Room)) (PRE (dC, dI) cls [(cy_wd, .int)] [(h_wr, .inr (6, (mo36 v_wr (.ref h_wd) (.int x_wr_drafted)))), (h_wd, .inl (cy_wd, 616, .inl f_wd))] sz [.ref h_wr, .int p1]) (va_Qv (fun (u : (Int32) × (Nat → Int32)) => (0 ≤ (u.1).toInt ∧ (u.1).toInt ≤ 616)) (fun (u : (Int32) × (Nat → Int32)) (t : State) => va_P (dC, dI) cls [(h_wr, .inr (6, (mo36 v_wr (.ref h_wd) (.int u.1)))), (h_wd, .inl (cy_wd, 616, .inl u.2))] t.heap ∧ va_D (va_A [(h_wr, .inr (6, (mo36 v_wr (.ref h_wd) (.int x_wr_drafted)))), (h_wd, .inl (cy_wd, 616, .inl f_wd))] sz) [(h_wr, .inr (6, (mo36 v_wr (.ref h_wd) (.int u.1)))), (h_wd, .inl (cy_wd, 616, .inl u.2))]) (va_A [(h_wr, .inr (6, (mo36 v_wr (.ref h_wd) (.int x_wr_drafted)))), (h_wd, .inl (cy_wd, 616, .inl f_wd))] sz)) 0 0 (va_A [(h_wr, .inr (6, (mo36 v_wr (.ref h_wd) (.int x_wr_drafted)))), (h_wd, .inl (cy_wd, 616, .inl f_wd))] sz) := by
  refine Met.ofW (cc := cX9_putInstance) (maxL := 2) (ret := none) (by decide) rfl ?_
  intro p e s m args below meth c s₁ B hml hv
  obtain ⟨rfl, hsz, hP, hK, hD0, hN⟩ := hv
  have hx := B.exec
  have hb := B.bytes
  have hr := B.returns
  have hts := atoms_spec (ws := Ws yX9_putInstance cX9_putInstance 2 none) B.pre
  have hT : ∀ w ∈ WALL, w ∈ Ws yX9_putInstance cX9_putInstance 2 none := fun w h => List.mem_cons_of_mem _ h
  have hw := fun w (h : w ∈ WALL) => hts w (hT w h)
  have hown : s.vm.findClass RX9 = some m.cls := findClass_of_methodNamed B.named
  have hlocks := B.notSynchronized
  subst hsz
  have hD := hD0.self (sz := s.heap.size)
  generalize hAe : va_A [(h_wr, .inr (6, (mo36 v_wr (.ref h_wd) (.int x_wr_drafted)))), (h_wd, .inl (cy_wd, 616, .inl f_wd))] s.heap.size = A at hD ⊢
  have hA : ∀ q : Nat, s.heap.size ≤ q → A q := fun q h => by rw [← hAe]; exact Or.inr h
  have hS : va_S A s.heap s.heap [] := va_S.rf
  have hl := lv_entry ([.ref h_wr, .int p1]) (n := 2) (Nat.le_of_ble_eq_true rfl)
  rw [lg_entry_eq]
  generalize (lg_sl ([.ref h_wr, .int p1]) ++ List.replicate (2 - (lg_sl ([.ref h_wr, .int p1])).length) Slot.unset).toArray = ls at hl ⊢
  have hl : lv_has ls 2 [(0, .ref h_wr), (1, .int p1)] := hl
  refine lv_iload_n hx hb dX9_putInstance_0 rfl (lv_at hl 1 rfl) ?_
  refine lv_bipush (v := 30) hx hb dX9_putInstance_1 (by decide) ?_
  refine lv_icmp_lt (tgt := 7) hx hb dX9_putInstance_3 (by decide) (fun c1 => ?_) (fun c1 => ?_)
  · have kc1 := (cv_lt (rfl : (p1).toInt = (p1).toInt) (by decide : (30 : Int32).toInt = 30)).mp c1
    refine lv_iload_n hx hb dX9_putInstance_7 rfl (lv_at hl 1 rfl) ?_
    refine lv_bipush (v := 10) hx hb dX9_putInstance_8 (by decide) ?_
    refine lv_icmp_lt (tgt := 24) hx hb dX9_putInstance_10 (by decide) (fun c2 => ?_) (fun c2 => ?_)
    · have kc2 := (cv_lt (rfl : (p1).toInt = (p1).toInt) (by decide : (10 : Int32).toInt = 10)).mp c2
      refine lv_aload_n hx hb dX9_putInstance_24 rfl (lv_at hl 0 rfl) ?_
      refine lv_bipush (v := 48) hx hb dX9_putInstance_25 (by decide) ?_
      refine lv_iload_n hx hb dX9_putInstance_27 rfl (lv_at hl 1 rfl) ?_
      refine lv_bipush (v := 10) hx hb dX9_putInstance_28 (by decide) ?_
      refine lv_irem hx hb dX9_putInstance_30 (by decide) ?_
      refine lv_topi (fun z3 ez3 => ?_)
      have tz3 : (z3).toInt = (p1).toInt % 10 := by rw [ez3]; exact i_rem rfl (by decide) (by omega)
      refine lv_iadd hx hb dX9_putInstance_31 ?_
      refine lv_topi (fun z4 ez4 => ?_)
      have tz4 : (z4).toInt = 48 + (z3).toInt := by rw [ez4]; exact i_add (by decide) rfl (by omega)
      have hPc := hP.sub (ws' := [(h_wr, .inr (6, (mo36 v_wr (.ref h_wd) (.int x_wr_drafted)))), (h_wd, .inl (cy_wd, 616, .inl f_wd))]) [0, 1] rfl
      have hDc := hD.sub (ws' := [(h_wr, .inr (6, (mo36 v_wr (.ref h_wd) (.int x_wr_drafted)))), (h_wd, .inl (cy_wd, 616, .inl f_wd))]) [0, 1] (by decide) rfl
      have hKc := hK.sub (tys' := [(cy_wd, .int)]) [0] rfl
      have hFc := va_free (wc := [(h_wr, .inr (6, (mo36 v_wr (.ref h_wd) (.int x_wr_drafted)))), (h_wd, .inl (cy_wd, 616, .inl f_wd))]) hD hS hA [0, 1] rfl
      refine va_callv (va_runV (As := [.int z4]) (rest := []) ⟨hx, hb, hml, hown, hts⟩ (c_X9_put l dC dI s.heap.size h_wr h_wd v_wr x_wr_drafted cy_wd f_wd z4 (by first | exact hx_wr_drafted | omega)) (cwV 1 hts (gv hT w_m_X9_33 w_instanceMethod_X9_put ws_sel_X9_put w_ini_X9 w_code_X9_put) rfl rfl rfl (by decide +kernel) ⟨(Nat.le_of_ble_eq_true rfl), (Nat.le_of_ble_eq_true rfl)⟩) ⟨pre_blind, va_recv hK hP (ci := 6) (q0 := 0) rfl rfl, pre_of hPc hKc hDc hN⟩ rfl rfl hl.1 rfl (lv_room (Nat.le_of_ble_eq_true rfl)) dX9_putInstance_32 ⟨(Nat.le_of_ble_eq_true rfl), (Nat.le_of_ble_eq_true rfl)⟩) hS (fun q _ h => hFc q h) hFc (fun u t H locs ht hvm hq hB hz1 hk1 hS9 => ?_)
      obtain ⟨z6, f7⟩ := u
      obtain ⟨hP1, hD1⟩ := hB
      rw [ht] at hP1
      obtain ⟨hP9, hD9⟩ := va_join (wr := []) (w1 := [(h_wr, .inr (6, (mo36 v_wr (.ref h_wd) (.int z6)))), (h_wd, .inl (cy_wd, 616, .inl f7))]) hP hD [0, 1] [] rfl rfl (by decide) (by decide) hk1 hFc hP1 hD1
      clear hP hD hS hPc hDc hKc hFc hP1 hD1 hk1 hz1 ht hvm
      have hP : va_P (dC, dI) cls [(h_wr, .inr (6, (mo36 v_wr (.ref h_wd) (.int z6)))), (h_wd, .inl (cy_wd, 616, .inl f7))] H := hP9
      have hD : va_D A [(h_wr, .inr (6, (mo36 v_wr (.ref h_wd) (.int z6)))), (h_wd, .inl (cy_wd, 616, .inl f7))] := hD9
      have hS := hS9
      clear hP9 hD9 hS9
      have k8 : 0 ≤ ((z6)).toInt ∧ ((z6)).toInt ≤ 616 := hq
      clear hq
      refine W.widen (k := 0) (n := 0) (Nat.le_of_ble_eq_true rfl) (Nat.le_of_ble_eq_true rfl) ?_
      have w9 : 0 ≤ ((z6)).toInt ∧ ((z6)).toInt ≤ 616 := by first | exact k8 | omega
      exact W.vret hx hb hr (fun t ht hW => ⟨⟨(z6, f7), rfl, w9, by rw [ht]; exact hP, hD⟩, hS.F ht⟩) hS.2.2 dX9_putInstance_35
    · have kc2 := (not_congr (cv_lt (rfl : (p1).toInt = (p1).toInt) (by decide : (10 : Int32).toInt = 10))).mp c2
      refine lv_aload_n hx hb dX9_putInstance_13 rfl (lv_at hl 0 rfl) ?_
      refine lv_bipush (v := 48) hx hb dX9_putInstance_14 (by decide) ?_
      refine lv_iload_n hx hb dX9_putInstance_16 rfl (lv_at hl 1 rfl) ?_
      refine lv_bipush (v := 10) hx hb dX9_putInstance_17 (by decide) ?_
      refine lv_idiv hx hb dX9_putInstance_19 (by decide) ?_
      refine lv_topi (fun z10 ez10 => ?_)
      have tz10 : (z10).toInt = (p1).toInt / 10 := by rw [ez10]; exact i_div rfl (by decide) (by omega)
      refine lv_iadd hx hb dX9_putInstance_20 ?_
      refine lv_topi (fun z11 ez11 => ?_)
      have tz11 : (z11).toInt = 48 + (z10).toInt := by rw [ez11]; exact i_add (by decide) rfl (by omega)
      have hPc := hP.sub (ws' := [(h_wr, .inr (6, (mo36 v_wr (.ref h_wd) (.int x_wr_drafted)))), (h_wd, .inl (cy_wd, 616, .inl f_wd))]) [0, 1] rfl
      have hDc := hD.sub (ws' := [(h_wr, .inr (6, (mo36 v_wr (.ref h_wd) (.int x_wr_drafted)))), (h_wd, .inl (cy_wd, 616, .inl f_wd))]) [0, 1] (by decide) rfl
      have hKc := hK.sub (tys' := [(cy_wd, .int)]) [0] rfl
      have hFc := va_free (wc := [(h_wr, .inr (6, (mo36 v_wr (.ref h_wd) (.int x_wr_drafted)))), (h_wd, .inl (cy_wd, 616, .inl f_wd))]) hD hS hA [0, 1] rfl
      refine va_callv (va_runV (As := [.int z11]) (rest := []) ⟨hx, hb, hml, hown, hts⟩ (c_X9_put l dC dI s.heap.size h_wr h_wd v_wr x_wr_drafted cy_wd f_wd z11 (by first | exact hx_wr_drafted | omega)) (cwV 1 hts (gv hT w_m_X9_33 w_instanceMethod_X9_put ws_sel_X9_put w_ini_X9 w_code_X9_put) rfl rfl rfl (by decide +kernel) ⟨(Nat.le_of_ble_eq_true rfl), (Nat.le_of_ble_eq_true rfl)⟩) ⟨pre_blind, va_recv hK hP (ci := 6) (q0 := 0) rfl rfl, pre_of hPc hKc hDc hN⟩ rfl rfl hl.1 rfl (lv_room (Nat.le_of_ble_eq_true rfl)) dX9_putInstance_21 ⟨(Nat.le_of_ble_eq_true rfl), (Nat.le_of_ble_eq_true rfl)⟩) hS (fun q _ h => hFc q h) hFc (fun u t H locs ht hvm hq hB hz1 hk1 hS9 => ?_)
      obtain ⟨z13, f14⟩ := u
      obtain ⟨hP1, hD1⟩ := hB
      rw [ht] at hP1
      obtain ⟨hP9, hD9⟩ := va_join (wr := []) (w1 := [(h_wr, .inr (6, (mo36 v_wr (.ref h_wd) (.int z13)))), (h_wd, .inl (cy_wd, 616, .inl f14))]) hP hD [0, 1] [] rfl rfl (by decide) (by decide) hk1 hFc hP1 hD1
      clear hP hD hS hPc hDc hKc hFc hP1 hD1 hk1 hz1 ht hvm
      have hP : va_P (dC, dI) cls [(h_wr, .inr (6, (mo36 v_wr (.ref h_wd) (.int z13)))), (h_wd, .inl (cy_wd, 616, .inl f14))] H := hP9
      have hD : va_D A [(h_wr, .inr (6, (mo36 v_wr (.ref h_wd) (.int z13)))), (h_wd, .inl (cy_wd, 616, .inl f14))] := hD9
      have hS := hS9
      clear hP9 hD9 hS9
      have k15 : 0 ≤ ((z13)).toInt ∧ ((z13)).toInt ≤ 616 := hq
      clear hq
      refine lv_aload_n hx hb dX9_putInstance_24 rfl (lv_at hl 0 rfl) ?_
      refine lv_bipush (v := 48) hx hb dX9_putInstance_25 (by decide) ?_
      refine lv_iload_n hx hb dX9_putInstance_27 rfl (lv_at hl 1 rfl) ?_
      refine lv_bipush (v := 10) hx hb dX9_putInstance_28 (by decide) ?_
      refine lv_irem hx hb dX9_putInstance_30 (by decide) ?_
      refine lv_topi (fun z16 ez16 => ?_)
      have tz16 : (z16).toInt = (p1).toInt % 10 := by rw [ez16]; exact i_rem rfl (by decide) (by omega)
      refine lv_iadd hx hb dX9_putInstance_31 ?_
      refine lv_topi (fun z17 ez17 => ?_)
      have tz17 : (z17).toInt = 48 + (z16).toInt := by rw [ez17]; exact i_add (by decide) rfl (by omega)
      have hPc := hP.sub (ws' := [(h_wr, .inr (6, (mo36 v_wr (.ref h_wd) (.int z13)))), (h_wd, .inl (cy_wd, 616, .inl f14))]) [0, 1] rfl
      have hDc := hD.sub (ws' := [(h_wr, .inr (6, (mo36 v_wr (.ref h_wd) (.int z13)))), (h_wd, .inl (cy_wd, 616, .inl f14))]) [0, 1] (by decide) rfl
      have hKc := hK.sub (tys' := [(cy_wd, .int)]) [0] rfl
      have hFc := va_free (wc := [(h_wr, .inr (6, (mo36 v_wr (.ref h_wd) (.int z13)))), (h_wd, .inl (cy_wd, 616, .inl f14))]) hD hS hA [0, 1] rfl
      refine va_callv (va_runV (As := [.int z17]) (rest := []) ⟨hx, hb, hml, hown, hts⟩ (c_X9_put l dC dI H.size h_wr h_wd v_wr z13 cy_wd f14 z17 (by first | exact k15 | omega)) (cwV 1 hts (gv hT w_m_X9_33 w_instanceMethod_X9_put ws_sel_X9_put w_ini_X9 w_code_X9_put) rfl rfl rfl (by decide +kernel) ⟨(Nat.le_of_ble_eq_true rfl), (Nat.le_of_ble_eq_true rfl)⟩) ⟨pre_blind, va_recv hK hP (ci := 6) (q0 := 0) rfl rfl, pre_of hPc hKc hDc hN⟩ rfl rfl hl.1 rfl (lv_room (Nat.le_of_ble_eq_true rfl)) dX9_putInstance_32 ⟨(Nat.le_of_ble_eq_true rfl), (Nat.le_of_ble_eq_true rfl)⟩) hS (fun q _ h => hFc q h) hFc (fun u t H locs ht hvm hq hB hz1 hk1 hS9 => ?_)
      obtain ⟨z19, f20⟩ := u
      obtain ⟨hP1, hD1⟩ := hB
      rw [ht] at hP1
      obtain ⟨hP9, hD9⟩ := va_join (wr := []) (w1 := [(h_wr, .inr (6, (mo36 v_wr (.ref h_wd) (.int z19)))), (h_wd, .inl (cy_wd, 616, .inl f20))]) hP hD [0, 1] [] rfl rfl (by decide) (by decide) hk1 hFc hP1 hD1
      clear hP hD hS hPc hDc hKc hFc hP1 hD1 hk1 hz1 ht hvm
      have hP : va_P (dC, dI) cls [(h_wr, .inr (6, (mo36 v_wr (.ref h_wd) (.int z19)))), (h_wd, .inl (cy_wd, 616, .inl f20))] H := hP9
      have hD : va_D A [(h_wr, .inr (6, (mo36 v_wr (.ref h_wd) (.int z19)))), (h_wd, .inl (cy_wd, 616, .inl f20))] := hD9
      have hS := hS9
      clear hP9 hD9 hS9
      have k21 : 0 ≤ ((z19)).toInt ∧ ((z19)).toInt ≤ 616 := hq
      clear hq
      refine W.widen (k := 0) (n := 0) (Nat.le_of_ble_eq_true rfl) (Nat.le_of_ble_eq_true rfl) ?_
      have w22 : 0 ≤ ((z19)).toInt ∧ ((z19)).toInt ≤ 616 := by first | exact k21 | omega
      exact W.vret hx hb hr (fun t ht hW => ⟨⟨(z19, f20), rfl, w22, by rw [ht]; exact hP, hD⟩, hS.F ht⟩) hS.2.2 dX9_putInstance_35
  · have kc1 := (not_congr (cv_lt (rfl : (p1).toInt = (p1).toInt) (by decide : (30 : Int32).toInt = 30))).mp c1
    refine W.widen (k := 0) (n := 0) (Nat.le_of_ble_eq_true rfl) (Nat.le_of_ble_eq_true rfl) ?_
    have w23 : 0 ≤ ((x_wr_drafted)).toInt ∧ ((x_wr_drafted)).toInt ≤ 616 := by first | exact hx_wr_drafted | omega
    exact W.vret hx hb hr (fun t ht hW => ⟨⟨(x_wr_drafted, f_wd), rfl, w23, by rw [ht]; exact hP, hD⟩, hS.F ht⟩) hS.2.2 dX9_putInstance_6

set_option maxHeartbeats 8000000 in
set_option maxRecDepth 100000 in
theorem c_X9_putName (l : Launch) (dC : Nat → ClassId) (dI : Nat → Nat → Nat) (sz : Nat) (h_wr : Nat) (h_wd : Nat) (v_wr : Nat → Value) (x_wr_drafted : Int32) (cy_wd : ClassId) (f_wd : Nat → Int32) (p1 : Int64) (hx_wr_drafted : 0 ≤ (x_wr_drafted).toInt ∧ (x_wr_drafted).toInt ≤ 616) : Met l yX9_putName (Ws yX9_putName cX9_putName 5 none) (({ frames := 1, cells := 0, slots := 0, locals := 21 } : Room)) (PRE (dC, dI) cls [(cy_wd, .int)] [(h_wr, .inr (6, (mo36 v_wr (.ref h_wd) (.int x_wr_drafted)))), (h_wd, .inl (cy_wd, 616, .inl f_wd))] sz [.ref h_wr, .long p1]) (va_Qv (fun (u : (Int32) × (Nat → Int32)) => (0 ≤ (u.1).toInt ∧ (u.1).toInt ≤ 616)) (fun (u : (Int32) × (Nat → Int32)) (t : State) => va_P (dC, dI) cls [(h_wr, .inr (6, (mo36 v_wr (.ref h_wd) (.int u.1)))), (h_wd, .inl (cy_wd, 616, .inl u.2))] t.heap ∧ va_D (va_A [(h_wr, .inr (6, (mo36 v_wr (.ref h_wd) (.int x_wr_drafted)))), (h_wd, .inl (cy_wd, 616, .inl f_wd))] sz) [(h_wr, .inr (6, (mo36 v_wr (.ref h_wd) (.int u.1)))), (h_wd, .inl (cy_wd, 616, .inl u.2))]) (va_A [(h_wr, .inr (6, (mo36 v_wr (.ref h_wd) (.int x_wr_drafted)))), (h_wd, .inl (cy_wd, 616, .inl f_wd))] sz)) 0 0 (va_A [(h_wr, .inr (6, (mo36 v_wr (.ref h_wd) (.int x_wr_drafted)))), (h_wd, .inl (cy_wd, 616, .inl f_wd))] sz) := by
  refine Met.ofW (cc := cX9_putName) (maxL := 5) (ret := none) (by decide) rfl ?_
  intro p e s m args below meth c s₁ B hml hv
  obtain ⟨rfl, hsz, hP, hK, hD0, hN⟩ := hv
  have hx := B.exec
  have hb := B.bytes
  have hr := B.returns
  have hts := atoms_spec (ws := Ws yX9_putName cX9_putName 5 none) B.pre
  have hT : ∀ w ∈ WALL, w ∈ Ws yX9_putName cX9_putName 5 none := fun w h => List.mem_cons_of_mem _ h
  have hw := fun w (h : w ∈ WALL) => hts w (hT w h)
  have hown : s.vm.findClass RX9 = some m.cls := findClass_of_methodNamed B.named
  have hlocks := B.notSynchronized
  subst hsz
  have hD := hD0.self (sz := s.heap.size)
  generalize hAe : va_A [(h_wr, .inr (6, (mo36 v_wr (.ref h_wd) (.int x_wr_drafted)))), (h_wd, .inl (cy_wd, 616, .inl f_wd))] s.heap.size = A at hD ⊢
  have hA : ∀ q : Nat, s.heap.size ≤ q → A q := fun q h => by rw [← hAe]; exact Or.inr h
  have hS : va_S A s.heap s.heap [] := va_S.rf
  have hl := lv_entry ([.ref h_wr, .long p1]) (n := 5) (Nat.le_of_ble_eq_true rfl)
  rw [lg_entry_eq]
  generalize (lg_sl ([.ref h_wr, .long p1]) ++ List.replicate (5 - (lg_sl ([.ref h_wr, .long p1])).length) Slot.unset).toArray = ls at hl ⊢
  have hl : lv_has ls 5 [(0, .ref h_wr), (1, .long p1)] := hl
  refine lv_bipush (v := 35) hx hb dX9_putName_0 (by decide) ?_
  refine lv_istore_n (lv' := [(3, .int 35), (0, .ref h_wr), (1, .long p1)]) hx hb dX9_putName_2 rfl hl (by decide) rfl (fun ls hl => ?_)
  have lp4 : ∀ (n : Nat) (x1 : Int32) (x2 : Int32) (f3 : Nat → Int32) (H : Heap) (locs : List Loc) (ls : Array Slot), (-5 ≤ (x1).toInt ∧ (x1).toInt ≤ 35) → (0 ≤ (x2).toInt ∧ (x2).toInt ≤ 616) → ((x1).toInt + 5).toNat + 1 ≤ n → va_P (dC, dI) cls [(h_wr, .inr (6, (mo36 v_wr (.ref h_wd) (.int x2)))), (h_wd, .inl (cy_wd, 616, .inl f3))] H → va_D A [(h_wr, .inr (6, (mo36 v_wr (.ref h_wd) (.int x2)))), (h_wd, .inl (cy_wd, 616, .inl f3))] → va_S A s.heap H locs → lv_has ls 5 [(0, .ref h_wr), (1, .long p1), (3, .int x1)] → W p l e ({ frames := 1, cells := 0, slots := 0, locals := 21 } : Room) s m ([.ref h_wr, .long p1] : List Value).toArray below meth c H locs 0 0 (MQ below (va_Qv (fun (u : (Int32) × (Nat → Int32)) => (0 ≤ (u.1).toInt ∧ (u.1).toInt ≤ 616)) (fun (u : (Int32) × (Nat → Int32)) (t : State) => va_P (dC, dI) cls [(h_wr, .inr (6, (mo36 v_wr (.ref h_wd) (.int u.1)))), (h_wd, .inl (cy_wd, 616, .inl u.2))] t.heap ∧ va_D A [(h_wr, .inr (6, (mo36 v_wr (.ref h_wd) (.int u.1)))), (h_wd, .inl (cy_wd, 616, .inl u.2))]) A) ([.ref h_wr, .long p1] : List Value).toArray s 0 0 A) (F0 m 3 ls []) := by
    clear hP hD hS hl
    intro n
    induction n with
    | zero => intro x1 x2 f3 H locs ls klp4_0 klp4_1 hm hP hD hS hl; exact False.elim (by omega)
    | succ n ih => 
      intro x1 x2 f3 H locs ls klp4_0 klp4_1 hm hP hD hS hl
      have ih5 := ih
      clear ih
      refine lv_iload_n hx hb dX9_putName_3 rfl (lv_at hl 2 rfl) ?_
      refine lv_if_lt (tgt := 39) hx hb dX9_putName_4 (by decide) (fun c6 => ?_) (fun c6 => ?_)
      · have kc6 := (cv_lt (rfl : (x1).toInt = (x1).toInt) (by decide : (0 : Int32).toInt = 0)).mp c6
        refine W.widen (k := 0) (n := 0) (Nat.le_of_ble_eq_true rfl) (Nat.le_of_ble_eq_true rfl) ?_
        have w7 : 0 ≤ ((x2)).toInt ∧ ((x2)).toInt ≤ 616 := by first | exact klp4_1 | omega
        exact W.vret hx hb hr (fun t ht hW => ⟨⟨(x2, f3), rfl, w7, by rw [ht]; exact hP, hD⟩, hS.F ht⟩) hS.2.2 dX9_putName_39
      · have kc6 := (not_congr (cv_lt (rfl : (x1).toInt = (x1).toInt) (by decide : (0 : Int32).toInt = 0))).mp c6
        refine lv_lload_n hx hb dX9_putName_7 rfl (lv_at hl 1 rfl) ?_
        refine lv_iload_n hx hb dX9_putName_8 rfl (lv_at hl 2 rfl) ?_
        refine lv_lshr hx hb dX9_putName_9 rfl ?_
        refine lv_topl (fun z8 ez8 => ?_)
        refine lv_ldc2 (v := 31) hx hb hown (hw _ w_cl_X9_84) dX9_putName_10 ?_
        refine lv_land hx hb dX9_putName_13 ?_
        refine lv_topl (fun z9 ez9 => ?_)
        refine lv_l2i hx hb dX9_putName_14 rfl ?_
        refine lv_topi (fun z10 ez10 => ?_)
        refine lv_istore (lv' := [(4, .int z10), (0, .ref h_wr), (1, .long p1), (3, .int x1)]) hx hb dX9_putName_15 hl (by decide) rfl (fun ls hl => ?_)
        refine lv_iload hx hb dX9_putName_17 (lv_at hl 0 rfl) ?_
        refine lv_if_eq (tgt := 33) hx hb dX9_putName_19 (by decide) (fun c11 => ?_) (fun c11 => ?_)
        · have kc11 := (cv_eq (rfl : (z10).toInt = (z10).toInt) (by decide : (0 : Int32).toInt = 0)).mp c11
          obtain ⟨z12, ez12⟩ : ∃ y : Int32, y = x1 + (-5) := ⟨_, rfl⟩
          have tz12 : (z12).toInt = (x1).toInt + -5 := by rw [ez12]; exact i_add rfl (by decide) (by omega)
          refine lv_iinc (v := z12) (lv' := [(3, .int z12), (4, .int z10), (0, .ref h_wr), (1, .long p1)]) hx hb dX9_putName_33 hl (k := 3) rfl (by rw [ez12]; rfl) (by decide) rfl (fun ls hl => ?_)
          refine lv_goto (tgt := 3) hx hb dX9_putName_36 (by decide) ?_
          exact ih5 (z12) (x2) (f3) _ _ _ (by omega) (by first | exact klp4_1 | omega) (by omega) hP hD hS (lv_sub hl [2, 3, 0] rfl)
        · have kc11 := (not_congr (cv_eq (rfl : (z10).toInt = (z10).toInt) (by decide : (0 : Int32).toInt = 0))).mp c11
          refine lv_aload_n hx hb dX9_putName_22 rfl (lv_at hl 1 rfl) ?_
          refine lv_bipush (v := 97) hx hb dX9_putName_23 (by decide) ?_
          refine lv_iload hx hb dX9_putName_25 (lv_at hl 0 rfl) ?_
          refine lv_iadd hx hb dX9_putName_27 ?_
          refine lv_topi (fun z13 ez13 => ?_)
          refine lv_iconst (v := 1) hx hb dX9_putName_28 (by decide) ?_
          refine lv_isub hx hb dX9_putName_29 ?_
          refine lv_topi (fun z14 ez14 => ?_)
          have hPc := hP.sub (ws' := [(h_wr, .inr (6, (mo36 v_wr (.ref h_wd) (.int x2)))), (h_wd, .inl (cy_wd, 616, .inl f3))]) [0, 1] rfl
          have hDc := hD.sub (ws' := [(h_wr, .inr (6, (mo36 v_wr (.ref h_wd) (.int x2)))), (h_wd, .inl (cy_wd, 616, .inl f3))]) [0, 1] (by decide) rfl
          have hKc := hK.sub (tys' := [(cy_wd, .int)]) [0] rfl
          have hFc := va_free (wc := [(h_wr, .inr (6, (mo36 v_wr (.ref h_wd) (.int x2)))), (h_wd, .inl (cy_wd, 616, .inl f3))]) hD hS hA [0, 1] rfl
          refine va_callv (va_runV (As := [.int z14]) (rest := []) ⟨hx, hb, hml, hown, hts⟩ (c_X9_put l dC dI H.size h_wr h_wd v_wr x2 cy_wd f3 z14 (by first | exact klp4_1 | omega)) (cwV 1 hts (gv hT w_m_X9_33 w_instanceMethod_X9_put ws_sel_X9_put w_ini_X9 w_code_X9_put) rfl rfl rfl (by decide +kernel) ⟨(Nat.le_of_ble_eq_true rfl), (Nat.le_of_ble_eq_true rfl)⟩) ⟨pre_blind, va_recv hK hP (ci := 6) (q0 := 0) rfl rfl, pre_of hPc hKc hDc hN⟩ rfl rfl hl.1 rfl (lv_room (Nat.le_of_ble_eq_true rfl)) dX9_putName_30 ⟨(Nat.le_of_ble_eq_true rfl), (Nat.le_of_ble_eq_true rfl)⟩) hS (fun q _ h => hFc q h) hFc (fun u t H locs ht hvm hq hB hz1 hk1 hS9 => ?_)
          obtain ⟨z16, f17⟩ := u
          obtain ⟨hP1, hD1⟩ := hB
          rw [ht] at hP1
          obtain ⟨hP9, hD9⟩ := va_join (wr := []) (w1 := [(h_wr, .inr (6, (mo36 v_wr (.ref h_wd) (.int z16)))), (h_wd, .inl (cy_wd, 616, .inl f17))]) hP hD [0, 1] [] rfl rfl (by decide) (by decide) hk1 hFc hP1 hD1
          clear hP hD hS hPc hDc hKc hFc hP1 hD1 hk1 hz1 ht hvm
          have hP : va_P (dC, dI) cls [(h_wr, .inr (6, (mo36 v_wr (.ref h_wd) (.int z16)))), (h_wd, .inl (cy_wd, 616, .inl f17))] H := hP9
          have hD : va_D A [(h_wr, .inr (6, (mo36 v_wr (.ref h_wd) (.int z16)))), (h_wd, .inl (cy_wd, 616, .inl f17))] := hD9
          have hS := hS9
          clear hP9 hD9 hS9
          have k18 : 0 ≤ ((z16)).toInt ∧ ((z16)).toInt ≤ 616 := hq
          clear hq
          obtain ⟨z19, ez19⟩ : ∃ y : Int32, y = x1 + (-5) := ⟨_, rfl⟩
          have tz19 : (z19).toInt = (x1).toInt + -5 := by rw [ez19]; exact i_add rfl (by decide) (by omega)
          refine lv_iinc (v := z19) (lv' := [(3, .int z19), (4, .int z10), (0, .ref h_wr), (1, .long p1)]) hx hb dX9_putName_33 hl (k := 3) rfl (by rw [ez19]; rfl) (by decide) rfl (fun ls hl => ?_)
          refine lv_goto (tgt := 3) hx hb dX9_putName_36 (by decide) ?_
          exact ih5 (z19) (z16) (f17) _ _ _ (by omega) (by first | exact k18 | omega) (by omega) hP hD hS (lv_sub hl [2, 3, 0] rfl)
  have cst35 : (35 : Int32).toInt = 35 := by decide
  exact lp4 _ (35) (x_wr_drafted) (f_wd) _ _ _ (by decide) (by first | exact hx_wr_drafted | omega) (Nat.le_refl _) hP hD hS (lv_sub hl [1, 2, 0] rfl)

set_option maxHeartbeats 8000000 in
set_option maxRecDepth 100000 in
theorem c_X9_putPart (l : Launch) (dC : Nat → ClassId) (dI : Nat → Nat → Nat) (sz : Nat) (h_wr : Nat) (h_wd : Nat) (h_wh : Nat) (h_td : Nat) (h_nam : Nat) (h_var : Nat) (h_trm : Nat) (h_ter : Nat) (v_wr : Nat → Value) (x_wr_drafted : Int32) (x_wr_held : Int32) (cy_wd : ClassId) (f_wd : Nat → Int32) (cy_wh : ClassId) (f_wh : Nat → Int32) (v_td : Nat → Value) (cy_nam : ClassId) (f_nam : Nat → Int64) (cy_var : ClassId) (f_var : Nat → Int32) (cy_trm : ClassId) (f_trm : Nat → Int32) (cy_ter : ClassId) (f_ter : Nat → Int32) (p1 : Int32) (hx_wr_drafted : 0 ≤ (x_wr_drafted).toInt ∧ (x_wr_drafted).toInt ≤ 616) (hx_wr_held : 0 ≤ (x_wr_held).toInt ∧ (x_wr_held).toInt ≤ 2048) (hf_wh : Rg (-127) 9599 f_wh) (hf_var : Rg (-1) 7 f_var) (hf_trm : Rg 0 3 f_trm) (hf_ter : Rg 0 299 f_ter) (q0 : 0 ≤ (p1).toInt ∧ (p1).toInt ≤ 9599) : Met l yX9_putPart (Ws yX9_putPart cX9_putPart 5 none) (({ frames := 2, cells := 0, slots := 0, locals := 45 } : Room)) (PRE (dC, dI) cls [(cy_wd, .int), (cy_wh, .int), (cy_nam, .long), (cy_var, .int), (cy_trm, .int), (cy_ter, .int)] [(h_wr, .inr (6, (mo38 v_wr (.ref h_td) (.ref h_wd) (.int x_wr_drafted) (.ref h_wh) (.int x_wr_held)))), (h_wd, .inl (cy_wd, 616, .inl f_wd)), (h_wh, .inl (cy_wh, 2048, .inl f_wh)), (h_td, .inr (5, (mo21 v_td (.ref h_nam) (.ref h_var) (.ref h_trm) (.ref h_ter)))), (h_nam, .inl (cy_nam, 300, .inr (.inl f_nam))), (h_var, .inl (cy_var, 300, .inl f_var)), (h_trm, .inl (cy_trm, 300, .inl f_trm)), (h_ter, .inl (cy_ter, 900, .inl f_ter))] sz [.ref h_wr, .int p1]) (va_Qv (fun (u : (Int32) × (Int32) × (Nat → Int32) × (Nat → Int32)) => (0 ≤ (u.1).toInt ∧ (u.1).toInt ≤ 616) ∧ (0 ≤ (u.2.1).toInt ∧ (u.2.1).toInt ≤ 2048) ∧ (Rg (-127) 9599 u.2.2.2)) (fun (u : (Int32) × (Int32) × (Nat → Int32) × (Nat → Int32)) (t : State) => va_P (dC, dI) cls [(h_wr, .inr (6, (mo38 v_wr (.ref h_td) (.ref h_wd) (.int u.1) (.ref h_wh) (.int u.2.1)))), (h_wd, .inl (cy_wd, 616, .inl u.2.2.1)), (h_wh, .inl (cy_wh, 2048, .inl u.2.2.2)), (h_td, .inr (5, (mo21 v_td (.ref h_nam) (.ref h_var) (.ref h_trm) (.ref h_ter)))), (h_nam, .inl (cy_nam, 300, .inr (.inl f_nam))), (h_var, .inl (cy_var, 300, .inl f_var)), (h_trm, .inl (cy_trm, 300, .inl f_trm)), (h_ter, .inl (cy_ter, 900, .inl f_ter))] t.heap ∧ va_D (va_A [(h_wr, .inr (6, (mo38 v_wr (.ref h_td) (.ref h_wd) (.int x_wr_drafted) (.ref h_wh) (.int x_wr_held)))), (h_wd, .inl (cy_wd, 616, .inl f_wd)), (h_wh, .inl (cy_wh, 2048, .inl f_wh)), (h_td, .inr (5, (mo21 v_td (.ref h_nam) (.ref h_var) (.ref h_trm) (.ref h_ter)))), (h_nam, .inl (cy_nam, 300, .inr (.inl f_nam))), (h_var, .inl (cy_var, 300, .inl f_var)), (h_trm, .inl (cy_trm, 300, .inl f_trm)), (h_ter, .inl (cy_ter, 900, .inl f_ter))] sz) [(h_wr, .inr (6, (mo38 v_wr (.ref h_td) (.ref h_wd) (.int u.1) (.ref h_wh) (.int u.2.1)))), (h_wd, .inl (cy_wd, 616, .inl u.2.2.1)), (h_wh, .inl (cy_wh, 2048, .inl u.2.2.2)), (h_td, .inr (5, (mo21 v_td (.ref h_nam) (.ref h_var) (.ref h_trm) (.ref h_ter)))), (h_nam, .inl (cy_nam, 300, .inr (.inl f_nam))), (h_var, .inl (cy_var, 300, .inl f_var)), (h_trm, .inl (cy_trm, 300, .inl f_trm)), (h_ter, .inl (cy_ter, 900, .inl f_ter))]) (va_A [(h_wr, .inr (6, (mo38 v_wr (.ref h_td) (.ref h_wd) (.int x_wr_drafted) (.ref h_wh) (.int x_wr_held)))), (h_wd, .inl (cy_wd, 616, .inl f_wd)), (h_wh, .inl (cy_wh, 2048, .inl f_wh)), (h_td, .inr (5, (mo21 v_td (.ref h_nam) (.ref h_var) (.ref h_trm) (.ref h_ter)))), (h_nam, .inl (cy_nam, 300, .inr (.inl f_nam))), (h_var, .inl (cy_var, 300, .inl f_var)), (h_trm, .inl (cy_trm, 300, .inl f_trm)), (h_ter, .inl (cy_ter, 900, .inl f_ter))] sz)) 0 0 (va_A [(h_wr, .inr (6, (mo38 v_wr (.ref h_td) (.ref h_wd) (.int x_wr_drafted) (.ref h_wh) (.int x_wr_held)))), (h_wd, .inl (cy_wd, 616, .inl f_wd)), (h_wh, .inl (cy_wh, 2048, .inl f_wh)), (h_td, .inr (5, (mo21 v_td (.ref h_nam) (.ref h_var) (.ref h_trm) (.ref h_ter)))), (h_nam, .inl (cy_nam, 300, .inr (.inl f_nam))), (h_var, .inl (cy_var, 300, .inl f_var)), (h_trm, .inl (cy_trm, 300, .inl f_trm)), (h_ter, .inl (cy_ter, 900, .inl f_ter))] sz) := by
  refine Met.ofW (cc := cX9_putPart) (maxL := 5) (ret := none) (by decide) rfl ?_
  intro p e s m args below meth c s₁ B hml hv
  obtain ⟨rfl, hsz, hP, hK, hD0, hN⟩ := hv
  have hx := B.exec
  have hb := B.bytes
  have hr := B.returns
  have hts := atoms_spec (ws := Ws yX9_putPart cX9_putPart 5 none) B.pre
  have hT : ∀ w ∈ WALL, w ∈ Ws yX9_putPart cX9_putPart 5 none := fun w h => List.mem_cons_of_mem _ h
  have hw := fun w (h : w ∈ WALL) => hts w (hT w h)
  have hown : s.vm.findClass RX9 = some m.cls := findClass_of_methodNamed B.named
  have hlocks := B.notSynchronized
  subst hsz
  have hD := hD0.self (sz := s.heap.size)
  generalize hAe : va_A [(h_wr, .inr (6, (mo38 v_wr (.ref h_td) (.ref h_wd) (.int x_wr_drafted) (.ref h_wh) (.int x_wr_held)))), (h_wd, .inl (cy_wd, 616, .inl f_wd)), (h_wh, .inl (cy_wh, 2048, .inl f_wh)), (h_td, .inr (5, (mo21 v_td (.ref h_nam) (.ref h_var) (.ref h_trm) (.ref h_ter)))), (h_nam, .inl (cy_nam, 300, .inr (.inl f_nam))), (h_var, .inl (cy_var, 300, .inl f_var)), (h_trm, .inl (cy_trm, 300, .inl f_trm)), (h_ter, .inl (cy_ter, 900, .inl f_ter))] s.heap.size = A at hD ⊢
  have hA : ∀ q : Nat, s.heap.size ≤ q → A q := fun q h => by rw [← hAe]; exact Or.inr h
  have hS : va_S A s.heap s.heap [] := va_S.rf
  have hl := lv_entry ([.ref h_wr, .int p1]) (n := 5) (Nat.le_of_ble_eq_true rfl)
  rw [lg_entry_eq]
  generalize (lg_sl ([.ref h_wr, .int p1]) ++ List.replicate (5 - (lg_sl ([.ref h_wr, .int p1])).length) Slot.unset).toArray = ls at hl ⊢
  have hl : lv_has ls 5 [(0, .ref h_wr), (1, .int p1)] := hl
  refine lv_iload_n hx hb dX9_putPart_0 rfl (lv_at hl 1 rfl) ?_
  refine lv_sipush (v := 300) hx hb dX9_putPart_1 (by decide) ?_
  refine lv_irem hx hb dX9_putPart_4 (by decide) ?_
  refine lv_topi (fun z1 ez1 => ?_)
  have tz1 : (z1).toInt = (p1).toInt % 300 := by rw [ez1]; exact i_rem rfl (by decide) (by omega)
  refine lv_istore_n (lv' := [(2, .int z1), (0, .ref h_wr), (1, .int p1)]) hx hb dX9_putPart_5 rfl hl (by decide) rfl (fun ls hl => ?_)
  refine lv_aload_n hx hb dX9_putPart_6 rfl (lv_at hl 1 rfl) ?_
  refine va_get (D := (dC, dI)) (ci := 6) (v := .ref h_td) (C := RX9) (T := TX9) (N := 8) hx hb hw iwX9 hown hK hP 0 rfl rfl 0 (by decide) (hw _ w_f_X9_21) (fun _ h9 => h9) rfl dX9_putPart_7 ?_
  refine va_getN (D := (dC, dI)) (ci := 5) (v := .ref h_var) (C := RX8) (T := TX8) (N := 10) (host := "OppositePairs") hx hb hw iwX8 hown hK hP 3 rfl rfl 1 (by decide) (hN.use n_f_X9_59 rfl) (fun _ h9 => h9) rfl dX9_putPart_10 ?_
  refine lv_iload_n hx hb dX9_putPart_13 rfl (lv_at hl 0 rfl) ?_
  refine va_iald hx hb hK hP 5 3 rfl rfl (i := z1) (vp_in_iff.mpr (by omega)) dX9_putPart_14 ?_
  refine lv_topi (fun z2 ez2 => ?_)
  have rz2 : -1 ≤ (z2).toInt ∧ (z2).toInt ≤ 7 := by rw [ez2]; exact hf_var _
  refine lv_iconst (v := (-1)) hx hb dX9_putPart_15 (by decide) ?_
  refine lv_icmp_eq (tgt := 43) hx hb dX9_putPart_16 (by decide) (fun c3 => ?_) (fun c3 => ?_)
  · have kc3 := (cv_eq (rfl : (z2).toInt = (z2).toInt) (by decide : ((-1) : Int32).toInt = -1)).mp c3
    refine lv_aload_n hx hb dX9_putPart_43 rfl (lv_at hl 1 rfl) ?_
    refine lv_aload_n hx hb dX9_putPart_44 rfl (lv_at hl 1 rfl) ?_
    refine va_get (D := (dC, dI)) (ci := 6) (v := .ref h_td) (C := RX9) (T := TX9) (N := 8) hx hb hw iwX9 hown hK hP 0 rfl rfl 0 (by decide) (hw _ w_f_X9_21) (fun _ h9 => h9) rfl dX9_putPart_45 ?_
    refine va_getN (D := (dC, dI)) (ci := 5) (v := .ref h_nam) (C := RX8) (T := TX8) (N := 10) (host := "OppositePairs") hx hb hw iwX8 hown hK hP 3 rfl rfl 0 (by decide) (hN.use n_f_X9_64 rfl) (fun _ h9 => h9) rfl dX9_putPart_48 ?_
    refine lv_iload_n hx hb dX9_putPart_51 rfl (lv_at hl 0 rfl) ?_
    refine va_lald hx hb hK hP 4 2 rfl rfl (i := z1) (vp_in_iff.mpr (by omega)) dX9_putPart_52 ?_
    refine lv_topl (fun z4 ez4 => ?_)
    obtain ⟨vq5, evq5⟩ := mq38_36 v_wr (.ref h_td) (.ref h_wh) (.int x_wr_held)
    replace hP : va_P (dC, dI) cls [(h_wr, .inr (6, (mo36 vq5 (.ref h_wd) (.int x_wr_drafted)))), (h_wd, .inl (cy_wd, 616, .inl f_wd)), (h_wh, .inl (cy_wh, 2048, .inl f_wh)), (h_td, .inr (5, (mo21 v_td (.ref h_nam) (.ref h_var) (.ref h_trm) (.ref h_ter)))), (h_nam, .inl (cy_nam, 300, .inr (.inl f_nam))), (h_var, .inl (cy_var, 300, .inl f_var)), (h_trm, .inl (cy_trm, 300, .inl f_trm)), (h_ter, .inl (cy_ter, 900, .inl f_ter))] s.heap := by rw [evq5]; exact hP
    replace hD : va_D A [(h_wr, .inr (6, (mo36 vq5 (.ref h_wd) (.int x_wr_drafted)))), (h_wd, .inl (cy_wd, 616, .inl f_wd)), (h_wh, .inl (cy_wh, 2048, .inl f_wh)), (h_td, .inr (5, (mo21 v_td (.ref h_nam) (.ref h_var) (.ref h_trm) (.ref h_ter)))), (h_nam, .inl (cy_nam, 300, .inr (.inl f_nam))), (h_var, .inl (cy_var, 300, .inl f_var)), (h_trm, .inl (cy_trm, 300, .inl f_trm)), (h_ter, .inl (cy_ter, 900, .inl f_ter))] := by rw [evq5]; exact hD
    have hPc := hP.sub (ws' := [(h_wr, .inr (6, (mo36 vq5 (.ref h_wd) (.int x_wr_drafted)))), (h_wd, .inl (cy_wd, 616, .inl f_wd))]) [0, 1] rfl
    have hDc := hD.sub (ws' := [(h_wr, .inr (6, (mo36 vq5 (.ref h_wd) (.int x_wr_drafted)))), (h_wd, .inl (cy_wd, 616, .inl f_wd))]) [0, 1] (by decide) rfl
    have hKc := hK.sub (tys' := [(cy_wd, .int)]) [0] rfl
    have hFc := va_free (wc := [(h_wr, .inr (6, (mo36 vq5 (.ref h_wd) (.int x_wr_drafted)))), (h_wd, .inl (cy_wd, 616, .inl f_wd))]) hD hS hA [0, 1] rfl
    refine va_callv (va_runV (As := [.long z4]) (rest := []) ⟨hx, hb, hml, hown, hts⟩ (c_X9_putName l dC dI s.heap.size h_wr h_wd vq5 x_wr_drafted cy_wd f_wd z4 (by first | exact hx_wr_drafted | omega)) (cwV 1 hts (gv hT w_m_X9_71 w_instanceMethod_X9_putName ws_sel_X9_putName w_ini_X9 w_code_X9_putName) rfl rfl rfl (by decide +kernel) ⟨(Nat.le_of_ble_eq_true rfl), (Nat.le_of_ble_eq_true rfl)⟩) ⟨pre_blind, va_recv hK hP (ci := 6) (q0 := 0) rfl rfl, pre_of hPc hKc hDc hN⟩ rfl rfl hl.1 rfl (lv_room (Nat.le_of_ble_eq_true rfl)) dX9_putPart_53 ⟨(Nat.le_of_ble_eq_true rfl), (Nat.le_of_ble_eq_true rfl)⟩) hS (fun q _ h => hFc q h) hFc (fun u t H locs ht hvm hq hB hz1 hk1 hS9 => ?_)
    obtain ⟨z7, f8⟩ := u
    obtain ⟨hP1, hD1⟩ := hB
    rw [ht] at hP1
    obtain ⟨hP9, hD9⟩ := va_join (wr := [(h_wh, .inl (cy_wh, 2048, .inl f_wh)), (h_td, .inr (5, (mo21 v_td (.ref h_nam) (.ref h_var) (.ref h_trm) (.ref h_ter)))), (h_nam, .inl (cy_nam, 300, .inr (.inl f_nam))), (h_var, .inl (cy_var, 300, .inl f_var)), (h_trm, .inl (cy_trm, 300, .inl f_trm)), (h_ter, .inl (cy_ter, 900, .inl f_ter))]) (w1 := [(h_wr, .inr (6, (mo36 vq5 (.ref h_wd) (.int z7)))), (h_wd, .inl (cy_wd, 616, .inl f8))]) hP hD [0, 1] [2, 3, 4, 5, 6, 7] rfl rfl (by decide) (by decide) hk1 hFc hP1 hD1
    clear hP hD hS hPc hDc hKc hFc hP1 hD1 hk1 hz1 ht hvm
    have hP : va_P (dC, dI) cls [(h_wh, .inl (cy_wh, 2048, .inl f_wh)), (h_td, .inr (5, (mo21 v_td (.ref h_nam) (.ref h_var) (.ref h_trm) (.ref h_ter)))), (h_nam, .inl (cy_nam, 300, .inr (.inl f_nam))), (h_var, .inl (cy_var, 300, .inl f_var)), (h_trm, .inl (cy_trm, 300, .inl f_trm)), (h_ter, .inl (cy_ter, 900, .inl f_ter)), (h_wr, .inr (6, (mo36 vq5 (.ref h_wd) (.int z7)))), (h_wd, .inl (cy_wd, 616, .inl f8))] H := hP9
    have hD : va_D A [(h_wh, .inl (cy_wh, 2048, .inl f_wh)), (h_td, .inr (5, (mo21 v_td (.ref h_nam) (.ref h_var) (.ref h_trm) (.ref h_ter)))), (h_nam, .inl (cy_nam, 300, .inr (.inl f_nam))), (h_var, .inl (cy_var, 300, .inl f_var)), (h_trm, .inl (cy_trm, 300, .inl f_trm)), (h_ter, .inl (cy_ter, 900, .inl f_ter)), (h_wr, .inr (6, (mo36 vq5 (.ref h_wd) (.int z7)))), (h_wd, .inl (cy_wd, 616, .inl f8))] := hD9
    have hS := hS9
    clear hP9 hD9 hS9
    rw [evq5] at hP hD
    replace hP : va_P (dC, dI) cls [(h_wh, .inl (cy_wh, 2048, .inl f_wh)), (h_td, .inr (5, (mo21 v_td (.ref h_nam) (.ref h_var) (.ref h_trm) (.ref h_ter)))), (h_nam, .inl (cy_nam, 300, .inr (.inl f_nam))), (h_var, .inl (cy_var, 300, .inl f_var)), (h_trm, .inl (cy_trm, 300, .inl f_trm)), (h_ter, .inl (cy_ter, 900, .inl f_ter)), (h_wr, .inr (6, (mo38 v_wr (.ref h_td) (.ref h_wd) (.int z7) (.ref h_wh) (.int x_wr_held)))), (h_wd, .inl (cy_wd, 616, .inl f8))] H := hP
    replace hD : va_D A [(h_wh, .inl (cy_wh, 2048, .inl f_wh)), (h_td, .inr (5, (mo21 v_td (.ref h_nam) (.ref h_var) (.ref h_trm) (.ref h_ter)))), (h_nam, .inl (cy_nam, 300, .inr (.inl f_nam))), (h_var, .inl (cy_var, 300, .inl f_var)), (h_trm, .inl (cy_trm, 300, .inl f_trm)), (h_ter, .inl (cy_ter, 900, .inl f_ter)), (h_wr, .inr (6, (mo38 v_wr (.ref h_td) (.ref h_wd) (.int z7) (.ref h_wh) (.int x_wr_held)))), (h_wd, .inl (cy_wd, 616, .inl f8))] := hD
    clear evq5 
    have k9 : 0 ≤ ((z7)).toInt ∧ ((z7)).toInt ≤ 616 := hq
    clear hq
    refine lv_aload_n hx hb dX9_putPart_56 rfl (lv_at hl 1 rfl) ?_
    refine va_get (D := (dC, dI)) (ci := 6) (v := .ref h_td) (C := RX9) (T := TX9) (N := 8) hx hb hw iwX9 hown hK hP 6 rfl rfl 0 (by decide) (hw _ w_f_X9_21) (fun _ h9 => h9) rfl dX9_putPart_57 ?_
    refine va_getN (D := (dC, dI)) (ci := 5) (v := .ref h_trm) (C := RX8) (T := TX8) (N := 10) (host := "OppositePairs") hx hb hw iwX8 hown hK hP 1 rfl rfl 2 (by decide) (hN.use n_f_X9_75 rfl) (fun _ h9 => h9) rfl dX9_putPart_60 ?_
    refine lv_iload_n hx hb dX9_putPart_63 rfl (lv_at hl 0 rfl) ?_
    refine va_iald hx hb hK hP 4 4 rfl rfl (i := z1) (vp_in_iff.mpr (by omega)) dX9_putPart_64 ?_
    refine lv_topi (fun z10 ez10 => ?_)
    have rz10 : 0 ≤ (z10).toInt ∧ (z10).toInt ≤ 3 := by rw [ez10]; exact hf_trm _
    refine lv_istore_n (lv' := [(3, .int z10), (2, .int z1), (0, .ref h_wr), (1, .int p1)]) hx hb dX9_putPart_65 rfl hl (by decide) rfl (fun ls hl => ?_)
    refine lv_iload_n hx hb dX9_putPart_66 rfl (lv_at hl 0 rfl) ?_
    refine lv_if_le (tgt := 82) hx hb dX9_putPart_67 (by decide) (fun c11 => ?_) (fun c11 => ?_)
    · have kc11 := (cv_le (rfl : (z10).toInt = (z10).toInt) (by decide : (0 : Int32).toInt = 0)).mp c11
      refine lv_iload_n hx hb dX9_putPart_82 rfl (lv_at hl 0 rfl) ?_
      refine lv_iconst (v := 1) hx hb dX9_putPart_83 (by decide) ?_
      refine lv_isub hx hb dX9_putPart_84 ?_
      refine lv_topi (fun z12 ez12 => ?_)
      have tz12 : (z12).toInt = (z10).toInt - 1 := by rw [ez12]; exact i_sub rfl (by decide) (by omega)
      refine lv_istore (lv' := [(4, .int z12), (3, .int z10), (2, .int z1), (0, .ref h_wr), (1, .int p1)]) hx hb dX9_putPart_85 hl (by decide) rfl (fun ls hl => ?_)
      have lp16 : ∀ (n : Nat) (x13 : Int32) (f14 : Nat → Int32) (x15 : Int32) (H : Heap) (locs : List Loc) (ls : Array Slot), (-1 ≤ (x13).toInt ∧ (x13).toInt ≤ 2) → (Rg (-127) 9599 f14) → (0 ≤ (x15).toInt ∧ (x15).toInt ≤ 2048) → ((x13).toInt + 1).toNat + 1 ≤ n → va_P (dC, dI) cls [(h_wh, .inl (cy_wh, 2048, .inl f14)), (h_td, .inr (5, (mo21 v_td (.ref h_nam) (.ref h_var) (.ref h_trm) (.ref h_ter)))), (h_nam, .inl (cy_nam, 300, .inr (.inl f_nam))), (h_var, .inl (cy_var, 300, .inl f_var)), (h_trm, .inl (cy_trm, 300, .inl f_trm)), (h_ter, .inl (cy_ter, 900, .inl f_ter)), (h_wr, .inr (6, (mo38 v_wr (.ref h_td) (.ref h_wd) (.int z7) (.ref h_wh) (.int x15)))), (h_wd, .inl (cy_wd, 616, .inl f8))] H → va_D A [(h_wh, .inl (cy_wh, 2048, .inl f14)), (h_td, .inr (5, (mo21 v_td (.ref h_nam) (.ref h_var) (.ref h_trm) (.ref h_ter)))), (h_nam, .inl (cy_nam, 300, .inr (.inl f_nam))), (h_var, .inl (cy_var, 300, .inl f_var)), (h_trm, .inl (cy_trm, 300, .inl f_trm)), (h_ter, .inl (cy_ter, 900, .inl f_ter)), (h_wr, .inr (6, (mo38 v_wr (.ref h_td) (.ref h_wd) (.int z7) (.ref h_wh) (.int x15)))), (h_wd, .inl (cy_wd, 616, .inl f8))] → va_S A s.heap H locs → lv_has ls 5 [(0, .ref h_wr), (1, .int p1), (2, .int z1), (3, .int z10), (4, .int x13)] → W p l e ({ frames := 2, cells := 0, slots := 0, locals := 45 } : Room) s m ([.ref h_wr, .int p1] : List Value).toArray below meth c H locs 0 0 (MQ below (va_Qv (fun (u : (Int32) × (Int32) × (Nat → Int32) × (Nat → Int32)) => (0 ≤ (u.1).toInt ∧ (u.1).toInt ≤ 616) ∧ (0 ≤ (u.2.1).toInt ∧ (u.2.1).toInt ≤ 2048) ∧ (Rg (-127) 9599 u.2.2.2)) (fun (u : (Int32) × (Int32) × (Nat → Int32) × (Nat → Int32)) (t : State) => va_P (dC, dI) cls [(h_wr, .inr (6, (mo38 v_wr (.ref h_td) (.ref h_wd) (.int u.1) (.ref h_wh) (.int u.2.1)))), (h_wd, .inl (cy_wd, 616, .inl u.2.2.1)), (h_wh, .inl (cy_wh, 2048, .inl u.2.2.2)), (h_td, .inr (5, (mo21 v_td (.ref h_nam) (.ref h_var) (.ref h_trm) (.ref h_ter)))), (h_nam, .inl (cy_nam, 300, .inr (.inl f_nam))), (h_var, .inl (cy_var, 300, .inl f_var)), (h_trm, .inl (cy_trm, 300, .inl f_trm)), (h_ter, .inl (cy_ter, 900, .inl f_ter))] t.heap ∧ va_D A [(h_wr, .inr (6, (mo38 v_wr (.ref h_td) (.ref h_wd) (.int u.1) (.ref h_wh) (.int u.2.1)))), (h_wd, .inl (cy_wd, 616, .inl u.2.2.1)), (h_wh, .inl (cy_wh, 2048, .inl u.2.2.2)), (h_td, .inr (5, (mo21 v_td (.ref h_nam) (.ref h_var) (.ref h_trm) (.ref h_ter)))), (h_nam, .inl (cy_nam, 300, .inr (.inl f_nam))), (h_var, .inl (cy_var, 300, .inl f_var)), (h_trm, .inl (cy_trm, 300, .inl f_trm)), (h_ter, .inl (cy_ter, 900, .inl f_ter))]) A) ([.ref h_wr, .int p1] : List Value).toArray s 0 0 A) (F0 m 87 ls []) := by
        clear hP hD hS hl
        intro n
        induction n with
        | zero => intro x13 f14 x15 H locs ls klp16_0 hf14 klp16_2 hm hP hD hS hl; exact False.elim (by omega)
        | succ n ih => 
          intro x13 f14 x15 H locs ls klp16_0 hf14 klp16_2 hm hP hD hS hl
          have ih17 := ih
          clear ih
          refine lv_iload hx hb dX9_putPart_87 (lv_at hl 4 rfl) ?_
          refine lv_if_lt (tgt := 131) hx hb dX9_putPart_89 (by decide) (fun c18 => ?_) (fun c18 => ?_)
          · have kc18 := (cv_lt (rfl : (x13).toInt = (x13).toInt) (by decide : (0 : Int32).toInt = 0)).mp c18
            replace hP : va_P (dC, dI) cls [(h_wr, .inr (6, (mo38 v_wr (.ref h_td) (.ref h_wd) (.int z7) (.ref h_wh) (.int x15)))), (h_wd, .inl (cy_wd, 616, .inl f8)), (h_wh, .inl (cy_wh, 2048, .inl f14)), (h_td, .inr (5, (mo21 v_td (.ref h_nam) (.ref h_var) (.ref h_trm) (.ref h_ter)))), (h_nam, .inl (cy_nam, 300, .inr (.inl f_nam))), (h_var, .inl (cy_var, 300, .inl f_var)), (h_trm, .inl (cy_trm, 300, .inl f_trm)), (h_ter, .inl (cy_ter, 900, .inl f_ter))] H := hP.sub [6, 7, 0, 1, 2, 3, 4, 5] rfl
            replace hD : va_D A [(h_wr, .inr (6, (mo38 v_wr (.ref h_td) (.ref h_wd) (.int z7) (.ref h_wh) (.int x15)))), (h_wd, .inl (cy_wd, 616, .inl f8)), (h_wh, .inl (cy_wh, 2048, .inl f14)), (h_td, .inr (5, (mo21 v_td (.ref h_nam) (.ref h_var) (.ref h_trm) (.ref h_ter)))), (h_nam, .inl (cy_nam, 300, .inr (.inl f_nam))), (h_var, .inl (cy_var, 300, .inl f_var)), (h_trm, .inl (cy_trm, 300, .inl f_trm)), (h_ter, .inl (cy_ter, 900, .inl f_ter))] := hD.sub [6, 7, 0, 1, 2, 3, 4, 5] (by decide) rfl
            refine W.widen (k := 0) (n := 0) (Nat.le_of_ble_eq_true rfl) (Nat.le_of_ble_eq_true rfl) ?_
            have w19 : 0 ≤ ((z7)).toInt ∧ ((z7)).toInt ≤ 616 := by first | exact k9 | omega
            have w20 : 0 ≤ ((x15)).toInt ∧ ((x15)).toInt ≤ 2048 := by first | exact klp16_2 | omega
            exact W.vret hx hb hr (fun t ht hW => ⟨⟨(z7, x15, f8, f14), rfl, ⟨w19, w20, hf14⟩, by rw [ht]; exact hP, hD⟩, hS.F ht⟩) hS.2.2 dX9_putPart_131
          · have kc18 := (not_congr (cv_lt (rfl : (x13).toInt = (x13).toInt) (by decide : (0 : Int32).toInt = 0))).mp c18
            refine lv_aload_n hx hb dX9_putPart_92 rfl (lv_at hl 0 rfl) ?_
            refine lv_iload_n hx hb dX9_putPart_93 rfl (lv_at hl 1 rfl) ?_
            refine lv_iload_n hx hb dX9_putPart_94 rfl (lv_at hl 2 rfl) ?_
            refine lv_isub hx hb dX9_putPart_95 ?_
            refine lv_topi (fun z21 ez21 => ?_)
            have tz21 : (z21).toInt = (p1).toInt - (z1).toInt := by rw [ez21]; exact i_sub rfl rfl (by omega)
            have sz21 : 0 ≤ (z21).toInt ∧ (z21).toInt ≤ 9300 := by omega
            refine lv_aload_n hx hb dX9_putPart_96 rfl (lv_at hl 0 rfl) ?_
            refine va_get (D := (dC, dI)) (ci := 6) (v := .ref h_td) (C := RX9) (T := TX9) (N := 8) hx hb hw iwX9 hown hK hP 6 rfl rfl 0 (by decide) (hw _ w_f_X9_21) (fun _ h9 => h9) rfl dX9_putPart_97 ?_
            refine va_getN (D := (dC, dI)) (ci := 5) (v := .ref h_ter) (C := RX8) (T := TX8) (N := 10) (host := "OppositePairs") hx hb hw iwX8 hown hK hP 1 rfl rfl 3 (by decide) (hN.use n_f_X9_81 rfl) (fun _ h9 => h9) rfl dX9_putPart_100 ?_
            refine lv_iload_n hx hb dX9_putPart_103 rfl (lv_at hl 2 rfl) ?_
            refine lv_iconst (v := 3) hx hb dX9_putPart_104 (by decide) ?_
            refine lv_imul hx hb dX9_putPart_105 ?_
            refine lv_topi (fun z22 ez22 => ?_)
            have tz22 : (z22).toInt = (z1).toInt * 3 := by rw [ez22]; exact i_mul rfl (by decide) (by omega)
            refine lv_iload hx hb dX9_putPart_106 (lv_at hl 4 rfl) ?_
            refine lv_iadd hx hb dX9_putPart_108 ?_
            refine lv_topi (fun z23 ez23 => ?_)
            have tz23 : (z23).toInt = (z22).toInt + (x13).toInt := by rw [ez23]; exact i_add rfl rfl (by omega)
            refine va_iald hx hb hK hP 5 5 rfl rfl (i := z23) (vp_in_iff.mpr (by omega)) dX9_putPart_109 ?_
            refine lv_topi (fun z24 ez24 => ?_)
            have rz24 : 0 ≤ (z24).toInt ∧ (z24).toInt ≤ 299 := by rw [ez24]; exact hf_ter _
            refine lv_iadd hx hb dX9_putPart_110 ?_
            refine lv_topi (fun z25 ez25 => ?_)
            have tz25 : (z25).toInt = (z21).toInt + (z24).toInt := by rw [ez25]; exact i_add rfl rfl (by omega)
            obtain ⟨vq26, evq26⟩ := mq38_37 v_wr (.ref h_td) (.ref h_wd) (.int z7)
            replace hP : va_P (dC, dI) cls [(h_wh, .inl (cy_wh, 2048, .inl f14)), (h_td, .inr (5, (mo21 v_td (.ref h_nam) (.ref h_var) (.ref h_trm) (.ref h_ter)))), (h_nam, .inl (cy_nam, 300, .inr (.inl f_nam))), (h_var, .inl (cy_var, 300, .inl f_var)), (h_trm, .inl (cy_trm, 300, .inl f_trm)), (h_ter, .inl (cy_ter, 900, .inl f_ter)), (h_wr, .inr (6, (mo37 vq26 (.ref h_wh) (.int x15)))), (h_wd, .inl (cy_wd, 616, .inl f8))] H := by rw [evq26]; exact hP
            replace hD : va_D A [(h_wh, .inl (cy_wh, 2048, .inl f14)), (h_td, .inr (5, (mo21 v_td (.ref h_nam) (.ref h_var) (.ref h_trm) (.ref h_ter)))), (h_nam, .inl (cy_nam, 300, .inr (.inl f_nam))), (h_var, .inl (cy_var, 300, .inl f_var)), (h_trm, .inl (cy_trm, 300, .inl f_trm)), (h_ter, .inl (cy_ter, 900, .inl f_ter)), (h_wr, .inr (6, (mo37 vq26 (.ref h_wh) (.int x15)))), (h_wd, .inl (cy_wd, 616, .inl f8))] := by rw [evq26]; exact hD
            have hPc := hP.sub (ws' := [(h_wr, .inr (6, (mo37 vq26 (.ref h_wh) (.int x15)))), (h_wh, .inl (cy_wh, 2048, .inl f14))]) [6, 0] rfl
            have hDc := hD.sub (ws' := [(h_wr, .inr (6, (mo37 vq26 (.ref h_wh) (.int x15)))), (h_wh, .inl (cy_wh, 2048, .inl f14))]) [6, 0] (by decide) rfl
            have hKc := hK.sub (tys' := [(cy_wh, .int)]) [1] rfl
            have hFc := va_free (wc := [(h_wr, .inr (6, (mo37 vq26 (.ref h_wh) (.int x15)))), (h_wh, .inl (cy_wh, 2048, .inl f14))]) hD hS hA [6, 0] rfl
            refine va_callv (va_runV (As := [.int z25]) (rest := []) ⟨hx, hb, hml, hown, hts⟩ (c_X9_push l dC dI H.size h_wr h_wh vq26 x15 cy_wh f14 z25 (by first | exact klp16_2 | omega) hf14 (by omega)) (cwV 1 hts (gv hT w_m_X9_78 w_instanceMethod_X9_push ws_sel_X9_push w_ini_X9 w_code_X9_push) rfl rfl rfl (by decide +kernel) ⟨(Nat.le_of_ble_eq_true rfl), (Nat.le_of_ble_eq_true rfl)⟩) ⟨pre_blind, va_recv hK hP (ci := 6) (q0 := 6) rfl rfl, pre_of hPc hKc hDc hN⟩ rfl rfl hl.1 rfl (lv_room (Nat.le_of_ble_eq_true rfl)) dX9_putPart_111 ⟨(Nat.le_of_ble_eq_true rfl), (Nat.le_of_ble_eq_true rfl)⟩) hS (fun q _ h => hFc q h) hFc (fun u t H locs ht hvm hq hB hz1 hk1 hS9 => ?_)
            obtain ⟨z28, f29⟩ := u
            obtain ⟨hP1, hD1⟩ := hB
            rw [ht] at hP1
            obtain ⟨hP9, hD9⟩ := va_join (wr := [(h_td, .inr (5, (mo21 v_td (.ref h_nam) (.ref h_var) (.ref h_trm) (.ref h_ter)))), (h_nam, .inl (cy_nam, 300, .inr (.inl f_nam))), (h_var, .inl (cy_var, 300, .inl f_var)), (h_trm, .inl (cy_trm, 300, .inl f_trm)), (h_ter, .inl (cy_ter, 900, .inl f_ter)), (h_wd, .inl (cy_wd, 616, .inl f8))]) (w1 := [(h_wr, .inr (6, (mo37 vq26 (.ref h_wh) (.int z28)))), (h_wh, .inl (cy_wh, 2048, .inl f29))]) hP hD [6, 0] [1, 2, 3, 4, 5, 7] rfl rfl (by decide) (by decide) hk1 hFc hP1 hD1
            clear hP hD hS hPc hDc hKc hFc hP1 hD1 hk1 hz1 ht hvm
            have hP : va_P (dC, dI) cls [(h_td, .inr (5, (mo21 v_td (.ref h_nam) (.ref h_var) (.ref h_trm) (.ref h_ter)))), (h_nam, .inl (cy_nam, 300, .inr (.inl f_nam))), (h_var, .inl (cy_var, 300, .inl f_var)), (h_trm, .inl (cy_trm, 300, .inl f_trm)), (h_ter, .inl (cy_ter, 900, .inl f_ter)), (h_wd, .inl (cy_wd, 616, .inl f8)), (h_wr, .inr (6, (mo37 vq26 (.ref h_wh) (.int z28)))), (h_wh, .inl (cy_wh, 2048, .inl f29))] H := hP9
            have hD : va_D A [(h_td, .inr (5, (mo21 v_td (.ref h_nam) (.ref h_var) (.ref h_trm) (.ref h_ter)))), (h_nam, .inl (cy_nam, 300, .inr (.inl f_nam))), (h_var, .inl (cy_var, 300, .inl f_var)), (h_trm, .inl (cy_trm, 300, .inl f_trm)), (h_ter, .inl (cy_ter, 900, .inl f_ter)), (h_wd, .inl (cy_wd, 616, .inl f8)), (h_wr, .inr (6, (mo37 vq26 (.ref h_wh) (.int z28)))), (h_wh, .inl (cy_wh, 2048, .inl f29))] := hD9
            have hS := hS9
            clear hP9 hD9 hS9
            rw [evq26] at hP hD
            replace hP : va_P (dC, dI) cls [(h_td, .inr (5, (mo21 v_td (.ref h_nam) (.ref h_var) (.ref h_trm) (.ref h_ter)))), (h_nam, .inl (cy_nam, 300, .inr (.inl f_nam))), (h_var, .inl (cy_var, 300, .inl f_var)), (h_trm, .inl (cy_trm, 300, .inl f_trm)), (h_ter, .inl (cy_ter, 900, .inl f_ter)), (h_wd, .inl (cy_wd, 616, .inl f8)), (h_wr, .inr (6, (mo38 v_wr (.ref h_td) (.ref h_wd) (.int z7) (.ref h_wh) (.int z28)))), (h_wh, .inl (cy_wh, 2048, .inl f29))] H := hP
            replace hD : va_D A [(h_td, .inr (5, (mo21 v_td (.ref h_nam) (.ref h_var) (.ref h_trm) (.ref h_ter)))), (h_nam, .inl (cy_nam, 300, .inr (.inl f_nam))), (h_var, .inl (cy_var, 300, .inl f_var)), (h_trm, .inl (cy_trm, 300, .inl f_trm)), (h_ter, .inl (cy_ter, 900, .inl f_ter)), (h_wd, .inl (cy_wd, 616, .inl f8)), (h_wr, .inr (6, (mo38 v_wr (.ref h_td) (.ref h_wd) (.int z7) (.ref h_wh) (.int z28)))), (h_wh, .inl (cy_wh, 2048, .inl f29))] := hD
            clear evq26 
            obtain ⟨k30, hf29⟩ := hq
            replace k30 : 0 ≤ ((z28)).toInt ∧ ((z28)).toInt ≤ 2048 := k30
            replace hf29 : Rg (-127) 9599 (f29) := hf29
            refine lv_iload hx hb dX9_putPart_114 (lv_at hl 4 rfl) ?_
            refine lv_if_le (tgt := 125) hx hb dX9_putPart_116 (by decide) (fun c31 => ?_) (fun c31 => ?_)
            · have kc31 := (cv_le (rfl : (x13).toInt = (x13).toInt) (by decide : (0 : Int32).toInt = 0)).mp c31
              obtain ⟨z32, ez32⟩ : ∃ y : Int32, y = x13 + (-1) := ⟨_, rfl⟩
              have tz32 : (z32).toInt = (x13).toInt + -1 := by rw [ez32]; exact i_add rfl (by decide) (by omega)
              refine lv_iinc (v := z32) (lv' := [(4, .int z32), (0, .ref h_wr), (1, .int p1), (2, .int z1), (3, .int z10)]) hx hb dX9_putPart_125 hl (k := 4) rfl (by rw [ez32]; rfl) (by decide) rfl (fun ls hl => ?_)
              refine lv_goto (tgt := 87) hx hb dX9_putPart_128 (by decide) ?_
              replace hP : va_P (dC, dI) cls [(h_wh, .inl (cy_wh, 2048, .inl f29)), (h_td, .inr (5, (mo21 v_td (.ref h_nam) (.ref h_var) (.ref h_trm) (.ref h_ter)))), (h_nam, .inl (cy_nam, 300, .inr (.inl f_nam))), (h_var, .inl (cy_var, 300, .inl f_var)), (h_trm, .inl (cy_trm, 300, .inl f_trm)), (h_ter, .inl (cy_ter, 900, .inl f_ter)), (h_wr, .inr (6, (mo38 v_wr (.ref h_td) (.ref h_wd) (.int z7) (.ref h_wh) (.int z28)))), (h_wd, .inl (cy_wd, 616, .inl f8))] H := hP.sub [7, 0, 1, 2, 3, 4, 6, 5] rfl
              replace hD : va_D A [(h_wh, .inl (cy_wh, 2048, .inl f29)), (h_td, .inr (5, (mo21 v_td (.ref h_nam) (.ref h_var) (.ref h_trm) (.ref h_ter)))), (h_nam, .inl (cy_nam, 300, .inr (.inl f_nam))), (h_var, .inl (cy_var, 300, .inl f_var)), (h_trm, .inl (cy_trm, 300, .inl f_trm)), (h_ter, .inl (cy_ter, 900, .inl f_ter)), (h_wr, .inr (6, (mo38 v_wr (.ref h_td) (.ref h_wd) (.int z7) (.ref h_wh) (.int z28)))), (h_wd, .inl (cy_wd, 616, .inl f8))] := hD.sub [7, 0, 1, 2, 3, 4, 6, 5] (by decide) rfl
              exact ih17 (z32) (f29) (z28) _ _ _ (by omega) hf29 (by first | exact k30 | omega) (by omega) hP hD hS (lv_sub hl [1, 2, 3, 4, 0] rfl)
            · have kc31 := (not_congr (cv_le (rfl : (x13).toInt = (x13).toInt) (by decide : (0 : Int32).toInt = 0))).mp c31
              refine lv_aload_n hx hb dX9_putPart_119 rfl (lv_at hl 0 rfl) ?_
              refine lv_bipush (v := (-44)) hx hb dX9_putPart_120 (by decide) ?_
              obtain ⟨vq33, evq33⟩ := mq38_37 v_wr (.ref h_td) (.ref h_wd) (.int z7)
              replace hP : va_P (dC, dI) cls [(h_td, .inr (5, (mo21 v_td (.ref h_nam) (.ref h_var) (.ref h_trm) (.ref h_ter)))), (h_nam, .inl (cy_nam, 300, .inr (.inl f_nam))), (h_var, .inl (cy_var, 300, .inl f_var)), (h_trm, .inl (cy_trm, 300, .inl f_trm)), (h_ter, .inl (cy_ter, 900, .inl f_ter)), (h_wd, .inl (cy_wd, 616, .inl f8)), (h_wr, .inr (6, (mo37 vq33 (.ref h_wh) (.int z28)))), (h_wh, .inl (cy_wh, 2048, .inl f29))] H := by rw [evq33]; exact hP
              replace hD : va_D A [(h_td, .inr (5, (mo21 v_td (.ref h_nam) (.ref h_var) (.ref h_trm) (.ref h_ter)))), (h_nam, .inl (cy_nam, 300, .inr (.inl f_nam))), (h_var, .inl (cy_var, 300, .inl f_var)), (h_trm, .inl (cy_trm, 300, .inl f_trm)), (h_ter, .inl (cy_ter, 900, .inl f_ter)), (h_wd, .inl (cy_wd, 616, .inl f8)), (h_wr, .inr (6, (mo37 vq33 (.ref h_wh) (.int z28)))), (h_wh, .inl (cy_wh, 2048, .inl f29))] := by rw [evq33]; exact hD
              have cstm44 : ((-44) : Int32).toInt = -44 := by decide
              have hPc := hP.sub (ws' := [(h_wr, .inr (6, (mo37 vq33 (.ref h_wh) (.int z28)))), (h_wh, .inl (cy_wh, 2048, .inl f29))]) [6, 7] rfl
              have hDc := hD.sub (ws' := [(h_wr, .inr (6, (mo37 vq33 (.ref h_wh) (.int z28)))), (h_wh, .inl (cy_wh, 2048, .inl f29))]) [6, 7] (by decide) rfl
              have hKc := hK.sub (tys' := [(cy_wh, .int)]) [1] rfl
              have hFc := va_free (wc := [(h_wr, .inr (6, (mo37 vq33 (.ref h_wh) (.int z28)))), (h_wh, .inl (cy_wh, 2048, .inl f29))]) hD hS hA [6, 7] rfl
              refine va_callv (va_runV (As := [.int (-44)]) (rest := []) ⟨hx, hb, hml, hown, hts⟩ (c_X9_push l dC dI H.size h_wr h_wh vq33 z28 cy_wh f29 (-44) (by first | exact k30 | omega) hf29 (by omega)) (cwV 1 hts (gv hT w_m_X9_78 w_instanceMethod_X9_push ws_sel_X9_push w_ini_X9 w_code_X9_push) rfl rfl rfl (by decide +kernel) ⟨(Nat.le_of_ble_eq_true rfl), (Nat.le_of_ble_eq_true rfl)⟩) ⟨pre_blind, va_recv hK hP (ci := 6) (q0 := 6) rfl rfl, pre_of hPc hKc hDc hN⟩ rfl rfl hl.1 rfl (lv_room (Nat.le_of_ble_eq_true rfl)) dX9_putPart_122 ⟨(Nat.le_of_ble_eq_true rfl), (Nat.le_of_ble_eq_true rfl)⟩) hS (fun q _ h => hFc q h) hFc (fun u t H locs ht hvm hq hB hz1 hk1 hS9 => ?_)
              obtain ⟨z35, f36⟩ := u
              obtain ⟨hP1, hD1⟩ := hB
              rw [ht] at hP1
              obtain ⟨hP9, hD9⟩ := va_join (wr := [(h_td, .inr (5, (mo21 v_td (.ref h_nam) (.ref h_var) (.ref h_trm) (.ref h_ter)))), (h_nam, .inl (cy_nam, 300, .inr (.inl f_nam))), (h_var, .inl (cy_var, 300, .inl f_var)), (h_trm, .inl (cy_trm, 300, .inl f_trm)), (h_ter, .inl (cy_ter, 900, .inl f_ter)), (h_wd, .inl (cy_wd, 616, .inl f8))]) (w1 := [(h_wr, .inr (6, (mo37 vq33 (.ref h_wh) (.int z35)))), (h_wh, .inl (cy_wh, 2048, .inl f36))]) hP hD [6, 7] [0, 1, 2, 3, 4, 5] rfl rfl (by decide) (by decide) hk1 hFc hP1 hD1
              clear hP hD hS hPc hDc hKc hFc hP1 hD1 hk1 hz1 ht hvm
              have hP : va_P (dC, dI) cls [(h_td, .inr (5, (mo21 v_td (.ref h_nam) (.ref h_var) (.ref h_trm) (.ref h_ter)))), (h_nam, .inl (cy_nam, 300, .inr (.inl f_nam))), (h_var, .inl (cy_var, 300, .inl f_var)), (h_trm, .inl (cy_trm, 300, .inl f_trm)), (h_ter, .inl (cy_ter, 900, .inl f_ter)), (h_wd, .inl (cy_wd, 616, .inl f8)), (h_wr, .inr (6, (mo37 vq33 (.ref h_wh) (.int z35)))), (h_wh, .inl (cy_wh, 2048, .inl f36))] H := hP9
              have hD : va_D A [(h_td, .inr (5, (mo21 v_td (.ref h_nam) (.ref h_var) (.ref h_trm) (.ref h_ter)))), (h_nam, .inl (cy_nam, 300, .inr (.inl f_nam))), (h_var, .inl (cy_var, 300, .inl f_var)), (h_trm, .inl (cy_trm, 300, .inl f_trm)), (h_ter, .inl (cy_ter, 900, .inl f_ter)), (h_wd, .inl (cy_wd, 616, .inl f8)), (h_wr, .inr (6, (mo37 vq33 (.ref h_wh) (.int z35)))), (h_wh, .inl (cy_wh, 2048, .inl f36))] := hD9
              have hS := hS9
              clear hP9 hD9 hS9
              rw [evq33] at hP hD
              replace hP : va_P (dC, dI) cls [(h_td, .inr (5, (mo21 v_td (.ref h_nam) (.ref h_var) (.ref h_trm) (.ref h_ter)))), (h_nam, .inl (cy_nam, 300, .inr (.inl f_nam))), (h_var, .inl (cy_var, 300, .inl f_var)), (h_trm, .inl (cy_trm, 300, .inl f_trm)), (h_ter, .inl (cy_ter, 900, .inl f_ter)), (h_wd, .inl (cy_wd, 616, .inl f8)), (h_wr, .inr (6, (mo38 v_wr (.ref h_td) (.ref h_wd) (.int z7) (.ref h_wh) (.int z35)))), (h_wh, .inl (cy_wh, 2048, .inl f36))] H := hP
              replace hD : va_D A [(h_td, .inr (5, (mo21 v_td (.ref h_nam) (.ref h_var) (.ref h_trm) (.ref h_ter)))), (h_nam, .inl (cy_nam, 300, .inr (.inl f_nam))), (h_var, .inl (cy_var, 300, .inl f_var)), (h_trm, .inl (cy_trm, 300, .inl f_trm)), (h_ter, .inl (cy_ter, 900, .inl f_ter)), (h_wd, .inl (cy_wd, 616, .inl f8)), (h_wr, .inr (6, (mo38 v_wr (.ref h_td) (.ref h_wd) (.int z7) (.ref h_wh) (.int z35)))), (h_wh, .inl (cy_wh, 2048, .inl f36))] := hD
              clear evq33 
              obtain ⟨k37, hf36⟩ := hq
              replace k37 : 0 ≤ ((z35)).toInt ∧ ((z35)).toInt ≤ 2048 := k37
              replace hf36 : Rg (-127) 9599 (f36) := hf36
              obtain ⟨z38, ez38⟩ : ∃ y : Int32, y = x13 + (-1) := ⟨_, rfl⟩
              have tz38 : (z38).toInt = (x13).toInt + -1 := by rw [ez38]; exact i_add rfl (by decide) (by omega)
              refine lv_iinc (v := z38) (lv' := [(4, .int z38), (0, .ref h_wr), (1, .int p1), (2, .int z1), (3, .int z10)]) hx hb dX9_putPart_125 hl (k := 4) rfl (by rw [ez38]; rfl) (by decide) rfl (fun ls hl => ?_)
              refine lv_goto (tgt := 87) hx hb dX9_putPart_128 (by decide) ?_
              replace hP : va_P (dC, dI) cls [(h_wh, .inl (cy_wh, 2048, .inl f36)), (h_td, .inr (5, (mo21 v_td (.ref h_nam) (.ref h_var) (.ref h_trm) (.ref h_ter)))), (h_nam, .inl (cy_nam, 300, .inr (.inl f_nam))), (h_var, .inl (cy_var, 300, .inl f_var)), (h_trm, .inl (cy_trm, 300, .inl f_trm)), (h_ter, .inl (cy_ter, 900, .inl f_ter)), (h_wr, .inr (6, (mo38 v_wr (.ref h_td) (.ref h_wd) (.int z7) (.ref h_wh) (.int z35)))), (h_wd, .inl (cy_wd, 616, .inl f8))] H := hP.sub [7, 0, 1, 2, 3, 4, 6, 5] rfl
              replace hD : va_D A [(h_wh, .inl (cy_wh, 2048, .inl f36)), (h_td, .inr (5, (mo21 v_td (.ref h_nam) (.ref h_var) (.ref h_trm) (.ref h_ter)))), (h_nam, .inl (cy_nam, 300, .inr (.inl f_nam))), (h_var, .inl (cy_var, 300, .inl f_var)), (h_trm, .inl (cy_trm, 300, .inl f_trm)), (h_ter, .inl (cy_ter, 900, .inl f_ter)), (h_wr, .inr (6, (mo38 v_wr (.ref h_td) (.ref h_wd) (.int z7) (.ref h_wh) (.int z35)))), (h_wd, .inl (cy_wd, 616, .inl f8))] := hD.sub [7, 0, 1, 2, 3, 4, 6, 5] (by decide) rfl
              exact ih17 (z38) (f36) (z35) _ _ _ (by omega) hf36 (by first | exact k37 | omega) (by omega) hP hD hS (lv_sub hl [1, 2, 3, 4, 0] rfl)
      exact lp16 _ (z12) (f_wh) (x_wr_held) _ _ _ (by omega) hf_wh (by first | exact hx_wr_held | omega) (Nat.le_refl _) hP hD hS (lv_sub hl [3, 4, 2, 1, 0] rfl)
    · have kc11 := (not_congr (cv_le (rfl : (z10).toInt = (z10).toInt) (by decide : (0 : Int32).toInt = 0))).mp c11
      refine lv_aload_n hx hb dX9_putPart_70 rfl (lv_at hl 2 rfl) ?_
      refine lv_bipush (v := 40) hx hb dX9_putPart_71 (by decide) ?_
      obtain ⟨vq39, evq39⟩ := mq38_36 v_wr (.ref h_td) (.ref h_wh) (.int x_wr_held)
      replace hP : va_P (dC, dI) cls [(h_wh, .inl (cy_wh, 2048, .inl f_wh)), (h_td, .inr (5, (mo21 v_td (.ref h_nam) (.ref h_var) (.ref h_trm) (.ref h_ter)))), (h_nam, .inl (cy_nam, 300, .inr (.inl f_nam))), (h_var, .inl (cy_var, 300, .inl f_var)), (h_trm, .inl (cy_trm, 300, .inl f_trm)), (h_ter, .inl (cy_ter, 900, .inl f_ter)), (h_wr, .inr (6, (mo36 vq39 (.ref h_wd) (.int z7)))), (h_wd, .inl (cy_wd, 616, .inl f8))] H := by rw [evq39]; exact hP
      replace hD : va_D A [(h_wh, .inl (cy_wh, 2048, .inl f_wh)), (h_td, .inr (5, (mo21 v_td (.ref h_nam) (.ref h_var) (.ref h_trm) (.ref h_ter)))), (h_nam, .inl (cy_nam, 300, .inr (.inl f_nam))), (h_var, .inl (cy_var, 300, .inl f_var)), (h_trm, .inl (cy_trm, 300, .inl f_trm)), (h_ter, .inl (cy_ter, 900, .inl f_ter)), (h_wr, .inr (6, (mo36 vq39 (.ref h_wd) (.int z7)))), (h_wd, .inl (cy_wd, 616, .inl f8))] := by rw [evq39]; exact hD
      have cst40 : (40 : Int32).toInt = 40 := by decide
      have hPc := hP.sub (ws' := [(h_wr, .inr (6, (mo36 vq39 (.ref h_wd) (.int z7)))), (h_wd, .inl (cy_wd, 616, .inl f8))]) [6, 7] rfl
      have hDc := hD.sub (ws' := [(h_wr, .inr (6, (mo36 vq39 (.ref h_wd) (.int z7)))), (h_wd, .inl (cy_wd, 616, .inl f8))]) [6, 7] (by decide) rfl
      have hKc := hK.sub (tys' := [(cy_wd, .int)]) [0] rfl
      have hFc := va_free (wc := [(h_wr, .inr (6, (mo36 vq39 (.ref h_wd) (.int z7)))), (h_wd, .inl (cy_wd, 616, .inl f8))]) hD hS hA [6, 7] rfl
      refine va_callv (va_runV (As := [.int 40]) (rest := []) ⟨hx, hb, hml, hown, hts⟩ (c_X9_put l dC dI H.size h_wr h_wd vq39 z7 cy_wd f8 40 (by first | exact k9 | omega)) (cwV 1 hts (gv hT w_m_X9_33 w_instanceMethod_X9_put ws_sel_X9_put w_ini_X9 w_code_X9_put) rfl rfl rfl (by decide +kernel) ⟨(Nat.le_of_ble_eq_true rfl), (Nat.le_of_ble_eq_true rfl)⟩) ⟨pre_blind, va_recv hK hP (ci := 6) (q0 := 6) rfl rfl, pre_of hPc hKc hDc hN⟩ rfl rfl hl.1 rfl (lv_room (Nat.le_of_ble_eq_true rfl)) dX9_putPart_73 ⟨(Nat.le_of_ble_eq_true rfl), (Nat.le_of_ble_eq_true rfl)⟩) hS (fun q _ h => hFc q h) hFc (fun u t H locs ht hvm hq hB hz1 hk1 hS9 => ?_)
      obtain ⟨z41, f42⟩ := u
      obtain ⟨hP1, hD1⟩ := hB
      rw [ht] at hP1
      obtain ⟨hP9, hD9⟩ := va_join (wr := [(h_wh, .inl (cy_wh, 2048, .inl f_wh)), (h_td, .inr (5, (mo21 v_td (.ref h_nam) (.ref h_var) (.ref h_trm) (.ref h_ter)))), (h_nam, .inl (cy_nam, 300, .inr (.inl f_nam))), (h_var, .inl (cy_var, 300, .inl f_var)), (h_trm, .inl (cy_trm, 300, .inl f_trm)), (h_ter, .inl (cy_ter, 900, .inl f_ter))]) (w1 := [(h_wr, .inr (6, (mo36 vq39 (.ref h_wd) (.int z41)))), (h_wd, .inl (cy_wd, 616, .inl f42))]) hP hD [6, 7] [0, 1, 2, 3, 4, 5] rfl rfl (by decide) (by decide) hk1 hFc hP1 hD1
      clear hP hD hS hPc hDc hKc hFc hP1 hD1 hk1 hz1 ht hvm
      have hP : va_P (dC, dI) cls [(h_wh, .inl (cy_wh, 2048, .inl f_wh)), (h_td, .inr (5, (mo21 v_td (.ref h_nam) (.ref h_var) (.ref h_trm) (.ref h_ter)))), (h_nam, .inl (cy_nam, 300, .inr (.inl f_nam))), (h_var, .inl (cy_var, 300, .inl f_var)), (h_trm, .inl (cy_trm, 300, .inl f_trm)), (h_ter, .inl (cy_ter, 900, .inl f_ter)), (h_wr, .inr (6, (mo36 vq39 (.ref h_wd) (.int z41)))), (h_wd, .inl (cy_wd, 616, .inl f42))] H := hP9
      have hD : va_D A [(h_wh, .inl (cy_wh, 2048, .inl f_wh)), (h_td, .inr (5, (mo21 v_td (.ref h_nam) (.ref h_var) (.ref h_trm) (.ref h_ter)))), (h_nam, .inl (cy_nam, 300, .inr (.inl f_nam))), (h_var, .inl (cy_var, 300, .inl f_var)), (h_trm, .inl (cy_trm, 300, .inl f_trm)), (h_ter, .inl (cy_ter, 900, .inl f_ter)), (h_wr, .inr (6, (mo36 vq39 (.ref h_wd) (.int z41)))), (h_wd, .inl (cy_wd, 616, .inl f42))] := hD9
      have hS := hS9
      clear hP9 hD9 hS9
      rw [evq39] at hP hD
      replace hP : va_P (dC, dI) cls [(h_wh, .inl (cy_wh, 2048, .inl f_wh)), (h_td, .inr (5, (mo21 v_td (.ref h_nam) (.ref h_var) (.ref h_trm) (.ref h_ter)))), (h_nam, .inl (cy_nam, 300, .inr (.inl f_nam))), (h_var, .inl (cy_var, 300, .inl f_var)), (h_trm, .inl (cy_trm, 300, .inl f_trm)), (h_ter, .inl (cy_ter, 900, .inl f_ter)), (h_wr, .inr (6, (mo38 v_wr (.ref h_td) (.ref h_wd) (.int z41) (.ref h_wh) (.int x_wr_held)))), (h_wd, .inl (cy_wd, 616, .inl f42))] H := hP
      replace hD : va_D A [(h_wh, .inl (cy_wh, 2048, .inl f_wh)), (h_td, .inr (5, (mo21 v_td (.ref h_nam) (.ref h_var) (.ref h_trm) (.ref h_ter)))), (h_nam, .inl (cy_nam, 300, .inr (.inl f_nam))), (h_var, .inl (cy_var, 300, .inl f_var)), (h_trm, .inl (cy_trm, 300, .inl f_trm)), (h_ter, .inl (cy_ter, 900, .inl f_ter)), (h_wr, .inr (6, (mo38 v_wr (.ref h_td) (.ref h_wd) (.int z41) (.ref h_wh) (.int x_wr_held)))), (h_wd, .inl (cy_wd, 616, .inl f42))] := hD
      clear evq39 
      have k43 : 0 ≤ ((z41)).toInt ∧ ((z41)).toInt ≤ 616 := hq
      clear hq
      refine lv_aload_n hx hb dX9_putPart_76 rfl (lv_at hl 2 rfl) ?_
      refine lv_bipush (v := (-41)) hx hb dX9_putPart_77 (by decide) ?_
      obtain ⟨vq44, evq44⟩ := mq38_37 v_wr (.ref h_td) (.ref h_wd) (.int z41)
      replace hP : va_P (dC, dI) cls [(h_wh, .inl (cy_wh, 2048, .inl f_wh)), (h_td, .inr (5, (mo21 v_td (.ref h_nam) (.ref h_var) (.ref h_trm) (.ref h_ter)))), (h_nam, .inl (cy_nam, 300, .inr (.inl f_nam))), (h_var, .inl (cy_var, 300, .inl f_var)), (h_trm, .inl (cy_trm, 300, .inl f_trm)), (h_ter, .inl (cy_ter, 900, .inl f_ter)), (h_wr, .inr (6, (mo37 vq44 (.ref h_wh) (.int x_wr_held)))), (h_wd, .inl (cy_wd, 616, .inl f42))] H := by rw [evq44]; exact hP
      replace hD : va_D A [(h_wh, .inl (cy_wh, 2048, .inl f_wh)), (h_td, .inr (5, (mo21 v_td (.ref h_nam) (.ref h_var) (.ref h_trm) (.ref h_ter)))), (h_nam, .inl (cy_nam, 300, .inr (.inl f_nam))), (h_var, .inl (cy_var, 300, .inl f_var)), (h_trm, .inl (cy_trm, 300, .inl f_trm)), (h_ter, .inl (cy_ter, 900, .inl f_ter)), (h_wr, .inr (6, (mo37 vq44 (.ref h_wh) (.int x_wr_held)))), (h_wd, .inl (cy_wd, 616, .inl f42))] := by rw [evq44]; exact hD
      have cstm41 : ((-41) : Int32).toInt = -41 := by decide
      have hPc := hP.sub (ws' := [(h_wr, .inr (6, (mo37 vq44 (.ref h_wh) (.int x_wr_held)))), (h_wh, .inl (cy_wh, 2048, .inl f_wh))]) [6, 0] rfl
      have hDc := hD.sub (ws' := [(h_wr, .inr (6, (mo37 vq44 (.ref h_wh) (.int x_wr_held)))), (h_wh, .inl (cy_wh, 2048, .inl f_wh))]) [6, 0] (by decide) rfl
      have hKc := hK.sub (tys' := [(cy_wh, .int)]) [1] rfl
      have hFc := va_free (wc := [(h_wr, .inr (6, (mo37 vq44 (.ref h_wh) (.int x_wr_held)))), (h_wh, .inl (cy_wh, 2048, .inl f_wh))]) hD hS hA [6, 0] rfl
      refine va_callv (va_runV (As := [.int (-41)]) (rest := []) ⟨hx, hb, hml, hown, hts⟩ (c_X9_push l dC dI H.size h_wr h_wh vq44 x_wr_held cy_wh f_wh (-41) (by first | exact hx_wr_held | omega) hf_wh (by omega)) (cwV 1 hts (gv hT w_m_X9_78 w_instanceMethod_X9_push ws_sel_X9_push w_ini_X9 w_code_X9_push) rfl rfl rfl (by decide +kernel) ⟨(Nat.le_of_ble_eq_true rfl), (Nat.le_of_ble_eq_true rfl)⟩) ⟨pre_blind, va_recv hK hP (ci := 6) (q0 := 6) rfl rfl, pre_of hPc hKc hDc hN⟩ rfl rfl hl.1 rfl (lv_room (Nat.le_of_ble_eq_true rfl)) dX9_putPart_79 ⟨(Nat.le_of_ble_eq_true rfl), (Nat.le_of_ble_eq_true rfl)⟩) hS (fun q _ h => hFc q h) hFc (fun u t H locs ht hvm hq hB hz1 hk1 hS9 => ?_)
      obtain ⟨z46, f47⟩ := u
      obtain ⟨hP1, hD1⟩ := hB
      rw [ht] at hP1
      obtain ⟨hP9, hD9⟩ := va_join (wr := [(h_td, .inr (5, (mo21 v_td (.ref h_nam) (.ref h_var) (.ref h_trm) (.ref h_ter)))), (h_nam, .inl (cy_nam, 300, .inr (.inl f_nam))), (h_var, .inl (cy_var, 300, .inl f_var)), (h_trm, .inl (cy_trm, 300, .inl f_trm)), (h_ter, .inl (cy_ter, 900, .inl f_ter)), (h_wd, .inl (cy_wd, 616, .inl f42))]) (w1 := [(h_wr, .inr (6, (mo37 vq44 (.ref h_wh) (.int z46)))), (h_wh, .inl (cy_wh, 2048, .inl f47))]) hP hD [6, 0] [1, 2, 3, 4, 5, 7] rfl rfl (by decide) (by decide) hk1 hFc hP1 hD1
      clear hP hD hS hPc hDc hKc hFc hP1 hD1 hk1 hz1 ht hvm
      have hP : va_P (dC, dI) cls [(h_td, .inr (5, (mo21 v_td (.ref h_nam) (.ref h_var) (.ref h_trm) (.ref h_ter)))), (h_nam, .inl (cy_nam, 300, .inr (.inl f_nam))), (h_var, .inl (cy_var, 300, .inl f_var)), (h_trm, .inl (cy_trm, 300, .inl f_trm)), (h_ter, .inl (cy_ter, 900, .inl f_ter)), (h_wd, .inl (cy_wd, 616, .inl f42)), (h_wr, .inr (6, (mo37 vq44 (.ref h_wh) (.int z46)))), (h_wh, .inl (cy_wh, 2048, .inl f47))] H := hP9
      have hD : va_D A [(h_td, .inr (5, (mo21 v_td (.ref h_nam) (.ref h_var) (.ref h_trm) (.ref h_ter)))), (h_nam, .inl (cy_nam, 300, .inr (.inl f_nam))), (h_var, .inl (cy_var, 300, .inl f_var)), (h_trm, .inl (cy_trm, 300, .inl f_trm)), (h_ter, .inl (cy_ter, 900, .inl f_ter)), (h_wd, .inl (cy_wd, 616, .inl f42)), (h_wr, .inr (6, (mo37 vq44 (.ref h_wh) (.int z46)))), (h_wh, .inl (cy_wh, 2048, .inl f47))] := hD9
      have hS := hS9
      clear hP9 hD9 hS9
      rw [evq44] at hP hD
      replace hP : va_P (dC, dI) cls [(h_td, .inr (5, (mo21 v_td (.ref h_nam) (.ref h_var) (.ref h_trm) (.ref h_ter)))), (h_nam, .inl (cy_nam, 300, .inr (.inl f_nam))), (h_var, .inl (cy_var, 300, .inl f_var)), (h_trm, .inl (cy_trm, 300, .inl f_trm)), (h_ter, .inl (cy_ter, 900, .inl f_ter)), (h_wd, .inl (cy_wd, 616, .inl f42)), (h_wr, .inr (6, (mo38 v_wr (.ref h_td) (.ref h_wd) (.int z41) (.ref h_wh) (.int z46)))), (h_wh, .inl (cy_wh, 2048, .inl f47))] H := hP
      replace hD : va_D A [(h_td, .inr (5, (mo21 v_td (.ref h_nam) (.ref h_var) (.ref h_trm) (.ref h_ter)))), (h_nam, .inl (cy_nam, 300, .inr (.inl f_nam))), (h_var, .inl (cy_var, 300, .inl f_var)), (h_trm, .inl (cy_trm, 300, .inl f_trm)), (h_ter, .inl (cy_ter, 900, .inl f_ter)), (h_wd, .inl (cy_wd, 616, .inl f42)), (h_wr, .inr (6, (mo38 v_wr (.ref h_td) (.ref h_wd) (.int z41) (.ref h_wh) (.int z46)))), (h_wh, .inl (cy_wh, 2048, .inl f47))] := hD
      clear evq44 
      obtain ⟨k48, hf47⟩ := hq
      replace k48 : 0 ≤ ((z46)).toInt ∧ ((z46)).toInt ≤ 2048 := k48
      replace hf47 : Rg (-127) 9599 (f47) := hf47
      refine lv_iload_n hx hb dX9_putPart_82 rfl (lv_at hl 0 rfl) ?_
      refine lv_iconst (v := 1) hx hb dX9_putPart_83 (by decide) ?_
      refine lv_isub hx hb dX9_putPart_84 ?_
      refine lv_topi (fun z49 ez49 => ?_)
      have tz49 : (z49).toInt = (z10).toInt - 1 := by rw [ez49]; exact i_sub rfl (by decide) (by omega)
      refine lv_istore (lv' := [(4, .int z49), (3, .int z10), (2, .int z1), (0, .ref h_wr), (1, .int p1)]) hx hb dX9_putPart_85 hl (by decide) rfl (fun ls hl => ?_)
      have lp53 : ∀ (n : Nat) (x50 : Int32) (x51 : Int32) (f52 : Nat → Int32) (H : Heap) (locs : List Loc) (ls : Array Slot), (-1 ≤ (x50).toInt ∧ (x50).toInt ≤ 2) → (0 ≤ (x51).toInt ∧ (x51).toInt ≤ 2048) → (Rg (-127) 9599 f52) → ((x50).toInt + 1).toNat + 1 ≤ n → va_P (dC, dI) cls [(h_td, .inr (5, (mo21 v_td (.ref h_nam) (.ref h_var) (.ref h_trm) (.ref h_ter)))), (h_nam, .inl (cy_nam, 300, .inr (.inl f_nam))), (h_var, .inl (cy_var, 300, .inl f_var)), (h_trm, .inl (cy_trm, 300, .inl f_trm)), (h_ter, .inl (cy_ter, 900, .inl f_ter)), (h_wd, .inl (cy_wd, 616, .inl f42)), (h_wr, .inr (6, (mo38 v_wr (.ref h_td) (.ref h_wd) (.int z41) (.ref h_wh) (.int x51)))), (h_wh, .inl (cy_wh, 2048, .inl f52))] H → va_D A [(h_td, .inr (5, (mo21 v_td (.ref h_nam) (.ref h_var) (.ref h_trm) (.ref h_ter)))), (h_nam, .inl (cy_nam, 300, .inr (.inl f_nam))), (h_var, .inl (cy_var, 300, .inl f_var)), (h_trm, .inl (cy_trm, 300, .inl f_trm)), (h_ter, .inl (cy_ter, 900, .inl f_ter)), (h_wd, .inl (cy_wd, 616, .inl f42)), (h_wr, .inr (6, (mo38 v_wr (.ref h_td) (.ref h_wd) (.int z41) (.ref h_wh) (.int x51)))), (h_wh, .inl (cy_wh, 2048, .inl f52))] → va_S A s.heap H locs → lv_has ls 5 [(0, .ref h_wr), (1, .int p1), (2, .int z1), (3, .int z10), (4, .int x50)] → W p l e ({ frames := 2, cells := 0, slots := 0, locals := 45 } : Room) s m ([.ref h_wr, .int p1] : List Value).toArray below meth c H locs 0 0 (MQ below (va_Qv (fun (u : (Int32) × (Int32) × (Nat → Int32) × (Nat → Int32)) => (0 ≤ (u.1).toInt ∧ (u.1).toInt ≤ 616) ∧ (0 ≤ (u.2.1).toInt ∧ (u.2.1).toInt ≤ 2048) ∧ (Rg (-127) 9599 u.2.2.2)) (fun (u : (Int32) × (Int32) × (Nat → Int32) × (Nat → Int32)) (t : State) => va_P (dC, dI) cls [(h_wr, .inr (6, (mo38 v_wr (.ref h_td) (.ref h_wd) (.int u.1) (.ref h_wh) (.int u.2.1)))), (h_wd, .inl (cy_wd, 616, .inl u.2.2.1)), (h_wh, .inl (cy_wh, 2048, .inl u.2.2.2)), (h_td, .inr (5, (mo21 v_td (.ref h_nam) (.ref h_var) (.ref h_trm) (.ref h_ter)))), (h_nam, .inl (cy_nam, 300, .inr (.inl f_nam))), (h_var, .inl (cy_var, 300, .inl f_var)), (h_trm, .inl (cy_trm, 300, .inl f_trm)), (h_ter, .inl (cy_ter, 900, .inl f_ter))] t.heap ∧ va_D A [(h_wr, .inr (6, (mo38 v_wr (.ref h_td) (.ref h_wd) (.int u.1) (.ref h_wh) (.int u.2.1)))), (h_wd, .inl (cy_wd, 616, .inl u.2.2.1)), (h_wh, .inl (cy_wh, 2048, .inl u.2.2.2)), (h_td, .inr (5, (mo21 v_td (.ref h_nam) (.ref h_var) (.ref h_trm) (.ref h_ter)))), (h_nam, .inl (cy_nam, 300, .inr (.inl f_nam))), (h_var, .inl (cy_var, 300, .inl f_var)), (h_trm, .inl (cy_trm, 300, .inl f_trm)), (h_ter, .inl (cy_ter, 900, .inl f_ter))]) A) ([.ref h_wr, .int p1] : List Value).toArray s 0 0 A) (F0 m 87 ls []) := by
        clear hP hD hS hl
        intro n
        induction n with
        | zero => intro x50 x51 f52 H locs ls klp53_0 klp53_1 hf52 hm hP hD hS hl; exact False.elim (by omega)
        | succ n ih => 
          intro x50 x51 f52 H locs ls klp53_0 klp53_1 hf52 hm hP hD hS hl
          have ih54 := ih
          clear ih
          refine lv_iload hx hb dX9_putPart_87 (lv_at hl 4 rfl) ?_
          refine lv_if_lt (tgt := 131) hx hb dX9_putPart_89 (by decide) (fun c55 => ?_) (fun c55 => ?_)
          · have kc55 := (cv_lt (rfl : (x50).toInt = (x50).toInt) (by decide : (0 : Int32).toInt = 0)).mp c55
            replace hP : va_P (dC, dI) cls [(h_wr, .inr (6, (mo38 v_wr (.ref h_td) (.ref h_wd) (.int z41) (.ref h_wh) (.int x51)))), (h_wd, .inl (cy_wd, 616, .inl f42)), (h_wh, .inl (cy_wh, 2048, .inl f52)), (h_td, .inr (5, (mo21 v_td (.ref h_nam) (.ref h_var) (.ref h_trm) (.ref h_ter)))), (h_nam, .inl (cy_nam, 300, .inr (.inl f_nam))), (h_var, .inl (cy_var, 300, .inl f_var)), (h_trm, .inl (cy_trm, 300, .inl f_trm)), (h_ter, .inl (cy_ter, 900, .inl f_ter))] H := hP.sub [6, 5, 7, 0, 1, 2, 3, 4] rfl
            replace hD : va_D A [(h_wr, .inr (6, (mo38 v_wr (.ref h_td) (.ref h_wd) (.int z41) (.ref h_wh) (.int x51)))), (h_wd, .inl (cy_wd, 616, .inl f42)), (h_wh, .inl (cy_wh, 2048, .inl f52)), (h_td, .inr (5, (mo21 v_td (.ref h_nam) (.ref h_var) (.ref h_trm) (.ref h_ter)))), (h_nam, .inl (cy_nam, 300, .inr (.inl f_nam))), (h_var, .inl (cy_var, 300, .inl f_var)), (h_trm, .inl (cy_trm, 300, .inl f_trm)), (h_ter, .inl (cy_ter, 900, .inl f_ter))] := hD.sub [6, 5, 7, 0, 1, 2, 3, 4] (by decide) rfl
            refine W.widen (k := 0) (n := 0) (Nat.le_of_ble_eq_true rfl) (Nat.le_of_ble_eq_true rfl) ?_
            have w56 : 0 ≤ ((z41)).toInt ∧ ((z41)).toInt ≤ 616 := by first | exact k43 | omega
            have w57 : 0 ≤ ((x51)).toInt ∧ ((x51)).toInt ≤ 2048 := by first | exact klp53_1 | omega
            exact W.vret hx hb hr (fun t ht hW => ⟨⟨(z41, x51, f42, f52), rfl, ⟨w56, w57, hf52⟩, by rw [ht]; exact hP, hD⟩, hS.F ht⟩) hS.2.2 dX9_putPart_131
          · have kc55 := (not_congr (cv_lt (rfl : (x50).toInt = (x50).toInt) (by decide : (0 : Int32).toInt = 0))).mp c55
            refine lv_aload_n hx hb dX9_putPart_92 rfl (lv_at hl 0 rfl) ?_
            refine lv_iload_n hx hb dX9_putPart_93 rfl (lv_at hl 1 rfl) ?_
            refine lv_iload_n hx hb dX9_putPart_94 rfl (lv_at hl 2 rfl) ?_
            refine lv_isub hx hb dX9_putPart_95 ?_
            refine lv_topi (fun z58 ez58 => ?_)
            have tz58 : (z58).toInt = (p1).toInt - (z1).toInt := by rw [ez58]; exact i_sub rfl rfl (by omega)
            have sz58 : 0 ≤ (z58).toInt ∧ (z58).toInt ≤ 9300 := by omega
            refine lv_aload_n hx hb dX9_putPart_96 rfl (lv_at hl 0 rfl) ?_
            refine va_get (D := (dC, dI)) (ci := 6) (v := .ref h_td) (C := RX9) (T := TX9) (N := 8) hx hb hw iwX9 hown hK hP 6 rfl rfl 0 (by decide) (hw _ w_f_X9_21) (fun _ h9 => h9) rfl dX9_putPart_97 ?_
            refine va_getN (D := (dC, dI)) (ci := 5) (v := .ref h_ter) (C := RX8) (T := TX8) (N := 10) (host := "OppositePairs") hx hb hw iwX8 hown hK hP 0 rfl rfl 3 (by decide) (hN.use n_f_X9_81 rfl) (fun _ h9 => h9) rfl dX9_putPart_100 ?_
            refine lv_iload_n hx hb dX9_putPart_103 rfl (lv_at hl 2 rfl) ?_
            refine lv_iconst (v := 3) hx hb dX9_putPart_104 (by decide) ?_
            refine lv_imul hx hb dX9_putPart_105 ?_
            refine lv_topi (fun z59 ez59 => ?_)
            have tz59 : (z59).toInt = (z1).toInt * 3 := by rw [ez59]; exact i_mul rfl (by decide) (by omega)
            refine lv_iload hx hb dX9_putPart_106 (lv_at hl 4 rfl) ?_
            refine lv_iadd hx hb dX9_putPart_108 ?_
            refine lv_topi (fun z60 ez60 => ?_)
            have tz60 : (z60).toInt = (z59).toInt + (x50).toInt := by rw [ez60]; exact i_add rfl rfl (by omega)
            refine va_iald hx hb hK hP 4 5 rfl rfl (i := z60) (vp_in_iff.mpr (by omega)) dX9_putPart_109 ?_
            refine lv_topi (fun z61 ez61 => ?_)
            have rz61 : 0 ≤ (z61).toInt ∧ (z61).toInt ≤ 299 := by rw [ez61]; exact hf_ter _
            refine lv_iadd hx hb dX9_putPart_110 ?_
            refine lv_topi (fun z62 ez62 => ?_)
            have tz62 : (z62).toInt = (z58).toInt + (z61).toInt := by rw [ez62]; exact i_add rfl rfl (by omega)
            obtain ⟨vq63, evq63⟩ := mq38_37 v_wr (.ref h_td) (.ref h_wd) (.int z41)
            replace hP : va_P (dC, dI) cls [(h_td, .inr (5, (mo21 v_td (.ref h_nam) (.ref h_var) (.ref h_trm) (.ref h_ter)))), (h_nam, .inl (cy_nam, 300, .inr (.inl f_nam))), (h_var, .inl (cy_var, 300, .inl f_var)), (h_trm, .inl (cy_trm, 300, .inl f_trm)), (h_ter, .inl (cy_ter, 900, .inl f_ter)), (h_wd, .inl (cy_wd, 616, .inl f42)), (h_wr, .inr (6, (mo37 vq63 (.ref h_wh) (.int x51)))), (h_wh, .inl (cy_wh, 2048, .inl f52))] H := by rw [evq63]; exact hP
            replace hD : va_D A [(h_td, .inr (5, (mo21 v_td (.ref h_nam) (.ref h_var) (.ref h_trm) (.ref h_ter)))), (h_nam, .inl (cy_nam, 300, .inr (.inl f_nam))), (h_var, .inl (cy_var, 300, .inl f_var)), (h_trm, .inl (cy_trm, 300, .inl f_trm)), (h_ter, .inl (cy_ter, 900, .inl f_ter)), (h_wd, .inl (cy_wd, 616, .inl f42)), (h_wr, .inr (6, (mo37 vq63 (.ref h_wh) (.int x51)))), (h_wh, .inl (cy_wh, 2048, .inl f52))] := by rw [evq63]; exact hD
            have hPc := hP.sub (ws' := [(h_wr, .inr (6, (mo37 vq63 (.ref h_wh) (.int x51)))), (h_wh, .inl (cy_wh, 2048, .inl f52))]) [6, 7] rfl
            have hDc := hD.sub (ws' := [(h_wr, .inr (6, (mo37 vq63 (.ref h_wh) (.int x51)))), (h_wh, .inl (cy_wh, 2048, .inl f52))]) [6, 7] (by decide) rfl
            have hKc := hK.sub (tys' := [(cy_wh, .int)]) [1] rfl
            have hFc := va_free (wc := [(h_wr, .inr (6, (mo37 vq63 (.ref h_wh) (.int x51)))), (h_wh, .inl (cy_wh, 2048, .inl f52))]) hD hS hA [6, 7] rfl
            refine va_callv (va_runV (As := [.int z62]) (rest := []) ⟨hx, hb, hml, hown, hts⟩ (c_X9_push l dC dI H.size h_wr h_wh vq63 x51 cy_wh f52 z62 (by first | exact klp53_1 | omega) hf52 (by omega)) (cwV 1 hts (gv hT w_m_X9_78 w_instanceMethod_X9_push ws_sel_X9_push w_ini_X9 w_code_X9_push) rfl rfl rfl (by decide +kernel) ⟨(Nat.le_of_ble_eq_true rfl), (Nat.le_of_ble_eq_true rfl)⟩) ⟨pre_blind, va_recv hK hP (ci := 6) (q0 := 6) rfl rfl, pre_of hPc hKc hDc hN⟩ rfl rfl hl.1 rfl (lv_room (Nat.le_of_ble_eq_true rfl)) dX9_putPart_111 ⟨(Nat.le_of_ble_eq_true rfl), (Nat.le_of_ble_eq_true rfl)⟩) hS (fun q _ h => hFc q h) hFc (fun u t H locs ht hvm hq hB hz1 hk1 hS9 => ?_)
            obtain ⟨z65, f66⟩ := u
            obtain ⟨hP1, hD1⟩ := hB
            rw [ht] at hP1
            obtain ⟨hP9, hD9⟩ := va_join (wr := [(h_td, .inr (5, (mo21 v_td (.ref h_nam) (.ref h_var) (.ref h_trm) (.ref h_ter)))), (h_nam, .inl (cy_nam, 300, .inr (.inl f_nam))), (h_var, .inl (cy_var, 300, .inl f_var)), (h_trm, .inl (cy_trm, 300, .inl f_trm)), (h_ter, .inl (cy_ter, 900, .inl f_ter)), (h_wd, .inl (cy_wd, 616, .inl f42))]) (w1 := [(h_wr, .inr (6, (mo37 vq63 (.ref h_wh) (.int z65)))), (h_wh, .inl (cy_wh, 2048, .inl f66))]) hP hD [6, 7] [0, 1, 2, 3, 4, 5] rfl rfl (by decide) (by decide) hk1 hFc hP1 hD1
            clear hP hD hS hPc hDc hKc hFc hP1 hD1 hk1 hz1 ht hvm
            have hP : va_P (dC, dI) cls [(h_td, .inr (5, (mo21 v_td (.ref h_nam) (.ref h_var) (.ref h_trm) (.ref h_ter)))), (h_nam, .inl (cy_nam, 300, .inr (.inl f_nam))), (h_var, .inl (cy_var, 300, .inl f_var)), (h_trm, .inl (cy_trm, 300, .inl f_trm)), (h_ter, .inl (cy_ter, 900, .inl f_ter)), (h_wd, .inl (cy_wd, 616, .inl f42)), (h_wr, .inr (6, (mo37 vq63 (.ref h_wh) (.int z65)))), (h_wh, .inl (cy_wh, 2048, .inl f66))] H := hP9
            have hD : va_D A [(h_td, .inr (5, (mo21 v_td (.ref h_nam) (.ref h_var) (.ref h_trm) (.ref h_ter)))), (h_nam, .inl (cy_nam, 300, .inr (.inl f_nam))), (h_var, .inl (cy_var, 300, .inl f_var)), (h_trm, .inl (cy_trm, 300, .inl f_trm)), (h_ter, .inl (cy_ter, 900, .inl f_ter)), (h_wd, .inl (cy_wd, 616, .inl f42)), (h_wr, .inr (6, (mo37 vq63 (.ref h_wh) (.int z65)))), (h_wh, .inl (cy_wh, 2048, .inl f66))] := hD9
            have hS := hS9
            clear hP9 hD9 hS9
            rw [evq63] at hP hD
            replace hP : va_P (dC, dI) cls [(h_td, .inr (5, (mo21 v_td (.ref h_nam) (.ref h_var) (.ref h_trm) (.ref h_ter)))), (h_nam, .inl (cy_nam, 300, .inr (.inl f_nam))), (h_var, .inl (cy_var, 300, .inl f_var)), (h_trm, .inl (cy_trm, 300, .inl f_trm)), (h_ter, .inl (cy_ter, 900, .inl f_ter)), (h_wd, .inl (cy_wd, 616, .inl f42)), (h_wr, .inr (6, (mo38 v_wr (.ref h_td) (.ref h_wd) (.int z41) (.ref h_wh) (.int z65)))), (h_wh, .inl (cy_wh, 2048, .inl f66))] H := hP
            replace hD : va_D A [(h_td, .inr (5, (mo21 v_td (.ref h_nam) (.ref h_var) (.ref h_trm) (.ref h_ter)))), (h_nam, .inl (cy_nam, 300, .inr (.inl f_nam))), (h_var, .inl (cy_var, 300, .inl f_var)), (h_trm, .inl (cy_trm, 300, .inl f_trm)), (h_ter, .inl (cy_ter, 900, .inl f_ter)), (h_wd, .inl (cy_wd, 616, .inl f42)), (h_wr, .inr (6, (mo38 v_wr (.ref h_td) (.ref h_wd) (.int z41) (.ref h_wh) (.int z65)))), (h_wh, .inl (cy_wh, 2048, .inl f66))] := hD
            clear evq63 
            obtain ⟨k67, hf66⟩ := hq
            replace k67 : 0 ≤ ((z65)).toInt ∧ ((z65)).toInt ≤ 2048 := k67
            replace hf66 : Rg (-127) 9599 (f66) := hf66
            refine lv_iload hx hb dX9_putPart_114 (lv_at hl 4 rfl) ?_
            refine lv_if_le (tgt := 125) hx hb dX9_putPart_116 (by decide) (fun c68 => ?_) (fun c68 => ?_)
            · have kc68 := (cv_le (rfl : (x50).toInt = (x50).toInt) (by decide : (0 : Int32).toInt = 0)).mp c68
              obtain ⟨z69, ez69⟩ : ∃ y : Int32, y = x50 + (-1) := ⟨_, rfl⟩
              have tz69 : (z69).toInt = (x50).toInt + -1 := by rw [ez69]; exact i_add rfl (by decide) (by omega)
              refine lv_iinc (v := z69) (lv' := [(4, .int z69), (0, .ref h_wr), (1, .int p1), (2, .int z1), (3, .int z10)]) hx hb dX9_putPart_125 hl (k := 4) rfl (by rw [ez69]; rfl) (by decide) rfl (fun ls hl => ?_)
              refine lv_goto (tgt := 87) hx hb dX9_putPart_128 (by decide) ?_
              exact ih54 (z69) (z65) (f66) _ _ _ (by omega) (by first | exact k67 | omega) hf66 (by omega) hP hD hS (lv_sub hl [1, 2, 3, 4, 0] rfl)
            · have kc68 := (not_congr (cv_le (rfl : (x50).toInt = (x50).toInt) (by decide : (0 : Int32).toInt = 0))).mp c68
              refine lv_aload_n hx hb dX9_putPart_119 rfl (lv_at hl 0 rfl) ?_
              refine lv_bipush (v := (-44)) hx hb dX9_putPart_120 (by decide) ?_
              obtain ⟨vq70, evq70⟩ := mq38_37 v_wr (.ref h_td) (.ref h_wd) (.int z41)
              replace hP : va_P (dC, dI) cls [(h_td, .inr (5, (mo21 v_td (.ref h_nam) (.ref h_var) (.ref h_trm) (.ref h_ter)))), (h_nam, .inl (cy_nam, 300, .inr (.inl f_nam))), (h_var, .inl (cy_var, 300, .inl f_var)), (h_trm, .inl (cy_trm, 300, .inl f_trm)), (h_ter, .inl (cy_ter, 900, .inl f_ter)), (h_wd, .inl (cy_wd, 616, .inl f42)), (h_wr, .inr (6, (mo37 vq70 (.ref h_wh) (.int z65)))), (h_wh, .inl (cy_wh, 2048, .inl f66))] H := by rw [evq70]; exact hP
              replace hD : va_D A [(h_td, .inr (5, (mo21 v_td (.ref h_nam) (.ref h_var) (.ref h_trm) (.ref h_ter)))), (h_nam, .inl (cy_nam, 300, .inr (.inl f_nam))), (h_var, .inl (cy_var, 300, .inl f_var)), (h_trm, .inl (cy_trm, 300, .inl f_trm)), (h_ter, .inl (cy_ter, 900, .inl f_ter)), (h_wd, .inl (cy_wd, 616, .inl f42)), (h_wr, .inr (6, (mo37 vq70 (.ref h_wh) (.int z65)))), (h_wh, .inl (cy_wh, 2048, .inl f66))] := by rw [evq70]; exact hD
              have cstm44 : ((-44) : Int32).toInt = -44 := by decide
              have hPc := hP.sub (ws' := [(h_wr, .inr (6, (mo37 vq70 (.ref h_wh) (.int z65)))), (h_wh, .inl (cy_wh, 2048, .inl f66))]) [6, 7] rfl
              have hDc := hD.sub (ws' := [(h_wr, .inr (6, (mo37 vq70 (.ref h_wh) (.int z65)))), (h_wh, .inl (cy_wh, 2048, .inl f66))]) [6, 7] (by decide) rfl
              have hKc := hK.sub (tys' := [(cy_wh, .int)]) [1] rfl
              have hFc := va_free (wc := [(h_wr, .inr (6, (mo37 vq70 (.ref h_wh) (.int z65)))), (h_wh, .inl (cy_wh, 2048, .inl f66))]) hD hS hA [6, 7] rfl
              refine va_callv (va_runV (As := [.int (-44)]) (rest := []) ⟨hx, hb, hml, hown, hts⟩ (c_X9_push l dC dI H.size h_wr h_wh vq70 z65 cy_wh f66 (-44) (by first | exact k67 | omega) hf66 (by omega)) (cwV 1 hts (gv hT w_m_X9_78 w_instanceMethod_X9_push ws_sel_X9_push w_ini_X9 w_code_X9_push) rfl rfl rfl (by decide +kernel) ⟨(Nat.le_of_ble_eq_true rfl), (Nat.le_of_ble_eq_true rfl)⟩) ⟨pre_blind, va_recv hK hP (ci := 6) (q0 := 6) rfl rfl, pre_of hPc hKc hDc hN⟩ rfl rfl hl.1 rfl (lv_room (Nat.le_of_ble_eq_true rfl)) dX9_putPart_122 ⟨(Nat.le_of_ble_eq_true rfl), (Nat.le_of_ble_eq_true rfl)⟩) hS (fun q _ h => hFc q h) hFc (fun u t H locs ht hvm hq hB hz1 hk1 hS9 => ?_)
              obtain ⟨z72, f73⟩ := u
              obtain ⟨hP1, hD1⟩ := hB
              rw [ht] at hP1
              obtain ⟨hP9, hD9⟩ := va_join (wr := [(h_td, .inr (5, (mo21 v_td (.ref h_nam) (.ref h_var) (.ref h_trm) (.ref h_ter)))), (h_nam, .inl (cy_nam, 300, .inr (.inl f_nam))), (h_var, .inl (cy_var, 300, .inl f_var)), (h_trm, .inl (cy_trm, 300, .inl f_trm)), (h_ter, .inl (cy_ter, 900, .inl f_ter)), (h_wd, .inl (cy_wd, 616, .inl f42))]) (w1 := [(h_wr, .inr (6, (mo37 vq70 (.ref h_wh) (.int z72)))), (h_wh, .inl (cy_wh, 2048, .inl f73))]) hP hD [6, 7] [0, 1, 2, 3, 4, 5] rfl rfl (by decide) (by decide) hk1 hFc hP1 hD1
              clear hP hD hS hPc hDc hKc hFc hP1 hD1 hk1 hz1 ht hvm
              have hP : va_P (dC, dI) cls [(h_td, .inr (5, (mo21 v_td (.ref h_nam) (.ref h_var) (.ref h_trm) (.ref h_ter)))), (h_nam, .inl (cy_nam, 300, .inr (.inl f_nam))), (h_var, .inl (cy_var, 300, .inl f_var)), (h_trm, .inl (cy_trm, 300, .inl f_trm)), (h_ter, .inl (cy_ter, 900, .inl f_ter)), (h_wd, .inl (cy_wd, 616, .inl f42)), (h_wr, .inr (6, (mo37 vq70 (.ref h_wh) (.int z72)))), (h_wh, .inl (cy_wh, 2048, .inl f73))] H := hP9
              have hD : va_D A [(h_td, .inr (5, (mo21 v_td (.ref h_nam) (.ref h_var) (.ref h_trm) (.ref h_ter)))), (h_nam, .inl (cy_nam, 300, .inr (.inl f_nam))), (h_var, .inl (cy_var, 300, .inl f_var)), (h_trm, .inl (cy_trm, 300, .inl f_trm)), (h_ter, .inl (cy_ter, 900, .inl f_ter)), (h_wd, .inl (cy_wd, 616, .inl f42)), (h_wr, .inr (6, (mo37 vq70 (.ref h_wh) (.int z72)))), (h_wh, .inl (cy_wh, 2048, .inl f73))] := hD9
              have hS := hS9
              clear hP9 hD9 hS9
              rw [evq70] at hP hD
              replace hP : va_P (dC, dI) cls [(h_td, .inr (5, (mo21 v_td (.ref h_nam) (.ref h_var) (.ref h_trm) (.ref h_ter)))), (h_nam, .inl (cy_nam, 300, .inr (.inl f_nam))), (h_var, .inl (cy_var, 300, .inl f_var)), (h_trm, .inl (cy_trm, 300, .inl f_trm)), (h_ter, .inl (cy_ter, 900, .inl f_ter)), (h_wd, .inl (cy_wd, 616, .inl f42)), (h_wr, .inr (6, (mo38 v_wr (.ref h_td) (.ref h_wd) (.int z41) (.ref h_wh) (.int z72)))), (h_wh, .inl (cy_wh, 2048, .inl f73))] H := hP
              replace hD : va_D A [(h_td, .inr (5, (mo21 v_td (.ref h_nam) (.ref h_var) (.ref h_trm) (.ref h_ter)))), (h_nam, .inl (cy_nam, 300, .inr (.inl f_nam))), (h_var, .inl (cy_var, 300, .inl f_var)), (h_trm, .inl (cy_trm, 300, .inl f_trm)), (h_ter, .inl (cy_ter, 900, .inl f_ter)), (h_wd, .inl (cy_wd, 616, .inl f42)), (h_wr, .inr (6, (mo38 v_wr (.ref h_td) (.ref h_wd) (.int z41) (.ref h_wh) (.int z72)))), (h_wh, .inl (cy_wh, 2048, .inl f73))] := hD
              clear evq70 
              obtain ⟨k74, hf73⟩ := hq
              replace k74 : 0 ≤ ((z72)).toInt ∧ ((z72)).toInt ≤ 2048 := k74
              replace hf73 : Rg (-127) 9599 (f73) := hf73
              obtain ⟨z75, ez75⟩ : ∃ y : Int32, y = x50 + (-1) := ⟨_, rfl⟩
              have tz75 : (z75).toInt = (x50).toInt + -1 := by rw [ez75]; exact i_add rfl (by decide) (by omega)
              refine lv_iinc (v := z75) (lv' := [(4, .int z75), (0, .ref h_wr), (1, .int p1), (2, .int z1), (3, .int z10)]) hx hb dX9_putPart_125 hl (k := 4) rfl (by rw [ez75]; rfl) (by decide) rfl (fun ls hl => ?_)
              refine lv_goto (tgt := 87) hx hb dX9_putPart_128 (by decide) ?_
              exact ih54 (z75) (z72) (f73) _ _ _ (by omega) (by first | exact k74 | omega) hf73 (by omega) hP hD hS (lv_sub hl [1, 2, 3, 4, 0] rfl)
      exact lp53 _ (z49) (z46) (f47) _ _ _ (by omega) (by first | exact k48 | omega) hf47 (Nat.le_refl _) hP hD hS (lv_sub hl [3, 4, 2, 1, 0] rfl)
  · have kc3 := (not_congr (cv_eq (rfl : (z2).toInt = (z2).toInt) (by decide : ((-1) : Int32).toInt = -1))).mp c3
    refine lv_aload_n hx hb dX9_putPart_19 rfl (lv_at hl 1 rfl) ?_
    refine lv_aload_n hx hb dX9_putPart_20 rfl (lv_at hl 1 rfl) ?_
    refine va_get (D := (dC, dI)) (ci := 6) (v := .ref h_td) (C := RX9) (T := TX9) (N := 8) hx hb hw iwX9 hown hK hP 0 rfl rfl 0 (by decide) (hw _ w_f_X9_21) (fun _ h9 => h9) rfl dX9_putPart_21 ?_
    refine va_getN (D := (dC, dI)) (ci := 5) (v := .ref h_nam) (C := RX8) (T := TX8) (N := 10) (host := "OppositePairs") hx hb hw iwX8 hown hK hP 3 rfl rfl 0 (by decide) (hN.use n_f_X9_64 rfl) (fun _ h9 => h9) rfl dX9_putPart_24 ?_
    refine lv_iload_n hx hb dX9_putPart_27 rfl (lv_at hl 0 rfl) ?_
    refine va_lald hx hb hK hP 4 2 rfl rfl (i := z1) (vp_in_iff.mpr (by omega)) dX9_putPart_28 ?_
    refine lv_topl (fun z76 ez76 => ?_)
    refine lv_l2i hx hb dX9_putPart_29 rfl ?_
    refine lv_topi (fun z77 ez77 => ?_)
    obtain ⟨vq78, evq78⟩ := mq38_36 v_wr (.ref h_td) (.ref h_wh) (.int x_wr_held)
    replace hP : va_P (dC, dI) cls [(h_wr, .inr (6, (mo36 vq78 (.ref h_wd) (.int x_wr_drafted)))), (h_wd, .inl (cy_wd, 616, .inl f_wd)), (h_wh, .inl (cy_wh, 2048, .inl f_wh)), (h_td, .inr (5, (mo21 v_td (.ref h_nam) (.ref h_var) (.ref h_trm) (.ref h_ter)))), (h_nam, .inl (cy_nam, 300, .inr (.inl f_nam))), (h_var, .inl (cy_var, 300, .inl f_var)), (h_trm, .inl (cy_trm, 300, .inl f_trm)), (h_ter, .inl (cy_ter, 900, .inl f_ter))] s.heap := by rw [evq78]; exact hP
    replace hD : va_D A [(h_wr, .inr (6, (mo36 vq78 (.ref h_wd) (.int x_wr_drafted)))), (h_wd, .inl (cy_wd, 616, .inl f_wd)), (h_wh, .inl (cy_wh, 2048, .inl f_wh)), (h_td, .inr (5, (mo21 v_td (.ref h_nam) (.ref h_var) (.ref h_trm) (.ref h_ter)))), (h_nam, .inl (cy_nam, 300, .inr (.inl f_nam))), (h_var, .inl (cy_var, 300, .inl f_var)), (h_trm, .inl (cy_trm, 300, .inl f_trm)), (h_ter, .inl (cy_ter, 900, .inl f_ter))] := by rw [evq78]; exact hD
    have hPc := hP.sub (ws' := [(h_wr, .inr (6, (mo36 vq78 (.ref h_wd) (.int x_wr_drafted)))), (h_wd, .inl (cy_wd, 616, .inl f_wd))]) [0, 1] rfl
    have hDc := hD.sub (ws' := [(h_wr, .inr (6, (mo36 vq78 (.ref h_wd) (.int x_wr_drafted)))), (h_wd, .inl (cy_wd, 616, .inl f_wd))]) [0, 1] (by decide) rfl
    have hKc := hK.sub (tys' := [(cy_wd, .int)]) [0] rfl
    have hFc := va_free (wc := [(h_wr, .inr (6, (mo36 vq78 (.ref h_wd) (.int x_wr_drafted)))), (h_wd, .inl (cy_wd, 616, .inl f_wd))]) hD hS hA [0, 1] rfl
    refine va_callv (va_runV (As := [.int z77]) (rest := []) ⟨hx, hb, hml, hown, hts⟩ (c_X9_put l dC dI s.heap.size h_wr h_wd vq78 x_wr_drafted cy_wd f_wd z77 (by first | exact hx_wr_drafted | omega)) (cwV 1 hts (gv hT w_m_X9_33 w_instanceMethod_X9_put ws_sel_X9_put w_ini_X9 w_code_X9_put) rfl rfl rfl (by decide +kernel) ⟨(Nat.le_of_ble_eq_true rfl), (Nat.le_of_ble_eq_true rfl)⟩) ⟨pre_blind, va_recv hK hP (ci := 6) (q0 := 0) rfl rfl, pre_of hPc hKc hDc hN⟩ rfl rfl hl.1 rfl (lv_room (Nat.le_of_ble_eq_true rfl)) dX9_putPart_30 ⟨(Nat.le_of_ble_eq_true rfl), (Nat.le_of_ble_eq_true rfl)⟩) hS (fun q _ h => hFc q h) hFc (fun u t H locs ht hvm hq hB hz1 hk1 hS9 => ?_)
    obtain ⟨z80, f81⟩ := u
    obtain ⟨hP1, hD1⟩ := hB
    rw [ht] at hP1
    obtain ⟨hP9, hD9⟩ := va_join (wr := [(h_wh, .inl (cy_wh, 2048, .inl f_wh)), (h_td, .inr (5, (mo21 v_td (.ref h_nam) (.ref h_var) (.ref h_trm) (.ref h_ter)))), (h_nam, .inl (cy_nam, 300, .inr (.inl f_nam))), (h_var, .inl (cy_var, 300, .inl f_var)), (h_trm, .inl (cy_trm, 300, .inl f_trm)), (h_ter, .inl (cy_ter, 900, .inl f_ter))]) (w1 := [(h_wr, .inr (6, (mo36 vq78 (.ref h_wd) (.int z80)))), (h_wd, .inl (cy_wd, 616, .inl f81))]) hP hD [0, 1] [2, 3, 4, 5, 6, 7] rfl rfl (by decide) (by decide) hk1 hFc hP1 hD1
    clear hP hD hS hPc hDc hKc hFc hP1 hD1 hk1 hz1 ht hvm
    have hP : va_P (dC, dI) cls [(h_wh, .inl (cy_wh, 2048, .inl f_wh)), (h_td, .inr (5, (mo21 v_td (.ref h_nam) (.ref h_var) (.ref h_trm) (.ref h_ter)))), (h_nam, .inl (cy_nam, 300, .inr (.inl f_nam))), (h_var, .inl (cy_var, 300, .inl f_var)), (h_trm, .inl (cy_trm, 300, .inl f_trm)), (h_ter, .inl (cy_ter, 900, .inl f_ter)), (h_wr, .inr (6, (mo36 vq78 (.ref h_wd) (.int z80)))), (h_wd, .inl (cy_wd, 616, .inl f81))] H := hP9
    have hD : va_D A [(h_wh, .inl (cy_wh, 2048, .inl f_wh)), (h_td, .inr (5, (mo21 v_td (.ref h_nam) (.ref h_var) (.ref h_trm) (.ref h_ter)))), (h_nam, .inl (cy_nam, 300, .inr (.inl f_nam))), (h_var, .inl (cy_var, 300, .inl f_var)), (h_trm, .inl (cy_trm, 300, .inl f_trm)), (h_ter, .inl (cy_ter, 900, .inl f_ter)), (h_wr, .inr (6, (mo36 vq78 (.ref h_wd) (.int z80)))), (h_wd, .inl (cy_wd, 616, .inl f81))] := hD9
    have hS := hS9
    clear hP9 hD9 hS9
    rw [evq78] at hP hD
    replace hP : va_P (dC, dI) cls [(h_wh, .inl (cy_wh, 2048, .inl f_wh)), (h_td, .inr (5, (mo21 v_td (.ref h_nam) (.ref h_var) (.ref h_trm) (.ref h_ter)))), (h_nam, .inl (cy_nam, 300, .inr (.inl f_nam))), (h_var, .inl (cy_var, 300, .inl f_var)), (h_trm, .inl (cy_trm, 300, .inl f_trm)), (h_ter, .inl (cy_ter, 900, .inl f_ter)), (h_wr, .inr (6, (mo38 v_wr (.ref h_td) (.ref h_wd) (.int z80) (.ref h_wh) (.int x_wr_held)))), (h_wd, .inl (cy_wd, 616, .inl f81))] H := hP
    replace hD : va_D A [(h_wh, .inl (cy_wh, 2048, .inl f_wh)), (h_td, .inr (5, (mo21 v_td (.ref h_nam) (.ref h_var) (.ref h_trm) (.ref h_ter)))), (h_nam, .inl (cy_nam, 300, .inr (.inl f_nam))), (h_var, .inl (cy_var, 300, .inl f_var)), (h_trm, .inl (cy_trm, 300, .inl f_trm)), (h_ter, .inl (cy_ter, 900, .inl f_ter)), (h_wr, .inr (6, (mo38 v_wr (.ref h_td) (.ref h_wd) (.int z80) (.ref h_wh) (.int x_wr_held)))), (h_wd, .inl (cy_wd, 616, .inl f81))] := hD
    clear evq78 
    have k82 : 0 ≤ ((z80)).toInt ∧ ((z80)).toInt ≤ 616 := hq
    clear hq
    refine lv_aload_n hx hb dX9_putPart_33 rfl (lv_at hl 1 rfl) ?_
    refine lv_iload_n hx hb dX9_putPart_34 rfl (lv_at hl 2 rfl) ?_
    refine lv_sipush (v := 300) hx hb dX9_putPart_35 (by decide) ?_
    refine lv_idiv hx hb dX9_putPart_38 (by decide) ?_
    refine lv_topi (fun z83 ez83 => ?_)
    have tz83 : (z83).toInt = (p1).toInt / 300 := by rw [ez83]; exact i_div rfl (by decide) (by omega)
    have sz83 : 0 ≤ (z83).toInt ∧ (z83).toInt ≤ 31 := by omega
    obtain ⟨vq84, evq84⟩ := mq38_36 v_wr (.ref h_td) (.ref h_wh) (.int x_wr_held)
    replace hP : va_P (dC, dI) cls [(h_wh, .inl (cy_wh, 2048, .inl f_wh)), (h_td, .inr (5, (mo21 v_td (.ref h_nam) (.ref h_var) (.ref h_trm) (.ref h_ter)))), (h_nam, .inl (cy_nam, 300, .inr (.inl f_nam))), (h_var, .inl (cy_var, 300, .inl f_var)), (h_trm, .inl (cy_trm, 300, .inl f_trm)), (h_ter, .inl (cy_ter, 900, .inl f_ter)), (h_wr, .inr (6, (mo36 vq84 (.ref h_wd) (.int z80)))), (h_wd, .inl (cy_wd, 616, .inl f81))] H := by rw [evq84]; exact hP
    replace hD : va_D A [(h_wh, .inl (cy_wh, 2048, .inl f_wh)), (h_td, .inr (5, (mo21 v_td (.ref h_nam) (.ref h_var) (.ref h_trm) (.ref h_ter)))), (h_nam, .inl (cy_nam, 300, .inr (.inl f_nam))), (h_var, .inl (cy_var, 300, .inl f_var)), (h_trm, .inl (cy_trm, 300, .inl f_trm)), (h_ter, .inl (cy_ter, 900, .inl f_ter)), (h_wr, .inr (6, (mo36 vq84 (.ref h_wd) (.int z80)))), (h_wd, .inl (cy_wd, 616, .inl f81))] := by rw [evq84]; exact hD
    have hPc := hP.sub (ws' := [(h_wr, .inr (6, (mo36 vq84 (.ref h_wd) (.int z80)))), (h_wd, .inl (cy_wd, 616, .inl f81))]) [6, 7] rfl
    have hDc := hD.sub (ws' := [(h_wr, .inr (6, (mo36 vq84 (.ref h_wd) (.int z80)))), (h_wd, .inl (cy_wd, 616, .inl f81))]) [6, 7] (by decide) rfl
    have hKc := hK.sub (tys' := [(cy_wd, .int)]) [0] rfl
    have hFc := va_free (wc := [(h_wr, .inr (6, (mo36 vq84 (.ref h_wd) (.int z80)))), (h_wd, .inl (cy_wd, 616, .inl f81))]) hD hS hA [6, 7] rfl
    refine va_callv (va_runV (As := [.int z83]) (rest := []) ⟨hx, hb, hml, hown, hts⟩ (c_X9_putInstance l dC dI H.size h_wr h_wd vq84 z80 cy_wd f81 z83 (by first | exact k82 | omega) (by omega)) (cwV 1 hts (gv hT w_m_X9_68 w_instanceMethod_X9_putInstance ws_sel_X9_putInstance w_ini_X9 w_code_X9_putInstance) rfl rfl rfl (by decide +kernel) ⟨(Nat.le_of_ble_eq_true rfl), (Nat.le_of_ble_eq_true rfl)⟩) ⟨pre_blind, va_recv hK hP (ci := 6) (q0 := 6) rfl rfl, pre_of hPc hKc hDc hN⟩ rfl rfl hl.1 rfl (lv_room (Nat.le_of_ble_eq_true rfl)) dX9_putPart_39 ⟨(Nat.le_of_ble_eq_true rfl), (Nat.le_of_ble_eq_true rfl)⟩) hS (fun q _ h => hFc q h) hFc (fun u t H locs ht hvm hq hB hz1 hk1 hS9 => ?_)
    obtain ⟨z86, f87⟩ := u
    obtain ⟨hP1, hD1⟩ := hB
    rw [ht] at hP1
    obtain ⟨hP9, hD9⟩ := va_join (wr := [(h_wh, .inl (cy_wh, 2048, .inl f_wh)), (h_td, .inr (5, (mo21 v_td (.ref h_nam) (.ref h_var) (.ref h_trm) (.ref h_ter)))), (h_nam, .inl (cy_nam, 300, .inr (.inl f_nam))), (h_var, .inl (cy_var, 300, .inl f_var)), (h_trm, .inl (cy_trm, 300, .inl f_trm)), (h_ter, .inl (cy_ter, 900, .inl f_ter))]) (w1 := [(h_wr, .inr (6, (mo36 vq84 (.ref h_wd) (.int z86)))), (h_wd, .inl (cy_wd, 616, .inl f87))]) hP hD [6, 7] [0, 1, 2, 3, 4, 5] rfl rfl (by decide) (by decide) hk1 hFc hP1 hD1
    clear hP hD hS hPc hDc hKc hFc hP1 hD1 hk1 hz1 ht hvm
    have hP : va_P (dC, dI) cls [(h_wh, .inl (cy_wh, 2048, .inl f_wh)), (h_td, .inr (5, (mo21 v_td (.ref h_nam) (.ref h_var) (.ref h_trm) (.ref h_ter)))), (h_nam, .inl (cy_nam, 300, .inr (.inl f_nam))), (h_var, .inl (cy_var, 300, .inl f_var)), (h_trm, .inl (cy_trm, 300, .inl f_trm)), (h_ter, .inl (cy_ter, 900, .inl f_ter)), (h_wr, .inr (6, (mo36 vq84 (.ref h_wd) (.int z86)))), (h_wd, .inl (cy_wd, 616, .inl f87))] H := hP9
    have hD : va_D A [(h_wh, .inl (cy_wh, 2048, .inl f_wh)), (h_td, .inr (5, (mo21 v_td (.ref h_nam) (.ref h_var) (.ref h_trm) (.ref h_ter)))), (h_nam, .inl (cy_nam, 300, .inr (.inl f_nam))), (h_var, .inl (cy_var, 300, .inl f_var)), (h_trm, .inl (cy_trm, 300, .inl f_trm)), (h_ter, .inl (cy_ter, 900, .inl f_ter)), (h_wr, .inr (6, (mo36 vq84 (.ref h_wd) (.int z86)))), (h_wd, .inl (cy_wd, 616, .inl f87))] := hD9
    have hS := hS9
    clear hP9 hD9 hS9
    rw [evq84] at hP hD
    replace hP : va_P (dC, dI) cls [(h_wh, .inl (cy_wh, 2048, .inl f_wh)), (h_td, .inr (5, (mo21 v_td (.ref h_nam) (.ref h_var) (.ref h_trm) (.ref h_ter)))), (h_nam, .inl (cy_nam, 300, .inr (.inl f_nam))), (h_var, .inl (cy_var, 300, .inl f_var)), (h_trm, .inl (cy_trm, 300, .inl f_trm)), (h_ter, .inl (cy_ter, 900, .inl f_ter)), (h_wr, .inr (6, (mo38 v_wr (.ref h_td) (.ref h_wd) (.int z86) (.ref h_wh) (.int x_wr_held)))), (h_wd, .inl (cy_wd, 616, .inl f87))] H := hP
    replace hD : va_D A [(h_wh, .inl (cy_wh, 2048, .inl f_wh)), (h_td, .inr (5, (mo21 v_td (.ref h_nam) (.ref h_var) (.ref h_trm) (.ref h_ter)))), (h_nam, .inl (cy_nam, 300, .inr (.inl f_nam))), (h_var, .inl (cy_var, 300, .inl f_var)), (h_trm, .inl (cy_trm, 300, .inl f_trm)), (h_ter, .inl (cy_ter, 900, .inl f_ter)), (h_wr, .inr (6, (mo38 v_wr (.ref h_td) (.ref h_wd) (.int z86) (.ref h_wh) (.int x_wr_held)))), (h_wd, .inl (cy_wd, 616, .inl f87))] := hD
    clear evq84 
    have k88 : 0 ≤ ((z86)).toInt ∧ ((z86)).toInt ≤ 616 := hq
    clear hq
    replace hP : va_P (dC, dI) cls [(h_wr, .inr (6, (mo38 v_wr (.ref h_td) (.ref h_wd) (.int z86) (.ref h_wh) (.int x_wr_held)))), (h_wd, .inl (cy_wd, 616, .inl f87)), (h_wh, .inl (cy_wh, 2048, .inl f_wh)), (h_td, .inr (5, (mo21 v_td (.ref h_nam) (.ref h_var) (.ref h_trm) (.ref h_ter)))), (h_nam, .inl (cy_nam, 300, .inr (.inl f_nam))), (h_var, .inl (cy_var, 300, .inl f_var)), (h_trm, .inl (cy_trm, 300, .inl f_trm)), (h_ter, .inl (cy_ter, 900, .inl f_ter))] H := hP.sub [6, 7, 0, 1, 2, 3, 4, 5] rfl
    replace hD : va_D A [(h_wr, .inr (6, (mo38 v_wr (.ref h_td) (.ref h_wd) (.int z86) (.ref h_wh) (.int x_wr_held)))), (h_wd, .inl (cy_wd, 616, .inl f87)), (h_wh, .inl (cy_wh, 2048, .inl f_wh)), (h_td, .inr (5, (mo21 v_td (.ref h_nam) (.ref h_var) (.ref h_trm) (.ref h_ter)))), (h_nam, .inl (cy_nam, 300, .inr (.inl f_nam))), (h_var, .inl (cy_var, 300, .inl f_var)), (h_trm, .inl (cy_trm, 300, .inl f_trm)), (h_ter, .inl (cy_ter, 900, .inl f_ter))] := hD.sub [6, 7, 0, 1, 2, 3, 4, 5] (by decide) rfl
    refine W.widen (k := 0) (n := 0) (Nat.le_of_ble_eq_true rfl) (Nat.le_of_ble_eq_true rfl) ?_
    have w89 : 0 ≤ ((z86)).toInt ∧ ((z86)).toInt ≤ 616 := by first | exact k88 | omega
    have w90 : 0 ≤ ((x_wr_held)).toInt ∧ ((x_wr_held)).toInt ≤ 2048 := by first | exact hx_wr_held | omega
    exact W.vret hx hb hr (fun t ht hW => ⟨⟨(z86, x_wr_held, f87, f_wh), rfl, ⟨w89, w90, hf_wh⟩, by rw [ht]; exact hP, hD⟩, hS.F ht⟩) hS.2.2 dX9_putPart_42

set_option maxHeartbeats 8000000 in
set_option maxRecDepth 100000 in
theorem c_X9_write (l : Launch) (dC : Nat → ClassId) (dI : Nat → Nat → Nat) (sz : Nat) (h_wr : Nat) (h_wb : Nat) (h_wd : Nat) (h_wh : Nat) (h_bd : Nat) (h_bnd : Nat) (h_td : Nat) (h_nam : Nat) (h_var : Nat) (h_trm : Nat) (h_ter : Nat) (x_wr_length : Int32) (x_wr_drafted : Int32) (x_wr_held : Int32) (cy_wb : ClassId) (f_wb : Nat → Int32) (cy_wd : ClassId) (f_wd : Nat → Int32) (cy_wh : ClassId) (f_wh : Nat → Int32) (v_bd : Nat → Value) (cy_bnd : ClassId) (f_bnd : Nat → Int32) (v_td : Nat → Value) (cy_nam : ClassId) (f_nam : Nat → Int64) (cy_var : ClassId) (f_var : Nat → Int32) (cy_trm : ClassId) (f_trm : Nat → Int32) (cy_ter : ClassId) (f_ter : Nat → Int32) (p1 : Int32) (p2 : Int32) (p3 : Int32) (hx_wr_length : 0 ≤ (x_wr_length).toInt ∧ (x_wr_length).toInt ≤ 600) (hx_wr_drafted : 0 ≤ (x_wr_drafted).toInt ∧ (x_wr_drafted).toInt ≤ 616) (hx_wr_held : 0 ≤ (x_wr_held).toInt ∧ (x_wr_held).toInt ≤ 2048) (hf_wh : Rg (-127) 9599 f_wh) (hf_bnd : Rg 0 9600 f_bnd) (hf_var : Rg (-1) 7 f_var) (hf_trm : Rg 0 3 f_trm) (hf_ter : Rg 0 299 f_ter) (q0 : 0 ≤ (p1).toInt ∧ (p1).toInt ≤ 9599) : Met l yX9_write (Ws yX9_write cX9_write 5 (some .int)) (({ frames := 3, cells := 0, slots := 0, locals := 80 } : Room)) (PRE (dC, dI) cls [(cy_wb, .int), (cy_wd, .int), (cy_wh, .int), (cy_bnd, .int), (cy_nam, .long), (cy_var, .int), (cy_trm, .int), (cy_ter, .int)] [(h_wr, .inr (6, (mo39 (.ref h_td) (.ref h_bd) (.ref h_wb) (.int x_wr_length) (.ref h_wd) (.int x_wr_drafted) (.ref h_wh) (.int x_wr_held)))), (h_wb, .inl (cy_wb, 600, .inl f_wb)), (h_wd, .inl (cy_wd, 616, .inl f_wd)), (h_wh, .inl (cy_wh, 2048, .inl f_wh)), (h_bd, .inr (1, (mo9 v_bd (.ref h_td) (.ref h_bnd)))), (h_bnd, .inl (cy_bnd, 256, .inl f_bnd)), (h_td, .inr (5, (mo21 v_td (.ref h_nam) (.ref h_var) (.ref h_trm) (.ref h_ter)))), (h_nam, .inl (cy_nam, 300, .inr (.inl f_nam))), (h_var, .inl (cy_var, 300, .inl f_var)), (h_trm, .inl (cy_trm, 300, .inl f_trm)), (h_ter, .inl (cy_ter, 900, .inl f_ter))] sz [.ref h_wr, .int p1, .int p2, .int p3]) (va_Qi (fun (r : Int32) (u : (Int32) × (Int32) × (Int32) × (Nat → Int32) × (Nat → Int32) × (Nat → Int32)) => (0 ≤ (u.1).toInt ∧ (u.1).toInt ≤ 600) ∧ (0 ≤ (u.2.1).toInt ∧ (u.2.1).toInt ≤ 616) ∧ (0 ≤ (u.2.2.1).toInt ∧ (u.2.2.1).toInt ≤ 2048) ∧ (Rg (-127) 9599 u.2.2.2.2.2)) (fun (u : (Int32) × (Int32) × (Int32) × (Nat → Int32) × (Nat → Int32) × (Nat → Int32)) (t : State) => va_P (dC, dI) cls [(h_wr, .inr (6, (mo39 (.ref h_td) (.ref h_bd) (.ref h_wb) (.int u.1) (.ref h_wd) (.int u.2.1) (.ref h_wh) (.int u.2.2.1)))), (h_wb, .inl (cy_wb, 600, .inl u.2.2.2.1)), (h_wd, .inl (cy_wd, 616, .inl u.2.2.2.2.1)), (h_wh, .inl (cy_wh, 2048, .inl u.2.2.2.2.2)), (h_bd, .inr (1, (mo9 v_bd (.ref h_td) (.ref h_bnd)))), (h_bnd, .inl (cy_bnd, 256, .inl f_bnd)), (h_td, .inr (5, (mo21 v_td (.ref h_nam) (.ref h_var) (.ref h_trm) (.ref h_ter)))), (h_nam, .inl (cy_nam, 300, .inr (.inl f_nam))), (h_var, .inl (cy_var, 300, .inl f_var)), (h_trm, .inl (cy_trm, 300, .inl f_trm)), (h_ter, .inl (cy_ter, 900, .inl f_ter))] t.heap ∧ va_D (va_A [(h_wr, .inr (6, (mo39 (.ref h_td) (.ref h_bd) (.ref h_wb) (.int x_wr_length) (.ref h_wd) (.int x_wr_drafted) (.ref h_wh) (.int x_wr_held)))), (h_wb, .inl (cy_wb, 600, .inl f_wb)), (h_wd, .inl (cy_wd, 616, .inl f_wd)), (h_wh, .inl (cy_wh, 2048, .inl f_wh)), (h_bd, .inr (1, (mo9 v_bd (.ref h_td) (.ref h_bnd)))), (h_bnd, .inl (cy_bnd, 256, .inl f_bnd)), (h_td, .inr (5, (mo21 v_td (.ref h_nam) (.ref h_var) (.ref h_trm) (.ref h_ter)))), (h_nam, .inl (cy_nam, 300, .inr (.inl f_nam))), (h_var, .inl (cy_var, 300, .inl f_var)), (h_trm, .inl (cy_trm, 300, .inl f_trm)), (h_ter, .inl (cy_ter, 900, .inl f_ter))] sz) [(h_wr, .inr (6, (mo39 (.ref h_td) (.ref h_bd) (.ref h_wb) (.int u.1) (.ref h_wd) (.int u.2.1) (.ref h_wh) (.int u.2.2.1)))), (h_wb, .inl (cy_wb, 600, .inl u.2.2.2.1)), (h_wd, .inl (cy_wd, 616, .inl u.2.2.2.2.1)), (h_wh, .inl (cy_wh, 2048, .inl u.2.2.2.2.2)), (h_bd, .inr (1, (mo9 v_bd (.ref h_td) (.ref h_bnd)))), (h_bnd, .inl (cy_bnd, 256, .inl f_bnd)), (h_td, .inr (5, (mo21 v_td (.ref h_nam) (.ref h_var) (.ref h_trm) (.ref h_ter)))), (h_nam, .inl (cy_nam, 300, .inr (.inl f_nam))), (h_var, .inl (cy_var, 300, .inl f_var)), (h_trm, .inl (cy_trm, 300, .inl f_trm)), (h_ter, .inl (cy_ter, 900, .inl f_ter))]) (va_A [(h_wr, .inr (6, (mo39 (.ref h_td) (.ref h_bd) (.ref h_wb) (.int x_wr_length) (.ref h_wd) (.int x_wr_drafted) (.ref h_wh) (.int x_wr_held)))), (h_wb, .inl (cy_wb, 600, .inl f_wb)), (h_wd, .inl (cy_wd, 616, .inl f_wd)), (h_wh, .inl (cy_wh, 2048, .inl f_wh)), (h_bd, .inr (1, (mo9 v_bd (.ref h_td) (.ref h_bnd)))), (h_bnd, .inl (cy_bnd, 256, .inl f_bnd)), (h_td, .inr (5, (mo21 v_td (.ref h_nam) (.ref h_var) (.ref h_trm) (.ref h_ter)))), (h_nam, .inl (cy_nam, 300, .inr (.inl f_nam))), (h_var, .inl (cy_var, 300, .inl f_var)), (h_trm, .inl (cy_trm, 300, .inl f_trm)), (h_ter, .inl (cy_ter, 900, .inl f_ter))] sz)) 0 0 (va_A [(h_wr, .inr (6, (mo39 (.ref h_td) (.ref h_bd) (.ref h_wb) (.int x_wr_length) (.ref h_wd) (.int x_wr_drafted) (.ref h_wh) (.int x_wr_held)))), (h_wb, .inl (cy_wb, 600, .inl f_wb)), (h_wd, .inl (cy_wd, 616, .inl f_wd)), (h_wh, .inl (cy_wh, 2048, .inl f_wh)), (h_bd, .inr (1, (mo9 v_bd (.ref h_td) (.ref h_bnd)))), (h_bnd, .inl (cy_bnd, 256, .inl f_bnd)), (h_td, .inr (5, (mo21 v_td (.ref h_nam) (.ref h_var) (.ref h_trm) (.ref h_ter)))), (h_nam, .inl (cy_nam, 300, .inr (.inl f_nam))), (h_var, .inl (cy_var, 300, .inl f_var)), (h_trm, .inl (cy_trm, 300, .inl f_trm)), (h_ter, .inl (cy_ter, 900, .inl f_ter))] sz) := by
  refine Met.ofW (cc := cX9_write) (maxL := 5) (ret := (some .int)) (by decide) rfl ?_
  intro p e s m args below meth c s₁ B hml hv
  obtain ⟨rfl, hsz, hP, hK, hD0, hN⟩ := hv
  have hx := B.exec
  have hb := B.bytes
  have hr := B.returns
  have hts := atoms_spec (ws := Ws yX9_write cX9_write 5 (some .int)) B.pre
  have hT : ∀ w ∈ WALL, w ∈ Ws yX9_write cX9_write 5 (some .int) := fun w h => List.mem_cons_of_mem _ h
  have hw := fun w (h : w ∈ WALL) => hts w (hT w h)
  have hown : s.vm.findClass RX9 = some m.cls := findClass_of_methodNamed B.named
  have hlocks := B.notSynchronized
  subst hsz
  have hD := hD0.self (sz := s.heap.size)
  generalize hAe : va_A [(h_wr, .inr (6, (mo39 (.ref h_td) (.ref h_bd) (.ref h_wb) (.int x_wr_length) (.ref h_wd) (.int x_wr_drafted) (.ref h_wh) (.int x_wr_held)))), (h_wb, .inl (cy_wb, 600, .inl f_wb)), (h_wd, .inl (cy_wd, 616, .inl f_wd)), (h_wh, .inl (cy_wh, 2048, .inl f_wh)), (h_bd, .inr (1, (mo9 v_bd (.ref h_td) (.ref h_bnd)))), (h_bnd, .inl (cy_bnd, 256, .inl f_bnd)), (h_td, .inr (5, (mo21 v_td (.ref h_nam) (.ref h_var) (.ref h_trm) (.ref h_ter)))), (h_nam, .inl (cy_nam, 300, .inr (.inl f_nam))), (h_var, .inl (cy_var, 300, .inl f_var)), (h_trm, .inl (cy_trm, 300, .inl f_trm)), (h_ter, .inl (cy_ter, 900, .inl f_ter))] s.heap.size = A at hD ⊢
  have hA : ∀ q : Nat, s.heap.size ≤ q → A q := fun q h => by rw [← hAe]; exact Or.inr h
  have hS : va_S A s.heap s.heap [] := va_S.rf
  have hl := lv_entry ([.ref h_wr, .int p1, .int p2, .int p3]) (n := 5) (Nat.le_of_ble_eq_true rfl)
  rw [lg_entry_eq]
  generalize (lg_sl ([.ref h_wr, .int p1, .int p2, .int p3]) ++ List.replicate (5 - (lg_sl ([.ref h_wr, .int p1, .int p2, .int p3])).length) Slot.unset).toArray = ls at hl ⊢
  have hl : lv_has ls 5 [(0, .ref h_wr), (1, .int p1), (2, .int p2), (3, .int p3)] := hl
  refine lv_aload_n hx hb dX9_write_0 rfl (lv_at hl 0 rfl) ?_
  refine lv_iconst (v := 0) hx hb dX9_write_1 (by decide) ?_
  refine va_put (D := (dC, dI)) (ci := 6) (v := .int 0) (ty := tyX9 5) (C := RX9) (T := TX9) (N := 8) hx hb hw iwX9 tyX9 tyX9_ok nmX9 hown hK hP hD hS 0 rfl rfl 5 (by decide) (hw _ w_f_X9_29) (fun _ h9 => h9) rfl (tyX9_ok 5 (by decide)) rfl rfl (Nat.le_of_ble_eq_true rfl) dX9_write_2 (fun H locs hP9 hD9 hS9 => ?_)
  clear hP hD hS
  have hP : va_P (dC, dI) cls [(h_wr, .inr (6, (mo39 (.ref h_td) (.ref h_bd) (.ref h_wb) (.int x_wr_length) (.ref h_wd) (.int 0) (.ref h_wh) (.int x_wr_held)))), (h_wb, .inl (cy_wb, 600, .inl f_wb)), (h_wd, .inl (cy_wd, 616, .inl f_wd)), (h_wh, .inl (cy_wh, 2048, .inl f_wh)), (h_bd, .inr (1, (mo9 v_bd (.ref h_td) (.ref h_bnd)))), (h_bnd, .inl (cy_bnd, 256, .inl f_bnd)), (h_td, .inr (5, (mo21 v_td (.ref h_nam) (.ref h_var) (.ref h_trm) (.ref h_ter)))), (h_nam, .inl (cy_nam, 300, .inr (.inl f_nam))), (h_var, .inl (cy_var, 300, .inl f_var)), (h_trm, .inl (cy_trm, 300, .inl f_trm)), (h_ter, .inl (cy_ter, 900, .inl f_ter))] H := hP9
  have hD : va_D A [(h_wr, .inr (6, (mo39 (.ref h_td) (.ref h_bd) (.ref h_wb) (.int x_wr_length) (.ref h_wd) (.int 0) (.ref h_wh) (.int x_wr_held)))), (h_wb, .inl (cy_wb, 600, .inl f_wb)), (h_wd, .inl (cy_wd, 616, .inl f_wd)), (h_wh, .inl (cy_wh, 2048, .inl f_wh)), (h_bd, .inr (1, (mo9 v_bd (.ref h_td) (.ref h_bnd)))), (h_bnd, .inl (cy_bnd, 256, .inl f_bnd)), (h_td, .inr (5, (mo21 v_td (.ref h_nam) (.ref h_var) (.ref h_trm) (.ref h_ter)))), (h_nam, .inl (cy_nam, 300, .inr (.inl f_nam))), (h_var, .inl (cy_var, 300, .inl f_var)), (h_trm, .inl (cy_trm, 300, .inl f_trm)), (h_ter, .inl (cy_ter, 900, .inl f_ter))] := hD9
  have hS := hS9
  clear hP9 hD9 hS9
  refine lv_iload_n hx hb dX9_write_5 rfl (lv_at hl 2 rfl) ?_
  refine lv_if_eq (tgt := 15) hx hb dX9_write_6 (by decide) (fun c1 => ?_) (fun c1 => ?_)
  · have kc1 := (cv_eq (rfl : (p2).toInt = (p2).toInt) (by decide : (0 : Int32).toInt = 0)).mp c1
    refine lv_aload_n hx hb dX9_write_15 rfl (lv_at hl 0 rfl) ?_
    refine va_get (D := (dC, dI)) (ci := 6) (v := .ref h_wh) (C := RX9) (T := TX9) (N := 8) hx hb hw iwX9 hown hK hP 0 rfl rfl 6 (by decide) (hw _ w_f_X9_18) (fun _ h9 => h9) rfl dX9_write_16 ?_
    refine lv_iconst (v := 0) hx hb dX9_write_19 (by decide) ?_
    refine lv_iload_n hx hb dX9_write_20 rfl (lv_at hl 1 rfl) ?_
    refine va_iast hx hb hK hP hD hS 3 2 rfl rfl (i := 0) (x := p1) (show ¬ _ from by decide) dX9_write_21 (fun H locs hP9 hD9 hS9 => ?_)
    obtain ⟨f2, ef2⟩ : ∃ g : Nat → Int32, g = upd f_wh (Int32.toNatClampNeg 0) p1 := ⟨_, rfl⟩
    clear hP hD hS
    have hP : va_P (dC, dI) cls [(h_wr, .inr (6, (mo39 (.ref h_td) (.ref h_bd) (.ref h_wb) (.int x_wr_length) (.ref h_wd) (.int 0) (.ref h_wh) (.int x_wr_held)))), (h_wb, .inl (cy_wb, 600, .inl f_wb)), (h_wd, .inl (cy_wd, 616, .inl f_wd)), (h_wh, .inl (cy_wh, 2048, .inl f2)), (h_bd, .inr (1, (mo9 v_bd (.ref h_td) (.ref h_bnd)))), (h_bnd, .inl (cy_bnd, 256, .inl f_bnd)), (h_td, .inr (5, (mo21 v_td (.ref h_nam) (.ref h_var) (.ref h_trm) (.ref h_ter)))), (h_nam, .inl (cy_nam, 300, .inr (.inl f_nam))), (h_var, .inl (cy_var, 300, .inl f_var)), (h_trm, .inl (cy_trm, 300, .inl f_trm)), (h_ter, .inl (cy_ter, 900, .inl f_ter))] H := by rw [ef2]; exact hP9
    have hD : va_D A [(h_wr, .inr (6, (mo39 (.ref h_td) (.ref h_bd) (.ref h_wb) (.int x_wr_length) (.ref h_wd) (.int 0) (.ref h_wh) (.int x_wr_held)))), (h_wb, .inl (cy_wb, 600, .inl f_wb)), (h_wd, .inl (cy_wd, 616, .inl f_wd)), (h_wh, .inl (cy_wh, 2048, .inl f2)), (h_bd, .inr (1, (mo9 v_bd (.ref h_td) (.ref h_bnd)))), (h_bnd, .inl (cy_bnd, 256, .inl f_bnd)), (h_td, .inr (5, (mo21 v_td (.ref h_nam) (.ref h_var) (.ref h_trm) (.ref h_ter)))), (h_nam, .inl (cy_nam, 300, .inr (.inl f_nam))), (h_var, .inl (cy_var, 300, .inl f_var)), (h_trm, .inl (cy_trm, 300, .inl f_trm)), (h_ter, .inl (cy_ter, 900, .inl f_ter))] := by rw [ef2]; exact hD9
    have hS := hS9
    clear hP9 hD9 hS9
    have hf2 : Rg (-127) 9599 f2 := by rw [ef2]; exact rg_upd hf_wh (by omega)
    clear ef2
    refine lv_aload_n hx hb dX9_write_22 rfl (lv_at hl 0 rfl) ?_
    refine lv_iconst (v := 1) hx hb dX9_write_23 (by decide) ?_
    refine va_put (D := (dC, dI)) (ci := 6) (v := .int 1) (ty := tyX9 7) (C := RX9) (T := TX9) (N := 8) hx hb hw iwX9 tyX9 tyX9_ok nmX9 hown hK hP hD hS 0 rfl rfl 7 (by decide) (hw _ w_f_X9_37) (fun _ h9 => h9) rfl (tyX9_ok 7 (by decide)) rfl rfl (Nat.le_of_ble_eq_true rfl) dX9_write_24 (fun H locs hP9 hD9 hS9 => ?_)
    clear hP hD hS
    have hP : va_P (dC, dI) cls [(h_wr, .inr (6, (mo39 (.ref h_td) (.ref h_bd) (.ref h_wb) (.int x_wr_length) (.ref h_wd) (.int 0) (.ref h_wh) (.int 1)))), (h_wb, .inl (cy_wb, 600, .inl f_wb)), (h_wd, .inl (cy_wd, 616, .inl f_wd)), (h_wh, .inl (cy_wh, 2048, .inl f2)), (h_bd, .inr (1, (mo9 v_bd (.ref h_td) (.ref h_bnd)))), (h_bnd, .inl (cy_bnd, 256, .inl f_bnd)), (h_td, .inr (5, (mo21 v_td (.ref h_nam) (.ref h_var) (.ref h_trm) (.ref h_ter)))), (h_nam, .inl (cy_nam, 300, .inr (.inl f_nam))), (h_var, .inl (cy_var, 300, .inl f_var)), (h_trm, .inl (cy_trm, 300, .inl f_trm)), (h_ter, .inl (cy_ter, 900, .inl f_ter))] H := hP9
    have hD : va_D A [(h_wr, .inr (6, (mo39 (.ref h_td) (.ref h_bd) (.ref h_wb) (.int x_wr_length) (.ref h_wd) (.int 0) (.ref h_wh) (.int 1)))), (h_wb, .inl (cy_wb, 600, .inl f_wb)), (h_wd, .inl (cy_wd, 616, .inl f_wd)), (h_wh, .inl (cy_wh, 2048, .inl f2)), (h_bd, .inr (1, (mo9 v_bd (.ref h_td) (.ref h_bnd)))), (h_bnd, .inl (cy_bnd, 256, .inl f_bnd)), (h_td, .inr (5, (mo21 v_td (.ref h_nam) (.ref h_var) (.ref h_trm) (.ref h_ter)))), (h_nam, .inl (cy_nam, 300, .inr (.inl f_nam))), (h_var, .inl (cy_var, 300, .inl f_var)), (h_trm, .inl (cy_trm, 300, .inl f_trm)), (h_ter, .inl (cy_ter, 900, .inl f_ter))] := hD9
    have hS := hS9
    clear hP9 hD9 hS9
    refine lv_iconst (v := 0) hx hb dX9_write_27 (by decide) ?_
    refine lv_istore (lv' := [(4, .int 0), (0, .ref h_wr), (1, .int p1), (2, .int p2), (3, .int p3)]) hx hb dX9_write_28 hl (by decide) rfl (fun ls hl => ?_)
    have lp8 : ∀ (n : Nat) (x3 : Int32) (x4 : Int32) (x5 : Int32) (f6 : Nat → Int32) (f7 : Nat → Int32) (H : Heap) (locs : List Loc) (ls : Array Slot), (0 ≤ (x3).toInt ∧ (x3).toInt ≤ 1000000) → (0 ≤ (x4).toInt ∧ (x4).toInt ≤ 616) → (0 ≤ (x5).toInt ∧ (x5).toInt ≤ 2048) → (Rg (-127) 9599 f7) → (1000000 - (x3).toInt).toNat + 1 ≤ n → va_P (dC, dI) cls [(h_wr, .inr (6, (mo39 (.ref h_td) (.ref h_bd) (.ref h_wb) (.int x_wr_length) (.ref h_wd) (.int x4) (.ref h_wh) (.int x5)))), (h_wb, .inl (cy_wb, 600, .inl f_wb)), (h_wd, .inl (cy_wd, 616, .inl f6)), (h_wh, .inl (cy_wh, 2048, .inl f7)), (h_bd, .inr (1, (mo9 v_bd (.ref h_td) (.ref h_bnd)))), (h_bnd, .inl (cy_bnd, 256, .inl f_bnd)), (h_td, .inr (5, (mo21 v_td (.ref h_nam) (.ref h_var) (.ref h_trm) (.ref h_ter)))), (h_nam, .inl (cy_nam, 300, .inr (.inl f_nam))), (h_var, .inl (cy_var, 300, .inl f_var)), (h_trm, .inl (cy_trm, 300, .inl f_trm)), (h_ter, .inl (cy_ter, 900, .inl f_ter))] H → va_D A [(h_wr, .inr (6, (mo39 (.ref h_td) (.ref h_bd) (.ref h_wb) (.int x_wr_length) (.ref h_wd) (.int x4) (.ref h_wh) (.int x5)))), (h_wb, .inl (cy_wb, 600, .inl f_wb)), (h_wd, .inl (cy_wd, 616, .inl f6)), (h_wh, .inl (cy_wh, 2048, .inl f7)), (h_bd, .inr (1, (mo9 v_bd (.ref h_td) (.ref h_bnd)))), (h_bnd, .inl (cy_bnd, 256, .inl f_bnd)), (h_td, .inr (5, (mo21 v_td (.ref h_nam) (.ref h_var) (.ref h_trm) (.ref h_ter)))), (h_nam, .inl (cy_nam, 300, .inr (.inl f_nam))), (h_var, .inl (cy_var, 300, .inl f_var)), (h_trm, .inl (cy_trm, 300, .inl f_trm)), (h_ter, .inl (cy_ter, 900, .inl f_ter))] → va_S A s.heap H locs → lv_has ls 5 [(0, .ref h_wr), (1, .int p1), (2, .int p2), (3, .int p3), (4, .int x3)] → W p l e ({ frames := 3, cells := 0, slots := 0, locals := 80 } : Room) s m ([.ref h_wr, .int p1, .int p2, .int p3] : List Value).toArray below meth c H locs 0 0 (MQ below (va_Qi (fun (r : Int32) (u : (Int32) × (Int32) × (Int32) × (Nat → Int32) × (Nat → Int32) × (Nat → Int32)) => (0 ≤ (u.1).toInt ∧ (u.1).toInt ≤ 600) ∧ (0 ≤ (u.2.1).toInt ∧ (u.2.1).toInt ≤ 616) ∧ (0 ≤ (u.2.2.1).toInt ∧ (u.2.2.1).toInt ≤ 2048) ∧ (Rg (-127) 9599 u.2.2.2.2.2)) (fun (u : (Int32) × (Int32) × (Int32) × (Nat → Int32) × (Nat → Int32) × (Nat → Int32)) (t : State) => va_P (dC, dI) cls [(h_wr, .inr (6, (mo39 (.ref h_td) (.ref h_bd) (.ref h_wb) (.int u.1) (.ref h_wd) (.int u.2.1) (.ref h_wh) (.int u.2.2.1)))), (h_wb, .inl (cy_wb, 600, .inl u.2.2.2.1)), (h_wd, .inl (cy_wd, 616, .inl u.2.2.2.2.1)), (h_wh, .inl (cy_wh, 2048, .inl u.2.2.2.2.2)), (h_bd, .inr (1, (mo9 v_bd (.ref h_td) (.ref h_bnd)))), (h_bnd, .inl (cy_bnd, 256, .inl f_bnd)), (h_td, .inr (5, (mo21 v_td (.ref h_nam) (.ref h_var) (.ref h_trm) (.ref h_ter)))), (h_nam, .inl (cy_nam, 300, .inr (.inl f_nam))), (h_var, .inl (cy_var, 300, .inl f_var)), (h_trm, .inl (cy_trm, 300, .inl f_trm)), (h_ter, .inl (cy_ter, 900, .inl f_ter))] t.heap ∧ va_D A [(h_wr, .inr (6, (mo39 (.ref h_td) (.ref h_bd) (.ref h_wb) (.int u.1) (.ref h_wd) (.int u.2.1) (.ref h_wh) (.int u.2.2.1)))), (h_wb, .inl (cy_wb, 600, .inl u.2.2.2.1)), (h_wd, .inl (cy_wd, 616, .inl u.2.2.2.2.1)), (h_wh, .inl (cy_wh, 2048, .inl u.2.2.2.2.2)), (h_bd, .inr (1, (mo9 v_bd (.ref h_td) (.ref h_bnd)))), (h_bnd, .inl (cy_bnd, 256, .inl f_bnd)), (h_td, .inr (5, (mo21 v_td (.ref h_nam) (.ref h_var) (.ref h_trm) (.ref h_ter)))), (h_nam, .inl (cy_nam, 300, .inr (.inl f_nam))), (h_var, .inl (cy_var, 300, .inl f_var)), (h_trm, .inl (cy_trm, 300, .inl f_trm)), (h_ter, .inl (cy_ter, 900, .inl f_ter))]) A) ([.ref h_wr, .int p1, .int p2, .int p3] : List Value).toArray s 0 0 A) (F0 m 30 ls []) := by
      clear hP hD hS hl
      intro n
      induction n with
      | zero => intro x3 x4 x5 f6 f7 H locs ls klp8_0 klp8_1 klp8_2 hf7 hm hP hD hS hl; exact False.elim (by omega)
      | succ n ih => 
        intro x3 x4 x5 f6 f7 H locs ls klp8_0 klp8_1 klp8_2 hf7 hm hP hD hS hl
        have ih9 := ih
        clear ih
        refine lv_iload hx hb dX9_write_30 (lv_at hl 4 rfl) ?_
        refine lv_ldc (v := 1000000) hx hb hown (hw _ w_k_X9_40) dX9_write_32 ?_
        refine lv_icmp_ge (tgt := 117) hx hb dX9_write_34 (by decide) (fun c10 => ?_) (fun c10 => ?_)
        · have kc10 := (cv_le (by decide : (1000000 : Int32).toInt = 1000000) (rfl : (x3).toInt = (x3).toInt)).mp c10
          refine lv_aload_n hx hb dX9_write_117 rfl (lv_at hl 0 rfl) ?_
          refine va_get (D := (dC, dI)) (ci := 6) (v := .int x5) (C := RX9) (T := TX9) (N := 8) hx hb hw iwX9 hown hK hP 0 rfl rfl 7 (by decide) (hw _ w_f_X9_37) (fun _ h9 => h9) rfl dX9_write_118 ?_
          refine lv_if_gt (tgt := 142) hx hb dX9_write_121 (by decide) (fun c11 => ?_) (fun c11 => ?_)
          · have kc11 := (cv_lt (by decide : (0 : Int32).toInt = 0) (rfl : (x5).toInt = (x5).toInt)).mp c11
            refine lv_iconst (v := (-1)) hx hb dX9_write_142 (by decide) ?_
            refine W.widen (k := 0) (n := 0) (Nat.le_of_ble_eq_true rfl) (Nat.le_of_ble_eq_true rfl) ?_
            have cstm1 : ((-1) : Int32).toInt = -1 := by decide
            have w12 : 0 ≤ ((x_wr_length)).toInt ∧ ((x_wr_length)).toInt ≤ 600 := by first | exact hx_wr_length | omega
            have w13 : 0 ≤ ((x4)).toInt ∧ ((x4)).toInt ≤ 616 := by first | exact klp8_1 | omega
            have w14 : 0 ≤ ((x5)).toInt ∧ ((x5)).toInt ≤ 2048 := by first | exact klp8_2 | omega
            exact W.iret (v := (-1)) hx hb hr (fun t ht hW => ⟨⟨(-1), (x_wr_length, x4, x5, f_wb, f6, f7), rfl, ⟨w12, w13, w14, hf7⟩, by rw [ht]; exact hP, hD⟩, hS.F ht⟩) hS.2.2 dX9_write_143
          · have kc11 := (not_congr (cv_lt (by decide : (0 : Int32).toInt = 0) (rfl : (x5).toInt = (x5).toInt))).mp c11
            refine lv_aload_n hx hb dX9_write_124 rfl (lv_at hl 0 rfl) ?_
            refine va_get (D := (dC, dI)) (ci := 6) (v := .int x4) (C := RX9) (T := TX9) (N := 8) hx hb hw iwX9 hown hK hP 0 rfl rfl 5 (by decide) (hw _ w_f_X9_29) (fun _ h9 => h9) rfl dX9_write_125 ?_
            refine lv_iload_n hx hb dX9_write_128 rfl (lv_at hl 3 rfl) ?_
            refine lv_icmp_gt (tgt := 142) hx hb dX9_write_129 (by decide) (fun c15 => ?_) (fun c15 => ?_)
            · have kc15 := (cv_lt (rfl : (p3).toInt = (p3).toInt) (rfl : (x4).toInt = (x4).toInt)).mp c15
              refine lv_iconst (v := (-1)) hx hb dX9_write_142 (by decide) ?_
              refine W.widen (k := 0) (n := 0) (Nat.le_of_ble_eq_true rfl) (Nat.le_of_ble_eq_true rfl) ?_
              have cstm1 : ((-1) : Int32).toInt = -1 := by decide
              have w16 : 0 ≤ ((x_wr_length)).toInt ∧ ((x_wr_length)).toInt ≤ 600 := by first | exact hx_wr_length | omega
              have w17 : 0 ≤ ((x4)).toInt ∧ ((x4)).toInt ≤ 616 := by first | exact klp8_1 | omega
              have w18 : 0 ≤ ((x5)).toInt ∧ ((x5)).toInt ≤ 2048 := by first | exact klp8_2 | omega
              exact W.iret (v := (-1)) hx hb hr (fun t ht hW => ⟨⟨(-1), (x_wr_length, x4, x5, f_wb, f6, f7), rfl, ⟨w16, w17, w18, hf7⟩, by rw [ht]; exact hP, hD⟩, hS.F ht⟩) hS.2.2 dX9_write_143
            · have kc15 := (not_congr (cv_lt (rfl : (p3).toInt = (p3).toInt) (rfl : (x4).toInt = (x4).toInt))).mp c15
              refine lv_aload_n hx hb dX9_write_132 rfl (lv_at hl 0 rfl) ?_
              refine va_get (D := (dC, dI)) (ci := 6) (v := .int x4) (C := RX9) (T := TX9) (N := 8) hx hb hw iwX9 hown hK hP 0 rfl rfl 5 (by decide) (hw _ w_f_X9_29) (fun _ h9 => h9) rfl dX9_write_133 ?_
              refine lv_sipush (v := 600) hx hb dX9_write_136 (by decide) ?_
              refine lv_icmp_le (tgt := 144) hx hb dX9_write_139 (by decide) (fun c19 => ?_) (fun c19 => ?_)
              · have kc19 := (cv_le (rfl : (x4).toInt = (x4).toInt) (by decide : (600 : Int32).toInt = 600)).mp c19
                refine lv_aload_n hx hb dX9_write_144 rfl (lv_at hl 0 rfl) ?_
                refine va_get (D := (dC, dI)) (ci := 6) (v := .ref h_wd) (C := RX9) (T := TX9) (N := 8) hx hb hw iwX9 hown hK hP 0 rfl rfl 4 (by decide) (hw _ w_f_X9_15) (fun _ h9 => h9) rfl dX9_write_145 ?_
                refine lv_iconst (v := 0) hx hb dX9_write_148 (by decide) ?_
                refine lv_aload_n hx hb dX9_write_149 rfl (lv_at hl 0 rfl) ?_
                refine va_get (D := (dC, dI)) (ci := 6) (v := .ref h_wb) (C := RX9) (T := TX9) (N := 8) hx hb hw iwX9 hown hK hP 0 rfl rfl 2 (by decide) (hw _ w_f_X9_9) (fun _ h9 => h9) rfl dX9_write_150 ?_
                refine lv_iconst (v := 0) hx hb dX9_write_153 (by decide) ?_
                refine lv_aload_n hx hb dX9_write_154 rfl (lv_at hl 0 rfl) ?_
                refine va_get (D := (dC, dI)) (ci := 6) (v := .int x4) (C := RX9) (T := TX9) (N := 8) hx hb hw iwX9 hown hK hP 0 rfl rfl 5 (by decide) (hw _ w_f_X9_29) (fun _ h9 => h9) rfl dX9_write_155 ?_
                refine va_copyi hx hb (hml.trans hl.1.symm) hown (hw _ w_m_X9_50) (hw _ w_acn) (hw _ w_acs) (hw _ w_ini_System) hK hP hD hS 2 1 1 0 (sp := 0) (dp := 0) (n := x4) rfl rfl rfl rfl rfl (by decide) (by decide) (fun q => by have := (cv_lt (rfl : (x4).toInt = (x4).toInt) (by decide : (0 : Int32).toInt = 0)).mp q; omega) (by have : (0 : Int32).toNatClampNeg = 0 := (by decide); have := clamp_toInt (i := x4) (by omega); omega) (by have : (0 : Int32).toNatClampNeg = 0 := (by decide); have := clamp_toInt (i := x4) (by omega); omega) (fun _ _ => rfl) (Nat.le_of_ble_eq_true rfl) (Nat.le_of_ble_eq_true rfl) dX9_write_158 (fun H locs hP hD hS => ?_)
                obtain ⟨f20, ef20⟩ : ∃ g : Nat → Int32, g = va_cpy f6 f_wb (Int32.toNatClampNeg 0) (Int32.toNatClampNeg 0) (Int32.toNatClampNeg x4) := ⟨_, rfl⟩
                have hP : va_P (dC, dI) cls [(h_wr, .inr (6, (mo39 (.ref h_td) (.ref h_bd) (.ref h_wb) (.int x_wr_length) (.ref h_wd) (.int x4) (.ref h_wh) (.int x5)))), (h_wb, .inl (cy_wb, 600, .inl f20)), (h_wd, .inl (cy_wd, 616, .inl f6)), (h_wh, .inl (cy_wh, 2048, .inl f7)), (h_bd, .inr (1, (mo9 v_bd (.ref h_td) (.ref h_bnd)))), (h_bnd, .inl (cy_bnd, 256, .inl f_bnd)), (h_td, .inr (5, (mo21 v_td (.ref h_nam) (.ref h_var) (.ref h_trm) (.ref h_ter)))), (h_nam, .inl (cy_nam, 300, .inr (.inl f_nam))), (h_var, .inl (cy_var, 300, .inl f_var)), (h_trm, .inl (cy_trm, 300, .inl f_trm)), (h_ter, .inl (cy_ter, 900, .inl f_ter))] H := by rw [ef20]; exact hP
                have hD : va_D A [(h_wr, .inr (6, (mo39 (.ref h_td) (.ref h_bd) (.ref h_wb) (.int x_wr_length) (.ref h_wd) (.int x4) (.ref h_wh) (.int x5)))), (h_wb, .inl (cy_wb, 600, .inl f20)), (h_wd, .inl (cy_wd, 616, .inl f6)), (h_wh, .inl (cy_wh, 2048, .inl f7)), (h_bd, .inr (1, (mo9 v_bd (.ref h_td) (.ref h_bnd)))), (h_bnd, .inl (cy_bnd, 256, .inl f_bnd)), (h_td, .inr (5, (mo21 v_td (.ref h_nam) (.ref h_var) (.ref h_trm) (.ref h_ter)))), (h_nam, .inl (cy_nam, 300, .inr (.inl f_nam))), (h_var, .inl (cy_var, 300, .inl f_var)), (h_trm, .inl (cy_trm, 300, .inl f_trm)), (h_ter, .inl (cy_ter, 900, .inl f_ter))] := by rw [ef20]; exact hD
                clear ef20
                refine lv_aload_n hx hb dX9_write_161 rfl (lv_at hl 0 rfl) ?_
                refine lv_aload_n hx hb dX9_write_162 rfl (lv_at hl 0 rfl) ?_
                refine va_get (D := (dC, dI)) (ci := 6) (v := .int x4) (C := RX9) (T := TX9) (N := 8) hx hb hw iwX9 hown hK hP 0 rfl rfl 5 (by decide) (hw _ w_f_X9_29) (fun _ h9 => h9) rfl dX9_write_163 ?_
                refine va_put (D := (dC, dI)) (ci := 6) (v := .int x4) (ty := tyX9 3) (C := RX9) (T := TX9) (N := 8) hx hb hw iwX9 tyX9 tyX9_ok nmX9 hown hK hP hD hS 0 rfl rfl 3 (by decide) (hw _ w_f_X9_56) (fun _ h9 => h9) rfl (tyX9_ok 3 (by decide)) rfl rfl (Nat.le_of_ble_eq_true rfl) dX9_write_166 (fun H locs hP9 hD9 hS9 => ?_)
                clear hP hD hS
                have hP : va_P (dC, dI) cls [(h_wr, .inr (6, (mo39 (.ref h_td) (.ref h_bd) (.ref h_wb) (.int x4) (.ref h_wd) (.int x4) (.ref h_wh) (.int x5)))), (h_wb, .inl (cy_wb, 600, .inl f20)), (h_wd, .inl (cy_wd, 616, .inl f6)), (h_wh, .inl (cy_wh, 2048, .inl f7)), (h_bd, .inr (1, (mo9 v_bd (.ref h_td) (.ref h_bnd)))), (h_bnd, .inl (cy_bnd, 256, .inl f_bnd)), (h_td, .inr (5, (mo21 v_td (.ref h_nam) (.ref h_var) (.ref h_trm) (.ref h_ter)))), (h_nam, .inl (cy_nam, 300, .inr (.inl f_nam))), (h_var, .inl (cy_var, 300, .inl f_var)), (h_trm, .inl (cy_trm, 300, .inl f_trm)), (h_ter, .inl (cy_ter, 900, .inl f_ter))] H := hP9
                have hD : va_D A [(h_wr, .inr (6, (mo39 (.ref h_td) (.ref h_bd) (.ref h_wb) (.int x4) (.ref h_wd) (.int x4) (.ref h_wh) (.int x5)))), (h_wb, .inl (cy_wb, 600, .inl f20)), (h_wd, .inl (cy_wd, 616, .inl f6)), (h_wh, .inl (cy_wh, 2048, .inl f7)), (h_bd, .inr (1, (mo9 v_bd (.ref h_td) (.ref h_bnd)))), (h_bnd, .inl (cy_bnd, 256, .inl f_bnd)), (h_td, .inr (5, (mo21 v_td (.ref h_nam) (.ref h_var) (.ref h_trm) (.ref h_ter)))), (h_nam, .inl (cy_nam, 300, .inr (.inl f_nam))), (h_var, .inl (cy_var, 300, .inl f_var)), (h_trm, .inl (cy_trm, 300, .inl f_trm)), (h_ter, .inl (cy_ter, 900, .inl f_ter))] := hD9
                have hS := hS9
                clear hP9 hD9 hS9
                refine lv_aload_n hx hb dX9_write_169 rfl (lv_at hl 0 rfl) ?_
                refine va_get (D := (dC, dI)) (ci := 6) (v := .int x4) (C := RX9) (T := TX9) (N := 8) hx hb hw iwX9 hown hK hP 0 rfl rfl 3 (by decide) (hw _ w_f_X9_56) (fun _ h9 => h9) rfl dX9_write_170 ?_
                refine W.widen (k := 0) (n := 0) (Nat.le_of_ble_eq_true rfl) (Nat.le_of_ble_eq_true rfl) ?_
                have w21 : 0 ≤ ((x4)).toInt ∧ ((x4)).toInt ≤ 600 := by omega
                have w22 : 0 ≤ ((x4)).toInt ∧ ((x4)).toInt ≤ 616 := by first | exact klp8_1 | omega
                have w23 : 0 ≤ ((x5)).toInt ∧ ((x5)).toInt ≤ 2048 := by first | exact klp8_2 | omega
                exact W.iret (v := x4) hx hb hr (fun t ht hW => ⟨⟨x4, (x4, x4, x5, f20, f6, f7), rfl, ⟨w21, w22, w23, hf7⟩, by rw [ht]; exact hP, hD⟩, hS.F ht⟩) hS.2.2 dX9_write_173
              · have kc19 := (not_congr (cv_le (rfl : (x4).toInt = (x4).toInt) (by decide : (600 : Int32).toInt = 600))).mp c19
                refine lv_iconst (v := (-1)) hx hb dX9_write_142 (by decide) ?_
                refine W.widen (k := 0) (n := 0) (Nat.le_of_ble_eq_true rfl) (Nat.le_of_ble_eq_true rfl) ?_
                have cstm1 : ((-1) : Int32).toInt = -1 := by decide
                have w24 : 0 ≤ ((x_wr_length)).toInt ∧ ((x_wr_length)).toInt ≤ 600 := by first | exact hx_wr_length | omega
                have w25 : 0 ≤ ((x4)).toInt ∧ ((x4)).toInt ≤ 616 := by first | exact klp8_1 | omega
                have w26 : 0 ≤ ((x5)).toInt ∧ ((x5)).toInt ≤ 2048 := by first | exact klp8_2 | omega
                exact W.iret (v := (-1)) hx hb hr (fun t ht hW => ⟨⟨(-1), (x_wr_length, x4, x5, f_wb, f6, f7), rfl, ⟨w24, w25, w26, hf7⟩, by rw [ht]; exact hP, hD⟩, hS.F ht⟩) hS.2.2 dX9_write_143
        · have kc10 := (not_congr (cv_le (by decide : (1000000 : Int32).toInt = 1000000) (rfl : (x3).toInt = (x3).toInt))).mp c10
          refine lv_aload_n hx hb dX9_write_37 rfl (lv_at hl 0 rfl) ?_
          refine va_get (D := (dC, dI)) (ci := 6) (v := .int x5) (C := RX9) (T := TX9) (N := 8) hx hb hw iwX9 hown hK hP 0 rfl rfl 7 (by decide) (hw _ w_f_X9_37) (fun _ h9 => h9) rfl dX9_write_38 ?_
          refine lv_if_le (tgt := 117) hx hb dX9_write_41 (by decide) (fun c27 => ?_) (fun c27 => ?_)
          · have kc27 := (cv_le (rfl : (x5).toInt = (x5).toInt) (by decide : (0 : Int32).toInt = 0)).mp c27
            refine lv_aload_n hx hb dX9_write_117 rfl (lv_at hl 0 rfl) ?_
            refine va_get (D := (dC, dI)) (ci := 6) (v := .int x5) (C := RX9) (T := TX9) (N := 8) hx hb hw iwX9 hown hK hP 0 rfl rfl 7 (by decide) (hw _ w_f_X9_37) (fun _ h9 => h9) rfl dX9_write_118 ?_
            refine lv_if_gt (tgt := 142) hx hb dX9_write_121 (by decide) (fun c28 => False.elim (by have kc28 := (cv_lt (by decide : (0 : Int32).toInt = 0) (rfl : (x5).toInt = (x5).toInt)).mp c28; omega)) (fun _ => ?_)
            refine lv_aload_n hx hb dX9_write_124 rfl (lv_at hl 0 rfl) ?_
            refine va_get (D := (dC, dI)) (ci := 6) (v := .int x4) (C := RX9) (T := TX9) (N := 8) hx hb hw iwX9 hown hK hP 0 rfl rfl 5 (by decide) (hw _ w_f_X9_29) (fun _ h9 => h9) rfl dX9_write_125 ?_
            refine lv_iload_n hx hb dX9_write_128 rfl (lv_at hl 3 rfl) ?_
            refine lv_icmp_gt (tgt := 142) hx hb dX9_write_129 (by decide) (fun c29 => ?_) (fun c29 => ?_)
            · have kc29 := (cv_lt (rfl : (p3).toInt = (p3).toInt) (rfl : (x4).toInt = (x4).toInt)).mp c29
              refine lv_iconst (v := (-1)) hx hb dX9_write_142 (by decide) ?_
              refine W.widen (k := 0) (n := 0) (Nat.le_of_ble_eq_true rfl) (Nat.le_of_ble_eq_true rfl) ?_
              have cstm1 : ((-1) : Int32).toInt = -1 := by decide
              have w30 : 0 ≤ ((x_wr_length)).toInt ∧ ((x_wr_length)).toInt ≤ 600 := by first | exact hx_wr_length | omega
              have w31 : 0 ≤ ((x4)).toInt ∧ ((x4)).toInt ≤ 616 := by first | exact klp8_1 | omega
              have w32 : 0 ≤ ((x5)).toInt ∧ ((x5)).toInt ≤ 2048 := by first | exact klp8_2 | omega
              exact W.iret (v := (-1)) hx hb hr (fun t ht hW => ⟨⟨(-1), (x_wr_length, x4, x5, f_wb, f6, f7), rfl, ⟨w30, w31, w32, hf7⟩, by rw [ht]; exact hP, hD⟩, hS.F ht⟩) hS.2.2 dX9_write_143
            · have kc29 := (not_congr (cv_lt (rfl : (p3).toInt = (p3).toInt) (rfl : (x4).toInt = (x4).toInt))).mp c29
              refine lv_aload_n hx hb dX9_write_132 rfl (lv_at hl 0 rfl) ?_
              refine va_get (D := (dC, dI)) (ci := 6) (v := .int x4) (C := RX9) (T := TX9) (N := 8) hx hb hw iwX9 hown hK hP 0 rfl rfl 5 (by decide) (hw _ w_f_X9_29) (fun _ h9 => h9) rfl dX9_write_133 ?_
              refine lv_sipush (v := 600) hx hb dX9_write_136 (by decide) ?_
              refine lv_icmp_le (tgt := 144) hx hb dX9_write_139 (by decide) (fun c33 => ?_) (fun c33 => ?_)
              · have kc33 := (cv_le (rfl : (x4).toInt = (x4).toInt) (by decide : (600 : Int32).toInt = 600)).mp c33
                refine lv_aload_n hx hb dX9_write_144 rfl (lv_at hl 0 rfl) ?_
                refine va_get (D := (dC, dI)) (ci := 6) (v := .ref h_wd) (C := RX9) (T := TX9) (N := 8) hx hb hw iwX9 hown hK hP 0 rfl rfl 4 (by decide) (hw _ w_f_X9_15) (fun _ h9 => h9) rfl dX9_write_145 ?_
                refine lv_iconst (v := 0) hx hb dX9_write_148 (by decide) ?_
                refine lv_aload_n hx hb dX9_write_149 rfl (lv_at hl 0 rfl) ?_
                refine va_get (D := (dC, dI)) (ci := 6) (v := .ref h_wb) (C := RX9) (T := TX9) (N := 8) hx hb hw iwX9 hown hK hP 0 rfl rfl 2 (by decide) (hw _ w_f_X9_9) (fun _ h9 => h9) rfl dX9_write_150 ?_
                refine lv_iconst (v := 0) hx hb dX9_write_153 (by decide) ?_
                refine lv_aload_n hx hb dX9_write_154 rfl (lv_at hl 0 rfl) ?_
                refine va_get (D := (dC, dI)) (ci := 6) (v := .int x4) (C := RX9) (T := TX9) (N := 8) hx hb hw iwX9 hown hK hP 0 rfl rfl 5 (by decide) (hw _ w_f_X9_29) (fun _ h9 => h9) rfl dX9_write_155 ?_
                refine va_copyi hx hb (hml.trans hl.1.symm) hown (hw _ w_m_X9_50) (hw _ w_acn) (hw _ w_acs) (hw _ w_ini_System) hK hP hD hS 2 1 1 0 (sp := 0) (dp := 0) (n := x4) rfl rfl rfl rfl rfl (by decide) (by decide) (fun q => by have := (cv_lt (rfl : (x4).toInt = (x4).toInt) (by decide : (0 : Int32).toInt = 0)).mp q; omega) (by have : (0 : Int32).toNatClampNeg = 0 := (by decide); have := clamp_toInt (i := x4) (by omega); omega) (by have : (0 : Int32).toNatClampNeg = 0 := (by decide); have := clamp_toInt (i := x4) (by omega); omega) (fun _ _ => rfl) (Nat.le_of_ble_eq_true rfl) (Nat.le_of_ble_eq_true rfl) dX9_write_158 (fun H locs hP hD hS => ?_)
                obtain ⟨f34, ef34⟩ : ∃ g : Nat → Int32, g = va_cpy f6 f_wb (Int32.toNatClampNeg 0) (Int32.toNatClampNeg 0) (Int32.toNatClampNeg x4) := ⟨_, rfl⟩
                have hP : va_P (dC, dI) cls [(h_wr, .inr (6, (mo39 (.ref h_td) (.ref h_bd) (.ref h_wb) (.int x_wr_length) (.ref h_wd) (.int x4) (.ref h_wh) (.int x5)))), (h_wb, .inl (cy_wb, 600, .inl f34)), (h_wd, .inl (cy_wd, 616, .inl f6)), (h_wh, .inl (cy_wh, 2048, .inl f7)), (h_bd, .inr (1, (mo9 v_bd (.ref h_td) (.ref h_bnd)))), (h_bnd, .inl (cy_bnd, 256, .inl f_bnd)), (h_td, .inr (5, (mo21 v_td (.ref h_nam) (.ref h_var) (.ref h_trm) (.ref h_ter)))), (h_nam, .inl (cy_nam, 300, .inr (.inl f_nam))), (h_var, .inl (cy_var, 300, .inl f_var)), (h_trm, .inl (cy_trm, 300, .inl f_trm)), (h_ter, .inl (cy_ter, 900, .inl f_ter))] H := by rw [ef34]; exact hP
                have hD : va_D A [(h_wr, .inr (6, (mo39 (.ref h_td) (.ref h_bd) (.ref h_wb) (.int x_wr_length) (.ref h_wd) (.int x4) (.ref h_wh) (.int x5)))), (h_wb, .inl (cy_wb, 600, .inl f34)), (h_wd, .inl (cy_wd, 616, .inl f6)), (h_wh, .inl (cy_wh, 2048, .inl f7)), (h_bd, .inr (1, (mo9 v_bd (.ref h_td) (.ref h_bnd)))), (h_bnd, .inl (cy_bnd, 256, .inl f_bnd)), (h_td, .inr (5, (mo21 v_td (.ref h_nam) (.ref h_var) (.ref h_trm) (.ref h_ter)))), (h_nam, .inl (cy_nam, 300, .inr (.inl f_nam))), (h_var, .inl (cy_var, 300, .inl f_var)), (h_trm, .inl (cy_trm, 300, .inl f_trm)), (h_ter, .inl (cy_ter, 900, .inl f_ter))] := by rw [ef34]; exact hD
                clear ef34
                refine lv_aload_n hx hb dX9_write_161 rfl (lv_at hl 0 rfl) ?_
                refine lv_aload_n hx hb dX9_write_162 rfl (lv_at hl 0 rfl) ?_
                refine va_get (D := (dC, dI)) (ci := 6) (v := .int x4) (C := RX9) (T := TX9) (N := 8) hx hb hw iwX9 hown hK hP 0 rfl rfl 5 (by decide) (hw _ w_f_X9_29) (fun _ h9 => h9) rfl dX9_write_163 ?_
                refine va_put (D := (dC, dI)) (ci := 6) (v := .int x4) (ty := tyX9 3) (C := RX9) (T := TX9) (N := 8) hx hb hw iwX9 tyX9 tyX9_ok nmX9 hown hK hP hD hS 0 rfl rfl 3 (by decide) (hw _ w_f_X9_56) (fun _ h9 => h9) rfl (tyX9_ok 3 (by decide)) rfl rfl (Nat.le_of_ble_eq_true rfl) dX9_write_166 (fun H locs hP9 hD9 hS9 => ?_)
                clear hP hD hS
                have hP : va_P (dC, dI) cls [(h_wr, .inr (6, (mo39 (.ref h_td) (.ref h_bd) (.ref h_wb) (.int x4) (.ref h_wd) (.int x4) (.ref h_wh) (.int x5)))), (h_wb, .inl (cy_wb, 600, .inl f34)), (h_wd, .inl (cy_wd, 616, .inl f6)), (h_wh, .inl (cy_wh, 2048, .inl f7)), (h_bd, .inr (1, (mo9 v_bd (.ref h_td) (.ref h_bnd)))), (h_bnd, .inl (cy_bnd, 256, .inl f_bnd)), (h_td, .inr (5, (mo21 v_td (.ref h_nam) (.ref h_var) (.ref h_trm) (.ref h_ter)))), (h_nam, .inl (cy_nam, 300, .inr (.inl f_nam))), (h_var, .inl (cy_var, 300, .inl f_var)), (h_trm, .inl (cy_trm, 300, .inl f_trm)), (h_ter, .inl (cy_ter, 900, .inl f_ter))] H := hP9
                have hD : va_D A [(h_wr, .inr (6, (mo39 (.ref h_td) (.ref h_bd) (.ref h_wb) (.int x4) (.ref h_wd) (.int x4) (.ref h_wh) (.int x5)))), (h_wb, .inl (cy_wb, 600, .inl f34)), (h_wd, .inl (cy_wd, 616, .inl f6)), (h_wh, .inl (cy_wh, 2048, .inl f7)), (h_bd, .inr (1, (mo9 v_bd (.ref h_td) (.ref h_bnd)))), (h_bnd, .inl (cy_bnd, 256, .inl f_bnd)), (h_td, .inr (5, (mo21 v_td (.ref h_nam) (.ref h_var) (.ref h_trm) (.ref h_ter)))), (h_nam, .inl (cy_nam, 300, .inr (.inl f_nam))), (h_var, .inl (cy_var, 300, .inl f_var)), (h_trm, .inl (cy_trm, 300, .inl f_trm)), (h_ter, .inl (cy_ter, 900, .inl f_ter))] := hD9
                have hS := hS9
                clear hP9 hD9 hS9
                refine lv_aload_n hx hb dX9_write_169 rfl (lv_at hl 0 rfl) ?_
                refine va_get (D := (dC, dI)) (ci := 6) (v := .int x4) (C := RX9) (T := TX9) (N := 8) hx hb hw iwX9 hown hK hP 0 rfl rfl 3 (by decide) (hw _ w_f_X9_56) (fun _ h9 => h9) rfl dX9_write_170 ?_
                refine W.widen (k := 0) (n := 0) (Nat.le_of_ble_eq_true rfl) (Nat.le_of_ble_eq_true rfl) ?_
                have w35 : 0 ≤ ((x4)).toInt ∧ ((x4)).toInt ≤ 600 := by omega
                have w36 : 0 ≤ ((x4)).toInt ∧ ((x4)).toInt ≤ 616 := by first | exact klp8_1 | omega
                have w37 : 0 ≤ ((x5)).toInt ∧ ((x5)).toInt ≤ 2048 := by first | exact klp8_2 | omega
                exact W.iret (v := x4) hx hb hr (fun t ht hW => ⟨⟨x4, (x4, x4, x5, f34, f6, f7), rfl, ⟨w35, w36, w37, hf7⟩, by rw [ht]; exact hP, hD⟩, hS.F ht⟩) hS.2.2 dX9_write_173
              · have kc33 := (not_congr (cv_le (rfl : (x4).toInt = (x4).toInt) (by decide : (600 : Int32).toInt = 600))).mp c33
                refine lv_iconst (v := (-1)) hx hb dX9_write_142 (by decide) ?_
                refine W.widen (k := 0) (n := 0) (Nat.le_of_ble_eq_true rfl) (Nat.le_of_ble_eq_true rfl) ?_
                have cstm1 : ((-1) : Int32).toInt = -1 := by decide
                have w38 : 0 ≤ ((x_wr_length)).toInt ∧ ((x_wr_length)).toInt ≤ 600 := by first | exact hx_wr_length | omega
                have w39 : 0 ≤ ((x4)).toInt ∧ ((x4)).toInt ≤ 616 := by first | exact klp8_1 | omega
                have w40 : 0 ≤ ((x5)).toInt ∧ ((x5)).toInt ≤ 2048 := by first | exact klp8_2 | omega
                exact W.iret (v := (-1)) hx hb hr (fun t ht hW => ⟨⟨(-1), (x_wr_length, x4, x5, f_wb, f6, f7), rfl, ⟨w38, w39, w40, hf7⟩, by rw [ht]; exact hP, hD⟩, hS.F ht⟩) hS.2.2 dX9_write_143
          · have kc27 := (not_congr (cv_le (rfl : (x5).toInt = (x5).toInt) (by decide : (0 : Int32).toInt = 0))).mp c27
            refine lv_aload_n hx hb dX9_write_44 rfl (lv_at hl 0 rfl) ?_
            refine va_get (D := (dC, dI)) (ci := 6) (v := .int x4) (C := RX9) (T := TX9) (N := 8) hx hb hw iwX9 hown hK hP 0 rfl rfl 5 (by decide) (hw _ w_f_X9_29) (fun _ h9 => h9) rfl dX9_write_45 ?_
            refine lv_iload_n hx hb dX9_write_48 rfl (lv_at hl 3 rfl) ?_
            refine lv_icmp_gt (tgt := 117) hx hb dX9_write_49 (by decide) (fun c41 => ?_) (fun c41 => ?_)
            · have kc41 := (cv_lt (rfl : (p3).toInt = (p3).toInt) (rfl : (x4).toInt = (x4).toInt)).mp c41
              refine lv_aload_n hx hb dX9_write_117 rfl (lv_at hl 0 rfl) ?_
              refine va_get (D := (dC, dI)) (ci := 6) (v := .int x5) (C := RX9) (T := TX9) (N := 8) hx hb hw iwX9 hown hK hP 0 rfl rfl 7 (by decide) (hw _ w_f_X9_37) (fun _ h9 => h9) rfl dX9_write_118 ?_
              refine lv_if_gt (tgt := 142) hx hb dX9_write_121 (by decide) (fun _ => ?_) (fun c42 => False.elim (by have kc42 := (not_congr (cv_lt (by decide : (0 : Int32).toInt = 0) (rfl : (x5).toInt = (x5).toInt))).mp c42; omega))
              refine lv_iconst (v := (-1)) hx hb dX9_write_142 (by decide) ?_
              refine W.widen (k := 0) (n := 0) (Nat.le_of_ble_eq_true rfl) (Nat.le_of_ble_eq_true rfl) ?_
              have cstm1 : ((-1) : Int32).toInt = -1 := by decide
              have w43 : 0 ≤ ((x_wr_length)).toInt ∧ ((x_wr_length)).toInt ≤ 600 := by first | exact hx_wr_length | omega
              have w44 : 0 ≤ ((x4)).toInt ∧ ((x4)).toInt ≤ 616 := by first | exact klp8_1 | omega
              have w45 : 0 ≤ ((x5)).toInt ∧ ((x5)).toInt ≤ 2048 := by first | exact klp8_2 | omega
              exact W.iret (v := (-1)) hx hb hr (fun t ht hW => ⟨⟨(-1), (x_wr_length, x4, x5, f_wb, f6, f7), rfl, ⟨w43, w44, w45, hf7⟩, by rw [ht]; exact hP, hD⟩, hS.F ht⟩) hS.2.2 dX9_write_143
            · have kc41 := (not_congr (cv_lt (rfl : (p3).toInt = (p3).toInt) (rfl : (x4).toInt = (x4).toInt))).mp c41
              refine lv_aload_n hx hb dX9_write_52 rfl (lv_at hl 0 rfl) ?_
              refine lv_dup hx hb dX9_write_53 rfl ?_
              refine va_get (D := (dC, dI)) (ci := 6) (v := .int x5) (C := RX9) (T := TX9) (N := 8) hx hb hw iwX9 hown hK hP 0 rfl rfl 7 (by decide) (hw _ w_f_X9_37) (fun _ h9 => h9) rfl dX9_write_54 ?_
              refine lv_iconst (v := 1) hx hb dX9_write_57 (by decide) ?_
              refine lv_isub hx hb dX9_write_58 ?_
              refine lv_topi (fun z46 ez46 => ?_)
              have tz46 : (z46).toInt = (x5).toInt - 1 := by rw [ez46]; exact i_sub rfl (by decide) (by omega)
              refine va_put (D := (dC, dI)) (ci := 6) (v := .int z46) (ty := tyX9 7) (C := RX9) (T := TX9) (N := 8) hx hb hw iwX9 tyX9 tyX9_ok nmX9 hown hK hP hD hS 0 rfl rfl 7 (by decide) (hw _ w_f_X9_37) (fun _ h9 => h9) rfl (tyX9_ok 7 (by decide)) rfl rfl (Nat.le_of_ble_eq_true rfl) dX9_write_59 (fun H locs hP9 hD9 hS9 => ?_)
              clear hP hD hS
              have hP : va_P (dC, dI) cls [(h_wr, .inr (6, (mo39 (.ref h_td) (.ref h_bd) (.ref h_wb) (.int x_wr_length) (.ref h_wd) (.int x4) (.ref h_wh) (.int z46)))), (h_wb, .inl (cy_wb, 600, .inl f_wb)), (h_wd, .inl (cy_wd, 616, .inl f6)), (h_wh, .inl (cy_wh, 2048, .inl f7)), (h_bd, .inr (1, (mo9 v_bd (.ref h_td) (.ref h_bnd)))), (h_bnd, .inl (cy_bnd, 256, .inl f_bnd)), (h_td, .inr (5, (mo21 v_td (.ref h_nam) (.ref h_var) (.ref h_trm) (.ref h_ter)))), (h_nam, .inl (cy_nam, 300, .inr (.inl f_nam))), (h_var, .inl (cy_var, 300, .inl f_var)), (h_trm, .inl (cy_trm, 300, .inl f_trm)), (h_ter, .inl (cy_ter, 900, .inl f_ter))] H := hP9
              have hD : va_D A [(h_wr, .inr (6, (mo39 (.ref h_td) (.ref h_bd) (.ref h_wb) (.int x_wr_length) (.ref h_wd) (.int x4) (.ref h_wh) (.int z46)))), (h_wb, .inl (cy_wb, 600, .inl f_wb)), (h_wd, .inl (cy_wd, 616, .inl f6)), (h_wh, .inl (cy_wh, 2048, .inl f7)), (h_bd, .inr (1, (mo9 v_bd (.ref h_td) (.ref h_bnd)))), (h_bnd, .inl (cy_bnd, 256, .inl f_bnd)), (h_td, .inr (5, (mo21 v_td (.ref h_nam) (.ref h_var) (.ref h_trm) (.ref h_ter)))), (h_nam, .inl (cy_nam, 300, .inr (.inl f_nam))), (h_var, .inl (cy_var, 300, .inl f_var)), (h_trm, .inl (cy_trm, 300, .inl f_trm)), (h_ter, .inl (cy_ter, 900, .inl f_ter))] := hD9
              have hS := hS9
              clear hP9 hD9 hS9
              refine lv_aload_n hx hb dX9_write_62 rfl (lv_at hl 0 rfl) ?_
              refine va_get (D := (dC, dI)) (ci := 6) (v := .ref h_wh) (C := RX9) (T := TX9) (N := 8) hx hb hw iwX9 hown hK hP 0 rfl rfl 6 (by decide) (hw _ w_f_X9_18) (fun _ h9 => h9) rfl dX9_write_63 ?_
              refine lv_aload_n hx hb dX9_write_66 rfl (lv_at hl 0 rfl) ?_
              refine va_get (D := (dC, dI)) (ci := 6) (v := .int z46) (C := RX9) (T := TX9) (N := 8) hx hb hw iwX9 hown hK hP 0 rfl rfl 7 (by decide) (hw _ w_f_X9_37) (fun _ h9 => h9) rfl dX9_write_67 ?_
              refine va_iald hx hb hK hP 3 2 rfl rfl (i := z46) (vp_in_iff.mpr (by omega)) dX9_write_70 ?_
              refine lv_topi (fun z47 ez47 => ?_)
              have rz47 : -127 ≤ (z47).toInt ∧ (z47).toInt ≤ 9599 := by rw [ez47]; exact hf7 _
              refine lv_if_ge (tgt := 91) hx hb dX9_write_71 (by decide) (fun c48 => ?_) (fun c48 => ?_)
              · have kc48 := (cv_le (by decide : (0 : Int32).toInt = 0) (rfl : (z47).toInt = (z47).toInt)).mp c48
                refine lv_aload_n hx hb dX9_write_91 rfl (lv_at hl 0 rfl) ?_
                refine lv_aload_n hx hb dX9_write_92 rfl (lv_at hl 0 rfl) ?_
                refine va_get (D := (dC, dI)) (ci := 6) (v := .ref h_bd) (C := RX9) (T := TX9) (N := 8) hx hb hw iwX9 hown hK hP 0 rfl rfl 1 (by decide) (hw _ w_f_X9_25) (fun _ h9 => h9) rfl dX9_write_93 ?_
                refine lv_aload_n hx hb dX9_write_96 rfl (lv_at hl 0 rfl) ?_
                refine va_get (D := (dC, dI)) (ci := 6) (v := .ref h_wh) (C := RX9) (T := TX9) (N := 8) hx hb hw iwX9 hown hK hP 0 rfl rfl 6 (by decide) (hw _ w_f_X9_18) (fun _ h9 => h9) rfl dX9_write_97 ?_
                refine lv_aload_n hx hb dX9_write_100 rfl (lv_at hl 0 rfl) ?_
                refine va_get (D := (dC, dI)) (ci := 6) (v := .int z46) (C := RX9) (T := TX9) (N := 8) hx hb hw iwX9 hown hK hP 0 rfl rfl 7 (by decide) (hw _ w_f_X9_37) (fun _ h9 => h9) rfl dX9_write_101 ?_
                refine va_iald hx hb hK hP 3 2 rfl rfl (i := z46) (vp_in_iff.mpr (by omega)) dX9_write_104 ?_
                refine lv_topi (fun z49 ez49 => ?_)
                have qz49 : (z49).toInt = (z47).toInt := by rw [ez49, ez47]
                have rz49 : -127 ≤ (z49).toInt ∧ (z49).toInt ≤ 9599 := by rw [ez49]; exact hf7 _
                obtain ⟨vq50, evq50⟩ := mq21_8 v_td (.ref h_nam) (.ref h_trm) (.ref h_ter)
                replace hP : va_P (dC, dI) cls [(h_wr, .inr (6, (mo39 (.ref h_td) (.ref h_bd) (.ref h_wb) (.int x_wr_length) (.ref h_wd) (.int x4) (.ref h_wh) (.int z46)))), (h_wb, .inl (cy_wb, 600, .inl f_wb)), (h_wd, .inl (cy_wd, 616, .inl f6)), (h_wh, .inl (cy_wh, 2048, .inl f7)), (h_bd, .inr (1, (mo9 v_bd (.ref h_td) (.ref h_bnd)))), (h_bnd, .inl (cy_bnd, 256, .inl f_bnd)), (h_td, .inr (5, (mo8 vq50 (.ref h_var)))), (h_nam, .inl (cy_nam, 300, .inr (.inl f_nam))), (h_var, .inl (cy_var, 300, .inl f_var)), (h_trm, .inl (cy_trm, 300, .inl f_trm)), (h_ter, .inl (cy_ter, 900, .inl f_ter))] H := by rw [evq50]; exact hP
                replace hD : va_D A [(h_wr, .inr (6, (mo39 (.ref h_td) (.ref h_bd) (.ref h_wb) (.int x_wr_length) (.ref h_wd) (.int x4) (.ref h_wh) (.int z46)))), (h_wb, .inl (cy_wb, 600, .inl f_wb)), (h_wd, .inl (cy_wd, 616, .inl f6)), (h_wh, .inl (cy_wh, 2048, .inl f7)), (h_bd, .inr (1, (mo9 v_bd (.ref h_td) (.ref h_bnd)))), (h_bnd, .inl (cy_bnd, 256, .inl f_bnd)), (h_td, .inr (5, (mo8 vq50 (.ref h_var)))), (h_nam, .inl (cy_nam, 300, .inr (.inl f_nam))), (h_var, .inl (cy_var, 300, .inl f_var)), (h_trm, .inl (cy_trm, 300, .inl f_trm)), (h_ter, .inl (cy_ter, 900, .inl f_ter))] := by rw [evq50]; exact hD
                have hPc := hP.sub (ws' := [(h_bd, .inr (1, (mo9 v_bd (.ref h_td) (.ref h_bnd)))), (h_bnd, .inl (cy_bnd, 256, .inl f_bnd)), (h_td, .inr (5, (mo8 vq50 (.ref h_var)))), (h_var, .inl (cy_var, 300, .inl f_var))]) [4, 5, 6, 8] rfl
                have hDc := hD.sub (ws' := [(h_bd, .inr (1, (mo9 v_bd (.ref h_td) (.ref h_bnd)))), (h_bnd, .inl (cy_bnd, 256, .inl f_bnd)), (h_td, .inr (5, (mo8 vq50 (.ref h_var)))), (h_var, .inl (cy_var, 300, .inl f_var))]) [4, 5, 6, 8] (by decide) rfl
                have hKc := hK.sub (tys' := [(cy_bnd, .int), (cy_var, .int)]) [3, 5] rfl
                have hFc := va_free (wc := [(h_bd, .inr (1, (mo9 v_bd (.ref h_td) (.ref h_bnd)))), (h_bnd, .inl (cy_bnd, 256, .inl f_bnd)), (h_td, .inr (5, (mo8 vq50 (.ref h_var)))), (h_var, .inl (cy_var, 300, .inl f_var))]) hD hS hA [4, 5, 6, 8] rfl
                refine va_calli (va_runVN (As := [.int z49]) (rest := [.ref h_wr]) ⟨hx, hb, hml, hown, hts⟩ (c_X1_bare l dC dI H.size h_bd h_bnd h_td h_var v_bd cy_bnd f_bnd vq50 cy_var f_var z49 hf_bnd hf_var (by omega)) ⟨va_cnB (host := "OppositePairs") 1 hts (gd hT w_code_X1_bare) rfl rfl rfl (hN _ n_m_X9_41) (hw _ w_ini_X1) (by decide +kernel) ⟨(Nat.le_of_ble_eq_true rfl), (Nat.le_of_ble_eq_true rfl)⟩, hw _ w_instanceMethod_X1_bare, hw _ ws_sel_X1_bare⟩ ⟨pre_blind, va_recv hK hP (ci := 1) (q0 := 4) rfl rfl, pre_of hPc hKc hDc hN⟩ rfl rfl hl.1 rfl (lv_room (Nat.le_of_ble_eq_true rfl)) dX9_write_105 ⟨(Nat.le_of_ble_eq_true rfl), (Nat.le_of_ble_eq_true rfl)⟩) hS (fun q _ h => hFc q h) hFc (fun r51 u t H locs ht hvm hq hB hz1 hk1 hS9 => ?_)
                obtain ⟨hP1, hD1⟩ := hB
                rw [ht] at hP1
                obtain ⟨hP9, hD9⟩ := va_join (wr := [(h_wr, .inr (6, (mo39 (.ref h_td) (.ref h_bd) (.ref h_wb) (.int x_wr_length) (.ref h_wd) (.int x4) (.ref h_wh) (.int z46)))), (h_wb, .inl (cy_wb, 600, .inl f_wb)), (h_wd, .inl (cy_wd, 616, .inl f6)), (h_wh, .inl (cy_wh, 2048, .inl f7)), (h_nam, .inl (cy_nam, 300, .inr (.inl f_nam))), (h_trm, .inl (cy_trm, 300, .inl f_trm)), (h_ter, .inl (cy_ter, 900, .inl f_ter))]) (w1 := [(h_bd, .inr (1, (mo9 v_bd (.ref h_td) (.ref h_bnd)))), (h_bnd, .inl (cy_bnd, 256, .inl f_bnd)), (h_td, .inr (5, (mo8 vq50 (.ref h_var)))), (h_var, .inl (cy_var, 300, .inl f_var))]) hP hD [4, 5, 6, 8] [0, 1, 2, 3, 7, 9, 10] rfl rfl (by decide) (by decide) hk1 hFc hP1 hD1
                clear hP hD hS hPc hDc hKc hFc hP1 hD1 hk1 hz1 ht hvm
                have hP : va_P (dC, dI) cls [(h_wr, .inr (6, (mo39 (.ref h_td) (.ref h_bd) (.ref h_wb) (.int x_wr_length) (.ref h_wd) (.int x4) (.ref h_wh) (.int z46)))), (h_wb, .inl (cy_wb, 600, .inl f_wb)), (h_wd, .inl (cy_wd, 616, .inl f6)), (h_wh, .inl (cy_wh, 2048, .inl f7)), (h_nam, .inl (cy_nam, 300, .inr (.inl f_nam))), (h_trm, .inl (cy_trm, 300, .inl f_trm)), (h_ter, .inl (cy_ter, 900, .inl f_ter)), (h_bd, .inr (1, (mo9 v_bd (.ref h_td) (.ref h_bnd)))), (h_bnd, .inl (cy_bnd, 256, .inl f_bnd)), (h_td, .inr (5, (mo8 vq50 (.ref h_var)))), (h_var, .inl (cy_var, 300, .inl f_var))] H := hP9
                have hD : va_D A [(h_wr, .inr (6, (mo39 (.ref h_td) (.ref h_bd) (.ref h_wb) (.int x_wr_length) (.ref h_wd) (.int x4) (.ref h_wh) (.int z46)))), (h_wb, .inl (cy_wb, 600, .inl f_wb)), (h_wd, .inl (cy_wd, 616, .inl f6)), (h_wh, .inl (cy_wh, 2048, .inl f7)), (h_nam, .inl (cy_nam, 300, .inr (.inl f_nam))), (h_trm, .inl (cy_trm, 300, .inl f_trm)), (h_ter, .inl (cy_ter, 900, .inl f_ter)), (h_bd, .inr (1, (mo9 v_bd (.ref h_td) (.ref h_bnd)))), (h_bnd, .inl (cy_bnd, 256, .inl f_bnd)), (h_td, .inr (5, (mo8 vq50 (.ref h_var)))), (h_var, .inl (cy_var, 300, .inl f_var))] := hD9
                have hS := hS9
                clear hP9 hD9 hS9
                rw [evq50] at hP hD
                replace hP : va_P (dC, dI) cls [(h_wr, .inr (6, (mo39 (.ref h_td) (.ref h_bd) (.ref h_wb) (.int x_wr_length) (.ref h_wd) (.int x4) (.ref h_wh) (.int z46)))), (h_wb, .inl (cy_wb, 600, .inl f_wb)), (h_wd, .inl (cy_wd, 616, .inl f6)), (h_wh, .inl (cy_wh, 2048, .inl f7)), (h_nam, .inl (cy_nam, 300, .inr (.inl f_nam))), (h_trm, .inl (cy_trm, 300, .inl f_trm)), (h_ter, .inl (cy_ter, 900, .inl f_ter)), (h_bd, .inr (1, (mo9 v_bd (.ref h_td) (.ref h_bnd)))), (h_bnd, .inl (cy_bnd, 256, .inl f_bnd)), (h_td, .inr (5, (mo21 v_td (.ref h_nam) (.ref h_var) (.ref h_trm) (.ref h_ter)))), (h_var, .inl (cy_var, 300, .inl f_var))] H := hP
                replace hD : va_D A [(h_wr, .inr (6, (mo39 (.ref h_td) (.ref h_bd) (.ref h_wb) (.int x_wr_length) (.ref h_wd) (.int x4) (.ref h_wh) (.int z46)))), (h_wb, .inl (cy_wb, 600, .inl f_wb)), (h_wd, .inl (cy_wd, 616, .inl f6)), (h_wh, .inl (cy_wh, 2048, .inl f7)), (h_nam, .inl (cy_nam, 300, .inr (.inl f_nam))), (h_trm, .inl (cy_trm, 300, .inl f_trm)), (h_ter, .inl (cy_ter, 900, .inl f_ter)), (h_bd, .inr (1, (mo9 v_bd (.ref h_td) (.ref h_bnd)))), (h_bnd, .inl (cy_bnd, 256, .inl f_bnd)), (h_td, .inr (5, (mo21 v_td (.ref h_nam) (.ref h_var) (.ref h_trm) (.ref h_ter)))), (h_var, .inl (cy_var, 300, .inl f_var))] := hD
                clear evq50 
                have k52 : 0 ≤ (r51).toInt ∧ (r51).toInt ≤ 9599 := hq
                clear hq
                obtain ⟨vq53, evq53⟩ := mq39_38 (.ref h_bd) (.ref h_wb) (.int x_wr_length)
                replace hP : va_P (dC, dI) cls [(h_wr, .inr (6, (mo38 vq53 (.ref h_td) (.ref h_wd) (.int x4) (.ref h_wh) (.int z46)))), (h_wb, .inl (cy_wb, 600, .inl f_wb)), (h_wd, .inl (cy_wd, 616, .inl f6)), (h_wh, .inl (cy_wh, 2048, .inl f7)), (h_nam, .inl (cy_nam, 300, .inr (.inl f_nam))), (h_trm, .inl (cy_trm, 300, .inl f_trm)), (h_ter, .inl (cy_ter, 900, .inl f_ter)), (h_bd, .inr (1, (mo9 v_bd (.ref h_td) (.ref h_bnd)))), (h_bnd, .inl (cy_bnd, 256, .inl f_bnd)), (h_td, .inr (5, (mo21 v_td (.ref h_nam) (.ref h_var) (.ref h_trm) (.ref h_ter)))), (h_var, .inl (cy_var, 300, .inl f_var))] H := by rw [evq53]; exact hP
                replace hD : va_D A [(h_wr, .inr (6, (mo38 vq53 (.ref h_td) (.ref h_wd) (.int x4) (.ref h_wh) (.int z46)))), (h_wb, .inl (cy_wb, 600, .inl f_wb)), (h_wd, .inl (cy_wd, 616, .inl f6)), (h_wh, .inl (cy_wh, 2048, .inl f7)), (h_nam, .inl (cy_nam, 300, .inr (.inl f_nam))), (h_trm, .inl (cy_trm, 300, .inl f_trm)), (h_ter, .inl (cy_ter, 900, .inl f_ter)), (h_bd, .inr (1, (mo9 v_bd (.ref h_td) (.ref h_bnd)))), (h_bnd, .inl (cy_bnd, 256, .inl f_bnd)), (h_td, .inr (5, (mo21 v_td (.ref h_nam) (.ref h_var) (.ref h_trm) (.ref h_ter)))), (h_var, .inl (cy_var, 300, .inl f_var))] := by rw [evq53]; exact hD
                have hPc := hP.sub (ws' := [(h_wr, .inr (6, (mo38 vq53 (.ref h_td) (.ref h_wd) (.int x4) (.ref h_wh) (.int z46)))), (h_wd, .inl (cy_wd, 616, .inl f6)), (h_wh, .inl (cy_wh, 2048, .inl f7)), (h_td, .inr (5, (mo21 v_td (.ref h_nam) (.ref h_var) (.ref h_trm) (.ref h_ter)))), (h_nam, .inl (cy_nam, 300, .inr (.inl f_nam))), (h_var, .inl (cy_var, 300, .inl f_var)), (h_trm, .inl (cy_trm, 300, .inl f_trm)), (h_ter, .inl (cy_ter, 900, .inl f_ter))]) [0, 2, 3, 9, 4, 10, 5, 6] rfl
                have hDc := hD.sub (ws' := [(h_wr, .inr (6, (mo38 vq53 (.ref h_td) (.ref h_wd) (.int x4) (.ref h_wh) (.int z46)))), (h_wd, .inl (cy_wd, 616, .inl f6)), (h_wh, .inl (cy_wh, 2048, .inl f7)), (h_td, .inr (5, (mo21 v_td (.ref h_nam) (.ref h_var) (.ref h_trm) (.ref h_ter)))), (h_nam, .inl (cy_nam, 300, .inr (.inl f_nam))), (h_var, .inl (cy_var, 300, .inl f_var)), (h_trm, .inl (cy_trm, 300, .inl f_trm)), (h_ter, .inl (cy_ter, 900, .inl f_ter))]) [0, 2, 3, 9, 4, 10, 5, 6] (by decide) rfl
                have hKc := hK.sub (tys' := [(cy_wd, .int), (cy_wh, .int), (cy_nam, .long), (cy_var, .int), (cy_trm, .int), (cy_ter, .int)]) [1, 2, 4, 5, 6, 7] rfl
                have hFc := va_free (wc := [(h_wr, .inr (6, (mo38 vq53 (.ref h_td) (.ref h_wd) (.int x4) (.ref h_wh) (.int z46)))), (h_wd, .inl (cy_wd, 616, .inl f6)), (h_wh, .inl (cy_wh, 2048, .inl f7)), (h_td, .inr (5, (mo21 v_td (.ref h_nam) (.ref h_var) (.ref h_trm) (.ref h_ter)))), (h_nam, .inl (cy_nam, 300, .inr (.inl f_nam))), (h_var, .inl (cy_var, 300, .inl f_var)), (h_trm, .inl (cy_trm, 300, .inl f_trm)), (h_ter, .inl (cy_ter, 900, .inl f_ter))]) hD hS hA [0, 2, 3, 9, 4, 10, 5, 6] rfl
                refine va_callv (va_runV (As := [.int r51]) (rest := []) ⟨hx, hb, hml, hown, hts⟩ (c_X9_putPart l dC dI H.size h_wr h_wd h_wh h_td h_nam h_var h_trm h_ter vq53 x4 z46 cy_wd f6 cy_wh f7 v_td cy_nam f_nam cy_var f_var cy_trm f_trm cy_ter f_ter r51 (by first | exact klp8_1 | omega) (by omega) hf7 hf_var hf_trm hf_ter (by first | exact k52 | omega)) (cwV 1 hts (gv hT w_m_X9_47 w_instanceMethod_X9_putPart ws_sel_X9_putPart w_ini_X9 w_code_X9_putPart) rfl rfl rfl (by decide +kernel) ⟨(Nat.le_of_ble_eq_true rfl), (Nat.le_of_ble_eq_true rfl)⟩) ⟨pre_blind, va_recv hK hP (ci := 6) (q0 := 0) rfl rfl, pre_of hPc hKc hDc hN⟩ rfl rfl hl.1 rfl (lv_room (Nat.le_of_ble_eq_true rfl)) dX9_write_108 ⟨(Nat.le_of_ble_eq_true rfl), (Nat.le_of_ble_eq_true rfl)⟩) hS (fun q _ h => hFc q h) hFc (fun u t H locs ht hvm hq hB hz1 hk1 hS9 => ?_)
                obtain ⟨z55, z56, f57, f58⟩ := u
                obtain ⟨hP1, hD1⟩ := hB
                rw [ht] at hP1
                obtain ⟨hP9, hD9⟩ := va_join (wr := [(h_wb, .inl (cy_wb, 600, .inl f_wb)), (h_bd, .inr (1, (mo9 v_bd (.ref h_td) (.ref h_bnd)))), (h_bnd, .inl (cy_bnd, 256, .inl f_bnd))]) (w1 := [(h_wr, .inr (6, (mo38 vq53 (.ref h_td) (.ref h_wd) (.int z55) (.ref h_wh) (.int z56)))), (h_wd, .inl (cy_wd, 616, .inl f57)), (h_wh, .inl (cy_wh, 2048, .inl f58)), (h_td, .inr (5, (mo21 v_td (.ref h_nam) (.ref h_var) (.ref h_trm) (.ref h_ter)))), (h_nam, .inl (cy_nam, 300, .inr (.inl f_nam))), (h_var, .inl (cy_var, 300, .inl f_var)), (h_trm, .inl (cy_trm, 300, .inl f_trm)), (h_ter, .inl (cy_ter, 900, .inl f_ter))]) hP hD [0, 2, 3, 9, 4, 10, 5, 6] [1, 7, 8] rfl rfl (by decide) (by decide) hk1 hFc hP1 hD1
                clear hP hD hS hPc hDc hKc hFc hP1 hD1 hk1 hz1 ht hvm
                have hP : va_P (dC, dI) cls [(h_wb, .inl (cy_wb, 600, .inl f_wb)), (h_bd, .inr (1, (mo9 v_bd (.ref h_td) (.ref h_bnd)))), (h_bnd, .inl (cy_bnd, 256, .inl f_bnd)), (h_wr, .inr (6, (mo38 vq53 (.ref h_td) (.ref h_wd) (.int z55) (.ref h_wh) (.int z56)))), (h_wd, .inl (cy_wd, 616, .inl f57)), (h_wh, .inl (cy_wh, 2048, .inl f58)), (h_td, .inr (5, (mo21 v_td (.ref h_nam) (.ref h_var) (.ref h_trm) (.ref h_ter)))), (h_nam, .inl (cy_nam, 300, .inr (.inl f_nam))), (h_var, .inl (cy_var, 300, .inl f_var)), (h_trm, .inl (cy_trm, 300, .inl f_trm)), (h_ter, .inl (cy_ter, 900, .inl f_ter))] H := hP9
                have hD : va_D A [(h_wb, .inl (cy_wb, 600, .inl f_wb)), (h_bd, .inr (1, (mo9 v_bd (.ref h_td) (.ref h_bnd)))), (h_bnd, .inl (cy_bnd, 256, .inl f_bnd)), (h_wr, .inr (6, (mo38 vq53 (.ref h_td) (.ref h_wd) (.int z55) (.ref h_wh) (.int z56)))), (h_wd, .inl (cy_wd, 616, .inl f57)), (h_wh, .inl (cy_wh, 2048, .inl f58)), (h_td, .inr (5, (mo21 v_td (.ref h_nam) (.ref h_var) (.ref h_trm) (.ref h_ter)))), (h_nam, .inl (cy_nam, 300, .inr (.inl f_nam))), (h_var, .inl (cy_var, 300, .inl f_var)), (h_trm, .inl (cy_trm, 300, .inl f_trm)), (h_ter, .inl (cy_ter, 900, .inl f_ter))] := hD9
                have hS := hS9
                clear hP9 hD9 hS9
                rw [evq53] at hP hD
                replace hP : va_P (dC, dI) cls [(h_wb, .inl (cy_wb, 600, .inl f_wb)), (h_bd, .inr (1, (mo9 v_bd (.ref h_td) (.ref h_bnd)))), (h_bnd, .inl (cy_bnd, 256, .inl f_bnd)), (h_wr, .inr (6, (mo39 (.ref h_td) (.ref h_bd) (.ref h_wb) (.int x_wr_length) (.ref h_wd) (.int z55) (.ref h_wh) (.int z56)))), (h_wd, .inl (cy_wd, 616, .inl f57)), (h_wh, .inl (cy_wh, 2048, .inl f58)), (h_td, .inr (5, (mo21 v_td (.ref h_nam) (.ref h_var) (.ref h_trm) (.ref h_ter)))), (h_nam, .inl (cy_nam, 300, .inr (.inl f_nam))), (h_var, .inl (cy_var, 300, .inl f_var)), (h_trm, .inl (cy_trm, 300, .inl f_trm)), (h_ter, .inl (cy_ter, 900, .inl f_ter))] H := hP
                replace hD : va_D A [(h_wb, .inl (cy_wb, 600, .inl f_wb)), (h_bd, .inr (1, (mo9 v_bd (.ref h_td) (.ref h_bnd)))), (h_bnd, .inl (cy_bnd, 256, .inl f_bnd)), (h_wr, .inr (6, (mo39 (.ref h_td) (.ref h_bd) (.ref h_wb) (.int x_wr_length) (.ref h_wd) (.int z55) (.ref h_wh) (.int z56)))), (h_wd, .inl (cy_wd, 616, .inl f57)), (h_wh, .inl (cy_wh, 2048, .inl f58)), (h_td, .inr (5, (mo21 v_td (.ref h_nam) (.ref h_var) (.ref h_trm) (.ref h_ter)))), (h_nam, .inl (cy_nam, 300, .inr (.inl f_nam))), (h_var, .inl (cy_var, 300, .inl f_var)), (h_trm, .inl (cy_trm, 300, .inl f_trm)), (h_ter, .inl (cy_ter, 900, .inl f_ter))] := hD
                clear evq53 
                obtain ⟨k59, k60, hf58⟩ := hq
                replace k59 : 0 ≤ ((z55)).toInt ∧ ((z55)).toInt ≤ 616 := k59
                replace k60 : 0 ≤ ((z56)).toInt ∧ ((z56)).toInt ≤ 2048 := k60
                replace hf58 : Rg (-127) 9599 (f58) := hf58
                obtain ⟨z61, ez61⟩ : ∃ y : Int32, y = x3 + 1 := ⟨_, rfl⟩
                have tz61 : (z61).toInt = (x3).toInt + 1 := by rw [ez61]; exact i_add rfl (by decide) (by omega)
                refine lv_iinc (v := z61) (lv' := [(4, .int z61), (0, .ref h_wr), (1, .int p1), (2, .int p2), (3, .int p3)]) hx hb dX9_write_111 hl (k := 4) rfl (by rw [ez61]; rfl) (by decide) rfl (fun ls hl => ?_)
                refine lv_goto (tgt := 30) hx hb dX9_write_114 (by decide) ?_
                replace hP : va_P (dC, dI) cls [(h_wr, .inr (6, (mo39 (.ref h_td) (.ref h_bd) (.ref h_wb) (.int x_wr_length) (.ref h_wd) (.int z55) (.ref h_wh) (.int z56)))), (h_wb, .inl (cy_wb, 600, .inl f_wb)), (h_wd, .inl (cy_wd, 616, .inl f57)), (h_wh, .inl (cy_wh, 2048, .inl f58)), (h_bd, .inr (1, (mo9 v_bd (.ref h_td) (.ref h_bnd)))), (h_bnd, .inl (cy_bnd, 256, .inl f_bnd)), (h_td, .inr (5, (mo21 v_td (.ref h_nam) (.ref h_var) (.ref h_trm) (.ref h_ter)))), (h_nam, .inl (cy_nam, 300, .inr (.inl f_nam))), (h_var, .inl (cy_var, 300, .inl f_var)), (h_trm, .inl (cy_trm, 300, .inl f_trm)), (h_ter, .inl (cy_ter, 900, .inl f_ter))] H := hP.sub [3, 0, 4, 5, 1, 2, 6, 7, 8, 9, 10] rfl
                replace hD : va_D A [(h_wr, .inr (6, (mo39 (.ref h_td) (.ref h_bd) (.ref h_wb) (.int x_wr_length) (.ref h_wd) (.int z55) (.ref h_wh) (.int z56)))), (h_wb, .inl (cy_wb, 600, .inl f_wb)), (h_wd, .inl (cy_wd, 616, .inl f57)), (h_wh, .inl (cy_wh, 2048, .inl f58)), (h_bd, .inr (1, (mo9 v_bd (.ref h_td) (.ref h_bnd)))), (h_bnd, .inl (cy_bnd, 256, .inl f_bnd)), (h_td, .inr (5, (mo21 v_td (.ref h_nam) (.ref h_var) (.ref h_trm) (.ref h_ter)))), (h_nam, .inl (cy_nam, 300, .inr (.inl f_nam))), (h_var, .inl (cy_var, 300, .inl f_var)), (h_trm, .inl (cy_trm, 300, .inl f_trm)), (h_ter, .inl (cy_ter, 900, .inl f_ter))] := hD.sub [3, 0, 4, 5, 1, 2, 6, 7, 8, 9, 10] (by decide) rfl
                exact ih9 (z61) (z55) (z56) (f57) (f58) _ _ _ (by omega) (by first | exact k59 | omega) (by first | exact k60 | omega) hf58 (by omega) hP hD hS (lv_sub hl [1, 2, 3, 4, 0] rfl)
              · have kc48 := (not_congr (cv_le (by decide : (0 : Int32).toInt = 0) (rfl : (z47).toInt = (z47).toInt))).mp c48
                refine lv_aload_n hx hb dX9_write_74 rfl (lv_at hl 0 rfl) ?_
                refine lv_aload_n hx hb dX9_write_75 rfl (lv_at hl 0 rfl) ?_
                refine va_get (D := (dC, dI)) (ci := 6) (v := .ref h_wh) (C := RX9) (T := TX9) (N := 8) hx hb hw iwX9 hown hK hP 0 rfl rfl 6 (by decide) (hw _ w_f_X9_18) (fun _ h9 => h9) rfl dX9_write_76 ?_
                refine lv_aload_n hx hb dX9_write_79 rfl (lv_at hl 0 rfl) ?_
                refine va_get (D := (dC, dI)) (ci := 6) (v := .int z46) (C := RX9) (T := TX9) (N := 8) hx hb hw iwX9 hown hK hP 0 rfl rfl 7 (by decide) (hw _ w_f_X9_37) (fun _ h9 => h9) rfl dX9_write_80 ?_
                refine va_iald hx hb hK hP 3 2 rfl rfl (i := z46) (vp_in_iff.mpr (by omega)) dX9_write_83 ?_
                refine lv_topi (fun z62 ez62 => ?_)
                have qz62 : (z62).toInt = (z47).toInt := by rw [ez62, ez47]
                have rz62 : -127 ≤ (z62).toInt ∧ (z62).toInt ≤ 9599 := by rw [ez62]; exact hf7 _
                refine lv_ineg hx hb dX9_write_84 ?_
                refine lv_topi (fun z63 ez63 => ?_)
                have tz63 : (z63).toInt = -((z62).toInt) := by rw [ez63]; exact i_neg rfl (by omega)
                obtain ⟨vq64, evq64⟩ := mq39_36 (.ref h_td) (.ref h_bd) (.ref h_wb) (.int x_wr_length) (.ref h_wh) (.int z46)
                replace hP : va_P (dC, dI) cls [(h_wr, .inr (6, (mo36 vq64 (.ref h_wd) (.int x4)))), (h_wb, .inl (cy_wb, 600, .inl f_wb)), (h_wd, .inl (cy_wd, 616, .inl f6)), (h_wh, .inl (cy_wh, 2048, .inl f7)), (h_bd, .inr (1, (mo9 v_bd (.ref h_td) (.ref h_bnd)))), (h_bnd, .inl (cy_bnd, 256, .inl f_bnd)), (h_td, .inr (5, (mo21 v_td (.ref h_nam) (.ref h_var) (.ref h_trm) (.ref h_ter)))), (h_nam, .inl (cy_nam, 300, .inr (.inl f_nam))), (h_var, .inl (cy_var, 300, .inl f_var)), (h_trm, .inl (cy_trm, 300, .inl f_trm)), (h_ter, .inl (cy_ter, 900, .inl f_ter))] H := by rw [evq64]; exact hP
                replace hD : va_D A [(h_wr, .inr (6, (mo36 vq64 (.ref h_wd) (.int x4)))), (h_wb, .inl (cy_wb, 600, .inl f_wb)), (h_wd, .inl (cy_wd, 616, .inl f6)), (h_wh, .inl (cy_wh, 2048, .inl f7)), (h_bd, .inr (1, (mo9 v_bd (.ref h_td) (.ref h_bnd)))), (h_bnd, .inl (cy_bnd, 256, .inl f_bnd)), (h_td, .inr (5, (mo21 v_td (.ref h_nam) (.ref h_var) (.ref h_trm) (.ref h_ter)))), (h_nam, .inl (cy_nam, 300, .inr (.inl f_nam))), (h_var, .inl (cy_var, 300, .inl f_var)), (h_trm, .inl (cy_trm, 300, .inl f_trm)), (h_ter, .inl (cy_ter, 900, .inl f_ter))] := by rw [evq64]; exact hD
                have hPc := hP.sub (ws' := [(h_wr, .inr (6, (mo36 vq64 (.ref h_wd) (.int x4)))), (h_wd, .inl (cy_wd, 616, .inl f6))]) [0, 2] rfl
                have hDc := hD.sub (ws' := [(h_wr, .inr (6, (mo36 vq64 (.ref h_wd) (.int x4)))), (h_wd, .inl (cy_wd, 616, .inl f6))]) [0, 2] (by decide) rfl
                have hKc := hK.sub (tys' := [(cy_wd, .int)]) [1] rfl
                have hFc := va_free (wc := [(h_wr, .inr (6, (mo36 vq64 (.ref h_wd) (.int x4)))), (h_wd, .inl (cy_wd, 616, .inl f6))]) hD hS hA [0, 2] rfl
                refine va_callv (va_runV (As := [.int z63]) (rest := []) ⟨hx, hb, hml, hown, hts⟩ (c_X9_put l dC dI H.size h_wr h_wd vq64 x4 cy_wd f6 z63 (by first | exact klp8_1 | omega)) (cwV 1 hts (gv hT w_m_X9_33 w_instanceMethod_X9_put ws_sel_X9_put w_ini_X9 w_code_X9_put) rfl rfl rfl (by decide +kernel) ⟨(Nat.le_of_ble_eq_true rfl), (Nat.le_of_ble_eq_true rfl)⟩) ⟨pre_blind, va_recv hK hP (ci := 6) (q0 := 0) rfl rfl, pre_of hPc hKc hDc hN⟩ rfl rfl hl.1 rfl (lv_room (Nat.le_of_ble_eq_true rfl)) dX9_write_85 ⟨(Nat.le_of_ble_eq_true rfl), (Nat.le_of_ble_eq_true rfl)⟩) hS (fun q _ h => hFc q h) hFc (fun u t H locs ht hvm hq hB hz1 hk1 hS9 => ?_)
                obtain ⟨z66, f67⟩ := u
                obtain ⟨hP1, hD1⟩ := hB
                rw [ht] at hP1
                obtain ⟨hP9, hD9⟩ := va_join (wr := [(h_wb, .inl (cy_wb, 600, .inl f_wb)), (h_wh, .inl (cy_wh, 2048, .inl f7)), (h_bd, .inr (1, (mo9 v_bd (.ref h_td) (.ref h_bnd)))), (h_bnd, .inl (cy_bnd, 256, .inl f_bnd)), (h_td, .inr (5, (mo21 v_td (.ref h_nam) (.ref h_var) (.ref h_trm) (.ref h_ter)))), (h_nam, .inl (cy_nam, 300, .inr (.inl f_nam))), (h_var, .inl (cy_var, 300, .inl f_var)), (h_trm, .inl (cy_trm, 300, .inl f_trm)), (h_ter, .inl (cy_ter, 900, .inl f_ter))]) (w1 := [(h_wr, .inr (6, (mo36 vq64 (.ref h_wd) (.int z66)))), (h_wd, .inl (cy_wd, 616, .inl f67))]) hP hD [0, 2] [1, 3, 4, 5, 6, 7, 8, 9, 10] rfl rfl (by decide) (by decide) hk1 hFc hP1 hD1
                clear hP hD hS hPc hDc hKc hFc hP1 hD1 hk1 hz1 ht hvm
                have hP : va_P (dC, dI) cls [(h_wb, .inl (cy_wb, 600, .inl f_wb)), (h_wh, .inl (cy_wh, 2048, .inl f7)), (h_bd, .inr (1, (mo9 v_bd (.ref h_td) (.ref h_bnd)))), (h_bnd, .inl (cy_bnd, 256, .inl f_bnd)), (h_td, .inr (5, (mo21 v_td (.ref h_nam) (.ref h_var) (.ref h_trm) (.ref h_ter)))), (h_nam, .inl (cy_nam, 300, .inr (.inl f_nam))), (h_var, .inl (cy_var, 300, .inl f_var)), (h_trm, .inl (cy_trm, 300, .inl f_trm)), (h_ter, .inl (cy_ter, 900, .inl f_ter)), (h_wr, .inr (6, (mo36 vq64 (.ref h_wd) (.int z66)))), (h_wd, .inl (cy_wd, 616, .inl f67))] H := hP9
                have hD : va_D A [(h_wb, .inl (cy_wb, 600, .inl f_wb)), (h_wh, .inl (cy_wh, 2048, .inl f7)), (h_bd, .inr (1, (mo9 v_bd (.ref h_td) (.ref h_bnd)))), (h_bnd, .inl (cy_bnd, 256, .inl f_bnd)), (h_td, .inr (5, (mo21 v_td (.ref h_nam) (.ref h_var) (.ref h_trm) (.ref h_ter)))), (h_nam, .inl (cy_nam, 300, .inr (.inl f_nam))), (h_var, .inl (cy_var, 300, .inl f_var)), (h_trm, .inl (cy_trm, 300, .inl f_trm)), (h_ter, .inl (cy_ter, 900, .inl f_ter)), (h_wr, .inr (6, (mo36 vq64 (.ref h_wd) (.int z66)))), (h_wd, .inl (cy_wd, 616, .inl f67))] := hD9
                have hS := hS9
                clear hP9 hD9 hS9
                rw [evq64] at hP hD
                replace hP : va_P (dC, dI) cls [(h_wb, .inl (cy_wb, 600, .inl f_wb)), (h_wh, .inl (cy_wh, 2048, .inl f7)), (h_bd, .inr (1, (mo9 v_bd (.ref h_td) (.ref h_bnd)))), (h_bnd, .inl (cy_bnd, 256, .inl f_bnd)), (h_td, .inr (5, (mo21 v_td (.ref h_nam) (.ref h_var) (.ref h_trm) (.ref h_ter)))), (h_nam, .inl (cy_nam, 300, .inr (.inl f_nam))), (h_var, .inl (cy_var, 300, .inl f_var)), (h_trm, .inl (cy_trm, 300, .inl f_trm)), (h_ter, .inl (cy_ter, 900, .inl f_ter)), (h_wr, .inr (6, (mo39 (.ref h_td) (.ref h_bd) (.ref h_wb) (.int x_wr_length) (.ref h_wd) (.int z66) (.ref h_wh) (.int z46)))), (h_wd, .inl (cy_wd, 616, .inl f67))] H := hP
                replace hD : va_D A [(h_wb, .inl (cy_wb, 600, .inl f_wb)), (h_wh, .inl (cy_wh, 2048, .inl f7)), (h_bd, .inr (1, (mo9 v_bd (.ref h_td) (.ref h_bnd)))), (h_bnd, .inl (cy_bnd, 256, .inl f_bnd)), (h_td, .inr (5, (mo21 v_td (.ref h_nam) (.ref h_var) (.ref h_trm) (.ref h_ter)))), (h_nam, .inl (cy_nam, 300, .inr (.inl f_nam))), (h_var, .inl (cy_var, 300, .inl f_var)), (h_trm, .inl (cy_trm, 300, .inl f_trm)), (h_ter, .inl (cy_ter, 900, .inl f_ter)), (h_wr, .inr (6, (mo39 (.ref h_td) (.ref h_bd) (.ref h_wb) (.int x_wr_length) (.ref h_wd) (.int z66) (.ref h_wh) (.int z46)))), (h_wd, .inl (cy_wd, 616, .inl f67))] := hD
                clear evq64 
                have k68 : 0 ≤ ((z66)).toInt ∧ ((z66)).toInt ≤ 616 := hq
                clear hq
                refine lv_goto (tgt := 111) hx hb dX9_write_88 (by decide) ?_
                obtain ⟨z69, ez69⟩ : ∃ y : Int32, y = x3 + 1 := ⟨_, rfl⟩
                have tz69 : (z69).toInt = (x3).toInt + 1 := by rw [ez69]; exact i_add rfl (by decide) (by omega)
                refine lv_iinc (v := z69) (lv' := [(4, .int z69), (0, .ref h_wr), (1, .int p1), (2, .int p2), (3, .int p3)]) hx hb dX9_write_111 hl (k := 4) rfl (by rw [ez69]; rfl) (by decide) rfl (fun ls hl => ?_)
                refine lv_goto (tgt := 30) hx hb dX9_write_114 (by decide) ?_
                replace hP : va_P (dC, dI) cls [(h_wr, .inr (6, (mo39 (.ref h_td) (.ref h_bd) (.ref h_wb) (.int x_wr_length) (.ref h_wd) (.int z66) (.ref h_wh) (.int z46)))), (h_wb, .inl (cy_wb, 600, .inl f_wb)), (h_wd, .inl (cy_wd, 616, .inl f67)), (h_wh, .inl (cy_wh, 2048, .inl f7)), (h_bd, .inr (1, (mo9 v_bd (.ref h_td) (.ref h_bnd)))), (h_bnd, .inl (cy_bnd, 256, .inl f_bnd)), (h_td, .inr (5, (mo21 v_td (.ref h_nam) (.ref h_var) (.ref h_trm) (.ref h_ter)))), (h_nam, .inl (cy_nam, 300, .inr (.inl f_nam))), (h_var, .inl (cy_var, 300, .inl f_var)), (h_trm, .inl (cy_trm, 300, .inl f_trm)), (h_ter, .inl (cy_ter, 900, .inl f_ter))] H := hP.sub [9, 0, 10, 1, 2, 3, 4, 5, 6, 7, 8] rfl
                replace hD : va_D A [(h_wr, .inr (6, (mo39 (.ref h_td) (.ref h_bd) (.ref h_wb) (.int x_wr_length) (.ref h_wd) (.int z66) (.ref h_wh) (.int z46)))), (h_wb, .inl (cy_wb, 600, .inl f_wb)), (h_wd, .inl (cy_wd, 616, .inl f67)), (h_wh, .inl (cy_wh, 2048, .inl f7)), (h_bd, .inr (1, (mo9 v_bd (.ref h_td) (.ref h_bnd)))), (h_bnd, .inl (cy_bnd, 256, .inl f_bnd)), (h_td, .inr (5, (mo21 v_td (.ref h_nam) (.ref h_var) (.ref h_trm) (.ref h_ter)))), (h_nam, .inl (cy_nam, 300, .inr (.inl f_nam))), (h_var, .inl (cy_var, 300, .inl f_var)), (h_trm, .inl (cy_trm, 300, .inl f_trm)), (h_ter, .inl (cy_ter, 900, .inl f_ter))] := hD.sub [9, 0, 10, 1, 2, 3, 4, 5, 6, 7, 8] (by decide) rfl
                exact ih9 (z69) (z66) (z46) (f67) (f7) _ _ _ (by omega) (by first | exact k68 | omega) (by omega) hf7 (by omega) hP hD hS (lv_sub hl [1, 2, 3, 4, 0] rfl)
    have cst0 : (0 : Int32).toInt = 0 := by decide
    have cst1 : (1 : Int32).toInt = 1 := by decide
    exact lp8 _ (0) (0) (1) (f_wd) (f2) _ _ _ (by decide) (by decide) (by decide) hf2 (Nat.le_refl _) hP hD hS (lv_sub hl [1, 2, 3, 4, 0] rfl)
  · have kc1 := (not_congr (cv_eq (rfl : (p2).toInt = (p2).toInt) (by decide : (0 : Int32).toInt = 0))).mp c1
    refine lv_aload_n hx hb dX9_write_9 rfl (lv_at hl 0 rfl) ?_
    refine lv_bipush (v := 45) hx hb dX9_write_10 (by decide) ?_
    obtain ⟨vq70, evq70⟩ := mq39_36 (.ref h_td) (.ref h_bd) (.ref h_wb) (.int x_wr_length) (.ref h_wh) (.int x_wr_held)
    replace hP : va_P (dC, dI) cls [(h_wr, .inr (6, (mo36 vq70 (.ref h_wd) (.int 0)))), (h_wb, .inl (cy_wb, 600, .inl f_wb)), (h_wd, .inl (cy_wd, 616, .inl f_wd)), (h_wh, .inl (cy_wh, 2048, .inl f_wh)), (h_bd, .inr (1, (mo9 v_bd (.ref h_td) (.ref h_bnd)))), (h_bnd, .inl (cy_bnd, 256, .inl f_bnd)), (h_td, .inr (5, (mo21 v_td (.ref h_nam) (.ref h_var) (.ref h_trm) (.ref h_ter)))), (h_nam, .inl (cy_nam, 300, .inr (.inl f_nam))), (h_var, .inl (cy_var, 300, .inl f_var)), (h_trm, .inl (cy_trm, 300, .inl f_trm)), (h_ter, .inl (cy_ter, 900, .inl f_ter))] H := by rw [evq70]; exact hP
    replace hD : va_D A [(h_wr, .inr (6, (mo36 vq70 (.ref h_wd) (.int 0)))), (h_wb, .inl (cy_wb, 600, .inl f_wb)), (h_wd, .inl (cy_wd, 616, .inl f_wd)), (h_wh, .inl (cy_wh, 2048, .inl f_wh)), (h_bd, .inr (1, (mo9 v_bd (.ref h_td) (.ref h_bnd)))), (h_bnd, .inl (cy_bnd, 256, .inl f_bnd)), (h_td, .inr (5, (mo21 v_td (.ref h_nam) (.ref h_var) (.ref h_trm) (.ref h_ter)))), (h_nam, .inl (cy_nam, 300, .inr (.inl f_nam))), (h_var, .inl (cy_var, 300, .inl f_var)), (h_trm, .inl (cy_trm, 300, .inl f_trm)), (h_ter, .inl (cy_ter, 900, .inl f_ter))] := by rw [evq70]; exact hD
    have cst45 : (45 : Int32).toInt = 45 := by decide
    have hPc := hP.sub (ws' := [(h_wr, .inr (6, (mo36 vq70 (.ref h_wd) (.int 0)))), (h_wd, .inl (cy_wd, 616, .inl f_wd))]) [0, 2] rfl
    have hDc := hD.sub (ws' := [(h_wr, .inr (6, (mo36 vq70 (.ref h_wd) (.int 0)))), (h_wd, .inl (cy_wd, 616, .inl f_wd))]) [0, 2] (by decide) rfl
    have hKc := hK.sub (tys' := [(cy_wd, .int)]) [1] rfl
    have hFc := va_free (wc := [(h_wr, .inr (6, (mo36 vq70 (.ref h_wd) (.int 0)))), (h_wd, .inl (cy_wd, 616, .inl f_wd))]) hD hS hA [0, 2] rfl
    refine va_callv (va_runV (As := [.int 45]) (rest := []) ⟨hx, hb, hml, hown, hts⟩ (c_X9_put l dC dI H.size h_wr h_wd vq70 0 cy_wd f_wd 45 (by decide)) (cwV 1 hts (gv hT w_m_X9_33 w_instanceMethod_X9_put ws_sel_X9_put w_ini_X9 w_code_X9_put) rfl rfl rfl (by decide +kernel) ⟨(Nat.le_of_ble_eq_true rfl), (Nat.le_of_ble_eq_true rfl)⟩) ⟨pre_blind, va_recv hK hP (ci := 6) (q0 := 0) rfl rfl, pre_of hPc hKc hDc hN⟩ rfl rfl hl.1 rfl (lv_room (Nat.le_of_ble_eq_true rfl)) dX9_write_12 ⟨(Nat.le_of_ble_eq_true rfl), (Nat.le_of_ble_eq_true rfl)⟩) hS (fun q _ h => hFc q h) hFc (fun u t H locs ht hvm hq hB hz1 hk1 hS9 => ?_)
    obtain ⟨z72, f73⟩ := u
    obtain ⟨hP1, hD1⟩ := hB
    rw [ht] at hP1
    obtain ⟨hP9, hD9⟩ := va_join (wr := [(h_wb, .inl (cy_wb, 600, .inl f_wb)), (h_wh, .inl (cy_wh, 2048, .inl f_wh)), (h_bd, .inr (1, (mo9 v_bd (.ref h_td) (.ref h_bnd)))), (h_bnd, .inl (cy_bnd, 256, .inl f_bnd)), (h_td, .inr (5, (mo21 v_td (.ref h_nam) (.ref h_var) (.ref h_trm) (.ref h_ter)))), (h_nam, .inl (cy_nam, 300, .inr (.inl f_nam))), (h_var, .inl (cy_var, 300, .inl f_var)), (h_trm, .inl (cy_trm, 300, .inl f_trm)), (h_ter, .inl (cy_ter, 900, .inl f_ter))]) (w1 := [(h_wr, .inr (6, (mo36 vq70 (.ref h_wd) (.int z72)))), (h_wd, .inl (cy_wd, 616, .inl f73))]) hP hD [0, 2] [1, 3, 4, 5, 6, 7, 8, 9, 10] rfl rfl (by decide) (by decide) hk1 hFc hP1 hD1
    clear hP hD hS hPc hDc hKc hFc hP1 hD1 hk1 hz1 ht hvm
    have hP : va_P (dC, dI) cls [(h_wb, .inl (cy_wb, 600, .inl f_wb)), (h_wh, .inl (cy_wh, 2048, .inl f_wh)), (h_bd, .inr (1, (mo9 v_bd (.ref h_td) (.ref h_bnd)))), (h_bnd, .inl (cy_bnd, 256, .inl f_bnd)), (h_td, .inr (5, (mo21 v_td (.ref h_nam) (.ref h_var) (.ref h_trm) (.ref h_ter)))), (h_nam, .inl (cy_nam, 300, .inr (.inl f_nam))), (h_var, .inl (cy_var, 300, .inl f_var)), (h_trm, .inl (cy_trm, 300, .inl f_trm)), (h_ter, .inl (cy_ter, 900, .inl f_ter)), (h_wr, .inr (6, (mo36 vq70 (.ref h_wd) (.int z72)))), (h_wd, .inl (cy_wd, 616, .inl f73))] H := hP9
    have hD : va_D A [(h_wb, .inl (cy_wb, 600, .inl f_wb)), (h_wh, .inl (cy_wh, 2048, .inl f_wh)), (h_bd, .inr (1, (mo9 v_bd (.ref h_td) (.ref h_bnd)))), (h_bnd, .inl (cy_bnd, 256, .inl f_bnd)), (h_td, .inr (5, (mo21 v_td (.ref h_nam) (.ref h_var) (.ref h_trm) (.ref h_ter)))), (h_nam, .inl (cy_nam, 300, .inr (.inl f_nam))), (h_var, .inl (cy_var, 300, .inl f_var)), (h_trm, .inl (cy_trm, 300, .inl f_trm)), (h_ter, .inl (cy_ter, 900, .inl f_ter)), (h_wr, .inr (6, (mo36 vq70 (.ref h_wd) (.int z72)))), (h_wd, .inl (cy_wd, 616, .inl f73))] := hD9
    have hS := hS9
    clear hP9 hD9 hS9
    rw [evq70] at hP hD
    replace hP : va_P (dC, dI) cls [(h_wb, .inl (cy_wb, 600, .inl f_wb)), (h_wh, .inl (cy_wh, 2048, .inl f_wh)), (h_bd, .inr (1, (mo9 v_bd (.ref h_td) (.ref h_bnd)))), (h_bnd, .inl (cy_bnd, 256, .inl f_bnd)), (h_td, .inr (5, (mo21 v_td (.ref h_nam) (.ref h_var) (.ref h_trm) (.ref h_ter)))), (h_nam, .inl (cy_nam, 300, .inr (.inl f_nam))), (h_var, .inl (cy_var, 300, .inl f_var)), (h_trm, .inl (cy_trm, 300, .inl f_trm)), (h_ter, .inl (cy_ter, 900, .inl f_ter)), (h_wr, .inr (6, (mo39 (.ref h_td) (.ref h_bd) (.ref h_wb) (.int x_wr_length) (.ref h_wd) (.int z72) (.ref h_wh) (.int x_wr_held)))), (h_wd, .inl (cy_wd, 616, .inl f73))] H := hP
    replace hD : va_D A [(h_wb, .inl (cy_wb, 600, .inl f_wb)), (h_wh, .inl (cy_wh, 2048, .inl f_wh)), (h_bd, .inr (1, (mo9 v_bd (.ref h_td) (.ref h_bnd)))), (h_bnd, .inl (cy_bnd, 256, .inl f_bnd)), (h_td, .inr (5, (mo21 v_td (.ref h_nam) (.ref h_var) (.ref h_trm) (.ref h_ter)))), (h_nam, .inl (cy_nam, 300, .inr (.inl f_nam))), (h_var, .inl (cy_var, 300, .inl f_var)), (h_trm, .inl (cy_trm, 300, .inl f_trm)), (h_ter, .inl (cy_ter, 900, .inl f_ter)), (h_wr, .inr (6, (mo39 (.ref h_td) (.ref h_bd) (.ref h_wb) (.int x_wr_length) (.ref h_wd) (.int z72) (.ref h_wh) (.int x_wr_held)))), (h_wd, .inl (cy_wd, 616, .inl f73))] := hD
    clear evq70 
    have k74 : 0 ≤ ((z72)).toInt ∧ ((z72)).toInt ≤ 616 := hq
    clear hq
    refine lv_aload_n hx hb dX9_write_15 rfl (lv_at hl 0 rfl) ?_
    refine va_get (D := (dC, dI)) (ci := 6) (v := .ref h_wh) (C := RX9) (T := TX9) (N := 8) hx hb hw iwX9 hown hK hP 9 rfl rfl 6 (by decide) (hw _ w_f_X9_18) (fun _ h9 => h9) rfl dX9_write_16 ?_
    refine lv_iconst (v := 0) hx hb dX9_write_19 (by decide) ?_
    refine lv_iload_n hx hb dX9_write_20 rfl (lv_at hl 1 rfl) ?_
    refine va_iast hx hb hK hP hD hS 1 2 rfl rfl (i := 0) (x := p1) (show ¬ _ from by decide) dX9_write_21 (fun H locs hP9 hD9 hS9 => ?_)
    obtain ⟨f75, ef75⟩ : ∃ g : Nat → Int32, g = upd f_wh (Int32.toNatClampNeg 0) p1 := ⟨_, rfl⟩
    clear hP hD hS
    have hP : va_P (dC, dI) cls [(h_wb, .inl (cy_wb, 600, .inl f_wb)), (h_wh, .inl (cy_wh, 2048, .inl f75)), (h_bd, .inr (1, (mo9 v_bd (.ref h_td) (.ref h_bnd)))), (h_bnd, .inl (cy_bnd, 256, .inl f_bnd)), (h_td, .inr (5, (mo21 v_td (.ref h_nam) (.ref h_var) (.ref h_trm) (.ref h_ter)))), (h_nam, .inl (cy_nam, 300, .inr (.inl f_nam))), (h_var, .inl (cy_var, 300, .inl f_var)), (h_trm, .inl (cy_trm, 300, .inl f_trm)), (h_ter, .inl (cy_ter, 900, .inl f_ter)), (h_wr, .inr (6, (mo39 (.ref h_td) (.ref h_bd) (.ref h_wb) (.int x_wr_length) (.ref h_wd) (.int z72) (.ref h_wh) (.int x_wr_held)))), (h_wd, .inl (cy_wd, 616, .inl f73))] H := by rw [ef75]; exact hP9
    have hD : va_D A [(h_wb, .inl (cy_wb, 600, .inl f_wb)), (h_wh, .inl (cy_wh, 2048, .inl f75)), (h_bd, .inr (1, (mo9 v_bd (.ref h_td) (.ref h_bnd)))), (h_bnd, .inl (cy_bnd, 256, .inl f_bnd)), (h_td, .inr (5, (mo21 v_td (.ref h_nam) (.ref h_var) (.ref h_trm) (.ref h_ter)))), (h_nam, .inl (cy_nam, 300, .inr (.inl f_nam))), (h_var, .inl (cy_var, 300, .inl f_var)), (h_trm, .inl (cy_trm, 300, .inl f_trm)), (h_ter, .inl (cy_ter, 900, .inl f_ter)), (h_wr, .inr (6, (mo39 (.ref h_td) (.ref h_bd) (.ref h_wb) (.int x_wr_length) (.ref h_wd) (.int z72) (.ref h_wh) (.int x_wr_held)))), (h_wd, .inl (cy_wd, 616, .inl f73))] := by rw [ef75]; exact hD9
    have hS := hS9
    clear hP9 hD9 hS9
    have hf75 : Rg (-127) 9599 f75 := by rw [ef75]; exact rg_upd hf_wh (by omega)
    clear ef75
    refine lv_aload_n hx hb dX9_write_22 rfl (lv_at hl 0 rfl) ?_
    refine lv_iconst (v := 1) hx hb dX9_write_23 (by decide) ?_
    refine va_put (D := (dC, dI)) (ci := 6) (v := .int 1) (ty := tyX9 7) (C := RX9) (T := TX9) (N := 8) hx hb hw iwX9 tyX9 tyX9_ok nmX9 hown hK hP hD hS 9 rfl rfl 7 (by decide) (hw _ w_f_X9_37) (fun _ h9 => h9) rfl (tyX9_ok 7 (by decide)) rfl rfl (Nat.le_of_ble_eq_true rfl) dX9_write_24 (fun H locs hP9 hD9 hS9 => ?_)
    clear hP hD hS
    have hP : va_P (dC, dI) cls [(h_wb, .inl (cy_wb, 600, .inl f_wb)), (h_wh, .inl (cy_wh, 2048, .inl f75)), (h_bd, .inr (1, (mo9 v_bd (.ref h_td) (.ref h_bnd)))), (h_bnd, .inl (cy_bnd, 256, .inl f_bnd)), (h_td, .inr (5, (mo21 v_td (.ref h_nam) (.ref h_var) (.ref h_trm) (.ref h_ter)))), (h_nam, .inl (cy_nam, 300, .inr (.inl f_nam))), (h_var, .inl (cy_var, 300, .inl f_var)), (h_trm, .inl (cy_trm, 300, .inl f_trm)), (h_ter, .inl (cy_ter, 900, .inl f_ter)), (h_wr, .inr (6, (mo39 (.ref h_td) (.ref h_bd) (.ref h_wb) (.int x_wr_length) (.ref h_wd) (.int z72) (.ref h_wh) (.int 1)))), (h_wd, .inl (cy_wd, 616, .inl f73))] H := hP9
    have hD : va_D A [(h_wb, .inl (cy_wb, 600, .inl f_wb)), (h_wh, .inl (cy_wh, 2048, .inl f75)), (h_bd, .inr (1, (mo9 v_bd (.ref h_td) (.ref h_bnd)))), (h_bnd, .inl (cy_bnd, 256, .inl f_bnd)), (h_td, .inr (5, (mo21 v_td (.ref h_nam) (.ref h_var) (.ref h_trm) (.ref h_ter)))), (h_nam, .inl (cy_nam, 300, .inr (.inl f_nam))), (h_var, .inl (cy_var, 300, .inl f_var)), (h_trm, .inl (cy_trm, 300, .inl f_trm)), (h_ter, .inl (cy_ter, 900, .inl f_ter)), (h_wr, .inr (6, (mo39 (.ref h_td) (.ref h_bd) (.ref h_wb) (.int x_wr_length) (.ref h_wd) (.int z72) (.ref h_wh) (.int 1)))), (h_wd, .inl (cy_wd, 616, .inl f73))] := hD9
    have hS := hS9
    clear hP9 hD9 hS9
    refine lv_iconst (v := 0) hx hb dX9_write_27 (by decide) ?_
    refine lv_istore (lv' := [(4, .int 0), (0, .ref h_wr), (1, .int p1), (2, .int p2), (3, .int p3)]) hx hb dX9_write_28 hl (by decide) rfl (fun ls hl => ?_)
    have lp81 : ∀ (n : Nat) (x76 : Int32) (f77 : Nat → Int32) (x78 : Int32) (x79 : Int32) (f80 : Nat → Int32) (H : Heap) (locs : List Loc) (ls : Array Slot), (0 ≤ (x76).toInt ∧ (x76).toInt ≤ 1000000) → (Rg (-127) 9599 f77) → (0 ≤ (x78).toInt ∧ (x78).toInt ≤ 616) → (0 ≤ (x79).toInt ∧ (x79).toInt ≤ 2048) → (1000000 - (x76).toInt).toNat + 1 ≤ n → va_P (dC, dI) cls [(h_wb, .inl (cy_wb, 600, .inl f_wb)), (h_wh, .inl (cy_wh, 2048, .inl f77)), (h_bd, .inr (1, (mo9 v_bd (.ref h_td) (.ref h_bnd)))), (h_bnd, .inl (cy_bnd, 256, .inl f_bnd)), (h_td, .inr (5, (mo21 v_td (.ref h_nam) (.ref h_var) (.ref h_trm) (.ref h_ter)))), (h_nam, .inl (cy_nam, 300, .inr (.inl f_nam))), (h_var, .inl (cy_var, 300, .inl f_var)), (h_trm, .inl (cy_trm, 300, .inl f_trm)), (h_ter, .inl (cy_ter, 900, .inl f_ter)), (h_wr, .inr (6, (mo39 (.ref h_td) (.ref h_bd) (.ref h_wb) (.int x_wr_length) (.ref h_wd) (.int x78) (.ref h_wh) (.int x79)))), (h_wd, .inl (cy_wd, 616, .inl f80))] H → va_D A [(h_wb, .inl (cy_wb, 600, .inl f_wb)), (h_wh, .inl (cy_wh, 2048, .inl f77)), (h_bd, .inr (1, (mo9 v_bd (.ref h_td) (.ref h_bnd)))), (h_bnd, .inl (cy_bnd, 256, .inl f_bnd)), (h_td, .inr (5, (mo21 v_td (.ref h_nam) (.ref h_var) (.ref h_trm) (.ref h_ter)))), (h_nam, .inl (cy_nam, 300, .inr (.inl f_nam))), (h_var, .inl (cy_var, 300, .inl f_var)), (h_trm, .inl (cy_trm, 300, .inl f_trm)), (h_ter, .inl (cy_ter, 900, .inl f_ter)), (h_wr, .inr (6, (mo39 (.ref h_td) (.ref h_bd) (.ref h_wb) (.int x_wr_length) (.ref h_wd) (.int x78) (.ref h_wh) (.int x79)))), (h_wd, .inl (cy_wd, 616, .inl f80))] → va_S A s.heap H locs → lv_has ls 5 [(0, .ref h_wr), (1, .int p1), (2, .int p2), (3, .int p3), (4, .int x76)] → W p l e ({ frames := 3, cells := 0, slots := 0, locals := 80 } : Room) s m ([.ref h_wr, .int p1, .int p2, .int p3] : List Value).toArray below meth c H locs 0 0 (MQ below (va_Qi (fun (r : Int32) (u : (Int32) × (Int32) × (Int32) × (Nat → Int32) × (Nat → Int32) × (Nat → Int32)) => (0 ≤ (u.1).toInt ∧ (u.1).toInt ≤ 600) ∧ (0 ≤ (u.2.1).toInt ∧ (u.2.1).toInt ≤ 616) ∧ (0 ≤ (u.2.2.1).toInt ∧ (u.2.2.1).toInt ≤ 2048) ∧ (Rg (-127) 9599 u.2.2.2.2.2)) (fun (u : (Int32) × (Int32) × (Int32) × (Nat → Int32) × (Nat → Int32) × (Nat → Int32)) (t : State) => va_P (dC, dI) cls [(h_wr, .inr (6, (mo39 (.ref h_td) (.ref h_bd) (.ref h_wb) (.int u.1) (.ref h_wd) (.int u.2.1) (.ref h_wh) (.int u.2.2.1)))), (h_wb, .inl (cy_wb, 600, .inl u.2.2.2.1)), (h_wd, .inl (cy_wd, 616, .inl u.2.2.2.2.1)), (h_wh, .inl (cy_wh, 2048, .inl u.2.2.2.2.2)), (h_bd, .inr (1, (mo9 v_bd (.ref h_td) (.ref h_bnd)))), (h_bnd, .inl (cy_bnd, 256, .inl f_bnd)), (h_td, .inr (5, (mo21 v_td (.ref h_nam) (.ref h_var) (.ref h_trm) (.ref h_ter)))), (h_nam, .inl (cy_nam, 300, .inr (.inl f_nam))), (h_var, .inl (cy_var, 300, .inl f_var)), (h_trm, .inl (cy_trm, 300, .inl f_trm)), (h_ter, .inl (cy_ter, 900, .inl f_ter))] t.heap ∧ va_D A [(h_wr, .inr (6, (mo39 (.ref h_td) (.ref h_bd) (.ref h_wb) (.int u.1) (.ref h_wd) (.int u.2.1) (.ref h_wh) (.int u.2.2.1)))), (h_wb, .inl (cy_wb, 600, .inl u.2.2.2.1)), (h_wd, .inl (cy_wd, 616, .inl u.2.2.2.2.1)), (h_wh, .inl (cy_wh, 2048, .inl u.2.2.2.2.2)), (h_bd, .inr (1, (mo9 v_bd (.ref h_td) (.ref h_bnd)))), (h_bnd, .inl (cy_bnd, 256, .inl f_bnd)), (h_td, .inr (5, (mo21 v_td (.ref h_nam) (.ref h_var) (.ref h_trm) (.ref h_ter)))), (h_nam, .inl (cy_nam, 300, .inr (.inl f_nam))), (h_var, .inl (cy_var, 300, .inl f_var)), (h_trm, .inl (cy_trm, 300, .inl f_trm)), (h_ter, .inl (cy_ter, 900, .inl f_ter))]) A) ([.ref h_wr, .int p1, .int p2, .int p3] : List Value).toArray s 0 0 A) (F0 m 30 ls []) := by
      clear hP hD hS hl
      intro n
      induction n with
      | zero => intro x76 f77 x78 x79 f80 H locs ls klp81_0 hf77 klp81_2 klp81_3 hm hP hD hS hl; exact False.elim (by omega)
      | succ n ih => 
        intro x76 f77 x78 x79 f80 H locs ls klp81_0 hf77 klp81_2 klp81_3 hm hP hD hS hl
        have ih82 := ih
        clear ih
        refine lv_iload hx hb dX9_write_30 (lv_at hl 4 rfl) ?_
        refine lv_ldc (v := 1000000) hx hb hown (hw _ w_k_X9_40) dX9_write_32 ?_
        refine lv_icmp_ge (tgt := 117) hx hb dX9_write_34 (by decide) (fun c83 => ?_) (fun c83 => ?_)
        · have kc83 := (cv_le (by decide : (1000000 : Int32).toInt = 1000000) (rfl : (x76).toInt = (x76).toInt)).mp c83
          refine lv_aload_n hx hb dX9_write_117 rfl (lv_at hl 0 rfl) ?_
          refine va_get (D := (dC, dI)) (ci := 6) (v := .int x79) (C := RX9) (T := TX9) (N := 8) hx hb hw iwX9 hown hK hP 9 rfl rfl 7 (by decide) (hw _ w_f_X9_37) (fun _ h9 => h9) rfl dX9_write_118 ?_
          refine lv_if_gt (tgt := 142) hx hb dX9_write_121 (by decide) (fun c84 => ?_) (fun c84 => ?_)
          · have kc84 := (cv_lt (by decide : (0 : Int32).toInt = 0) (rfl : (x79).toInt = (x79).toInt)).mp c84
            refine lv_iconst (v := (-1)) hx hb dX9_write_142 (by decide) ?_
            replace hP : va_P (dC, dI) cls [(h_wr, .inr (6, (mo39 (.ref h_td) (.ref h_bd) (.ref h_wb) (.int x_wr_length) (.ref h_wd) (.int x78) (.ref h_wh) (.int x79)))), (h_wb, .inl (cy_wb, 600, .inl f_wb)), (h_wd, .inl (cy_wd, 616, .inl f80)), (h_wh, .inl (cy_wh, 2048, .inl f77)), (h_bd, .inr (1, (mo9 v_bd (.ref h_td) (.ref h_bnd)))), (h_bnd, .inl (cy_bnd, 256, .inl f_bnd)), (h_td, .inr (5, (mo21 v_td (.ref h_nam) (.ref h_var) (.ref h_trm) (.ref h_ter)))), (h_nam, .inl (cy_nam, 300, .inr (.inl f_nam))), (h_var, .inl (cy_var, 300, .inl f_var)), (h_trm, .inl (cy_trm, 300, .inl f_trm)), (h_ter, .inl (cy_ter, 900, .inl f_ter))] H := hP.sub [9, 0, 10, 1, 2, 3, 4, 5, 6, 7, 8] rfl
            replace hD : va_D A [(h_wr, .inr (6, (mo39 (.ref h_td) (.ref h_bd) (.ref h_wb) (.int x_wr_length) (.ref h_wd) (.int x78) (.ref h_wh) (.int x79)))), (h_wb, .inl (cy_wb, 600, .inl f_wb)), (h_wd, .inl (cy_wd, 616, .inl f80)), (h_wh, .inl (cy_wh, 2048, .inl f77)), (h_bd, .inr (1, (mo9 v_bd (.ref h_td) (.ref h_bnd)))), (h_bnd, .inl (cy_bnd, 256, .inl f_bnd)), (h_td, .inr (5, (mo21 v_td (.ref h_nam) (.ref h_var) (.ref h_trm) (.ref h_ter)))), (h_nam, .inl (cy_nam, 300, .inr (.inl f_nam))), (h_var, .inl (cy_var, 300, .inl f_var)), (h_trm, .inl (cy_trm, 300, .inl f_trm)), (h_ter, .inl (cy_ter, 900, .inl f_ter))] := hD.sub [9, 0, 10, 1, 2, 3, 4, 5, 6, 7, 8] (by decide) rfl
            refine W.widen (k := 0) (n := 0) (Nat.le_of_ble_eq_true rfl) (Nat.le_of_ble_eq_true rfl) ?_
            have cstm1 : ((-1) : Int32).toInt = -1 := by decide
            have w85 : 0 ≤ ((x_wr_length)).toInt ∧ ((x_wr_length)).toInt ≤ 600 := by first | exact hx_wr_length | omega
            have w86 : 0 ≤ ((x78)).toInt ∧ ((x78)).toInt ≤ 616 := by first | exact klp81_2 | omega
            have w87 : 0 ≤ ((x79)).toInt ∧ ((x79)).toInt ≤ 2048 := by first | exact klp81_3 | omega
            exact W.iret (v := (-1)) hx hb hr (fun t ht hW => ⟨⟨(-1), (x_wr_length, x78, x79, f_wb, f80, f77), rfl, ⟨w85, w86, w87, hf77⟩, by rw [ht]; exact hP, hD⟩, hS.F ht⟩) hS.2.2 dX9_write_143
          · have kc84 := (not_congr (cv_lt (by decide : (0 : Int32).toInt = 0) (rfl : (x79).toInt = (x79).toInt))).mp c84
            refine lv_aload_n hx hb dX9_write_124 rfl (lv_at hl 0 rfl) ?_
            refine va_get (D := (dC, dI)) (ci := 6) (v := .int x78) (C := RX9) (T := TX9) (N := 8) hx hb hw iwX9 hown hK hP 9 rfl rfl 5 (by decide) (hw _ w_f_X9_29) (fun _ h9 => h9) rfl dX9_write_125 ?_
            refine lv_iload_n hx hb dX9_write_128 rfl (lv_at hl 3 rfl) ?_
            refine lv_icmp_gt (tgt := 142) hx hb dX9_write_129 (by decide) (fun c88 => ?_) (fun c88 => ?_)
            · have kc88 := (cv_lt (rfl : (p3).toInt = (p3).toInt) (rfl : (x78).toInt = (x78).toInt)).mp c88
              refine lv_iconst (v := (-1)) hx hb dX9_write_142 (by decide) ?_
              replace hP : va_P (dC, dI) cls [(h_wr, .inr (6, (mo39 (.ref h_td) (.ref h_bd) (.ref h_wb) (.int x_wr_length) (.ref h_wd) (.int x78) (.ref h_wh) (.int x79)))), (h_wb, .inl (cy_wb, 600, .inl f_wb)), (h_wd, .inl (cy_wd, 616, .inl f80)), (h_wh, .inl (cy_wh, 2048, .inl f77)), (h_bd, .inr (1, (mo9 v_bd (.ref h_td) (.ref h_bnd)))), (h_bnd, .inl (cy_bnd, 256, .inl f_bnd)), (h_td, .inr (5, (mo21 v_td (.ref h_nam) (.ref h_var) (.ref h_trm) (.ref h_ter)))), (h_nam, .inl (cy_nam, 300, .inr (.inl f_nam))), (h_var, .inl (cy_var, 300, .inl f_var)), (h_trm, .inl (cy_trm, 300, .inl f_trm)), (h_ter, .inl (cy_ter, 900, .inl f_ter))] H := hP.sub [9, 0, 10, 1, 2, 3, 4, 5, 6, 7, 8] rfl
              replace hD : va_D A [(h_wr, .inr (6, (mo39 (.ref h_td) (.ref h_bd) (.ref h_wb) (.int x_wr_length) (.ref h_wd) (.int x78) (.ref h_wh) (.int x79)))), (h_wb, .inl (cy_wb, 600, .inl f_wb)), (h_wd, .inl (cy_wd, 616, .inl f80)), (h_wh, .inl (cy_wh, 2048, .inl f77)), (h_bd, .inr (1, (mo9 v_bd (.ref h_td) (.ref h_bnd)))), (h_bnd, .inl (cy_bnd, 256, .inl f_bnd)), (h_td, .inr (5, (mo21 v_td (.ref h_nam) (.ref h_var) (.ref h_trm) (.ref h_ter)))), (h_nam, .inl (cy_nam, 300, .inr (.inl f_nam))), (h_var, .inl (cy_var, 300, .inl f_var)), (h_trm, .inl (cy_trm, 300, .inl f_trm)), (h_ter, .inl (cy_ter, 900, .inl f_ter))] := hD.sub [9, 0, 10, 1, 2, 3, 4, 5, 6, 7, 8] (by decide) rfl
              refine W.widen (k := 0) (n := 0) (Nat.le_of_ble_eq_true rfl) (Nat.le_of_ble_eq_true rfl) ?_
              have cstm1 : ((-1) : Int32).toInt = -1 := by decide
              have w89 : 0 ≤ ((x_wr_length)).toInt ∧ ((x_wr_length)).toInt ≤ 600 := by first | exact hx_wr_length | omega
              have w90 : 0 ≤ ((x78)).toInt ∧ ((x78)).toInt ≤ 616 := by first | exact klp81_2 | omega
              have w91 : 0 ≤ ((x79)).toInt ∧ ((x79)).toInt ≤ 2048 := by first | exact klp81_3 | omega
              exact W.iret (v := (-1)) hx hb hr (fun t ht hW => ⟨⟨(-1), (x_wr_length, x78, x79, f_wb, f80, f77), rfl, ⟨w89, w90, w91, hf77⟩, by rw [ht]; exact hP, hD⟩, hS.F ht⟩) hS.2.2 dX9_write_143
            · have kc88 := (not_congr (cv_lt (rfl : (p3).toInt = (p3).toInt) (rfl : (x78).toInt = (x78).toInt))).mp c88
              refine lv_aload_n hx hb dX9_write_132 rfl (lv_at hl 0 rfl) ?_
              refine va_get (D := (dC, dI)) (ci := 6) (v := .int x78) (C := RX9) (T := TX9) (N := 8) hx hb hw iwX9 hown hK hP 9 rfl rfl 5 (by decide) (hw _ w_f_X9_29) (fun _ h9 => h9) rfl dX9_write_133 ?_
              refine lv_sipush (v := 600) hx hb dX9_write_136 (by decide) ?_
              refine lv_icmp_le (tgt := 144) hx hb dX9_write_139 (by decide) (fun c92 => ?_) (fun c92 => ?_)
              · have kc92 := (cv_le (rfl : (x78).toInt = (x78).toInt) (by decide : (600 : Int32).toInt = 600)).mp c92
                refine lv_aload_n hx hb dX9_write_144 rfl (lv_at hl 0 rfl) ?_
                refine va_get (D := (dC, dI)) (ci := 6) (v := .ref h_wd) (C := RX9) (T := TX9) (N := 8) hx hb hw iwX9 hown hK hP 9 rfl rfl 4 (by decide) (hw _ w_f_X9_15) (fun _ h9 => h9) rfl dX9_write_145 ?_
                refine lv_iconst (v := 0) hx hb dX9_write_148 (by decide) ?_
                refine lv_aload_n hx hb dX9_write_149 rfl (lv_at hl 0 rfl) ?_
                refine va_get (D := (dC, dI)) (ci := 6) (v := .ref h_wb) (C := RX9) (T := TX9) (N := 8) hx hb hw iwX9 hown hK hP 9 rfl rfl 2 (by decide) (hw _ w_f_X9_9) (fun _ h9 => h9) rfl dX9_write_150 ?_
                refine lv_iconst (v := 0) hx hb dX9_write_153 (by decide) ?_
                refine lv_aload_n hx hb dX9_write_154 rfl (lv_at hl 0 rfl) ?_
                refine va_get (D := (dC, dI)) (ci := 6) (v := .int x78) (C := RX9) (T := TX9) (N := 8) hx hb hw iwX9 hown hK hP 9 rfl rfl 5 (by decide) (hw _ w_f_X9_29) (fun _ h9 => h9) rfl dX9_write_155 ?_
                refine va_copyi hx hb (hml.trans hl.1.symm) hown (hw _ w_m_X9_50) (hw _ w_acn) (hw _ w_acs) (hw _ w_ini_System) hK hP hD hS 10 0 1 0 (sp := 0) (dp := 0) (n := x78) rfl rfl rfl rfl rfl (by decide) (by decide) (fun q => by have := (cv_lt (rfl : (x78).toInt = (x78).toInt) (by decide : (0 : Int32).toInt = 0)).mp q; omega) (by have : (0 : Int32).toNatClampNeg = 0 := (by decide); have := clamp_toInt (i := x78) (by omega); omega) (by have : (0 : Int32).toNatClampNeg = 0 := (by decide); have := clamp_toInt (i := x78) (by omega); omega) (fun _ _ => rfl) (Nat.le_of_ble_eq_true rfl) (Nat.le_of_ble_eq_true rfl) dX9_write_158 (fun H locs hP hD hS => ?_)
                obtain ⟨f93, ef93⟩ : ∃ g : Nat → Int32, g = va_cpy f80 f_wb (Int32.toNatClampNeg 0) (Int32.toNatClampNeg 0) (Int32.toNatClampNeg x78) := ⟨_, rfl⟩
                have hP : va_P (dC, dI) cls [(h_wb, .inl (cy_wb, 600, .inl f93)), (h_wh, .inl (cy_wh, 2048, .inl f77)), (h_bd, .inr (1, (mo9 v_bd (.ref h_td) (.ref h_bnd)))), (h_bnd, .inl (cy_bnd, 256, .inl f_bnd)), (h_td, .inr (5, (mo21 v_td (.ref h_nam) (.ref h_var) (.ref h_trm) (.ref h_ter)))), (h_nam, .inl (cy_nam, 300, .inr (.inl f_nam))), (h_var, .inl (cy_var, 300, .inl f_var)), (h_trm, .inl (cy_trm, 300, .inl f_trm)), (h_ter, .inl (cy_ter, 900, .inl f_ter)), (h_wr, .inr (6, (mo39 (.ref h_td) (.ref h_bd) (.ref h_wb) (.int x_wr_length) (.ref h_wd) (.int x78) (.ref h_wh) (.int x79)))), (h_wd, .inl (cy_wd, 616, .inl f80))] H := by rw [ef93]; exact hP
                have hD : va_D A [(h_wb, .inl (cy_wb, 600, .inl f93)), (h_wh, .inl (cy_wh, 2048, .inl f77)), (h_bd, .inr (1, (mo9 v_bd (.ref h_td) (.ref h_bnd)))), (h_bnd, .inl (cy_bnd, 256, .inl f_bnd)), (h_td, .inr (5, (mo21 v_td (.ref h_nam) (.ref h_var) (.ref h_trm) (.ref h_ter)))), (h_nam, .inl (cy_nam, 300, .inr (.inl f_nam))), (h_var, .inl (cy_var, 300, .inl f_var)), (h_trm, .inl (cy_trm, 300, .inl f_trm)), (h_ter, .inl (cy_ter, 900, .inl f_ter)), (h_wr, .inr (6, (mo39 (.ref h_td) (.ref h_bd) (.ref h_wb) (.int x_wr_length) (.ref h_wd) (.int x78) (.ref h_wh) (.int x79)))), (h_wd, .inl (cy_wd, 616, .inl f80))] := by rw [ef93]; exact hD
                clear ef93
                refine lv_aload_n hx hb dX9_write_161 rfl (lv_at hl 0 rfl) ?_
                refine lv_aload_n hx hb dX9_write_162 rfl (lv_at hl 0 rfl) ?_
                refine va_get (D := (dC, dI)) (ci := 6) (v := .int x78) (C := RX9) (T := TX9) (N := 8) hx hb hw iwX9 hown hK hP 9 rfl rfl 5 (by decide) (hw _ w_f_X9_29) (fun _ h9 => h9) rfl dX9_write_163 ?_
                refine va_put (D := (dC, dI)) (ci := 6) (v := .int x78) (ty := tyX9 3) (C := RX9) (T := TX9) (N := 8) hx hb hw iwX9 tyX9 tyX9_ok nmX9 hown hK hP hD hS 9 rfl rfl 3 (by decide) (hw _ w_f_X9_56) (fun _ h9 => h9) rfl (tyX9_ok 3 (by decide)) rfl rfl (Nat.le_of_ble_eq_true rfl) dX9_write_166 (fun H locs hP9 hD9 hS9 => ?_)
                clear hP hD hS
                have hP : va_P (dC, dI) cls [(h_wb, .inl (cy_wb, 600, .inl f93)), (h_wh, .inl (cy_wh, 2048, .inl f77)), (h_bd, .inr (1, (mo9 v_bd (.ref h_td) (.ref h_bnd)))), (h_bnd, .inl (cy_bnd, 256, .inl f_bnd)), (h_td, .inr (5, (mo21 v_td (.ref h_nam) (.ref h_var) (.ref h_trm) (.ref h_ter)))), (h_nam, .inl (cy_nam, 300, .inr (.inl f_nam))), (h_var, .inl (cy_var, 300, .inl f_var)), (h_trm, .inl (cy_trm, 300, .inl f_trm)), (h_ter, .inl (cy_ter, 900, .inl f_ter)), (h_wr, .inr (6, (mo39 (.ref h_td) (.ref h_bd) (.ref h_wb) (.int x78) (.ref h_wd) (.int x78) (.ref h_wh) (.int x79)))), (h_wd, .inl (cy_wd, 616, .inl f80))] H := hP9
                have hD : va_D A [(h_wb, .inl (cy_wb, 600, .inl f93)), (h_wh, .inl (cy_wh, 2048, .inl f77)), (h_bd, .inr (1, (mo9 v_bd (.ref h_td) (.ref h_bnd)))), (h_bnd, .inl (cy_bnd, 256, .inl f_bnd)), (h_td, .inr (5, (mo21 v_td (.ref h_nam) (.ref h_var) (.ref h_trm) (.ref h_ter)))), (h_nam, .inl (cy_nam, 300, .inr (.inl f_nam))), (h_var, .inl (cy_var, 300, .inl f_var)), (h_trm, .inl (cy_trm, 300, .inl f_trm)), (h_ter, .inl (cy_ter, 900, .inl f_ter)), (h_wr, .inr (6, (mo39 (.ref h_td) (.ref h_bd) (.ref h_wb) (.int x78) (.ref h_wd) (.int x78) (.ref h_wh) (.int x79)))), (h_wd, .inl (cy_wd, 616, .inl f80))] := hD9
                have hS := hS9
                clear hP9 hD9 hS9
                refine lv_aload_n hx hb dX9_write_169 rfl (lv_at hl 0 rfl) ?_
                refine va_get (D := (dC, dI)) (ci := 6) (v := .int x78) (C := RX9) (T := TX9) (N := 8) hx hb hw iwX9 hown hK hP 9 rfl rfl 3 (by decide) (hw _ w_f_X9_56) (fun _ h9 => h9) rfl dX9_write_170 ?_
                replace hP : va_P (dC, dI) cls [(h_wr, .inr (6, (mo39 (.ref h_td) (.ref h_bd) (.ref h_wb) (.int x78) (.ref h_wd) (.int x78) (.ref h_wh) (.int x79)))), (h_wb, .inl (cy_wb, 600, .inl f93)), (h_wd, .inl (cy_wd, 616, .inl f80)), (h_wh, .inl (cy_wh, 2048, .inl f77)), (h_bd, .inr (1, (mo9 v_bd (.ref h_td) (.ref h_bnd)))), (h_bnd, .inl (cy_bnd, 256, .inl f_bnd)), (h_td, .inr (5, (mo21 v_td (.ref h_nam) (.ref h_var) (.ref h_trm) (.ref h_ter)))), (h_nam, .inl (cy_nam, 300, .inr (.inl f_nam))), (h_var, .inl (cy_var, 300, .inl f_var)), (h_trm, .inl (cy_trm, 300, .inl f_trm)), (h_ter, .inl (cy_ter, 900, .inl f_ter))] H := hP.sub [9, 0, 10, 1, 2, 3, 4, 5, 6, 7, 8] rfl
                replace hD : va_D A [(h_wr, .inr (6, (mo39 (.ref h_td) (.ref h_bd) (.ref h_wb) (.int x78) (.ref h_wd) (.int x78) (.ref h_wh) (.int x79)))), (h_wb, .inl (cy_wb, 600, .inl f93)), (h_wd, .inl (cy_wd, 616, .inl f80)), (h_wh, .inl (cy_wh, 2048, .inl f77)), (h_bd, .inr (1, (mo9 v_bd (.ref h_td) (.ref h_bnd)))), (h_bnd, .inl (cy_bnd, 256, .inl f_bnd)), (h_td, .inr (5, (mo21 v_td (.ref h_nam) (.ref h_var) (.ref h_trm) (.ref h_ter)))), (h_nam, .inl (cy_nam, 300, .inr (.inl f_nam))), (h_var, .inl (cy_var, 300, .inl f_var)), (h_trm, .inl (cy_trm, 300, .inl f_trm)), (h_ter, .inl (cy_ter, 900, .inl f_ter))] := hD.sub [9, 0, 10, 1, 2, 3, 4, 5, 6, 7, 8] (by decide) rfl
                refine W.widen (k := 0) (n := 0) (Nat.le_of_ble_eq_true rfl) (Nat.le_of_ble_eq_true rfl) ?_
                have w94 : 0 ≤ ((x78)).toInt ∧ ((x78)).toInt ≤ 600 := by omega
                have w95 : 0 ≤ ((x78)).toInt ∧ ((x78)).toInt ≤ 616 := by first | exact klp81_2 | omega
                have w96 : 0 ≤ ((x79)).toInt ∧ ((x79)).toInt ≤ 2048 := by first | exact klp81_3 | omega
                exact W.iret (v := x78) hx hb hr (fun t ht hW => ⟨⟨x78, (x78, x78, x79, f93, f80, f77), rfl, ⟨w94, w95, w96, hf77⟩, by rw [ht]; exact hP, hD⟩, hS.F ht⟩) hS.2.2 dX9_write_173
              · have kc92 := (not_congr (cv_le (rfl : (x78).toInt = (x78).toInt) (by decide : (600 : Int32).toInt = 600))).mp c92
                refine lv_iconst (v := (-1)) hx hb dX9_write_142 (by decide) ?_
                replace hP : va_P (dC, dI) cls [(h_wr, .inr (6, (mo39 (.ref h_td) (.ref h_bd) (.ref h_wb) (.int x_wr_length) (.ref h_wd) (.int x78) (.ref h_wh) (.int x79)))), (h_wb, .inl (cy_wb, 600, .inl f_wb)), (h_wd, .inl (cy_wd, 616, .inl f80)), (h_wh, .inl (cy_wh, 2048, .inl f77)), (h_bd, .inr (1, (mo9 v_bd (.ref h_td) (.ref h_bnd)))), (h_bnd, .inl (cy_bnd, 256, .inl f_bnd)), (h_td, .inr (5, (mo21 v_td (.ref h_nam) (.ref h_var) (.ref h_trm) (.ref h_ter)))), (h_nam, .inl (cy_nam, 300, .inr (.inl f_nam))), (h_var, .inl (cy_var, 300, .inl f_var)), (h_trm, .inl (cy_trm, 300, .inl f_trm)), (h_ter, .inl (cy_ter, 900, .inl f_ter))] H := hP.sub [9, 0, 10, 1, 2, 3, 4, 5, 6, 7, 8] rfl
                replace hD : va_D A [(h_wr, .inr (6, (mo39 (.ref h_td) (.ref h_bd) (.ref h_wb) (.int x_wr_length) (.ref h_wd) (.int x78) (.ref h_wh) (.int x79)))), (h_wb, .inl (cy_wb, 600, .inl f_wb)), (h_wd, .inl (cy_wd, 616, .inl f80)), (h_wh, .inl (cy_wh, 2048, .inl f77)), (h_bd, .inr (1, (mo9 v_bd (.ref h_td) (.ref h_bnd)))), (h_bnd, .inl (cy_bnd, 256, .inl f_bnd)), (h_td, .inr (5, (mo21 v_td (.ref h_nam) (.ref h_var) (.ref h_trm) (.ref h_ter)))), (h_nam, .inl (cy_nam, 300, .inr (.inl f_nam))), (h_var, .inl (cy_var, 300, .inl f_var)), (h_trm, .inl (cy_trm, 300, .inl f_trm)), (h_ter, .inl (cy_ter, 900, .inl f_ter))] := hD.sub [9, 0, 10, 1, 2, 3, 4, 5, 6, 7, 8] (by decide) rfl
                refine W.widen (k := 0) (n := 0) (Nat.le_of_ble_eq_true rfl) (Nat.le_of_ble_eq_true rfl) ?_
                have cstm1 : ((-1) : Int32).toInt = -1 := by decide
                have w97 : 0 ≤ ((x_wr_length)).toInt ∧ ((x_wr_length)).toInt ≤ 600 := by first | exact hx_wr_length | omega
                have w98 : 0 ≤ ((x78)).toInt ∧ ((x78)).toInt ≤ 616 := by first | exact klp81_2 | omega
                have w99 : 0 ≤ ((x79)).toInt ∧ ((x79)).toInt ≤ 2048 := by first | exact klp81_3 | omega
                exact W.iret (v := (-1)) hx hb hr (fun t ht hW => ⟨⟨(-1), (x_wr_length, x78, x79, f_wb, f80, f77), rfl, ⟨w97, w98, w99, hf77⟩, by rw [ht]; exact hP, hD⟩, hS.F ht⟩) hS.2.2 dX9_write_143
        · have kc83 := (not_congr (cv_le (by decide : (1000000 : Int32).toInt = 1000000) (rfl : (x76).toInt = (x76).toInt))).mp c83
          refine lv_aload_n hx hb dX9_write_37 rfl (lv_at hl 0 rfl) ?_
          refine va_get (D := (dC, dI)) (ci := 6) (v := .int x79) (C := RX9) (T := TX9) (N := 8) hx hb hw iwX9 hown hK hP 9 rfl rfl 7 (by decide) (hw _ w_f_X9_37) (fun _ h9 => h9) rfl dX9_write_38 ?_
          refine lv_if_le (tgt := 117) hx hb dX9_write_41 (by decide) (fun c100 => ?_) (fun c100 => ?_)
          · have kc100 := (cv_le (rfl : (x79).toInt = (x79).toInt) (by decide : (0 : Int32).toInt = 0)).mp c100
            refine lv_aload_n hx hb dX9_write_117 rfl (lv_at hl 0 rfl) ?_
            refine va_get (D := (dC, dI)) (ci := 6) (v := .int x79) (C := RX9) (T := TX9) (N := 8) hx hb hw iwX9 hown hK hP 9 rfl rfl 7 (by decide) (hw _ w_f_X9_37) (fun _ h9 => h9) rfl dX9_write_118 ?_
            refine lv_if_gt (tgt := 142) hx hb dX9_write_121 (by decide) (fun c101 => False.elim (by have kc101 := (cv_lt (by decide : (0 : Int32).toInt = 0) (rfl : (x79).toInt = (x79).toInt)).mp c101; omega)) (fun _ => ?_)
            refine lv_aload_n hx hb dX9_write_124 rfl (lv_at hl 0 rfl) ?_
            refine va_get (D := (dC, dI)) (ci := 6) (v := .int x78) (C := RX9) (T := TX9) (N := 8) hx hb hw iwX9 hown hK hP 9 rfl rfl 5 (by decide) (hw _ w_f_X9_29) (fun _ h9 => h9) rfl dX9_write_125 ?_
            refine lv_iload_n hx hb dX9_write_128 rfl (lv_at hl 3 rfl) ?_
            refine lv_icmp_gt (tgt := 142) hx hb dX9_write_129 (by decide) (fun c102 => ?_) (fun c102 => ?_)
            · have kc102 := (cv_lt (rfl : (p3).toInt = (p3).toInt) (rfl : (x78).toInt = (x78).toInt)).mp c102
              refine lv_iconst (v := (-1)) hx hb dX9_write_142 (by decide) ?_
              replace hP : va_P (dC, dI) cls [(h_wr, .inr (6, (mo39 (.ref h_td) (.ref h_bd) (.ref h_wb) (.int x_wr_length) (.ref h_wd) (.int x78) (.ref h_wh) (.int x79)))), (h_wb, .inl (cy_wb, 600, .inl f_wb)), (h_wd, .inl (cy_wd, 616, .inl f80)), (h_wh, .inl (cy_wh, 2048, .inl f77)), (h_bd, .inr (1, (mo9 v_bd (.ref h_td) (.ref h_bnd)))), (h_bnd, .inl (cy_bnd, 256, .inl f_bnd)), (h_td, .inr (5, (mo21 v_td (.ref h_nam) (.ref h_var) (.ref h_trm) (.ref h_ter)))), (h_nam, .inl (cy_nam, 300, .inr (.inl f_nam))), (h_var, .inl (cy_var, 300, .inl f_var)), (h_trm, .inl (cy_trm, 300, .inl f_trm)), (h_ter, .inl (cy_ter, 900, .inl f_ter))] H := hP.sub [9, 0, 10, 1, 2, 3, 4, 5, 6, 7, 8] rfl
              replace hD : va_D A [(h_wr, .inr (6, (mo39 (.ref h_td) (.ref h_bd) (.ref h_wb) (.int x_wr_length) (.ref h_wd) (.int x78) (.ref h_wh) (.int x79)))), (h_wb, .inl (cy_wb, 600, .inl f_wb)), (h_wd, .inl (cy_wd, 616, .inl f80)), (h_wh, .inl (cy_wh, 2048, .inl f77)), (h_bd, .inr (1, (mo9 v_bd (.ref h_td) (.ref h_bnd)))), (h_bnd, .inl (cy_bnd, 256, .inl f_bnd)), (h_td, .inr (5, (mo21 v_td (.ref h_nam) (.ref h_var) (.ref h_trm) (.ref h_ter)))), (h_nam, .inl (cy_nam, 300, .inr (.inl f_nam))), (h_var, .inl (cy_var, 300, .inl f_var)), (h_trm, .inl (cy_trm, 300, .inl f_trm)), (h_ter, .inl (cy_ter, 900, .inl f_ter))] := hD.sub [9, 0, 10, 1, 2, 3, 4, 5, 6, 7, 8] (by decide) rfl
              refine W.widen (k := 0) (n := 0) (Nat.le_of_ble_eq_true rfl) (Nat.le_of_ble_eq_true rfl) ?_
              have cstm1 : ((-1) : Int32).toInt = -1 := by decide
              have w103 : 0 ≤ ((x_wr_length)).toInt ∧ ((x_wr_length)).toInt ≤ 600 := by first | exact hx_wr_length | omega
              have w104 : 0 ≤ ((x78)).toInt ∧ ((x78)).toInt ≤ 616 := by first | exact klp81_2 | omega
              have w105 : 0 ≤ ((x79)).toInt ∧ ((x79)).toInt ≤ 2048 := by first | exact klp81_3 | omega
              exact W.iret (v := (-1)) hx hb hr (fun t ht hW => ⟨⟨(-1), (x_wr_length, x78, x79, f_wb, f80, f77), rfl, ⟨w103, w104, w105, hf77⟩, by rw [ht]; exact hP, hD⟩, hS.F ht⟩) hS.2.2 dX9_write_143
            · have kc102 := (not_congr (cv_lt (rfl : (p3).toInt = (p3).toInt) (rfl : (x78).toInt = (x78).toInt))).mp c102
              refine lv_aload_n hx hb dX9_write_132 rfl (lv_at hl 0 rfl) ?_
              refine va_get (D := (dC, dI)) (ci := 6) (v := .int x78) (C := RX9) (T := TX9) (N := 8) hx hb hw iwX9 hown hK hP 9 rfl rfl 5 (by decide) (hw _ w_f_X9_29) (fun _ h9 => h9) rfl dX9_write_133 ?_
              refine lv_sipush (v := 600) hx hb dX9_write_136 (by decide) ?_
              refine lv_icmp_le (tgt := 144) hx hb dX9_write_139 (by decide) (fun c106 => ?_) (fun c106 => ?_)
              · have kc106 := (cv_le (rfl : (x78).toInt = (x78).toInt) (by decide : (600 : Int32).toInt = 600)).mp c106
                refine lv_aload_n hx hb dX9_write_144 rfl (lv_at hl 0 rfl) ?_
                refine va_get (D := (dC, dI)) (ci := 6) (v := .ref h_wd) (C := RX9) (T := TX9) (N := 8) hx hb hw iwX9 hown hK hP 9 rfl rfl 4 (by decide) (hw _ w_f_X9_15) (fun _ h9 => h9) rfl dX9_write_145 ?_
                refine lv_iconst (v := 0) hx hb dX9_write_148 (by decide) ?_
                refine lv_aload_n hx hb dX9_write_149 rfl (lv_at hl 0 rfl) ?_
                refine va_get (D := (dC, dI)) (ci := 6) (v := .ref h_wb) (C := RX9) (T := TX9) (N := 8) hx hb hw iwX9 hown hK hP 9 rfl rfl 2 (by decide) (hw _ w_f_X9_9) (fun _ h9 => h9) rfl dX9_write_150 ?_
                refine lv_iconst (v := 0) hx hb dX9_write_153 (by decide) ?_
                refine lv_aload_n hx hb dX9_write_154 rfl (lv_at hl 0 rfl) ?_
                refine va_get (D := (dC, dI)) (ci := 6) (v := .int x78) (C := RX9) (T := TX9) (N := 8) hx hb hw iwX9 hown hK hP 9 rfl rfl 5 (by decide) (hw _ w_f_X9_29) (fun _ h9 => h9) rfl dX9_write_155 ?_
                refine va_copyi hx hb (hml.trans hl.1.symm) hown (hw _ w_m_X9_50) (hw _ w_acn) (hw _ w_acs) (hw _ w_ini_System) hK hP hD hS 10 0 1 0 (sp := 0) (dp := 0) (n := x78) rfl rfl rfl rfl rfl (by decide) (by decide) (fun q => by have := (cv_lt (rfl : (x78).toInt = (x78).toInt) (by decide : (0 : Int32).toInt = 0)).mp q; omega) (by have : (0 : Int32).toNatClampNeg = 0 := (by decide); have := clamp_toInt (i := x78) (by omega); omega) (by have : (0 : Int32).toNatClampNeg = 0 := (by decide); have := clamp_toInt (i := x78) (by omega); omega) (fun _ _ => rfl) (Nat.le_of_ble_eq_true rfl) (Nat.le_of_ble_eq_true rfl) dX9_write_158 (fun H locs hP hD hS => ?_)
                obtain ⟨f107, ef107⟩ : ∃ g : Nat → Int32, g = va_cpy f80 f_wb (Int32.toNatClampNeg 0) (Int32.toNatClampNeg 0) (Int32.toNatClampNeg x78) := ⟨_, rfl⟩
                have hP : va_P (dC, dI) cls [(h_wb, .inl (cy_wb, 600, .inl f107)), (h_wh, .inl (cy_wh, 2048, .inl f77)), (h_bd, .inr (1, (mo9 v_bd (.ref h_td) (.ref h_bnd)))), (h_bnd, .inl (cy_bnd, 256, .inl f_bnd)), (h_td, .inr (5, (mo21 v_td (.ref h_nam) (.ref h_var) (.ref h_trm) (.ref h_ter)))), (h_nam, .inl (cy_nam, 300, .inr (.inl f_nam))), (h_var, .inl (cy_var, 300, .inl f_var)), (h_trm, .inl (cy_trm, 300, .inl f_trm)), (h_ter, .inl (cy_ter, 900, .inl f_ter)), (h_wr, .inr (6, (mo39 (.ref h_td) (.ref h_bd) (.ref h_wb) (.int x_wr_length) (.ref h_wd) (.int x78) (.ref h_wh) (.int x79)))), (h_wd, .inl (cy_wd, 616, .inl f80))] H := by rw [ef107]; exact hP
                have hD : va_D A [(h_wb, .inl (cy_wb, 600, .inl f107)), (h_wh, .inl (cy_wh, 2048, .inl f77)), (h_bd, .inr (1, (mo9 v_bd (.ref h_td) (.ref h_bnd)))), (h_bnd, .inl (cy_bnd, 256, .inl f_bnd)), (h_td, .inr (5, (mo21 v_td (.ref h_nam) (.ref h_var) (.ref h_trm) (.ref h_ter)))), (h_nam, .inl (cy_nam, 300, .inr (.inl f_nam))), (h_var, .inl (cy_var, 300, .inl f_var)), (h_trm, .inl (cy_trm, 300, .inl f_trm)), (h_ter, .inl (cy_ter, 900, .inl f_ter)), (h_wr, .inr (6, (mo39 (.ref h_td) (.ref h_bd) (.ref h_wb) (.int x_wr_length) (.ref h_wd) (.int x78) (.ref h_wh) (.int x79)))), (h_wd, .inl (cy_wd, 616, .inl f80))] := by rw [ef107]; exact hD
                clear ef107
                refine lv_aload_n hx hb dX9_write_161 rfl (lv_at hl 0 rfl) ?_
                refine lv_aload_n hx hb dX9_write_162 rfl (lv_at hl 0 rfl) ?_
                refine va_get (D := (dC, dI)) (ci := 6) (v := .int x78) (C := RX9) (T := TX9) (N := 8) hx hb hw iwX9 hown hK hP 9 rfl rfl 5 (by decide) (hw _ w_f_X9_29) (fun _ h9 => h9) rfl dX9_write_163 ?_
                refine va_put (D := (dC, dI)) (ci := 6) (v := .int x78) (ty := tyX9 3) (C := RX9) (T := TX9) (N := 8) hx hb hw iwX9 tyX9 tyX9_ok nmX9 hown hK hP hD hS 9 rfl rfl 3 (by decide) (hw _ w_f_X9_56) (fun _ h9 => h9) rfl (tyX9_ok 3 (by decide)) rfl rfl (Nat.le_of_ble_eq_true rfl) dX9_write_166 (fun H locs hP9 hD9 hS9 => ?_)
                clear hP hD hS
                have hP : va_P (dC, dI) cls [(h_wb, .inl (cy_wb, 600, .inl f107)), (h_wh, .inl (cy_wh, 2048, .inl f77)), (h_bd, .inr (1, (mo9 v_bd (.ref h_td) (.ref h_bnd)))), (h_bnd, .inl (cy_bnd, 256, .inl f_bnd)), (h_td, .inr (5, (mo21 v_td (.ref h_nam) (.ref h_var) (.ref h_trm) (.ref h_ter)))), (h_nam, .inl (cy_nam, 300, .inr (.inl f_nam))), (h_var, .inl (cy_var, 300, .inl f_var)), (h_trm, .inl (cy_trm, 300, .inl f_trm)), (h_ter, .inl (cy_ter, 900, .inl f_ter)), (h_wr, .inr (6, (mo39 (.ref h_td) (.ref h_bd) (.ref h_wb) (.int x78) (.ref h_wd) (.int x78) (.ref h_wh) (.int x79)))), (h_wd, .inl (cy_wd, 616, .inl f80))] H := hP9
                have hD : va_D A [(h_wb, .inl (cy_wb, 600, .inl f107)), (h_wh, .inl (cy_wh, 2048, .inl f77)), (h_bd, .inr (1, (mo9 v_bd (.ref h_td) (.ref h_bnd)))), (h_bnd, .inl (cy_bnd, 256, .inl f_bnd)), (h_td, .inr (5, (mo21 v_td (.ref h_nam) (.ref h_var) (.ref h_trm) (.ref h_ter)))), (h_nam, .inl (cy_nam, 300, .inr (.inl f_nam))), (h_var, .inl (cy_var, 300, .inl f_var)), (h_trm, .inl (cy_trm, 300, .inl f_trm)), (h_ter, .inl (cy_ter, 900, .inl f_ter)), (h_wr, .inr (6, (mo39 (.ref h_td) (.ref h_bd) (.ref h_wb) (.int x78) (.ref h_wd) (.int x78) (.ref h_wh) (.int x79)))), (h_wd, .inl (cy_wd, 616, .inl f80))] := hD9
                have hS := hS9
                clear hP9 hD9 hS9
                refine lv_aload_n hx hb dX9_write_169 rfl (lv_at hl 0 rfl) ?_
                refine va_get (D := (dC, dI)) (ci := 6) (v := .int x78) (C := RX9) (T := TX9) (N := 8) hx hb hw iwX9 hown hK hP 9 rfl rfl 3 (by decide) (hw _ w_f_X9_56) (fun _ h9 => h9) rfl dX9_write_170 ?_
                replace hP : va_P (dC, dI) cls [(h_wr, .inr (6, (mo39 (.ref h_td) (.ref h_bd) (.ref h_wb) (.int x78) (.ref h_wd) (.int x78) (.ref h_wh) (.int x79)))), (h_wb, .inl (cy_wb, 600, .inl f107)), (h_wd, .inl (cy_wd, 616, .inl f80)), (h_wh, .inl (cy_wh, 2048, .inl f77)), (h_bd, .inr (1, (mo9 v_bd (.ref h_td) (.ref h_bnd)))), (h_bnd, .inl (cy_bnd, 256, .inl f_bnd)), (h_td, .inr (5, (mo21 v_td (.ref h_nam) (.ref h_var) (.ref h_trm) (.ref h_ter)))), (h_nam, .inl (cy_nam, 300, .inr (.inl f_nam))), (h_var, .inl (cy_var, 300, .inl f_var)), (h_trm, .inl (cy_trm, 300, .inl f_trm)), (h_ter, .inl (cy_ter, 900, .inl f_ter))] H := hP.sub [9, 0, 10, 1, 2, 3, 4, 5, 6, 7, 8] rfl
                replace hD : va_D A [(h_wr, .inr (6, (mo39 (.ref h_td) (.ref h_bd) (.ref h_wb) (.int x78) (.ref h_wd) (.int x78) (.ref h_wh) (.int x79)))), (h_wb, .inl (cy_wb, 600, .inl f107)), (h_wd, .inl (cy_wd, 616, .inl f80)), (h_wh, .inl (cy_wh, 2048, .inl f77)), (h_bd, .inr (1, (mo9 v_bd (.ref h_td) (.ref h_bnd)))), (h_bnd, .inl (cy_bnd, 256, .inl f_bnd)), (h_td, .inr (5, (mo21 v_td (.ref h_nam) (.ref h_var) (.ref h_trm) (.ref h_ter)))), (h_nam, .inl (cy_nam, 300, .inr (.inl f_nam))), (h_var, .inl (cy_var, 300, .inl f_var)), (h_trm, .inl (cy_trm, 300, .inl f_trm)), (h_ter, .inl (cy_ter, 900, .inl f_ter))] := hD.sub [9, 0, 10, 1, 2, 3, 4, 5, 6, 7, 8] (by decide) rfl
                refine W.widen (k := 0) (n := 0) (Nat.le_of_ble_eq_true rfl) (Nat.le_of_ble_eq_true rfl) ?_
                have w108 : 0 ≤ ((x78)).toInt ∧ ((x78)).toInt ≤ 600 := by omega
                have w109 : 0 ≤ ((x78)).toInt ∧ ((x78)).toInt ≤ 616 := by first | exact klp81_2 | omega
                have w110 : 0 ≤ ((x79)).toInt ∧ ((x79)).toInt ≤ 2048 := by first | exact klp81_3 | omega
                exact W.iret (v := x78) hx hb hr (fun t ht hW => ⟨⟨x78, (x78, x78, x79, f107, f80, f77), rfl, ⟨w108, w109, w110, hf77⟩, by rw [ht]; exact hP, hD⟩, hS.F ht⟩) hS.2.2 dX9_write_173
              · have kc106 := (not_congr (cv_le (rfl : (x78).toInt = (x78).toInt) (by decide : (600 : Int32).toInt = 600))).mp c106
                refine lv_iconst (v := (-1)) hx hb dX9_write_142 (by decide) ?_
                replace hP : va_P (dC, dI) cls [(h_wr, .inr (6, (mo39 (.ref h_td) (.ref h_bd) (.ref h_wb) (.int x_wr_length) (.ref h_wd) (.int x78) (.ref h_wh) (.int x79)))), (h_wb, .inl (cy_wb, 600, .inl f_wb)), (h_wd, .inl (cy_wd, 616, .inl f80)), (h_wh, .inl (cy_wh, 2048, .inl f77)), (h_bd, .inr (1, (mo9 v_bd (.ref h_td) (.ref h_bnd)))), (h_bnd, .inl (cy_bnd, 256, .inl f_bnd)), (h_td, .inr (5, (mo21 v_td (.ref h_nam) (.ref h_var) (.ref h_trm) (.ref h_ter)))), (h_nam, .inl (cy_nam, 300, .inr (.inl f_nam))), (h_var, .inl (cy_var, 300, .inl f_var)), (h_trm, .inl (cy_trm, 300, .inl f_trm)), (h_ter, .inl (cy_ter, 900, .inl f_ter))] H := hP.sub [9, 0, 10, 1, 2, 3, 4, 5, 6, 7, 8] rfl
                replace hD : va_D A [(h_wr, .inr (6, (mo39 (.ref h_td) (.ref h_bd) (.ref h_wb) (.int x_wr_length) (.ref h_wd) (.int x78) (.ref h_wh) (.int x79)))), (h_wb, .inl (cy_wb, 600, .inl f_wb)), (h_wd, .inl (cy_wd, 616, .inl f80)), (h_wh, .inl (cy_wh, 2048, .inl f77)), (h_bd, .inr (1, (mo9 v_bd (.ref h_td) (.ref h_bnd)))), (h_bnd, .inl (cy_bnd, 256, .inl f_bnd)), (h_td, .inr (5, (mo21 v_td (.ref h_nam) (.ref h_var) (.ref h_trm) (.ref h_ter)))), (h_nam, .inl (cy_nam, 300, .inr (.inl f_nam))), (h_var, .inl (cy_var, 300, .inl f_var)), (h_trm, .inl (cy_trm, 300, .inl f_trm)), (h_ter, .inl (cy_ter, 900, .inl f_ter))] := hD.sub [9, 0, 10, 1, 2, 3, 4, 5, 6, 7, 8] (by decide) rfl
                refine W.widen (k := 0) (n := 0) (Nat.le_of_ble_eq_true rfl) (Nat.le_of_ble_eq_true rfl) ?_
                have cstm1 : ((-1) : Int32).toInt = -1 := by decide
                have w111 : 0 ≤ ((x_wr_length)).toInt ∧ ((x_wr_length)).toInt ≤ 600 := by first | exact hx_wr_length | omega
                have w112 : 0 ≤ ((x78)).toInt ∧ ((x78)).toInt ≤ 616 := by first | exact klp81_2 | omega
                have w113 : 0 ≤ ((x79)).toInt ∧ ((x79)).toInt ≤ 2048 := by first | exact klp81_3 | omega
                exact W.iret (v := (-1)) hx hb hr (fun t ht hW => ⟨⟨(-1), (x_wr_length, x78, x79, f_wb, f80, f77), rfl, ⟨w111, w112, w113, hf77⟩, by rw [ht]; exact hP, hD⟩, hS.F ht⟩) hS.2.2 dX9_write_143
          · have kc100 := (not_congr (cv_le (rfl : (x79).toInt = (x79).toInt) (by decide : (0 : Int32).toInt = 0))).mp c100
            refine lv_aload_n hx hb dX9_write_44 rfl (lv_at hl 0 rfl) ?_
            refine va_get (D := (dC, dI)) (ci := 6) (v := .int x78) (C := RX9) (T := TX9) (N := 8) hx hb hw iwX9 hown hK hP 9 rfl rfl 5 (by decide) (hw _ w_f_X9_29) (fun _ h9 => h9) rfl dX9_write_45 ?_
            refine lv_iload_n hx hb dX9_write_48 rfl (lv_at hl 3 rfl) ?_
            refine lv_icmp_gt (tgt := 117) hx hb dX9_write_49 (by decide) (fun c114 => ?_) (fun c114 => ?_)
            · have kc114 := (cv_lt (rfl : (p3).toInt = (p3).toInt) (rfl : (x78).toInt = (x78).toInt)).mp c114
              refine lv_aload_n hx hb dX9_write_117 rfl (lv_at hl 0 rfl) ?_
              refine va_get (D := (dC, dI)) (ci := 6) (v := .int x79) (C := RX9) (T := TX9) (N := 8) hx hb hw iwX9 hown hK hP 9 rfl rfl 7 (by decide) (hw _ w_f_X9_37) (fun _ h9 => h9) rfl dX9_write_118 ?_
              refine lv_if_gt (tgt := 142) hx hb dX9_write_121 (by decide) (fun _ => ?_) (fun c115 => False.elim (by have kc115 := (not_congr (cv_lt (by decide : (0 : Int32).toInt = 0) (rfl : (x79).toInt = (x79).toInt))).mp c115; omega))
              refine lv_iconst (v := (-1)) hx hb dX9_write_142 (by decide) ?_
              replace hP : va_P (dC, dI) cls [(h_wr, .inr (6, (mo39 (.ref h_td) (.ref h_bd) (.ref h_wb) (.int x_wr_length) (.ref h_wd) (.int x78) (.ref h_wh) (.int x79)))), (h_wb, .inl (cy_wb, 600, .inl f_wb)), (h_wd, .inl (cy_wd, 616, .inl f80)), (h_wh, .inl (cy_wh, 2048, .inl f77)), (h_bd, .inr (1, (mo9 v_bd (.ref h_td) (.ref h_bnd)))), (h_bnd, .inl (cy_bnd, 256, .inl f_bnd)), (h_td, .inr (5, (mo21 v_td (.ref h_nam) (.ref h_var) (.ref h_trm) (.ref h_ter)))), (h_nam, .inl (cy_nam, 300, .inr (.inl f_nam))), (h_var, .inl (cy_var, 300, .inl f_var)), (h_trm, .inl (cy_trm, 300, .inl f_trm)), (h_ter, .inl (cy_ter, 900, .inl f_ter))] H := hP.sub [9, 0, 10, 1, 2, 3, 4, 5, 6, 7, 8] rfl
              replace hD : va_D A [(h_wr, .inr (6, (mo39 (.ref h_td) (.ref h_bd) (.ref h_wb) (.int x_wr_length) (.ref h_wd) (.int x78) (.ref h_wh) (.int x79)))), (h_wb, .inl (cy_wb, 600, .inl f_wb)), (h_wd, .inl (cy_wd, 616, .inl f80)), (h_wh, .inl (cy_wh, 2048, .inl f77)), (h_bd, .inr (1, (mo9 v_bd (.ref h_td) (.ref h_bnd)))), (h_bnd, .inl (cy_bnd, 256, .inl f_bnd)), (h_td, .inr (5, (mo21 v_td (.ref h_nam) (.ref h_var) (.ref h_trm) (.ref h_ter)))), (h_nam, .inl (cy_nam, 300, .inr (.inl f_nam))), (h_var, .inl (cy_var, 300, .inl f_var)), (h_trm, .inl (cy_trm, 300, .inl f_trm)), (h_ter, .inl (cy_ter, 900, .inl f_ter))] := hD.sub [9, 0, 10, 1, 2, 3, 4, 5, 6, 7, 8] (by decide) rfl
              refine W.widen (k := 0) (n := 0) (Nat.le_of_ble_eq_true rfl) (Nat.le_of_ble_eq_true rfl) ?_
              have cstm1 : ((-1) : Int32).toInt = -1 := by decide
              have w116 : 0 ≤ ((x_wr_length)).toInt ∧ ((x_wr_length)).toInt ≤ 600 := by first | exact hx_wr_length | omega
              have w117 : 0 ≤ ((x78)).toInt ∧ ((x78)).toInt ≤ 616 := by first | exact klp81_2 | omega
              have w118 : 0 ≤ ((x79)).toInt ∧ ((x79)).toInt ≤ 2048 := by first | exact klp81_3 | omega
              exact W.iret (v := (-1)) hx hb hr (fun t ht hW => ⟨⟨(-1), (x_wr_length, x78, x79, f_wb, f80, f77), rfl, ⟨w116, w117, w118, hf77⟩, by rw [ht]; exact hP, hD⟩, hS.F ht⟩) hS.2.2 dX9_write_143
            · have kc114 := (not_congr (cv_lt (rfl : (p3).toInt = (p3).toInt) (rfl : (x78).toInt = (x78).toInt))).mp c114
              refine lv_aload_n hx hb dX9_write_52 rfl (lv_at hl 0 rfl) ?_
              refine lv_dup hx hb dX9_write_53 rfl ?_
              refine va_get (D := (dC, dI)) (ci := 6) (v := .int x79) (C := RX9) (T := TX9) (N := 8) hx hb hw iwX9 hown hK hP 9 rfl rfl 7 (by decide) (hw _ w_f_X9_37) (fun _ h9 => h9) rfl dX9_write_54 ?_
              refine lv_iconst (v := 1) hx hb dX9_write_57 (by decide) ?_
              refine lv_isub hx hb dX9_write_58 ?_
              refine lv_topi (fun z119 ez119 => ?_)
              have tz119 : (z119).toInt = (x79).toInt - 1 := by rw [ez119]; exact i_sub rfl (by decide) (by omega)
              refine va_put (D := (dC, dI)) (ci := 6) (v := .int z119) (ty := tyX9 7) (C := RX9) (T := TX9) (N := 8) hx hb hw iwX9 tyX9 tyX9_ok nmX9 hown hK hP hD hS 9 rfl rfl 7 (by decide) (hw _ w_f_X9_37) (fun _ h9 => h9) rfl (tyX9_ok 7 (by decide)) rfl rfl (Nat.le_of_ble_eq_true rfl) dX9_write_59 (fun H locs hP9 hD9 hS9 => ?_)
              clear hP hD hS
              have hP : va_P (dC, dI) cls [(h_wb, .inl (cy_wb, 600, .inl f_wb)), (h_wh, .inl (cy_wh, 2048, .inl f77)), (h_bd, .inr (1, (mo9 v_bd (.ref h_td) (.ref h_bnd)))), (h_bnd, .inl (cy_bnd, 256, .inl f_bnd)), (h_td, .inr (5, (mo21 v_td (.ref h_nam) (.ref h_var) (.ref h_trm) (.ref h_ter)))), (h_nam, .inl (cy_nam, 300, .inr (.inl f_nam))), (h_var, .inl (cy_var, 300, .inl f_var)), (h_trm, .inl (cy_trm, 300, .inl f_trm)), (h_ter, .inl (cy_ter, 900, .inl f_ter)), (h_wr, .inr (6, (mo39 (.ref h_td) (.ref h_bd) (.ref h_wb) (.int x_wr_length) (.ref h_wd) (.int x78) (.ref h_wh) (.int z119)))), (h_wd, .inl (cy_wd, 616, .inl f80))] H := hP9
              have hD : va_D A [(h_wb, .inl (cy_wb, 600, .inl f_wb)), (h_wh, .inl (cy_wh, 2048, .inl f77)), (h_bd, .inr (1, (mo9 v_bd (.ref h_td) (.ref h_bnd)))), (h_bnd, .inl (cy_bnd, 256, .inl f_bnd)), (h_td, .inr (5, (mo21 v_td (.ref h_nam) (.ref h_var) (.ref h_trm) (.ref h_ter)))), (h_nam, .inl (cy_nam, 300, .inr (.inl f_nam))), (h_var, .inl (cy_var, 300, .inl f_var)), (h_trm, .inl (cy_trm, 300, .inl f_trm)), (h_ter, .inl (cy_ter, 900, .inl f_ter)), (h_wr, .inr (6, (mo39 (.ref h_td) (.ref h_bd) (.ref h_wb) (.int x_wr_length) (.ref h_wd) (.int x78) (.ref h_wh) (.int z119)))), (h_wd, .inl (cy_wd, 616, .inl f80))] := hD9
              have hS := hS9
              clear hP9 hD9 hS9
              refine lv_aload_n hx hb dX9_write_62 rfl (lv_at hl 0 rfl) ?_
              refine va_get (D := (dC, dI)) (ci := 6) (v := .ref h_wh) (C := RX9) (T := TX9) (N := 8) hx hb hw iwX9 hown hK hP 9 rfl rfl 6 (by decide) (hw _ w_f_X9_18) (fun _ h9 => h9) rfl dX9_write_63 ?_
              refine lv_aload_n hx hb dX9_write_66 rfl (lv_at hl 0 rfl) ?_
              refine va_get (D := (dC, dI)) (ci := 6) (v := .int z119) (C := RX9) (T := TX9) (N := 8) hx hb hw iwX9 hown hK hP 9 rfl rfl 7 (by decide) (hw _ w_f_X9_37) (fun _ h9 => h9) rfl dX9_write_67 ?_
              refine va_iald hx hb hK hP 1 2 rfl rfl (i := z119) (vp_in_iff.mpr (by omega)) dX9_write_70 ?_
              refine lv_topi (fun z120 ez120 => ?_)
              have rz120 : -127 ≤ (z120).toInt ∧ (z120).toInt ≤ 9599 := by rw [ez120]; exact hf77 _
              refine lv_if_ge (tgt := 91) hx hb dX9_write_71 (by decide) (fun c121 => ?_) (fun c121 => ?_)
              · have kc121 := (cv_le (by decide : (0 : Int32).toInt = 0) (rfl : (z120).toInt = (z120).toInt)).mp c121
                refine lv_aload_n hx hb dX9_write_91 rfl (lv_at hl 0 rfl) ?_
                refine lv_aload_n hx hb dX9_write_92 rfl (lv_at hl 0 rfl) ?_
                refine va_get (D := (dC, dI)) (ci := 6) (v := .ref h_bd) (C := RX9) (T := TX9) (N := 8) hx hb hw iwX9 hown hK hP 9 rfl rfl 1 (by decide) (hw _ w_f_X9_25) (fun _ h9 => h9) rfl dX9_write_93 ?_
                refine lv_aload_n hx hb dX9_write_96 rfl (lv_at hl 0 rfl) ?_
                refine va_get (D := (dC, dI)) (ci := 6) (v := .ref h_wh) (C := RX9) (T := TX9) (N := 8) hx hb hw iwX9 hown hK hP 9 rfl rfl 6 (by decide) (hw _ w_f_X9_18) (fun _ h9 => h9) rfl dX9_write_97 ?_
                refine lv_aload_n hx hb dX9_write_100 rfl (lv_at hl 0 rfl) ?_
                refine va_get (D := (dC, dI)) (ci := 6) (v := .int z119) (C := RX9) (T := TX9) (N := 8) hx hb hw iwX9 hown hK hP 9 rfl rfl 7 (by decide) (hw _ w_f_X9_37) (fun _ h9 => h9) rfl dX9_write_101 ?_
                refine va_iald hx hb hK hP 1 2 rfl rfl (i := z119) (vp_in_iff.mpr (by omega)) dX9_write_104 ?_
                refine lv_topi (fun z122 ez122 => ?_)
                have qz122 : (z122).toInt = (z120).toInt := by rw [ez122, ez120]
                have rz122 : -127 ≤ (z122).toInt ∧ (z122).toInt ≤ 9599 := by rw [ez122]; exact hf77 _
                obtain ⟨vq123, evq123⟩ := mq21_8 v_td (.ref h_nam) (.ref h_trm) (.ref h_ter)
                replace hP : va_P (dC, dI) cls [(h_wb, .inl (cy_wb, 600, .inl f_wb)), (h_wh, .inl (cy_wh, 2048, .inl f77)), (h_bd, .inr (1, (mo9 v_bd (.ref h_td) (.ref h_bnd)))), (h_bnd, .inl (cy_bnd, 256, .inl f_bnd)), (h_td, .inr (5, (mo8 vq123 (.ref h_var)))), (h_nam, .inl (cy_nam, 300, .inr (.inl f_nam))), (h_var, .inl (cy_var, 300, .inl f_var)), (h_trm, .inl (cy_trm, 300, .inl f_trm)), (h_ter, .inl (cy_ter, 900, .inl f_ter)), (h_wr, .inr (6, (mo39 (.ref h_td) (.ref h_bd) (.ref h_wb) (.int x_wr_length) (.ref h_wd) (.int x78) (.ref h_wh) (.int z119)))), (h_wd, .inl (cy_wd, 616, .inl f80))] H := by rw [evq123]; exact hP
                replace hD : va_D A [(h_wb, .inl (cy_wb, 600, .inl f_wb)), (h_wh, .inl (cy_wh, 2048, .inl f77)), (h_bd, .inr (1, (mo9 v_bd (.ref h_td) (.ref h_bnd)))), (h_bnd, .inl (cy_bnd, 256, .inl f_bnd)), (h_td, .inr (5, (mo8 vq123 (.ref h_var)))), (h_nam, .inl (cy_nam, 300, .inr (.inl f_nam))), (h_var, .inl (cy_var, 300, .inl f_var)), (h_trm, .inl (cy_trm, 300, .inl f_trm)), (h_ter, .inl (cy_ter, 900, .inl f_ter)), (h_wr, .inr (6, (mo39 (.ref h_td) (.ref h_bd) (.ref h_wb) (.int x_wr_length) (.ref h_wd) (.int x78) (.ref h_wh) (.int z119)))), (h_wd, .inl (cy_wd, 616, .inl f80))] := by rw [evq123]; exact hD
                have hPc := hP.sub (ws' := [(h_bd, .inr (1, (mo9 v_bd (.ref h_td) (.ref h_bnd)))), (h_bnd, .inl (cy_bnd, 256, .inl f_bnd)), (h_td, .inr (5, (mo8 vq123 (.ref h_var)))), (h_var, .inl (cy_var, 300, .inl f_var))]) [2, 3, 4, 6] rfl
                have hDc := hD.sub (ws' := [(h_bd, .inr (1, (mo9 v_bd (.ref h_td) (.ref h_bnd)))), (h_bnd, .inl (cy_bnd, 256, .inl f_bnd)), (h_td, .inr (5, (mo8 vq123 (.ref h_var)))), (h_var, .inl (cy_var, 300, .inl f_var))]) [2, 3, 4, 6] (by decide) rfl
                have hKc := hK.sub (tys' := [(cy_bnd, .int), (cy_var, .int)]) [3, 5] rfl
                have hFc := va_free (wc := [(h_bd, .inr (1, (mo9 v_bd (.ref h_td) (.ref h_bnd)))), (h_bnd, .inl (cy_bnd, 256, .inl f_bnd)), (h_td, .inr (5, (mo8 vq123 (.ref h_var)))), (h_var, .inl (cy_var, 300, .inl f_var))]) hD hS hA [2, 3, 4, 6] rfl
                refine va_calli (va_runVN (As := [.int z122]) (rest := [.ref h_wr]) ⟨hx, hb, hml, hown, hts⟩ (c_X1_bare l dC dI H.size h_bd h_bnd h_td h_var v_bd cy_bnd f_bnd vq123 cy_var f_var z122 hf_bnd hf_var (by omega)) ⟨va_cnB (host := "OppositePairs") 1 hts (gd hT w_code_X1_bare) rfl rfl rfl (hN _ n_m_X9_41) (hw _ w_ini_X1) (by decide +kernel) ⟨(Nat.le_of_ble_eq_true rfl), (Nat.le_of_ble_eq_true rfl)⟩, hw _ w_instanceMethod_X1_bare, hw _ ws_sel_X1_bare⟩ ⟨pre_blind, va_recv hK hP (ci := 1) (q0 := 2) rfl rfl, pre_of hPc hKc hDc hN⟩ rfl rfl hl.1 rfl (lv_room (Nat.le_of_ble_eq_true rfl)) dX9_write_105 ⟨(Nat.le_of_ble_eq_true rfl), (Nat.le_of_ble_eq_true rfl)⟩) hS (fun q _ h => hFc q h) hFc (fun r124 u t H locs ht hvm hq hB hz1 hk1 hS9 => ?_)
                obtain ⟨hP1, hD1⟩ := hB
                rw [ht] at hP1
                obtain ⟨hP9, hD9⟩ := va_join (wr := [(h_wb, .inl (cy_wb, 600, .inl f_wb)), (h_wh, .inl (cy_wh, 2048, .inl f77)), (h_nam, .inl (cy_nam, 300, .inr (.inl f_nam))), (h_trm, .inl (cy_trm, 300, .inl f_trm)), (h_ter, .inl (cy_ter, 900, .inl f_ter)), (h_wr, .inr (6, (mo39 (.ref h_td) (.ref h_bd) (.ref h_wb) (.int x_wr_length) (.ref h_wd) (.int x78) (.ref h_wh) (.int z119)))), (h_wd, .inl (cy_wd, 616, .inl f80))]) (w1 := [(h_bd, .inr (1, (mo9 v_bd (.ref h_td) (.ref h_bnd)))), (h_bnd, .inl (cy_bnd, 256, .inl f_bnd)), (h_td, .inr (5, (mo8 vq123 (.ref h_var)))), (h_var, .inl (cy_var, 300, .inl f_var))]) hP hD [2, 3, 4, 6] [0, 1, 5, 7, 8, 9, 10] rfl rfl (by decide) (by decide) hk1 hFc hP1 hD1
                clear hP hD hS hPc hDc hKc hFc hP1 hD1 hk1 hz1 ht hvm
                have hP : va_P (dC, dI) cls [(h_wb, .inl (cy_wb, 600, .inl f_wb)), (h_wh, .inl (cy_wh, 2048, .inl f77)), (h_nam, .inl (cy_nam, 300, .inr (.inl f_nam))), (h_trm, .inl (cy_trm, 300, .inl f_trm)), (h_ter, .inl (cy_ter, 900, .inl f_ter)), (h_wr, .inr (6, (mo39 (.ref h_td) (.ref h_bd) (.ref h_wb) (.int x_wr_length) (.ref h_wd) (.int x78) (.ref h_wh) (.int z119)))), (h_wd, .inl (cy_wd, 616, .inl f80)), (h_bd, .inr (1, (mo9 v_bd (.ref h_td) (.ref h_bnd)))), (h_bnd, .inl (cy_bnd, 256, .inl f_bnd)), (h_td, .inr (5, (mo8 vq123 (.ref h_var)))), (h_var, .inl (cy_var, 300, .inl f_var))] H := hP9
                have hD : va_D A [(h_wb, .inl (cy_wb, 600, .inl f_wb)), (h_wh, .inl (cy_wh, 2048, .inl f77)), (h_nam, .inl (cy_nam, 300, .inr (.inl f_nam))), (h_trm, .inl (cy_trm, 300, .inl f_trm)), (h_ter, .inl (cy_ter, 900, .inl f_ter)), (h_wr, .inr (6, (mo39 (.ref h_td) (.ref h_bd) (.ref h_wb) (.int x_wr_length) (.ref h_wd) (.int x78) (.ref h_wh) (.int z119)))), (h_wd, .inl (cy_wd, 616, .inl f80)), (h_bd, .inr (1, (mo9 v_bd (.ref h_td) (.ref h_bnd)))), (h_bnd, .inl (cy_bnd, 256, .inl f_bnd)), (h_td, .inr (5, (mo8 vq123 (.ref h_var)))), (h_var, .inl (cy_var, 300, .inl f_var))] := hD9
                have hS := hS9
                clear hP9 hD9 hS9
                rw [evq123] at hP hD
                replace hP : va_P (dC, dI) cls [(h_wb, .inl (cy_wb, 600, .inl f_wb)), (h_wh, .inl (cy_wh, 2048, .inl f77)), (h_nam, .inl (cy_nam, 300, .inr (.inl f_nam))), (h_trm, .inl (cy_trm, 300, .inl f_trm)), (h_ter, .inl (cy_ter, 900, .inl f_ter)), (h_wr, .inr (6, (mo39 (.ref h_td) (.ref h_bd) (.ref h_wb) (.int x_wr_length) (.ref h_wd) (.int x78) (.ref h_wh) (.int z119)))), (h_wd, .inl (cy_wd, 616, .inl f80)), (h_bd, .inr (1, (mo9 v_bd (.ref h_td) (.ref h_bnd)))), (h_bnd, .inl (cy_bnd, 256, .inl f_bnd)), (h_td, .inr (5, (mo21 v_td (.ref h_nam) (.ref h_var) (.ref h_trm) (.ref h_ter)))), (h_var, .inl (cy_var, 300, .inl f_var))] H := hP
                replace hD : va_D A [(h_wb, .inl (cy_wb, 600, .inl f_wb)), (h_wh, .inl (cy_wh, 2048, .inl f77)), (h_nam, .inl (cy_nam, 300, .inr (.inl f_nam))), (h_trm, .inl (cy_trm, 300, .inl f_trm)), (h_ter, .inl (cy_ter, 900, .inl f_ter)), (h_wr, .inr (6, (mo39 (.ref h_td) (.ref h_bd) (.ref h_wb) (.int x_wr_length) (.ref h_wd) (.int x78) (.ref h_wh) (.int z119)))), (h_wd, .inl (cy_wd, 616, .inl f80)), (h_bd, .inr (1, (mo9 v_bd (.ref h_td) (.ref h_bnd)))), (h_bnd, .inl (cy_bnd, 256, .inl f_bnd)), (h_td, .inr (5, (mo21 v_td (.ref h_nam) (.ref h_var) (.ref h_trm) (.ref h_ter)))), (h_var, .inl (cy_var, 300, .inl f_var))] := hD
                clear evq123 
                have k125 : 0 ≤ (r124).toInt ∧ (r124).toInt ≤ 9599 := hq
                clear hq
                obtain ⟨vq126, evq126⟩ := mq39_38 (.ref h_bd) (.ref h_wb) (.int x_wr_length)
                replace hP : va_P (dC, dI) cls [(h_wb, .inl (cy_wb, 600, .inl f_wb)), (h_wh, .inl (cy_wh, 2048, .inl f77)), (h_nam, .inl (cy_nam, 300, .inr (.inl f_nam))), (h_trm, .inl (cy_trm, 300, .inl f_trm)), (h_ter, .inl (cy_ter, 900, .inl f_ter)), (h_wr, .inr (6, (mo38 vq126 (.ref h_td) (.ref h_wd) (.int x78) (.ref h_wh) (.int z119)))), (h_wd, .inl (cy_wd, 616, .inl f80)), (h_bd, .inr (1, (mo9 v_bd (.ref h_td) (.ref h_bnd)))), (h_bnd, .inl (cy_bnd, 256, .inl f_bnd)), (h_td, .inr (5, (mo21 v_td (.ref h_nam) (.ref h_var) (.ref h_trm) (.ref h_ter)))), (h_var, .inl (cy_var, 300, .inl f_var))] H := by rw [evq126]; exact hP
                replace hD : va_D A [(h_wb, .inl (cy_wb, 600, .inl f_wb)), (h_wh, .inl (cy_wh, 2048, .inl f77)), (h_nam, .inl (cy_nam, 300, .inr (.inl f_nam))), (h_trm, .inl (cy_trm, 300, .inl f_trm)), (h_ter, .inl (cy_ter, 900, .inl f_ter)), (h_wr, .inr (6, (mo38 vq126 (.ref h_td) (.ref h_wd) (.int x78) (.ref h_wh) (.int z119)))), (h_wd, .inl (cy_wd, 616, .inl f80)), (h_bd, .inr (1, (mo9 v_bd (.ref h_td) (.ref h_bnd)))), (h_bnd, .inl (cy_bnd, 256, .inl f_bnd)), (h_td, .inr (5, (mo21 v_td (.ref h_nam) (.ref h_var) (.ref h_trm) (.ref h_ter)))), (h_var, .inl (cy_var, 300, .inl f_var))] := by rw [evq126]; exact hD
                have hPc := hP.sub (ws' := [(h_wr, .inr (6, (mo38 vq126 (.ref h_td) (.ref h_wd) (.int x78) (.ref h_wh) (.int z119)))), (h_wd, .inl (cy_wd, 616, .inl f80)), (h_wh, .inl (cy_wh, 2048, .inl f77)), (h_td, .inr (5, (mo21 v_td (.ref h_nam) (.ref h_var) (.ref h_trm) (.ref h_ter)))), (h_nam, .inl (cy_nam, 300, .inr (.inl f_nam))), (h_var, .inl (cy_var, 300, .inl f_var)), (h_trm, .inl (cy_trm, 300, .inl f_trm)), (h_ter, .inl (cy_ter, 900, .inl f_ter))]) [5, 6, 1, 9, 2, 10, 3, 4] rfl
                have hDc := hD.sub (ws' := [(h_wr, .inr (6, (mo38 vq126 (.ref h_td) (.ref h_wd) (.int x78) (.ref h_wh) (.int z119)))), (h_wd, .inl (cy_wd, 616, .inl f80)), (h_wh, .inl (cy_wh, 2048, .inl f77)), (h_td, .inr (5, (mo21 v_td (.ref h_nam) (.ref h_var) (.ref h_trm) (.ref h_ter)))), (h_nam, .inl (cy_nam, 300, .inr (.inl f_nam))), (h_var, .inl (cy_var, 300, .inl f_var)), (h_trm, .inl (cy_trm, 300, .inl f_trm)), (h_ter, .inl (cy_ter, 900, .inl f_ter))]) [5, 6, 1, 9, 2, 10, 3, 4] (by decide) rfl
                have hKc := hK.sub (tys' := [(cy_wd, .int), (cy_wh, .int), (cy_nam, .long), (cy_var, .int), (cy_trm, .int), (cy_ter, .int)]) [1, 2, 4, 5, 6, 7] rfl
                have hFc := va_free (wc := [(h_wr, .inr (6, (mo38 vq126 (.ref h_td) (.ref h_wd) (.int x78) (.ref h_wh) (.int z119)))), (h_wd, .inl (cy_wd, 616, .inl f80)), (h_wh, .inl (cy_wh, 2048, .inl f77)), (h_td, .inr (5, (mo21 v_td (.ref h_nam) (.ref h_var) (.ref h_trm) (.ref h_ter)))), (h_nam, .inl (cy_nam, 300, .inr (.inl f_nam))), (h_var, .inl (cy_var, 300, .inl f_var)), (h_trm, .inl (cy_trm, 300, .inl f_trm)), (h_ter, .inl (cy_ter, 900, .inl f_ter))]) hD hS hA [5, 6, 1, 9, 2, 10, 3, 4] rfl
                refine va_callv (va_runV (As := [.int r124]) (rest := []) ⟨hx, hb, hml, hown, hts⟩ (c_X9_putPart l dC dI H.size h_wr h_wd h_wh h_td h_nam h_var h_trm h_ter vq126 x78 z119 cy_wd f80 cy_wh f77 v_td cy_nam f_nam cy_var f_var cy_trm f_trm cy_ter f_ter r124 (by first | exact klp81_2 | omega) (by omega) hf77 hf_var hf_trm hf_ter (by first | exact k125 | omega)) (cwV 1 hts (gv hT w_m_X9_47 w_instanceMethod_X9_putPart ws_sel_X9_putPart w_ini_X9 w_code_X9_putPart) rfl rfl rfl (by decide +kernel) ⟨(Nat.le_of_ble_eq_true rfl), (Nat.le_of_ble_eq_true rfl)⟩) ⟨pre_blind, va_recv hK hP (ci := 6) (q0 := 5) rfl rfl, pre_of hPc hKc hDc hN⟩ rfl rfl hl.1 rfl (lv_room (Nat.le_of_ble_eq_true rfl)) dX9_write_108 ⟨(Nat.le_of_ble_eq_true rfl), (Nat.le_of_ble_eq_true rfl)⟩) hS (fun q _ h => hFc q h) hFc (fun u t H locs ht hvm hq hB hz1 hk1 hS9 => ?_)
                obtain ⟨z128, z129, f130, f131⟩ := u
                obtain ⟨hP1, hD1⟩ := hB
                rw [ht] at hP1
                obtain ⟨hP9, hD9⟩ := va_join (wr := [(h_wb, .inl (cy_wb, 600, .inl f_wb)), (h_bd, .inr (1, (mo9 v_bd (.ref h_td) (.ref h_bnd)))), (h_bnd, .inl (cy_bnd, 256, .inl f_bnd))]) (w1 := [(h_wr, .inr (6, (mo38 vq126 (.ref h_td) (.ref h_wd) (.int z128) (.ref h_wh) (.int z129)))), (h_wd, .inl (cy_wd, 616, .inl f130)), (h_wh, .inl (cy_wh, 2048, .inl f131)), (h_td, .inr (5, (mo21 v_td (.ref h_nam) (.ref h_var) (.ref h_trm) (.ref h_ter)))), (h_nam, .inl (cy_nam, 300, .inr (.inl f_nam))), (h_var, .inl (cy_var, 300, .inl f_var)), (h_trm, .inl (cy_trm, 300, .inl f_trm)), (h_ter, .inl (cy_ter, 900, .inl f_ter))]) hP hD [5, 6, 1, 9, 2, 10, 3, 4] [0, 7, 8] rfl rfl (by decide) (by decide) hk1 hFc hP1 hD1
                clear hP hD hS hPc hDc hKc hFc hP1 hD1 hk1 hz1 ht hvm
                have hP : va_P (dC, dI) cls [(h_wb, .inl (cy_wb, 600, .inl f_wb)), (h_bd, .inr (1, (mo9 v_bd (.ref h_td) (.ref h_bnd)))), (h_bnd, .inl (cy_bnd, 256, .inl f_bnd)), (h_wr, .inr (6, (mo38 vq126 (.ref h_td) (.ref h_wd) (.int z128) (.ref h_wh) (.int z129)))), (h_wd, .inl (cy_wd, 616, .inl f130)), (h_wh, .inl (cy_wh, 2048, .inl f131)), (h_td, .inr (5, (mo21 v_td (.ref h_nam) (.ref h_var) (.ref h_trm) (.ref h_ter)))), (h_nam, .inl (cy_nam, 300, .inr (.inl f_nam))), (h_var, .inl (cy_var, 300, .inl f_var)), (h_trm, .inl (cy_trm, 300, .inl f_trm)), (h_ter, .inl (cy_ter, 900, .inl f_ter))] H := hP9
                have hD : va_D A [(h_wb, .inl (cy_wb, 600, .inl f_wb)), (h_bd, .inr (1, (mo9 v_bd (.ref h_td) (.ref h_bnd)))), (h_bnd, .inl (cy_bnd, 256, .inl f_bnd)), (h_wr, .inr (6, (mo38 vq126 (.ref h_td) (.ref h_wd) (.int z128) (.ref h_wh) (.int z129)))), (h_wd, .inl (cy_wd, 616, .inl f130)), (h_wh, .inl (cy_wh, 2048, .inl f131)), (h_td, .inr (5, (mo21 v_td (.ref h_nam) (.ref h_var) (.ref h_trm) (.ref h_ter)))), (h_nam, .inl (cy_nam, 300, .inr (.inl f_nam))), (h_var, .inl (cy_var, 300, .inl f_var)), (h_trm, .inl (cy_trm, 300, .inl f_trm)), (h_ter, .inl (cy_ter, 900, .inl f_ter))] := hD9
                have hS := hS9
                clear hP9 hD9 hS9
                rw [evq126] at hP hD
                replace hP : va_P (dC, dI) cls [(h_wb, .inl (cy_wb, 600, .inl f_wb)), (h_bd, .inr (1, (mo9 v_bd (.ref h_td) (.ref h_bnd)))), (h_bnd, .inl (cy_bnd, 256, .inl f_bnd)), (h_wr, .inr (6, (mo39 (.ref h_td) (.ref h_bd) (.ref h_wb) (.int x_wr_length) (.ref h_wd) (.int z128) (.ref h_wh) (.int z129)))), (h_wd, .inl (cy_wd, 616, .inl f130)), (h_wh, .inl (cy_wh, 2048, .inl f131)), (h_td, .inr (5, (mo21 v_td (.ref h_nam) (.ref h_var) (.ref h_trm) (.ref h_ter)))), (h_nam, .inl (cy_nam, 300, .inr (.inl f_nam))), (h_var, .inl (cy_var, 300, .inl f_var)), (h_trm, .inl (cy_trm, 300, .inl f_trm)), (h_ter, .inl (cy_ter, 900, .inl f_ter))] H := hP
                replace hD : va_D A [(h_wb, .inl (cy_wb, 600, .inl f_wb)), (h_bd, .inr (1, (mo9 v_bd (.ref h_td) (.ref h_bnd)))), (h_bnd, .inl (cy_bnd, 256, .inl f_bnd)), (h_wr, .inr (6, (mo39 (.ref h_td) (.ref h_bd) (.ref h_wb) (.int x_wr_length) (.ref h_wd) (.int z128) (.ref h_wh) (.int z129)))), (h_wd, .inl (cy_wd, 616, .inl f130)), (h_wh, .inl (cy_wh, 2048, .inl f131)), (h_td, .inr (5, (mo21 v_td (.ref h_nam) (.ref h_var) (.ref h_trm) (.ref h_ter)))), (h_nam, .inl (cy_nam, 300, .inr (.inl f_nam))), (h_var, .inl (cy_var, 300, .inl f_var)), (h_trm, .inl (cy_trm, 300, .inl f_trm)), (h_ter, .inl (cy_ter, 900, .inl f_ter))] := hD
                clear evq126 
                obtain ⟨k132, k133, hf131⟩ := hq
                replace k132 : 0 ≤ ((z128)).toInt ∧ ((z128)).toInt ≤ 616 := k132
                replace k133 : 0 ≤ ((z129)).toInt ∧ ((z129)).toInt ≤ 2048 := k133
                replace hf131 : Rg (-127) 9599 (f131) := hf131
                obtain ⟨z134, ez134⟩ : ∃ y : Int32, y = x76 + 1 := ⟨_, rfl⟩
                have tz134 : (z134).toInt = (x76).toInt + 1 := by rw [ez134]; exact i_add rfl (by decide) (by omega)
                refine lv_iinc (v := z134) (lv' := [(4, .int z134), (0, .ref h_wr), (1, .int p1), (2, .int p2), (3, .int p3)]) hx hb dX9_write_111 hl (k := 4) rfl (by rw [ez134]; rfl) (by decide) rfl (fun ls hl => ?_)
                refine lv_goto (tgt := 30) hx hb dX9_write_114 (by decide) ?_
                replace hP : va_P (dC, dI) cls [(h_wb, .inl (cy_wb, 600, .inl f_wb)), (h_wh, .inl (cy_wh, 2048, .inl f131)), (h_bd, .inr (1, (mo9 v_bd (.ref h_td) (.ref h_bnd)))), (h_bnd, .inl (cy_bnd, 256, .inl f_bnd)), (h_td, .inr (5, (mo21 v_td (.ref h_nam) (.ref h_var) (.ref h_trm) (.ref h_ter)))), (h_nam, .inl (cy_nam, 300, .inr (.inl f_nam))), (h_var, .inl (cy_var, 300, .inl f_var)), (h_trm, .inl (cy_trm, 300, .inl f_trm)), (h_ter, .inl (cy_ter, 900, .inl f_ter)), (h_wr, .inr (6, (mo39 (.ref h_td) (.ref h_bd) (.ref h_wb) (.int x_wr_length) (.ref h_wd) (.int z128) (.ref h_wh) (.int z129)))), (h_wd, .inl (cy_wd, 616, .inl f130))] H := hP.sub [0, 5, 1, 2, 6, 7, 8, 9, 10, 3, 4] rfl
                replace hD : va_D A [(h_wb, .inl (cy_wb, 600, .inl f_wb)), (h_wh, .inl (cy_wh, 2048, .inl f131)), (h_bd, .inr (1, (mo9 v_bd (.ref h_td) (.ref h_bnd)))), (h_bnd, .inl (cy_bnd, 256, .inl f_bnd)), (h_td, .inr (5, (mo21 v_td (.ref h_nam) (.ref h_var) (.ref h_trm) (.ref h_ter)))), (h_nam, .inl (cy_nam, 300, .inr (.inl f_nam))), (h_var, .inl (cy_var, 300, .inl f_var)), (h_trm, .inl (cy_trm, 300, .inl f_trm)), (h_ter, .inl (cy_ter, 900, .inl f_ter)), (h_wr, .inr (6, (mo39 (.ref h_td) (.ref h_bd) (.ref h_wb) (.int x_wr_length) (.ref h_wd) (.int z128) (.ref h_wh) (.int z129)))), (h_wd, .inl (cy_wd, 616, .inl f130))] := hD.sub [0, 5, 1, 2, 6, 7, 8, 9, 10, 3, 4] (by decide) rfl
                exact ih82 (z134) (f131) (z128) (z129) (f130) _ _ _ (by omega) hf131 (by first | exact k132 | omega) (by first | exact k133 | omega) (by omega) hP hD hS (lv_sub hl [1, 2, 3, 4, 0] rfl)
              · have kc121 := (not_congr (cv_le (by decide : (0 : Int32).toInt = 0) (rfl : (z120).toInt = (z120).toInt))).mp c121
                refine lv_aload_n hx hb dX9_write_74 rfl (lv_at hl 0 rfl) ?_
                refine lv_aload_n hx hb dX9_write_75 rfl (lv_at hl 0 rfl) ?_
                refine va_get (D := (dC, dI)) (ci := 6) (v := .ref h_wh) (C := RX9) (T := TX9) (N := 8) hx hb hw iwX9 hown hK hP 9 rfl rfl 6 (by decide) (hw _ w_f_X9_18) (fun _ h9 => h9) rfl dX9_write_76 ?_
                refine lv_aload_n hx hb dX9_write_79 rfl (lv_at hl 0 rfl) ?_
                refine va_get (D := (dC, dI)) (ci := 6) (v := .int z119) (C := RX9) (T := TX9) (N := 8) hx hb hw iwX9 hown hK hP 9 rfl rfl 7 (by decide) (hw _ w_f_X9_37) (fun _ h9 => h9) rfl dX9_write_80 ?_
                refine va_iald hx hb hK hP 1 2 rfl rfl (i := z119) (vp_in_iff.mpr (by omega)) dX9_write_83 ?_
                refine lv_topi (fun z135 ez135 => ?_)
                have qz135 : (z135).toInt = (z120).toInt := by rw [ez135, ez120]
                have rz135 : -127 ≤ (z135).toInt ∧ (z135).toInt ≤ 9599 := by rw [ez135]; exact hf77 _
                refine lv_ineg hx hb dX9_write_84 ?_
                refine lv_topi (fun z136 ez136 => ?_)
                have tz136 : (z136).toInt = -((z135).toInt) := by rw [ez136]; exact i_neg rfl (by omega)
                obtain ⟨vq137, evq137⟩ := mq39_36 (.ref h_td) (.ref h_bd) (.ref h_wb) (.int x_wr_length) (.ref h_wh) (.int z119)
                replace hP : va_P (dC, dI) cls [(h_wb, .inl (cy_wb, 600, .inl f_wb)), (h_wh, .inl (cy_wh, 2048, .inl f77)), (h_bd, .inr (1, (mo9 v_bd (.ref h_td) (.ref h_bnd)))), (h_bnd, .inl (cy_bnd, 256, .inl f_bnd)), (h_td, .inr (5, (mo21 v_td (.ref h_nam) (.ref h_var) (.ref h_trm) (.ref h_ter)))), (h_nam, .inl (cy_nam, 300, .inr (.inl f_nam))), (h_var, .inl (cy_var, 300, .inl f_var)), (h_trm, .inl (cy_trm, 300, .inl f_trm)), (h_ter, .inl (cy_ter, 900, .inl f_ter)), (h_wr, .inr (6, (mo36 vq137 (.ref h_wd) (.int x78)))), (h_wd, .inl (cy_wd, 616, .inl f80))] H := by rw [evq137]; exact hP
                replace hD : va_D A [(h_wb, .inl (cy_wb, 600, .inl f_wb)), (h_wh, .inl (cy_wh, 2048, .inl f77)), (h_bd, .inr (1, (mo9 v_bd (.ref h_td) (.ref h_bnd)))), (h_bnd, .inl (cy_bnd, 256, .inl f_bnd)), (h_td, .inr (5, (mo21 v_td (.ref h_nam) (.ref h_var) (.ref h_trm) (.ref h_ter)))), (h_nam, .inl (cy_nam, 300, .inr (.inl f_nam))), (h_var, .inl (cy_var, 300, .inl f_var)), (h_trm, .inl (cy_trm, 300, .inl f_trm)), (h_ter, .inl (cy_ter, 900, .inl f_ter)), (h_wr, .inr (6, (mo36 vq137 (.ref h_wd) (.int x78)))), (h_wd, .inl (cy_wd, 616, .inl f80))] := by rw [evq137]; exact hD
                have hPc := hP.sub (ws' := [(h_wr, .inr (6, (mo36 vq137 (.ref h_wd) (.int x78)))), (h_wd, .inl (cy_wd, 616, .inl f80))]) [9, 10] rfl
                have hDc := hD.sub (ws' := [(h_wr, .inr (6, (mo36 vq137 (.ref h_wd) (.int x78)))), (h_wd, .inl (cy_wd, 616, .inl f80))]) [9, 10] (by decide) rfl
                have hKc := hK.sub (tys' := [(cy_wd, .int)]) [1] rfl
                have hFc := va_free (wc := [(h_wr, .inr (6, (mo36 vq137 (.ref h_wd) (.int x78)))), (h_wd, .inl (cy_wd, 616, .inl f80))]) hD hS hA [9, 10] rfl
                refine va_callv (va_runV (As := [.int z136]) (rest := []) ⟨hx, hb, hml, hown, hts⟩ (c_X9_put l dC dI H.size h_wr h_wd vq137 x78 cy_wd f80 z136 (by first | exact klp81_2 | omega)) (cwV 1 hts (gv hT w_m_X9_33 w_instanceMethod_X9_put ws_sel_X9_put w_ini_X9 w_code_X9_put) rfl rfl rfl (by decide +kernel) ⟨(Nat.le_of_ble_eq_true rfl), (Nat.le_of_ble_eq_true rfl)⟩) ⟨pre_blind, va_recv hK hP (ci := 6) (q0 := 9) rfl rfl, pre_of hPc hKc hDc hN⟩ rfl rfl hl.1 rfl (lv_room (Nat.le_of_ble_eq_true rfl)) dX9_write_85 ⟨(Nat.le_of_ble_eq_true rfl), (Nat.le_of_ble_eq_true rfl)⟩) hS (fun q _ h => hFc q h) hFc (fun u t H locs ht hvm hq hB hz1 hk1 hS9 => ?_)
                obtain ⟨z139, f140⟩ := u
                obtain ⟨hP1, hD1⟩ := hB
                rw [ht] at hP1
                obtain ⟨hP9, hD9⟩ := va_join (wr := [(h_wb, .inl (cy_wb, 600, .inl f_wb)), (h_wh, .inl (cy_wh, 2048, .inl f77)), (h_bd, .inr (1, (mo9 v_bd (.ref h_td) (.ref h_bnd)))), (h_bnd, .inl (cy_bnd, 256, .inl f_bnd)), (h_td, .inr (5, (mo21 v_td (.ref h_nam) (.ref h_var) (.ref h_trm) (.ref h_ter)))), (h_nam, .inl (cy_nam, 300, .inr (.inl f_nam))), (h_var, .inl (cy_var, 300, .inl f_var)), (h_trm, .inl (cy_trm, 300, .inl f_trm)), (h_ter, .inl (cy_ter, 900, .inl f_ter))]) (w1 := [(h_wr, .inr (6, (mo36 vq137 (.ref h_wd) (.int z139)))), (h_wd, .inl (cy_wd, 616, .inl f140))]) hP hD [9, 10] [0, 1, 2, 3, 4, 5, 6, 7, 8] rfl rfl (by decide) (by decide) hk1 hFc hP1 hD1
                clear hP hD hS hPc hDc hKc hFc hP1 hD1 hk1 hz1 ht hvm
                have hP : va_P (dC, dI) cls [(h_wb, .inl (cy_wb, 600, .inl f_wb)), (h_wh, .inl (cy_wh, 2048, .inl f77)), (h_bd, .inr (1, (mo9 v_bd (.ref h_td) (.ref h_bnd)))), (h_bnd, .inl (cy_bnd, 256, .inl f_bnd)), (h_td, .inr (5, (mo21 v_td (.ref h_nam) (.ref h_var) (.ref h_trm) (.ref h_ter)))), (h_nam, .inl (cy_nam, 300, .inr (.inl f_nam))), (h_var, .inl (cy_var, 300, .inl f_var)), (h_trm, .inl (cy_trm, 300, .inl f_trm)), (h_ter, .inl (cy_ter, 900, .inl f_ter)), (h_wr, .inr (6, (mo36 vq137 (.ref h_wd) (.int z139)))), (h_wd, .inl (cy_wd, 616, .inl f140))] H := hP9
                have hD : va_D A [(h_wb, .inl (cy_wb, 600, .inl f_wb)), (h_wh, .inl (cy_wh, 2048, .inl f77)), (h_bd, .inr (1, (mo9 v_bd (.ref h_td) (.ref h_bnd)))), (h_bnd, .inl (cy_bnd, 256, .inl f_bnd)), (h_td, .inr (5, (mo21 v_td (.ref h_nam) (.ref h_var) (.ref h_trm) (.ref h_ter)))), (h_nam, .inl (cy_nam, 300, .inr (.inl f_nam))), (h_var, .inl (cy_var, 300, .inl f_var)), (h_trm, .inl (cy_trm, 300, .inl f_trm)), (h_ter, .inl (cy_ter, 900, .inl f_ter)), (h_wr, .inr (6, (mo36 vq137 (.ref h_wd) (.int z139)))), (h_wd, .inl (cy_wd, 616, .inl f140))] := hD9
                have hS := hS9
                clear hP9 hD9 hS9
                rw [evq137] at hP hD
                replace hP : va_P (dC, dI) cls [(h_wb, .inl (cy_wb, 600, .inl f_wb)), (h_wh, .inl (cy_wh, 2048, .inl f77)), (h_bd, .inr (1, (mo9 v_bd (.ref h_td) (.ref h_bnd)))), (h_bnd, .inl (cy_bnd, 256, .inl f_bnd)), (h_td, .inr (5, (mo21 v_td (.ref h_nam) (.ref h_var) (.ref h_trm) (.ref h_ter)))), (h_nam, .inl (cy_nam, 300, .inr (.inl f_nam))), (h_var, .inl (cy_var, 300, .inl f_var)), (h_trm, .inl (cy_trm, 300, .inl f_trm)), (h_ter, .inl (cy_ter, 900, .inl f_ter)), (h_wr, .inr (6, (mo39 (.ref h_td) (.ref h_bd) (.ref h_wb) (.int x_wr_length) (.ref h_wd) (.int z139) (.ref h_wh) (.int z119)))), (h_wd, .inl (cy_wd, 616, .inl f140))] H := hP
                replace hD : va_D A [(h_wb, .inl (cy_wb, 600, .inl f_wb)), (h_wh, .inl (cy_wh, 2048, .inl f77)), (h_bd, .inr (1, (mo9 v_bd (.ref h_td) (.ref h_bnd)))), (h_bnd, .inl (cy_bnd, 256, .inl f_bnd)), (h_td, .inr (5, (mo21 v_td (.ref h_nam) (.ref h_var) (.ref h_trm) (.ref h_ter)))), (h_nam, .inl (cy_nam, 300, .inr (.inl f_nam))), (h_var, .inl (cy_var, 300, .inl f_var)), (h_trm, .inl (cy_trm, 300, .inl f_trm)), (h_ter, .inl (cy_ter, 900, .inl f_ter)), (h_wr, .inr (6, (mo39 (.ref h_td) (.ref h_bd) (.ref h_wb) (.int x_wr_length) (.ref h_wd) (.int z139) (.ref h_wh) (.int z119)))), (h_wd, .inl (cy_wd, 616, .inl f140))] := hD
                clear evq137 
                have k141 : 0 ≤ ((z139)).toInt ∧ ((z139)).toInt ≤ 616 := hq
                clear hq
                refine lv_goto (tgt := 111) hx hb dX9_write_88 (by decide) ?_
                obtain ⟨z142, ez142⟩ : ∃ y : Int32, y = x76 + 1 := ⟨_, rfl⟩
                have tz142 : (z142).toInt = (x76).toInt + 1 := by rw [ez142]; exact i_add rfl (by decide) (by omega)
                refine lv_iinc (v := z142) (lv' := [(4, .int z142), (0, .ref h_wr), (1, .int p1), (2, .int p2), (3, .int p3)]) hx hb dX9_write_111 hl (k := 4) rfl (by rw [ez142]; rfl) (by decide) rfl (fun ls hl => ?_)
                refine lv_goto (tgt := 30) hx hb dX9_write_114 (by decide) ?_
                exact ih82 (z142) (f77) (z139) (z119) (f140) _ _ _ (by omega) hf77 (by first | exact k141 | omega) (by omega) (by omega) hP hD hS (lv_sub hl [1, 2, 3, 4, 0] rfl)
    have cst0 : (0 : Int32).toInt = 0 := by decide
    have cst1 : (1 : Int32).toInt = 1 := by decide
    exact lp81 _ (0) (f75) (z72) (1) (f73) _ _ _ (by decide) hf75 (by first | exact k74 | omega) (by decide) (Nat.le_refl _) hP hD hS (lv_sub hl [1, 2, 3, 4, 0] rfl)

set_option maxHeartbeats 8000000 in
set_option maxRecDepth 100000 in
theorem c_X0_remove (l : Launch) (dC : Nat → ClassId) (dI : Nat → Nat → Nat) (sz : Nat) (h_an : Nat) (h_as : Nat) (h_ad : Nat) (h_ao : Nat) (h_af : Nat) (v_an : Nat → Value) (x_an_count : Int32) (cy_as : ClassId) (f_as : Nat → Int32) (cy_ad : ClassId) (f_ad : Nat → Int32) (cy_ao : ClassId) (f_ao : Nat → Int32) (cy_af : ClassId) (f_af : Nat → Int32) (p1 : Int32) (hx_an_count : 0 ≤ (x_an_count).toInt ∧ (x_an_count).toInt ≤ 8) (q0 : 0 ≤ (p1).toInt) (q1 : (p1).toInt < (x_an_count).toInt) : Met l yX0_remove (Ws yX0_remove cX0_remove 3 none) (({ frames := 0, cells := 0, slots := 0, locals := 0 } : Room)) (PRE (dC, dI) cls [(cy_as, .int), (cy_ad, .int), (cy_ao, .int), (cy_af, .int)] [(h_an, .inr (0, (mo40 v_an (.ref h_as) (.ref h_ad) (.ref h_ao) (.ref h_af) (.int x_an_count)))), (h_as, .inl (cy_as, 8, .inl f_as)), (h_ad, .inl (cy_ad, 8, .inl f_ad)), (h_ao, .inl (cy_ao, 8, .inl f_ao)), (h_af, .inl (cy_af, 8, .inl f_af))] sz [.ref h_an, .int p1]) (va_Qv (fun (u : (Int32) × (Nat → Int32) × (Nat → Int32) × (Nat → Int32) × (Nat → Int32)) => (0 ≤ (u.1).toInt ∧ (u.1).toInt ≤ 8) ∧ ((u.1).toInt = (x_an_count).toInt - 1)) (fun (u : (Int32) × (Nat → Int32) × (Nat → Int32) × (Nat → Int32) × (Nat → Int32)) (t : State) => va_P (dC, dI) cls [(h_an, .inr (0, (mo40 v_an (.ref h_as) (.ref h_ad) (.ref h_ao) (.ref h_af) (.int u.1)))), (h_as, .inl (cy_as, 8, .inl u.2.1)), (h_ad, .inl (cy_ad, 8, .inl u.2.2.1)), (h_ao, .inl (cy_ao, 8, .inl u.2.2.2.1)), (h_af, .inl (cy_af, 8, .inl u.2.2.2.2))] t.heap ∧ va_D (va_A [(h_an, .inr (0, (mo40 v_an (.ref h_as) (.ref h_ad) (.ref h_ao) (.ref h_af) (.int x_an_count)))), (h_as, .inl (cy_as, 8, .inl f_as)), (h_ad, .inl (cy_ad, 8, .inl f_ad)), (h_ao, .inl (cy_ao, 8, .inl f_ao)), (h_af, .inl (cy_af, 8, .inl f_af))] sz) [(h_an, .inr (0, (mo40 v_an (.ref h_as) (.ref h_ad) (.ref h_ao) (.ref h_af) (.int u.1)))), (h_as, .inl (cy_as, 8, .inl u.2.1)), (h_ad, .inl (cy_ad, 8, .inl u.2.2.1)), (h_ao, .inl (cy_ao, 8, .inl u.2.2.2.1)), (h_af, .inl (cy_af, 8, .inl u.2.2.2.2))]) (va_A [(h_an, .inr (0, (mo40 v_an (.ref h_as) (.ref h_ad) (.ref h_ao) (.ref h_af) (.int x_an_count)))), (h_as, .inl (cy_as, 8, .inl f_as)), (h_ad, .inl (cy_ad, 8, .inl f_ad)), (h_ao, .inl (cy_ao, 8, .inl f_ao)), (h_af, .inl (cy_af, 8, .inl f_af))] sz)) 0 0 (va_A [(h_an, .inr (0, (mo40 v_an (.ref h_as) (.ref h_ad) (.ref h_ao) (.ref h_af) (.int x_an_count)))), (h_as, .inl (cy_as, 8, .inl f_as)), (h_ad, .inl (cy_ad, 8, .inl f_ad)), (h_ao, .inl (cy_ao, 8, .inl f_ao)), (h_af, .inl (cy_af, 8, .inl f_af))] sz) := by
  refine Met.ofW (cc := cX0_remove) (maxL := 3) (ret := none) (by decide) rfl ?_
  intro p e s m args below meth c s₁ B hml hv
  obtain ⟨rfl, hsz, hP, hK, hD0, hN⟩ := hv
  have hx := B.exec
  have hb := B.bytes
  have hr := B.returns
  have hts := atoms_spec (ws := Ws yX0_remove cX0_remove 3 none) B.pre
  have hT : ∀ w ∈ WALL, w ∈ Ws yX0_remove cX0_remove 3 none := fun w h => List.mem_cons_of_mem _ h
  have hw := fun w (h : w ∈ WALL) => hts w (hT w h)
  have hown : s.vm.findClass RX0 = some m.cls := findClass_of_methodNamed B.named
  have hlocks := B.notSynchronized
  subst hsz
  have hD := hD0.self (sz := s.heap.size)
  generalize hAe : va_A [(h_an, .inr (0, (mo40 v_an (.ref h_as) (.ref h_ad) (.ref h_ao) (.ref h_af) (.int x_an_count)))), (h_as, .inl (cy_as, 8, .inl f_as)), (h_ad, .inl (cy_ad, 8, .inl f_ad)), (h_ao, .inl (cy_ao, 8, .inl f_ao)), (h_af, .inl (cy_af, 8, .inl f_af))] s.heap.size = A at hD ⊢
  have hA : ∀ q : Nat, s.heap.size ≤ q → A q := fun q h => by rw [← hAe]; exact Or.inr h
  have hS : va_S A s.heap s.heap [] := va_S.rf
  have hl := lv_entry ([.ref h_an, .int p1]) (n := 3) (Nat.le_of_ble_eq_true rfl)
  rw [lg_entry_eq]
  generalize (lg_sl ([.ref h_an, .int p1]) ++ List.replicate (3 - (lg_sl ([.ref h_an, .int p1])).length) Slot.unset).toArray = ls at hl ⊢
  have hl : lv_has ls 3 [(0, .ref h_an), (1, .int p1)] := hl
  refine lv_iload_n hx hb dX0_remove_0 rfl (lv_at hl 1 rfl) ?_
  refine lv_istore_n (lv' := [(2, .int p1), (0, .ref h_an), (1, .int p1)]) hx hb dX0_remove_1 rfl hl (by decide) rfl (fun ls hl => ?_)
  have lp6 : ∀ (n : Nat) (x1 : Int32) (f2 : Nat → Int32) (f3 : Nat → Int32) (f4 : Nat → Int32) (f5 : Nat → Int32) (H : Heap) (locs : List Loc) (ls : Array Slot), (0 ≤ (x1).toInt ∧ (x1).toInt ≤ 7) → ((x1).toInt < (x_an_count).toInt) → (8 - (x1).toInt).toNat + 1 ≤ n → va_P (dC, dI) cls [(h_an, .inr (0, (mo40 v_an (.ref h_as) (.ref h_ad) (.ref h_ao) (.ref h_af) (.int x_an_count)))), (h_as, .inl (cy_as, 8, .inl f2)), (h_ad, .inl (cy_ad, 8, .inl f3)), (h_ao, .inl (cy_ao, 8, .inl f4)), (h_af, .inl (cy_af, 8, .inl f5))] H → va_D A [(h_an, .inr (0, (mo40 v_an (.ref h_as) (.ref h_ad) (.ref h_ao) (.ref h_af) (.int x_an_count)))), (h_as, .inl (cy_as, 8, .inl f2)), (h_ad, .inl (cy_ad, 8, .inl f3)), (h_ao, .inl (cy_ao, 8, .inl f4)), (h_af, .inl (cy_af, 8, .inl f5))] → va_S A s.heap H locs → lv_has ls 3 [(0, .ref h_an), (1, .int p1), (2, .int x1)] → W p l e ({ frames := 0, cells := 0, slots := 0, locals := 0 } : Room) s m ([.ref h_an, .int p1] : List Value).toArray below meth c H locs 0 0 (MQ below (va_Qv (fun (u : (Int32) × (Nat → Int32) × (Nat → Int32) × (Nat → Int32) × (Nat → Int32)) => (0 ≤ (u.1).toInt ∧ (u.1).toInt ≤ 8) ∧ ((u.1).toInt = (x_an_count).toInt - 1)) (fun (u : (Int32) × (Nat → Int32) × (Nat → Int32) × (Nat → Int32) × (Nat → Int32)) (t : State) => va_P (dC, dI) cls [(h_an, .inr (0, (mo40 v_an (.ref h_as) (.ref h_ad) (.ref h_ao) (.ref h_af) (.int u.1)))), (h_as, .inl (cy_as, 8, .inl u.2.1)), (h_ad, .inl (cy_ad, 8, .inl u.2.2.1)), (h_ao, .inl (cy_ao, 8, .inl u.2.2.2.1)), (h_af, .inl (cy_af, 8, .inl u.2.2.2.2))] t.heap ∧ va_D A [(h_an, .inr (0, (mo40 v_an (.ref h_as) (.ref h_ad) (.ref h_ao) (.ref h_af) (.int u.1)))), (h_as, .inl (cy_as, 8, .inl u.2.1)), (h_ad, .inl (cy_ad, 8, .inl u.2.2.1)), (h_ao, .inl (cy_ao, 8, .inl u.2.2.2.1)), (h_af, .inl (cy_af, 8, .inl u.2.2.2.2))]) A) ([.ref h_an, .int p1] : List Value).toArray s 0 0 A) (F0 m 2 ls []) := by
    clear hP hD hS hl
    intro n
    induction n with
    | zero => intro x1 f2 f3 f4 f5 H locs ls klp6_0 klp6_1 hm hP hD hS hl; exact False.elim (by omega)
    | succ n ih => 
      intro x1 f2 f3 f4 f5 H locs ls klp6_0 klp6_1 hm hP hD hS hl
      have ih7 := ih
      clear ih
      refine lv_iload_n hx hb dX0_remove_2 rfl (lv_at hl 2 rfl) ?_
      refine lv_iconst (v := 1) hx hb dX0_remove_3 (by decide) ?_
      refine lv_iadd hx hb dX0_remove_4 ?_
      refine lv_topi (fun z8 ez8 => ?_)
      have tz8 : (z8).toInt = (x1).toInt + 1 := by rw [ez8]; exact i_add rfl (by decide) (by omega)
      refine lv_aload_n hx hb dX0_remove_5 rfl (lv_at hl 0 rfl) ?_
      refine va_get (D := (dC, dI)) (ci := 0) (v := .int x_an_count) (C := RX0) (T := TX0) (N := 6) hx hb hw iwX0 hown hK hP 0 rfl rfl 4 (by decide) (hw _ w_f_X0_24) (fun _ h9 => h9) rfl dX0_remove_6 ?_
      refine lv_icmp_ge (tgt := 74) hx hb dX0_remove_9 (by decide) (fun c9 => ?_) (fun c9 => ?_)
      · have kc9 := (cv_le (rfl : (x_an_count).toInt = (x_an_count).toInt) (rfl : (z8).toInt = (z8).toInt)).mp c9
        refine lv_aload_n hx hb dX0_remove_74 rfl (lv_at hl 0 rfl) ?_
        refine lv_dup hx hb dX0_remove_75 rfl ?_
        refine va_get (D := (dC, dI)) (ci := 0) (v := .int x_an_count) (C := RX0) (T := TX0) (N := 6) hx hb hw iwX0 hown hK hP 0 rfl rfl 4 (by decide) (hw _ w_f_X0_24) (fun _ h9 => h9) rfl dX0_remove_76 ?_
        refine lv_iconst (v := 1) hx hb dX0_remove_79 (by decide) ?_
        refine lv_isub hx hb dX0_remove_80 ?_
        refine lv_topi (fun z10 ez10 => ?_)
        have tz10 : (z10).toInt = (x_an_count).toInt - 1 := by rw [ez10]; exact i_sub rfl (by decide) (by omega)
        refine va_put (D := (dC, dI)) (ci := 0) (v := .int z10) (ty := tyX0 4) (C := RX0) (T := TX0) (N := 6) hx hb hw iwX0 tyX0 tyX0_ok nmX0 hown hK hP hD hS 0 rfl rfl 4 (by decide) (hw _ w_f_X0_24) (fun _ h9 => h9) rfl (tyX0_ok 4 (by decide)) rfl rfl (Nat.le_of_ble_eq_true rfl) dX0_remove_81 (fun H locs hP9 hD9 hS9 => ?_)
        clear hP hD hS
        have hP : va_P (dC, dI) cls [(h_an, .inr (0, (mo40 v_an (.ref h_as) (.ref h_ad) (.ref h_ao) (.ref h_af) (.int z10)))), (h_as, .inl (cy_as, 8, .inl f2)), (h_ad, .inl (cy_ad, 8, .inl f3)), (h_ao, .inl (cy_ao, 8, .inl f4)), (h_af, .inl (cy_af, 8, .inl f5))] H := hP9
        have hD : va_D A [(h_an, .inr (0, (mo40 v_an (.ref h_as) (.ref h_ad) (.ref h_ao) (.ref h_af) (.int z10)))), (h_as, .inl (cy_as, 8, .inl f2)), (h_ad, .inl (cy_ad, 8, .inl f3)), (h_ao, .inl (cy_ao, 8, .inl f4)), (h_af, .inl (cy_af, 8, .inl f5))] := hD9
        have hS := hS9
        clear hP9 hD9 hS9
        refine W.widen (k := 0) (n := 0) (Nat.le_of_ble_eq_true rfl) (Nat.le_of_ble_eq_true rfl) ?_
        have w11 : 0 ≤ ((z10)).toInt ∧ ((z10)).toInt ≤ 8 := by omega
        have w12 : ((z10)).toInt = (x_an_count).toInt - 1 := by omega
        exact W.vret hx hb hr (fun t ht hW => ⟨⟨(z10, f2, f3, f4, f5), rfl, ⟨w11, w12⟩, by rw [ht]; exact hP, hD⟩, hS.F ht⟩) hS.2.2 dX0_remove_84
      · have kc9 := (not_congr (cv_le (rfl : (x_an_count).toInt = (x_an_count).toInt) (rfl : (z8).toInt = (z8).toInt))).mp c9
        refine lv_aload_n hx hb dX0_remove_12 rfl (lv_at hl 0 rfl) ?_
        refine va_get (D := (dC, dI)) (ci := 0) (v := .ref h_as) (C := RX0) (T := TX0) (N := 6) hx hb hw iwX0 hown hK hP 0 rfl rfl 0 (by decide) (hw _ w_f_X0_9) (fun _ h9 => h9) rfl dX0_remove_13 ?_
        refine lv_iload_n hx hb dX0_remove_16 rfl (lv_at hl 2 rfl) ?_
        refine lv_aload_n hx hb dX0_remove_17 rfl (lv_at hl 0 rfl) ?_
        refine va_get (D := (dC, dI)) (ci := 0) (v := .ref h_as) (C := RX0) (T := TX0) (N := 6) hx hb hw iwX0 hown hK hP 0 rfl rfl 0 (by decide) (hw _ w_f_X0_9) (fun _ h9 => h9) rfl dX0_remove_18 ?_
        refine lv_iload_n hx hb dX0_remove_21 rfl (lv_at hl 2 rfl) ?_
        refine lv_iconst (v := 1) hx hb dX0_remove_22 (by decide) ?_
        refine lv_iadd hx hb dX0_remove_23 ?_
        refine lv_topi (fun z13 ez13 => ?_)
        have qz13 : (z13).toInt = (z8).toInt := by rw [ez13, ez8]
        have tz13 : (z13).toInt = (x1).toInt + 1 := by rw [ez13]; exact i_add rfl (by decide) (by omega)
        refine va_iald hx hb hK hP 1 0 rfl rfl (i := z13) (vp_in_iff.mpr (by omega)) dX0_remove_24 ?_
        refine lv_topi (fun z14 ez14 => ?_)
        refine va_iast hx hb hK hP hD hS 1 0 rfl rfl (i := x1) (x := z14) (vp_in_iff.mpr (by omega)) dX0_remove_25 (fun H locs hP9 hD9 hS9 => ?_)
        obtain ⟨f15, ef15⟩ : ∃ g : Nat → Int32, g = upd f2 (Int32.toNatClampNeg x1) z14 := ⟨_, rfl⟩
        clear hP hD hS
        have hP : va_P (dC, dI) cls [(h_an, .inr (0, (mo40 v_an (.ref h_as) (.ref h_ad) (.ref h_ao) (.ref h_af) (.int x_an_count)))), (h_as, .inl (cy_as, 8, .inl f15)), (h_ad, .inl (cy_ad, 8, .inl f3)), (h_ao, .inl (cy_ao, 8, .inl f4)), (h_af, .inl (cy_af, 8, .inl f5))] H := by rw [ef15]; exact hP9
        have hD : va_D A [(h_an, .inr (0, (mo40 v_an (.ref h_as) (.ref h_ad) (.ref h_ao) (.ref h_af) (.int x_an_count)))), (h_as, .inl (cy_as, 8, .inl f15)), (h_ad, .inl (cy_ad, 8, .inl f3)), (h_ao, .inl (cy_ao, 8, .inl f4)), (h_af, .inl (cy_af, 8, .inl f5))] := by rw [ef15]; exact hD9
        have hS := hS9
        clear hP9 hD9 hS9
        clear ef15
        refine lv_aload_n hx hb dX0_remove_26 rfl (lv_at hl 0 rfl) ?_
        refine va_get (D := (dC, dI)) (ci := 0) (v := .ref h_ad) (C := RX0) (T := TX0) (N := 6) hx hb hw iwX0 hown hK hP 0 rfl rfl 1 (by decide) (hw _ w_f_X0_15) (fun _ h9 => h9) rfl dX0_remove_27 ?_
        refine lv_iload_n hx hb dX0_remove_30 rfl (lv_at hl 2 rfl) ?_
        refine lv_aload_n hx hb dX0_remove_31 rfl (lv_at hl 0 rfl) ?_
        refine va_get (D := (dC, dI)) (ci := 0) (v := .ref h_ad) (C := RX0) (T := TX0) (N := 6) hx hb hw iwX0 hown hK hP 0 rfl rfl 1 (by decide) (hw _ w_f_X0_15) (fun _ h9 => h9) rfl dX0_remove_32 ?_
        refine lv_iload_n hx hb dX0_remove_35 rfl (lv_at hl 2 rfl) ?_
        refine lv_iconst (v := 1) hx hb dX0_remove_36 (by decide) ?_
        refine lv_iadd hx hb dX0_remove_37 ?_
        refine lv_topi (fun z16 ez16 => ?_)
        have qz16 : (z16).toInt = (z8).toInt := by rw [ez16, ez8]
        have tz16 : (z16).toInt = (x1).toInt + 1 := by rw [ez16]; exact i_add rfl (by decide) (by omega)
        refine va_iald hx hb hK hP 2 1 rfl rfl (i := z16) (vp_in_iff.mpr (by omega)) dX0_remove_38 ?_
        refine lv_topi (fun z17 ez17 => ?_)
        refine va_iast hx hb hK hP hD hS 2 1 rfl rfl (i := x1) (x := z17) (vp_in_iff.mpr (by omega)) dX0_remove_39 (fun H locs hP9 hD9 hS9 => ?_)
        obtain ⟨f18, ef18⟩ : ∃ g : Nat → Int32, g = upd f3 (Int32.toNatClampNeg x1) z17 := ⟨_, rfl⟩
        clear hP hD hS
        have hP : va_P (dC, dI) cls [(h_an, .inr (0, (mo40 v_an (.ref h_as) (.ref h_ad) (.ref h_ao) (.ref h_af) (.int x_an_count)))), (h_as, .inl (cy_as, 8, .inl f15)), (h_ad, .inl (cy_ad, 8, .inl f18)), (h_ao, .inl (cy_ao, 8, .inl f4)), (h_af, .inl (cy_af, 8, .inl f5))] H := by rw [ef18]; exact hP9
        have hD : va_D A [(h_an, .inr (0, (mo40 v_an (.ref h_as) (.ref h_ad) (.ref h_ao) (.ref h_af) (.int x_an_count)))), (h_as, .inl (cy_as, 8, .inl f15)), (h_ad, .inl (cy_ad, 8, .inl f18)), (h_ao, .inl (cy_ao, 8, .inl f4)), (h_af, .inl (cy_af, 8, .inl f5))] := by rw [ef18]; exact hD9
        have hS := hS9
        clear hP9 hD9 hS9
        clear ef18
        refine lv_aload_n hx hb dX0_remove_40 rfl (lv_at hl 0 rfl) ?_
        refine va_get (D := (dC, dI)) (ci := 0) (v := .ref h_ao) (C := RX0) (T := TX0) (N := 6) hx hb hw iwX0 hown hK hP 0 rfl rfl 2 (by decide) (hw _ w_f_X0_18) (fun _ h9 => h9) rfl dX0_remove_41 ?_
        refine lv_iload_n hx hb dX0_remove_44 rfl (lv_at hl 2 rfl) ?_
        refine lv_aload_n hx hb dX0_remove_45 rfl (lv_at hl 0 rfl) ?_
        refine va_get (D := (dC, dI)) (ci := 0) (v := .ref h_ao) (C := RX0) (T := TX0) (N := 6) hx hb hw iwX0 hown hK hP 0 rfl rfl 2 (by decide) (hw _ w_f_X0_18) (fun _ h9 => h9) rfl dX0_remove_46 ?_
        refine lv_iload_n hx hb dX0_remove_49 rfl (lv_at hl 2 rfl) ?_
        refine lv_iconst (v := 1) hx hb dX0_remove_50 (by decide) ?_
        refine lv_iadd hx hb dX0_remove_51 ?_
        refine lv_topi (fun z19 ez19 => ?_)
        have qz19 : (z19).toInt = (z8).toInt := by rw [ez19, ez8]
        have tz19 : (z19).toInt = (x1).toInt + 1 := by rw [ez19]; exact i_add rfl (by decide) (by omega)
        refine va_iald hx hb hK hP 3 2 rfl rfl (i := z19) (vp_in_iff.mpr (by omega)) dX0_remove_52 ?_
        refine lv_topi (fun z20 ez20 => ?_)
        refine va_iast hx hb hK hP hD hS 3 2 rfl rfl (i := x1) (x := z20) (vp_in_iff.mpr (by omega)) dX0_remove_53 (fun H locs hP9 hD9 hS9 => ?_)
        obtain ⟨f21, ef21⟩ : ∃ g : Nat → Int32, g = upd f4 (Int32.toNatClampNeg x1) z20 := ⟨_, rfl⟩
        clear hP hD hS
        have hP : va_P (dC, dI) cls [(h_an, .inr (0, (mo40 v_an (.ref h_as) (.ref h_ad) (.ref h_ao) (.ref h_af) (.int x_an_count)))), (h_as, .inl (cy_as, 8, .inl f15)), (h_ad, .inl (cy_ad, 8, .inl f18)), (h_ao, .inl (cy_ao, 8, .inl f21)), (h_af, .inl (cy_af, 8, .inl f5))] H := by rw [ef21]; exact hP9
        have hD : va_D A [(h_an, .inr (0, (mo40 v_an (.ref h_as) (.ref h_ad) (.ref h_ao) (.ref h_af) (.int x_an_count)))), (h_as, .inl (cy_as, 8, .inl f15)), (h_ad, .inl (cy_ad, 8, .inl f18)), (h_ao, .inl (cy_ao, 8, .inl f21)), (h_af, .inl (cy_af, 8, .inl f5))] := by rw [ef21]; exact hD9
        have hS := hS9
        clear hP9 hD9 hS9
        clear ef21
        refine lv_aload_n hx hb dX0_remove_54 rfl (lv_at hl 0 rfl) ?_
        refine va_get (D := (dC, dI)) (ci := 0) (v := .ref h_af) (C := RX0) (T := TX0) (N := 6) hx hb hw iwX0 hown hK hP 0 rfl rfl 3 (by decide) (hw _ w_f_X0_21) (fun _ h9 => h9) rfl dX0_remove_55 ?_
        refine lv_iload_n hx hb dX0_remove_58 rfl (lv_at hl 2 rfl) ?_
        refine lv_aload_n hx hb dX0_remove_59 rfl (lv_at hl 0 rfl) ?_
        refine va_get (D := (dC, dI)) (ci := 0) (v := .ref h_af) (C := RX0) (T := TX0) (N := 6) hx hb hw iwX0 hown hK hP 0 rfl rfl 3 (by decide) (hw _ w_f_X0_21) (fun _ h9 => h9) rfl dX0_remove_60 ?_
        refine lv_iload_n hx hb dX0_remove_63 rfl (lv_at hl 2 rfl) ?_
        refine lv_iconst (v := 1) hx hb dX0_remove_64 (by decide) ?_
        refine lv_iadd hx hb dX0_remove_65 ?_
        refine lv_topi (fun z22 ez22 => ?_)
        have qz22 : (z22).toInt = (z8).toInt := by rw [ez22, ez8]
        have tz22 : (z22).toInt = (x1).toInt + 1 := by rw [ez22]; exact i_add rfl (by decide) (by omega)
        refine va_iald hx hb hK hP 4 3 rfl rfl (i := z22) (vp_in_iff.mpr (by omega)) dX0_remove_66 ?_
        refine lv_topi (fun z23 ez23 => ?_)
        refine va_iast hx hb hK hP hD hS 4 3 rfl rfl (i := x1) (x := z23) (vp_in_iff.mpr (by omega)) dX0_remove_67 (fun H locs hP9 hD9 hS9 => ?_)
        obtain ⟨f24, ef24⟩ : ∃ g : Nat → Int32, g = upd f5 (Int32.toNatClampNeg x1) z23 := ⟨_, rfl⟩
        clear hP hD hS
        have hP : va_P (dC, dI) cls [(h_an, .inr (0, (mo40 v_an (.ref h_as) (.ref h_ad) (.ref h_ao) (.ref h_af) (.int x_an_count)))), (h_as, .inl (cy_as, 8, .inl f15)), (h_ad, .inl (cy_ad, 8, .inl f18)), (h_ao, .inl (cy_ao, 8, .inl f21)), (h_af, .inl (cy_af, 8, .inl f24))] H := by rw [ef24]; exact hP9
        have hD : va_D A [(h_an, .inr (0, (mo40 v_an (.ref h_as) (.ref h_ad) (.ref h_ao) (.ref h_af) (.int x_an_count)))), (h_as, .inl (cy_as, 8, .inl f15)), (h_ad, .inl (cy_ad, 8, .inl f18)), (h_ao, .inl (cy_ao, 8, .inl f21)), (h_af, .inl (cy_af, 8, .inl f24))] := by rw [ef24]; exact hD9
        have hS := hS9
        clear hP9 hD9 hS9
        clear ef24
        obtain ⟨z25, ez25⟩ : ∃ y : Int32, y = x1 + 1 := ⟨_, rfl⟩
        have tz25 : (z25).toInt = (x1).toInt + 1 := by rw [ez25]; exact i_add rfl (by decide) (by omega)
        refine lv_iinc (v := z25) (lv' := [(2, .int z25), (0, .ref h_an), (1, .int p1)]) hx hb dX0_remove_68 hl (k := 2) rfl (by rw [ez25]; rfl) (by decide) rfl (fun ls hl => ?_)
        refine lv_goto (tgt := 2) hx hb dX0_remove_71 (by decide) ?_
        exact ih7 (z25) (f15) (f18) (f21) (f24) _ _ _ (by omega) (by omega) (by omega) hP hD hS (lv_sub hl [1, 2, 0] rfl)
  exact lp6 _ (p1) (f_as) (f_ad) (f_ao) (f_af) _ _ _ (by omega) (by first | exact q1 | omega) (Nat.le_refl _) hP hD hS (lv_sub hl [1, 2, 0] rfl)

set_option maxHeartbeats 8000000 in
set_option maxRecDepth 100000 in
theorem c_X0_put (l : Launch) (dC : Nat → ClassId) (dI : Nat → Nat → Nat) (sz : Nat) (h_an : Nat) (h_as : Nat) (h_ad : Nat) (h_ao : Nat) (h_af : Nat) (x_an_count : Int32) (x_an_again : Int32) (cy_as : ClassId) (f_as : Nat → Int32) (cy_ad : ClassId) (f_ad : Nat → Int32) (cy_ao : ClassId) (f_ao : Nat → Int32) (cy_af : ClassId) (f_af : Nat → Int32) (p1 : Int32) (p2 : Int32) (p3 : Int32) (p4 : Int32) (hx_an_count : 0 ≤ (x_an_count).toInt ∧ (x_an_count).toInt ≤ 8) : Met l yX0_put (Ws yX0_put cX0_put 6 none) (({ frames := 1, cells := 0, slots := 0, locals := 22 } : Room)) (PRE (dC, dI) cls [(cy_as, .int), (cy_ad, .int), (cy_ao, .int), (cy_af, .int)] [(h_an, .inr (0, (mo41 (.ref h_as) (.ref h_ad) (.ref h_ao) (.ref h_af) (.int x_an_count) (.int x_an_again)))), (h_as, .inl (cy_as, 8, .inl f_as)), (h_ad, .inl (cy_ad, 8, .inl f_ad)), (h_ao, .inl (cy_ao, 8, .inl f_ao)), (h_af, .inl (cy_af, 8, .inl f_af))] sz [.ref h_an, .int p1, .int p2, .int p3, .int p4]) (va_Qv (fun (u : (Int32) × (Int32) × (Nat → Int32) × (Nat → Int32) × (Nat → Int32) × (Nat → Int32)) => (0 ≤ (u.1).toInt ∧ (u.1).toInt ≤ 8)) (fun (u : (Int32) × (Int32) × (Nat → Int32) × (Nat → Int32) × (Nat → Int32) × (Nat → Int32)) (t : State) => va_P (dC, dI) cls [(h_an, .inr (0, (mo41 (.ref h_as) (.ref h_ad) (.ref h_ao) (.ref h_af) (.int u.1) (.int u.2.1)))), (h_as, .inl (cy_as, 8, .inl u.2.2.1)), (h_ad, .inl (cy_ad, 8, .inl u.2.2.2.1)), (h_ao, .inl (cy_ao, 8, .inl u.2.2.2.2.1)), (h_af, .inl (cy_af, 8, .inl u.2.2.2.2.2))] t.heap ∧ va_D (va_A [(h_an, .inr (0, (mo41 (.ref h_as) (.ref h_ad) (.ref h_ao) (.ref h_af) (.int x_an_count) (.int x_an_again)))), (h_as, .inl (cy_as, 8, .inl f_as)), (h_ad, .inl (cy_ad, 8, .inl f_ad)), (h_ao, .inl (cy_ao, 8, .inl f_ao)), (h_af, .inl (cy_af, 8, .inl f_af))] sz) [(h_an, .inr (0, (mo41 (.ref h_as) (.ref h_ad) (.ref h_ao) (.ref h_af) (.int u.1) (.int u.2.1)))), (h_as, .inl (cy_as, 8, .inl u.2.2.1)), (h_ad, .inl (cy_ad, 8, .inl u.2.2.2.1)), (h_ao, .inl (cy_ao, 8, .inl u.2.2.2.2.1)), (h_af, .inl (cy_af, 8, .inl u.2.2.2.2.2))]) (va_A [(h_an, .inr (0, (mo41 (.ref h_as) (.ref h_ad) (.ref h_ao) (.ref h_af) (.int x_an_count) (.int x_an_again)))), (h_as, .inl (cy_as, 8, .inl f_as)), (h_ad, .inl (cy_ad, 8, .inl f_ad)), (h_ao, .inl (cy_ao, 8, .inl f_ao)), (h_af, .inl (cy_af, 8, .inl f_af))] sz)) 0 0 (va_A [(h_an, .inr (0, (mo41 (.ref h_as) (.ref h_ad) (.ref h_ao) (.ref h_af) (.int x_an_count) (.int x_an_again)))), (h_as, .inl (cy_as, 8, .inl f_as)), (h_ad, .inl (cy_ad, 8, .inl f_ad)), (h_ao, .inl (cy_ao, 8, .inl f_ao)), (h_af, .inl (cy_af, 8, .inl f_af))] sz) := by
  refine Met.ofW (cc := cX0_put) (maxL := 6) (ret := none) (by decide) rfl ?_
  intro p e s m args below meth c s₁ B hml hv
  obtain ⟨rfl, hsz, hP, hK, hD0, hN⟩ := hv
  have hx := B.exec
  have hb := B.bytes
  have hr := B.returns
  have hts := atoms_spec (ws := Ws yX0_put cX0_put 6 none) B.pre
  have hT : ∀ w ∈ WALL, w ∈ Ws yX0_put cX0_put 6 none := fun w h => List.mem_cons_of_mem _ h
  have hw := fun w (h : w ∈ WALL) => hts w (hT w h)
  have hown : s.vm.findClass RX0 = some m.cls := findClass_of_methodNamed B.named
  have hlocks := B.notSynchronized
  subst hsz
  have hD := hD0.self (sz := s.heap.size)
  generalize hAe : va_A [(h_an, .inr (0, (mo41 (.ref h_as) (.ref h_ad) (.ref h_ao) (.ref h_af) (.int x_an_count) (.int x_an_again)))), (h_as, .inl (cy_as, 8, .inl f_as)), (h_ad, .inl (cy_ad, 8, .inl f_ad)), (h_ao, .inl (cy_ao, 8, .inl f_ao)), (h_af, .inl (cy_af, 8, .inl f_af))] s.heap.size = A at hD ⊢
  have hA : ∀ q : Nat, s.heap.size ≤ q → A q := fun q h => by rw [← hAe]; exact Or.inr h
  have hS : va_S A s.heap s.heap [] := va_S.rf
  have hl := lv_entry ([.ref h_an, .int p1, .int p2, .int p3, .int p4]) (n := 6) (Nat.le_of_ble_eq_true rfl)
  rw [lg_entry_eq]
  generalize (lg_sl ([.ref h_an, .int p1, .int p2, .int p3, .int p4]) ++ List.replicate (6 - (lg_sl ([.ref h_an, .int p1, .int p2, .int p3, .int p4])).length) Slot.unset).toArray = ls at hl ⊢
  have hl : lv_has ls 6 [(0, .ref h_an), (1, .int p1), (2, .int p2), (3, .int p3), (4, .int p4)] := hl
  refine lv_iconst (v := 0) hx hb dX0_put_0 (by decide) ?_
  refine lv_istore (lv' := [(5, .int 0), (0, .ref h_an), (1, .int p1), (2, .int p2), (3, .int p3), (4, .int p4)]) hx hb dX0_put_1 hl (by decide) rfl (fun ls hl => ?_)
  have lp8 : ∀ (n : Nat) (x1 : Int32) (x2 : Int32) (x3 : Int32) (f4 : Nat → Int32) (f5 : Nat → Int32) (f6 : Nat → Int32) (f7 : Nat → Int32) (H : Heap) (locs : List Loc) (ls : Array Slot), (0 ≤ (x1).toInt ∧ (x1).toInt ≤ 8) → (0 ≤ (x2).toInt ∧ (x2).toInt ≤ 8) → (8 - (x1).toInt).toNat + 1 ≤ n → va_P (dC, dI) cls [(h_an, .inr (0, (mo41 (.ref h_as) (.ref h_ad) (.ref h_ao) (.ref h_af) (.int x2) (.int x3)))), (h_as, .inl (cy_as, 8, .inl f4)), (h_ad, .inl (cy_ad, 8, .inl f5)), (h_ao, .inl (cy_ao, 8, .inl f6)), (h_af, .inl (cy_af, 8, .inl f7))] H → va_D A [(h_an, .inr (0, (mo41 (.ref h_as) (.ref h_ad) (.ref h_ao) (.ref h_af) (.int x2) (.int x3)))), (h_as, .inl (cy_as, 8, .inl f4)), (h_ad, .inl (cy_ad, 8, .inl f5)), (h_ao, .inl (cy_ao, 8, .inl f6)), (h_af, .inl (cy_af, 8, .inl f7))] → va_S A s.heap H locs → lv_has ls 6 [(0, .ref h_an), (1, .int p1), (2, .int p2), (3, .int p3), (4, .int p4), (5, .int x1)] → W p l e ({ frames := 1, cells := 0, slots := 0, locals := 22 } : Room) s m ([.ref h_an, .int p1, .int p2, .int p3, .int p4] : List Value).toArray below meth c H locs 0 0 (MQ below (va_Qv (fun (u : (Int32) × (Int32) × (Nat → Int32) × (Nat → Int32) × (Nat → Int32) × (Nat → Int32)) => (0 ≤ (u.1).toInt ∧ (u.1).toInt ≤ 8)) (fun (u : (Int32) × (Int32) × (Nat → Int32) × (Nat → Int32) × (Nat → Int32) × (Nat → Int32)) (t : State) => va_P (dC, dI) cls [(h_an, .inr (0, (mo41 (.ref h_as) (.ref h_ad) (.ref h_ao) (.ref h_af) (.int u.1) (.int u.2.1)))), (h_as, .inl (cy_as, 8, .inl u.2.2.1)), (h_ad, .inl (cy_ad, 8, .inl u.2.2.2.1)), (h_ao, .inl (cy_ao, 8, .inl u.2.2.2.2.1)), (h_af, .inl (cy_af, 8, .inl u.2.2.2.2.2))] t.heap ∧ va_D A [(h_an, .inr (0, (mo41 (.ref h_as) (.ref h_ad) (.ref h_ao) (.ref h_af) (.int u.1) (.int u.2.1)))), (h_as, .inl (cy_as, 8, .inl u.2.2.1)), (h_ad, .inl (cy_ad, 8, .inl u.2.2.2.1)), (h_ao, .inl (cy_ao, 8, .inl u.2.2.2.2.1)), (h_af, .inl (cy_af, 8, .inl u.2.2.2.2.2))]) A) ([.ref h_an, .int p1, .int p2, .int p3, .int p4] : List Value).toArray s 0 0 A) (F0 m 3 ls []) := by
    clear hP hD hS hl
    intro n
    induction n with
    | zero => intro x1 x2 x3 f4 f5 f6 f7 H locs ls klp8_0 klp8_1 hm hP hD hS hl; exact False.elim (by omega)
    | succ n ih => 
      intro x1 x2 x3 f4 f5 f6 f7 H locs ls klp8_0 klp8_1 hm hP hD hS hl
      have ih9 := ih
      clear ih
      refine lv_iload hx hb dX0_put_3 (lv_at hl 5 rfl) ?_
      refine lv_aload_n hx hb dX0_put_5 rfl (lv_at hl 0 rfl) ?_
      refine va_get (D := (dC, dI)) (ci := 0) (v := .int x2) (C := RX0) (T := TX0) (N := 6) hx hb hw iwX0 hown hK hP 0 rfl rfl 4 (by decide) (hw _ w_f_X0_24) (fun _ h9 => h9) rfl dX0_put_6 ?_
      refine lv_icmp_ge (tgt := 67) hx hb dX0_put_9 (by decide) (fun c10 => ?_) (fun c10 => ?_)
      · have kc10 := (cv_le (rfl : (x2).toInt = (x2).toInt) (rfl : (x1).toInt = (x1).toInt)).mp c10
        refine lv_aload_n hx hb dX0_put_67 rfl (lv_at hl 0 rfl) ?_
        refine va_get (D := (dC, dI)) (ci := 0) (v := .int x2) (C := RX0) (T := TX0) (N := 6) hx hb hw iwX0 hown hK hP 0 rfl rfl 4 (by decide) (hw _ w_f_X0_24) (fun _ h9 => h9) rfl dX0_put_68 ?_
        refine lv_bipush (v := 8) hx hb dX0_put_71 (by decide) ?_
        refine lv_icmp_ne (tgt := 81) hx hb dX0_put_73 (by decide) (fun c11 => ?_) (fun c11 => ?_)
        · have kc11 := (not_congr (cv_eq (rfl : (x2).toInt = (x2).toInt) (by decide : (8 : Int32).toInt = 8))).mp c11
          refine lv_aload_n hx hb dX0_put_81 rfl (lv_at hl 0 rfl) ?_
          refine va_get (D := (dC, dI)) (ci := 0) (v := .ref h_as) (C := RX0) (T := TX0) (N := 6) hx hb hw iwX0 hown hK hP 0 rfl rfl 0 (by decide) (hw _ w_f_X0_9) (fun _ h9 => h9) rfl dX0_put_82 ?_
          refine lv_aload_n hx hb dX0_put_85 rfl (lv_at hl 0 rfl) ?_
          refine va_get (D := (dC, dI)) (ci := 0) (v := .int x2) (C := RX0) (T := TX0) (N := 6) hx hb hw iwX0 hown hK hP 0 rfl rfl 4 (by decide) (hw _ w_f_X0_24) (fun _ h9 => h9) rfl dX0_put_86 ?_
          refine lv_iload_n hx hb dX0_put_89 rfl (lv_at hl 1 rfl) ?_
          refine va_iast hx hb hK hP hD hS 1 0 rfl rfl (i := x2) (x := p1) (vp_in_iff.mpr (by omega)) dX0_put_90 (fun H locs hP9 hD9 hS9 => ?_)
          obtain ⟨f12, ef12⟩ : ∃ g : Nat → Int32, g = upd f4 (Int32.toNatClampNeg x2) p1 := ⟨_, rfl⟩
          clear hP hD hS
          have hP : va_P (dC, dI) cls [(h_an, .inr (0, (mo41 (.ref h_as) (.ref h_ad) (.ref h_ao) (.ref h_af) (.int x2) (.int x3)))), (h_as, .inl (cy_as, 8, .inl f12)), (h_ad, .inl (cy_ad, 8, .inl f5)), (h_ao, .inl (cy_ao, 8, .inl f6)), (h_af, .inl (cy_af, 8, .inl f7))] H := by rw [ef12]; exact hP9
          have hD : va_D A [(h_an, .inr (0, (mo41 (.ref h_as) (.ref h_ad) (.ref h_ao) (.ref h_af) (.int x2) (.int x3)))), (h_as, .inl (cy_as, 8, .inl f12)), (h_ad, .inl (cy_ad, 8, .inl f5)), (h_ao, .inl (cy_ao, 8, .inl f6)), (h_af, .inl (cy_af, 8, .inl f7))] := by rw [ef12]; exact hD9
          have hS := hS9
          clear hP9 hD9 hS9
          clear ef12
          refine lv_aload_n hx hb dX0_put_91 rfl (lv_at hl 0 rfl) ?_
          refine va_get (D := (dC, dI)) (ci := 0) (v := .ref h_ad) (C := RX0) (T := TX0) (N := 6) hx hb hw iwX0 hown hK hP 0 rfl rfl 1 (by decide) (hw _ w_f_X0_15) (fun _ h9 => h9) rfl dX0_put_92 ?_
          refine lv_aload_n hx hb dX0_put_95 rfl (lv_at hl 0 rfl) ?_
          refine va_get (D := (dC, dI)) (ci := 0) (v := .int x2) (C := RX0) (T := TX0) (N := 6) hx hb hw iwX0 hown hK hP 0 rfl rfl 4 (by decide) (hw _ w_f_X0_24) (fun _ h9 => h9) rfl dX0_put_96 ?_
          refine lv_iload_n hx hb dX0_put_99 rfl (lv_at hl 2 rfl) ?_
          refine va_iast hx hb hK hP hD hS 2 1 rfl rfl (i := x2) (x := p2) (vp_in_iff.mpr (by omega)) dX0_put_100 (fun H locs hP9 hD9 hS9 => ?_)
          obtain ⟨f13, ef13⟩ : ∃ g : Nat → Int32, g = upd f5 (Int32.toNatClampNeg x2) p2 := ⟨_, rfl⟩
          clear hP hD hS
          have hP : va_P (dC, dI) cls [(h_an, .inr (0, (mo41 (.ref h_as) (.ref h_ad) (.ref h_ao) (.ref h_af) (.int x2) (.int x3)))), (h_as, .inl (cy_as, 8, .inl f12)), (h_ad, .inl (cy_ad, 8, .inl f13)), (h_ao, .inl (cy_ao, 8, .inl f6)), (h_af, .inl (cy_af, 8, .inl f7))] H := by rw [ef13]; exact hP9
          have hD : va_D A [(h_an, .inr (0, (mo41 (.ref h_as) (.ref h_ad) (.ref h_ao) (.ref h_af) (.int x2) (.int x3)))), (h_as, .inl (cy_as, 8, .inl f12)), (h_ad, .inl (cy_ad, 8, .inl f13)), (h_ao, .inl (cy_ao, 8, .inl f6)), (h_af, .inl (cy_af, 8, .inl f7))] := by rw [ef13]; exact hD9
          have hS := hS9
          clear hP9 hD9 hS9
          clear ef13
          refine lv_aload_n hx hb dX0_put_101 rfl (lv_at hl 0 rfl) ?_
          refine va_get (D := (dC, dI)) (ci := 0) (v := .ref h_ao) (C := RX0) (T := TX0) (N := 6) hx hb hw iwX0 hown hK hP 0 rfl rfl 2 (by decide) (hw _ w_f_X0_18) (fun _ h9 => h9) rfl dX0_put_102 ?_
          refine lv_aload_n hx hb dX0_put_105 rfl (lv_at hl 0 rfl) ?_
          refine va_get (D := (dC, dI)) (ci := 0) (v := .int x2) (C := RX0) (T := TX0) (N := 6) hx hb hw iwX0 hown hK hP 0 rfl rfl 4 (by decide) (hw _ w_f_X0_24) (fun _ h9 => h9) rfl dX0_put_106 ?_
          refine lv_iload_n hx hb dX0_put_109 rfl (lv_at hl 3 rfl) ?_
          refine va_iast hx hb hK hP hD hS 3 2 rfl rfl (i := x2) (x := p3) (vp_in_iff.mpr (by omega)) dX0_put_110 (fun H locs hP9 hD9 hS9 => ?_)
          obtain ⟨f14, ef14⟩ : ∃ g : Nat → Int32, g = upd f6 (Int32.toNatClampNeg x2) p3 := ⟨_, rfl⟩
          clear hP hD hS
          have hP : va_P (dC, dI) cls [(h_an, .inr (0, (mo41 (.ref h_as) (.ref h_ad) (.ref h_ao) (.ref h_af) (.int x2) (.int x3)))), (h_as, .inl (cy_as, 8, .inl f12)), (h_ad, .inl (cy_ad, 8, .inl f13)), (h_ao, .inl (cy_ao, 8, .inl f14)), (h_af, .inl (cy_af, 8, .inl f7))] H := by rw [ef14]; exact hP9
          have hD : va_D A [(h_an, .inr (0, (mo41 (.ref h_as) (.ref h_ad) (.ref h_ao) (.ref h_af) (.int x2) (.int x3)))), (h_as, .inl (cy_as, 8, .inl f12)), (h_ad, .inl (cy_ad, 8, .inl f13)), (h_ao, .inl (cy_ao, 8, .inl f14)), (h_af, .inl (cy_af, 8, .inl f7))] := by rw [ef14]; exact hD9
          have hS := hS9
          clear hP9 hD9 hS9
          clear ef14
          refine lv_aload_n hx hb dX0_put_111 rfl (lv_at hl 0 rfl) ?_
          refine va_get (D := (dC, dI)) (ci := 0) (v := .ref h_af) (C := RX0) (T := TX0) (N := 6) hx hb hw iwX0 hown hK hP 0 rfl rfl 3 (by decide) (hw _ w_f_X0_21) (fun _ h9 => h9) rfl dX0_put_112 ?_
          refine lv_aload_n hx hb dX0_put_115 rfl (lv_at hl 0 rfl) ?_
          refine va_get (D := (dC, dI)) (ci := 0) (v := .int x2) (C := RX0) (T := TX0) (N := 6) hx hb hw iwX0 hown hK hP 0 rfl rfl 4 (by decide) (hw _ w_f_X0_24) (fun _ h9 => h9) rfl dX0_put_116 ?_
          refine lv_iload hx hb dX0_put_119 (lv_at hl 4 rfl) ?_
          refine va_iast hx hb hK hP hD hS 4 3 rfl rfl (i := x2) (x := p4) (vp_in_iff.mpr (by omega)) dX0_put_121 (fun H locs hP9 hD9 hS9 => ?_)
          obtain ⟨f15, ef15⟩ : ∃ g : Nat → Int32, g = upd f7 (Int32.toNatClampNeg x2) p4 := ⟨_, rfl⟩
          clear hP hD hS
          have hP : va_P (dC, dI) cls [(h_an, .inr (0, (mo41 (.ref h_as) (.ref h_ad) (.ref h_ao) (.ref h_af) (.int x2) (.int x3)))), (h_as, .inl (cy_as, 8, .inl f12)), (h_ad, .inl (cy_ad, 8, .inl f13)), (h_ao, .inl (cy_ao, 8, .inl f14)), (h_af, .inl (cy_af, 8, .inl f15))] H := by rw [ef15]; exact hP9
          have hD : va_D A [(h_an, .inr (0, (mo41 (.ref h_as) (.ref h_ad) (.ref h_ao) (.ref h_af) (.int x2) (.int x3)))), (h_as, .inl (cy_as, 8, .inl f12)), (h_ad, .inl (cy_ad, 8, .inl f13)), (h_ao, .inl (cy_ao, 8, .inl f14)), (h_af, .inl (cy_af, 8, .inl f15))] := by rw [ef15]; exact hD9
          have hS := hS9
          clear hP9 hD9 hS9
          clear ef15
          refine lv_aload_n hx hb dX0_put_122 rfl (lv_at hl 0 rfl) ?_
          refine lv_dup hx hb dX0_put_123 rfl ?_
          refine va_get (D := (dC, dI)) (ci := 0) (v := .int x2) (C := RX0) (T := TX0) (N := 6) hx hb hw iwX0 hown hK hP 0 rfl rfl 4 (by decide) (hw _ w_f_X0_24) (fun _ h9 => h9) rfl dX0_put_124 ?_
          refine lv_iconst (v := 1) hx hb dX0_put_127 (by decide) ?_
          refine lv_iadd hx hb dX0_put_128 ?_
          refine lv_topi (fun z16 ez16 => ?_)
          have tz16 : (z16).toInt = (x2).toInt + 1 := by rw [ez16]; exact i_add rfl (by decide) (by omega)
          refine va_put (D := (dC, dI)) (ci := 0) (v := .int z16) (ty := tyX0 4) (C := RX0) (T := TX0) (N := 6) hx hb hw iwX0 tyX0 tyX0_ok nmX0 hown hK hP hD hS 0 rfl rfl 4 (by decide) (hw _ w_f_X0_24) (fun _ h9 => h9) rfl (tyX0_ok 4 (by decide)) rfl rfl (Nat.le_of_ble_eq_true rfl) dX0_put_129 (fun H locs hP9 hD9 hS9 => ?_)
          clear hP hD hS
          have hP : va_P (dC, dI) cls [(h_an, .inr (0, (mo41 (.ref h_as) (.ref h_ad) (.ref h_ao) (.ref h_af) (.int z16) (.int x3)))), (h_as, .inl (cy_as, 8, .inl f12)), (h_ad, .inl (cy_ad, 8, .inl f13)), (h_ao, .inl (cy_ao, 8, .inl f14)), (h_af, .inl (cy_af, 8, .inl f15))] H := hP9
          have hD : va_D A [(h_an, .inr (0, (mo41 (.ref h_as) (.ref h_ad) (.ref h_ao) (.ref h_af) (.int z16) (.int x3)))), (h_as, .inl (cy_as, 8, .inl f12)), (h_ad, .inl (cy_ad, 8, .inl f13)), (h_ao, .inl (cy_ao, 8, .inl f14)), (h_af, .inl (cy_af, 8, .inl f15))] := hD9
          have hS := hS9
          clear hP9 hD9 hS9
          refine W.widen (k := 0) (n := 0) (Nat.le_of_ble_eq_true rfl) (Nat.le_of_ble_eq_true rfl) ?_
          have w17 : 0 ≤ ((z16)).toInt ∧ ((z16)).toInt ≤ 8 := by omega
          exact W.vret hx hb hr (fun t ht hW => ⟨⟨(z16, x3, f12, f13, f14, f15), rfl, w17, by rw [ht]; exact hP, hD⟩, hS.F ht⟩) hS.2.2 dX0_put_132
        · have kc11 := (cv_eq (rfl : (x2).toInt = (x2).toInt) (by decide : (8 : Int32).toInt = 8)).mp c11
          refine lv_aload_n hx hb dX0_put_76 rfl (lv_at hl 0 rfl) ?_
          refine lv_iconst (v := 0) hx hb dX0_put_77 (by decide) ?_
          obtain ⟨vq18, evq18⟩ := mq41_40 (.int x3)
          replace hP : va_P (dC, dI) cls [(h_an, .inr (0, (mo40 vq18 (.ref h_as) (.ref h_ad) (.ref h_ao) (.ref h_af) (.int x2)))), (h_as, .inl (cy_as, 8, .inl f4)), (h_ad, .inl (cy_ad, 8, .inl f5)), (h_ao, .inl (cy_ao, 8, .inl f6)), (h_af, .inl (cy_af, 8, .inl f7))] H := by rw [evq18]; exact hP
          replace hD : va_D A [(h_an, .inr (0, (mo40 vq18 (.ref h_as) (.ref h_ad) (.ref h_ao) (.ref h_af) (.int x2)))), (h_as, .inl (cy_as, 8, .inl f4)), (h_ad, .inl (cy_ad, 8, .inl f5)), (h_ao, .inl (cy_ao, 8, .inl f6)), (h_af, .inl (cy_af, 8, .inl f7))] := by rw [evq18]; exact hD
          have cst0 : (0 : Int32).toInt = 0 := by decide
          have hPc := hP.sub (ws' := [(h_an, .inr (0, (mo40 vq18 (.ref h_as) (.ref h_ad) (.ref h_ao) (.ref h_af) (.int x2)))), (h_as, .inl (cy_as, 8, .inl f4)), (h_ad, .inl (cy_ad, 8, .inl f5)), (h_ao, .inl (cy_ao, 8, .inl f6)), (h_af, .inl (cy_af, 8, .inl f7))]) [0, 1, 2, 3, 4] rfl
          have hDc := hD.sub (ws' := [(h_an, .inr (0, (mo40 vq18 (.ref h_as) (.ref h_ad) (.ref h_ao) (.ref h_af) (.int x2)))), (h_as, .inl (cy_as, 8, .inl f4)), (h_ad, .inl (cy_ad, 8, .inl f5)), (h_ao, .inl (cy_ao, 8, .inl f6)), (h_af, .inl (cy_af, 8, .inl f7))]) [0, 1, 2, 3, 4] (by decide) rfl
          have hKc := hK.sub (tys' := [(cy_as, .int), (cy_ad, .int), (cy_ao, .int), (cy_af, .int)]) [0, 1, 2, 3] rfl
          have hFc := va_free (wc := [(h_an, .inr (0, (mo40 vq18 (.ref h_as) (.ref h_ad) (.ref h_ao) (.ref h_af) (.int x2)))), (h_as, .inl (cy_as, 8, .inl f4)), (h_ad, .inl (cy_ad, 8, .inl f5)), (h_ao, .inl (cy_ao, 8, .inl f6)), (h_af, .inl (cy_af, 8, .inl f7))]) hD hS hA [0, 1, 2, 3, 4] rfl
          refine va_callv (va_runV (As := [.int 0]) (rest := []) ⟨hx, hb, hml, hown, hts⟩ (c_X0_remove l dC dI H.size h_an h_as h_ad h_ao h_af vq18 x2 cy_as f4 cy_ad f5 cy_ao f6 cy_af f7 0 (by first | exact klp8_1 | omega) (by omega) (by omega)) (cwV 1 hts (gv hT w_m_X0_31 w_instanceMethod_X0_remove ws_sel_X0_remove w_ini_X0 w_code_X0_remove) rfl rfl rfl (by decide +kernel) ⟨(Nat.le_of_ble_eq_true rfl), (Nat.le_of_ble_eq_true rfl)⟩) ⟨pre_blind, va_recv hK hP (ci := 0) (q0 := 0) rfl rfl, pre_of hPc hKc hDc hN⟩ rfl rfl hl.1 rfl (lv_room (Nat.le_of_ble_eq_true rfl)) dX0_put_78 ⟨(Nat.le_of_ble_eq_true rfl), (Nat.le_of_ble_eq_true rfl)⟩) hS (fun q _ h => hFc q h) hFc (fun u t H locs ht hvm hq hB hz1 hk1 hS9 => ?_)
          obtain ⟨z20, f21, f22, f23, f24⟩ := u
          obtain ⟨hP1, hD1⟩ := hB
          rw [ht] at hP1
          obtain ⟨hP9, hD9⟩ := va_join (wr := []) (w1 := [(h_an, .inr (0, (mo40 vq18 (.ref h_as) (.ref h_ad) (.ref h_ao) (.ref h_af) (.int z20)))), (h_as, .inl (cy_as, 8, .inl f21)), (h_ad, .inl (cy_ad, 8, .inl f22)), (h_ao, .inl (cy_ao, 8, .inl f23)), (h_af, .inl (cy_af, 8, .inl f24))]) hP hD [0, 1, 2, 3, 4] [] rfl rfl (by decide) (by decide) hk1 hFc hP1 hD1
          clear hP hD hS hPc hDc hKc hFc hP1 hD1 hk1 hz1 ht hvm
          have hP : va_P (dC, dI) cls [(h_an, .inr (0, (mo40 vq18 (.ref h_as) (.ref h_ad) (.ref h_ao) (.ref h_af) (.int z20)))), (h_as, .inl (cy_as, 8, .inl f21)), (h_ad, .inl (cy_ad, 8, .inl f22)), (h_ao, .inl (cy_ao, 8, .inl f23)), (h_af, .inl (cy_af, 8, .inl f24))] H := hP9
          have hD : va_D A [(h_an, .inr (0, (mo40 vq18 (.ref h_as) (.ref h_ad) (.ref h_ao) (.ref h_af) (.int z20)))), (h_as, .inl (cy_as, 8, .inl f21)), (h_ad, .inl (cy_ad, 8, .inl f22)), (h_ao, .inl (cy_ao, 8, .inl f23)), (h_af, .inl (cy_af, 8, .inl f24))] := hD9
          have hS := hS9
          clear hP9 hD9 hS9
          rw [evq18] at hP hD
          replace hP : va_P (dC, dI) cls [(h_an, .inr (0, (mo41 (.ref h_as) (.ref h_ad) (.ref h_ao) (.ref h_af) (.int z20) (.int x3)))), (h_as, .inl (cy_as, 8, .inl f21)), (h_ad, .inl (cy_ad, 8, .inl f22)), (h_ao, .inl (cy_ao, 8, .inl f23)), (h_af, .inl (cy_af, 8, .inl f24))] H := hP
          replace hD : va_D A [(h_an, .inr (0, (mo41 (.ref h_as) (.ref h_ad) (.ref h_ao) (.ref h_af) (.int z20) (.int x3)))), (h_as, .inl (cy_as, 8, .inl f21)), (h_ad, .inl (cy_ad, 8, .inl f22)), (h_ao, .inl (cy_ao, 8, .inl f23)), (h_af, .inl (cy_af, 8, .inl f24))] := hD
          clear evq18 
          obtain ⟨k25, k26⟩ := hq
          replace k25 : 0 ≤ ((z20)).toInt ∧ ((z20)).toInt ≤ 8 := k25
          replace k26 : ((z20)).toInt = ((x2)).toInt - 1 := k26
          refine lv_aload_n hx hb dX0_put_81 rfl (lv_at hl 0 rfl) ?_
          refine va_get (D := (dC, dI)) (ci := 0) (v := .ref h_as) (C := RX0) (T := TX0) (N := 6) hx hb hw iwX0 hown hK hP 0 rfl rfl 0 (by decide) (hw _ w_f_X0_9) (fun _ h9 => h9) rfl dX0_put_82 ?_
          refine lv_aload_n hx hb dX0_put_85 rfl (lv_at hl 0 rfl) ?_
          refine va_get (D := (dC, dI)) (ci := 0) (v := .int z20) (C := RX0) (T := TX0) (N := 6) hx hb hw iwX0 hown hK hP 0 rfl rfl 4 (by decide) (hw _ w_f_X0_24) (fun _ h9 => h9) rfl dX0_put_86 ?_
          refine lv_iload_n hx hb dX0_put_89 rfl (lv_at hl 1 rfl) ?_
          refine va_iast hx hb hK hP hD hS 1 0 rfl rfl (i := z20) (x := p1) (vp_in_iff.mpr (by omega)) dX0_put_90 (fun H locs hP9 hD9 hS9 => ?_)
          obtain ⟨f27, ef27⟩ : ∃ g : Nat → Int32, g = upd f21 (Int32.toNatClampNeg z20) p1 := ⟨_, rfl⟩
          clear hP hD hS
          have hP : va_P (dC, dI) cls [(h_an, .inr (0, (mo41 (.ref h_as) (.ref h_ad) (.ref h_ao) (.ref h_af) (.int z20) (.int x3)))), (h_as, .inl (cy_as, 8, .inl f27)), (h_ad, .inl (cy_ad, 8, .inl f22)), (h_ao, .inl (cy_ao, 8, .inl f23)), (h_af, .inl (cy_af, 8, .inl f24))] H := by rw [ef27]; exact hP9
          have hD : va_D A [(h_an, .inr (0, (mo41 (.ref h_as) (.ref h_ad) (.ref h_ao) (.ref h_af) (.int z20) (.int x3)))), (h_as, .inl (cy_as, 8, .inl f27)), (h_ad, .inl (cy_ad, 8, .inl f22)), (h_ao, .inl (cy_ao, 8, .inl f23)), (h_af, .inl (cy_af, 8, .inl f24))] := by rw [ef27]; exact hD9
          have hS := hS9
          clear hP9 hD9 hS9
          clear ef27
          refine lv_aload_n hx hb dX0_put_91 rfl (lv_at hl 0 rfl) ?_
          refine va_get (D := (dC, dI)) (ci := 0) (v := .ref h_ad) (C := RX0) (T := TX0) (N := 6) hx hb hw iwX0 hown hK hP 0 rfl rfl 1 (by decide) (hw _ w_f_X0_15) (fun _ h9 => h9) rfl dX0_put_92 ?_
          refine lv_aload_n hx hb dX0_put_95 rfl (lv_at hl 0 rfl) ?_
          refine va_get (D := (dC, dI)) (ci := 0) (v := .int z20) (C := RX0) (T := TX0) (N := 6) hx hb hw iwX0 hown hK hP 0 rfl rfl 4 (by decide) (hw _ w_f_X0_24) (fun _ h9 => h9) rfl dX0_put_96 ?_
          refine lv_iload_n hx hb dX0_put_99 rfl (lv_at hl 2 rfl) ?_
          refine va_iast hx hb hK hP hD hS 2 1 rfl rfl (i := z20) (x := p2) (vp_in_iff.mpr (by omega)) dX0_put_100 (fun H locs hP9 hD9 hS9 => ?_)
          obtain ⟨f28, ef28⟩ : ∃ g : Nat → Int32, g = upd f22 (Int32.toNatClampNeg z20) p2 := ⟨_, rfl⟩
          clear hP hD hS
          have hP : va_P (dC, dI) cls [(h_an, .inr (0, (mo41 (.ref h_as) (.ref h_ad) (.ref h_ao) (.ref h_af) (.int z20) (.int x3)))), (h_as, .inl (cy_as, 8, .inl f27)), (h_ad, .inl (cy_ad, 8, .inl f28)), (h_ao, .inl (cy_ao, 8, .inl f23)), (h_af, .inl (cy_af, 8, .inl f24))] H := by rw [ef28]; exact hP9
          have hD : va_D A [(h_an, .inr (0, (mo41 (.ref h_as) (.ref h_ad) (.ref h_ao) (.ref h_af) (.int z20) (.int x3)))), (h_as, .inl (cy_as, 8, .inl f27)), (h_ad, .inl (cy_ad, 8, .inl f28)), (h_ao, .inl (cy_ao, 8, .inl f23)), (h_af, .inl (cy_af, 8, .inl f24))] := by rw [ef28]; exact hD9
          have hS := hS9
          clear hP9 hD9 hS9
          clear ef28
          refine lv_aload_n hx hb dX0_put_101 rfl (lv_at hl 0 rfl) ?_
          refine va_get (D := (dC, dI)) (ci := 0) (v := .ref h_ao) (C := RX0) (T := TX0) (N := 6) hx hb hw iwX0 hown hK hP 0 rfl rfl 2 (by decide) (hw _ w_f_X0_18) (fun _ h9 => h9) rfl dX0_put_102 ?_
          refine lv_aload_n hx hb dX0_put_105 rfl (lv_at hl 0 rfl) ?_
          refine va_get (D := (dC, dI)) (ci := 0) (v := .int z20) (C := RX0) (T := TX0) (N := 6) hx hb hw iwX0 hown hK hP 0 rfl rfl 4 (by decide) (hw _ w_f_X0_24) (fun _ h9 => h9) rfl dX0_put_106 ?_
          refine lv_iload_n hx hb dX0_put_109 rfl (lv_at hl 3 rfl) ?_
          refine va_iast hx hb hK hP hD hS 3 2 rfl rfl (i := z20) (x := p3) (vp_in_iff.mpr (by omega)) dX0_put_110 (fun H locs hP9 hD9 hS9 => ?_)
          obtain ⟨f29, ef29⟩ : ∃ g : Nat → Int32, g = upd f23 (Int32.toNatClampNeg z20) p3 := ⟨_, rfl⟩
          clear hP hD hS
          have hP : va_P (dC, dI) cls [(h_an, .inr (0, (mo41 (.ref h_as) (.ref h_ad) (.ref h_ao) (.ref h_af) (.int z20) (.int x3)))), (h_as, .inl (cy_as, 8, .inl f27)), (h_ad, .inl (cy_ad, 8, .inl f28)), (h_ao, .inl (cy_ao, 8, .inl f29)), (h_af, .inl (cy_af, 8, .inl f24))] H := by rw [ef29]; exact hP9
          have hD : va_D A [(h_an, .inr (0, (mo41 (.ref h_as) (.ref h_ad) (.ref h_ao) (.ref h_af) (.int z20) (.int x3)))), (h_as, .inl (cy_as, 8, .inl f27)), (h_ad, .inl (cy_ad, 8, .inl f28)), (h_ao, .inl (cy_ao, 8, .inl f29)), (h_af, .inl (cy_af, 8, .inl f24))] := by rw [ef29]; exact hD9
          have hS := hS9
          clear hP9 hD9 hS9
          clear ef29
          refine lv_aload_n hx hb dX0_put_111 rfl (lv_at hl 0 rfl) ?_
          refine va_get (D := (dC, dI)) (ci := 0) (v := .ref h_af) (C := RX0) (T := TX0) (N := 6) hx hb hw iwX0 hown hK hP 0 rfl rfl 3 (by decide) (hw _ w_f_X0_21) (fun _ h9 => h9) rfl dX0_put_112 ?_
          refine lv_aload_n hx hb dX0_put_115 rfl (lv_at hl 0 rfl) ?_
          refine va_get (D := (dC, dI)) (ci := 0) (v := .int z20) (C := RX0) (T := TX0) (N := 6) hx hb hw iwX0 hown hK hP 0 rfl rfl 4 (by decide) (hw _ w_f_X0_24) (fun _ h9 => h9) rfl dX0_put_116 ?_
          refine lv_iload hx hb dX0_put_119 (lv_at hl 4 rfl) ?_
          refine va_iast hx hb hK hP hD hS 4 3 rfl rfl (i := z20) (x := p4) (vp_in_iff.mpr (by omega)) dX0_put_121 (fun H locs hP9 hD9 hS9 => ?_)
          obtain ⟨f30, ef30⟩ : ∃ g : Nat → Int32, g = upd f24 (Int32.toNatClampNeg z20) p4 := ⟨_, rfl⟩
          clear hP hD hS
          have hP : va_P (dC, dI) cls [(h_an, .inr (0, (mo41 (.ref h_as) (.ref h_ad) (.ref h_ao) (.ref h_af) (.int z20) (.int x3)))), (h_as, .inl (cy_as, 8, .inl f27)), (h_ad, .inl (cy_ad, 8, .inl f28)), (h_ao, .inl (cy_ao, 8, .inl f29)), (h_af, .inl (cy_af, 8, .inl f30))] H := by rw [ef30]; exact hP9
          have hD : va_D A [(h_an, .inr (0, (mo41 (.ref h_as) (.ref h_ad) (.ref h_ao) (.ref h_af) (.int z20) (.int x3)))), (h_as, .inl (cy_as, 8, .inl f27)), (h_ad, .inl (cy_ad, 8, .inl f28)), (h_ao, .inl (cy_ao, 8, .inl f29)), (h_af, .inl (cy_af, 8, .inl f30))] := by rw [ef30]; exact hD9
          have hS := hS9
          clear hP9 hD9 hS9
          clear ef30
          refine lv_aload_n hx hb dX0_put_122 rfl (lv_at hl 0 rfl) ?_
          refine lv_dup hx hb dX0_put_123 rfl ?_
          refine va_get (D := (dC, dI)) (ci := 0) (v := .int z20) (C := RX0) (T := TX0) (N := 6) hx hb hw iwX0 hown hK hP 0 rfl rfl 4 (by decide) (hw _ w_f_X0_24) (fun _ h9 => h9) rfl dX0_put_124 ?_
          refine lv_iconst (v := 1) hx hb dX0_put_127 (by decide) ?_
          refine lv_iadd hx hb dX0_put_128 ?_
          refine lv_topi (fun z31 ez31 => ?_)
          have tz31 : (z31).toInt = (z20).toInt + 1 := by rw [ez31]; exact i_add rfl (by decide) (by omega)
          refine va_put (D := (dC, dI)) (ci := 0) (v := .int z31) (ty := tyX0 4) (C := RX0) (T := TX0) (N := 6) hx hb hw iwX0 tyX0 tyX0_ok nmX0 hown hK hP hD hS 0 rfl rfl 4 (by decide) (hw _ w_f_X0_24) (fun _ h9 => h9) rfl (tyX0_ok 4 (by decide)) rfl rfl (Nat.le_of_ble_eq_true rfl) dX0_put_129 (fun H locs hP9 hD9 hS9 => ?_)
          clear hP hD hS
          have hP : va_P (dC, dI) cls [(h_an, .inr (0, (mo41 (.ref h_as) (.ref h_ad) (.ref h_ao) (.ref h_af) (.int z31) (.int x3)))), (h_as, .inl (cy_as, 8, .inl f27)), (h_ad, .inl (cy_ad, 8, .inl f28)), (h_ao, .inl (cy_ao, 8, .inl f29)), (h_af, .inl (cy_af, 8, .inl f30))] H := hP9
          have hD : va_D A [(h_an, .inr (0, (mo41 (.ref h_as) (.ref h_ad) (.ref h_ao) (.ref h_af) (.int z31) (.int x3)))), (h_as, .inl (cy_as, 8, .inl f27)), (h_ad, .inl (cy_ad, 8, .inl f28)), (h_ao, .inl (cy_ao, 8, .inl f29)), (h_af, .inl (cy_af, 8, .inl f30))] := hD9
          have hS := hS9
          clear hP9 hD9 hS9
          refine W.widen (k := 0) (n := 0) (Nat.le_of_ble_eq_true rfl) (Nat.le_of_ble_eq_true rfl) ?_
          have w32 : 0 ≤ ((z31)).toInt ∧ ((z31)).toInt ≤ 8 := by omega
          exact W.vret hx hb hr (fun t ht hW => ⟨⟨(z31, x3, f27, f28, f29, f30), rfl, w32, by rw [ht]; exact hP, hD⟩, hS.F ht⟩) hS.2.2 dX0_put_132
      · have kc10 := (not_congr (cv_le (rfl : (x2).toInt = (x2).toInt) (rfl : (x1).toInt = (x1).toInt))).mp c10
        refine lv_aload_n hx hb dX0_put_12 rfl (lv_at hl 0 rfl) ?_
        refine va_get (D := (dC, dI)) (ci := 0) (v := .ref h_as) (C := RX0) (T := TX0) (N := 6) hx hb hw iwX0 hown hK hP 0 rfl rfl 0 (by decide) (hw _ w_f_X0_9) (fun _ h9 => h9) rfl dX0_put_13 ?_
        refine lv_iload hx hb dX0_put_16 (lv_at hl 5 rfl) ?_
        refine va_iald hx hb hK hP 1 0 rfl rfl (i := x1) (vp_in_iff.mpr (by omega)) dX0_put_18 ?_
        refine lv_topi (fun z33 ez33 => ?_)
        refine lv_iload_n hx hb dX0_put_19 rfl (lv_at hl 1 rfl) ?_
        refine lv_icmp_ne (tgt := 61) hx hb dX0_put_20 (by decide) (fun c34 => ?_) (fun c34 => ?_)
        · have kc34 := (not_congr (cv_eq (rfl : (z33).toInt = (z33).toInt) (rfl : (p1).toInt = (p1).toInt))).mp c34
          obtain ⟨z35, ez35⟩ : ∃ y : Int32, y = x1 + 1 := ⟨_, rfl⟩
          have tz35 : (z35).toInt = (x1).toInt + 1 := by rw [ez35]; exact i_add rfl (by decide) (by omega)
          refine lv_iinc (v := z35) (lv' := [(5, .int z35), (0, .ref h_an), (1, .int p1), (2, .int p2), (3, .int p3), (4, .int p4)]) hx hb dX0_put_61 hl (k := 5) rfl (by rw [ez35]; rfl) (by decide) rfl (fun ls hl => ?_)
          refine lv_goto (tgt := 3) hx hb dX0_put_64 (by decide) ?_
          exact ih9 (z35) (x2) (x3) (f4) (f5) (f6) (f7) _ _ _ (by omega) (by first | exact klp8_1 | omega) (by omega) hP hD hS (lv_sub hl [1, 2, 3, 4, 5, 0] rfl)
        · have kc34 := (cv_eq (rfl : (z33).toInt = (z33).toInt) (rfl : (p1).toInt = (p1).toInt)).mp c34
          refine lv_aload_n hx hb dX0_put_23 rfl (lv_at hl 0 rfl) ?_
          refine va_get (D := (dC, dI)) (ci := 0) (v := .ref h_ad) (C := RX0) (T := TX0) (N := 6) hx hb hw iwX0 hown hK hP 0 rfl rfl 1 (by decide) (hw _ w_f_X0_15) (fun _ h9 => h9) rfl dX0_put_24 ?_
          refine lv_iload hx hb dX0_put_27 (lv_at hl 5 rfl) ?_
          refine va_iald hx hb hK hP 2 1 rfl rfl (i := x1) (vp_in_iff.mpr (by omega)) dX0_put_29 ?_
          refine lv_topi (fun z36 ez36 => ?_)
          refine lv_iload_n hx hb dX0_put_30 rfl (lv_at hl 2 rfl) ?_
          refine lv_icmp_ne (tgt := 61) hx hb dX0_put_31 (by decide) (fun c37 => ?_) (fun c37 => ?_)
          · have kc37 := (not_congr (cv_eq (rfl : (z36).toInt = (z36).toInt) (rfl : (p2).toInt = (p2).toInt))).mp c37
            obtain ⟨z38, ez38⟩ : ∃ y : Int32, y = x1 + 1 := ⟨_, rfl⟩
            have tz38 : (z38).toInt = (x1).toInt + 1 := by rw [ez38]; exact i_add rfl (by decide) (by omega)
            refine lv_iinc (v := z38) (lv' := [(5, .int z38), (0, .ref h_an), (1, .int p1), (2, .int p2), (3, .int p3), (4, .int p4)]) hx hb dX0_put_61 hl (k := 5) rfl (by rw [ez38]; rfl) (by decide) rfl (fun ls hl => ?_)
            refine lv_goto (tgt := 3) hx hb dX0_put_64 (by decide) ?_
            exact ih9 (z38) (x2) (x3) (f4) (f5) (f6) (f7) _ _ _ (by omega) (by first | exact klp8_1 | omega) (by omega) hP hD hS (lv_sub hl [1, 2, 3, 4, 5, 0] rfl)
          · have kc37 := (cv_eq (rfl : (z36).toInt = (z36).toInt) (rfl : (p2).toInt = (p2).toInt)).mp c37
            refine lv_aload_n hx hb dX0_put_34 rfl (lv_at hl 0 rfl) ?_
            refine va_get (D := (dC, dI)) (ci := 0) (v := .ref h_ao) (C := RX0) (T := TX0) (N := 6) hx hb hw iwX0 hown hK hP 0 rfl rfl 2 (by decide) (hw _ w_f_X0_18) (fun _ h9 => h9) rfl dX0_put_35 ?_
            refine lv_iload hx hb dX0_put_38 (lv_at hl 5 rfl) ?_
            refine va_iald hx hb hK hP 3 2 rfl rfl (i := x1) (vp_in_iff.mpr (by omega)) dX0_put_40 ?_
            refine lv_topi (fun z39 ez39 => ?_)
            refine lv_iload_n hx hb dX0_put_41 rfl (lv_at hl 3 rfl) ?_
            refine lv_icmp_ne (tgt := 61) hx hb dX0_put_42 (by decide) (fun c40 => ?_) (fun c40 => ?_)
            · have kc40 := (not_congr (cv_eq (rfl : (z39).toInt = (z39).toInt) (rfl : (p3).toInt = (p3).toInt))).mp c40
              obtain ⟨z41, ez41⟩ : ∃ y : Int32, y = x1 + 1 := ⟨_, rfl⟩
              have tz41 : (z41).toInt = (x1).toInt + 1 := by rw [ez41]; exact i_add rfl (by decide) (by omega)
              refine lv_iinc (v := z41) (lv' := [(5, .int z41), (0, .ref h_an), (1, .int p1), (2, .int p2), (3, .int p3), (4, .int p4)]) hx hb dX0_put_61 hl (k := 5) rfl (by rw [ez41]; rfl) (by decide) rfl (fun ls hl => ?_)
              refine lv_goto (tgt := 3) hx hb dX0_put_64 (by decide) ?_
              exact ih9 (z41) (x2) (x3) (f4) (f5) (f6) (f7) _ _ _ (by omega) (by first | exact klp8_1 | omega) (by omega) hP hD hS (lv_sub hl [1, 2, 3, 4, 5, 0] rfl)
            · have kc40 := (cv_eq (rfl : (z39).toInt = (z39).toInt) (rfl : (p3).toInt = (p3).toInt)).mp c40
              refine lv_aload_n hx hb dX0_put_45 rfl (lv_at hl 0 rfl) ?_
              refine lv_dup hx hb dX0_put_46 rfl ?_
              refine va_get (D := (dC, dI)) (ci := 0) (v := .int x3) (C := RX0) (T := TX0) (N := 6) hx hb hw iwX0 hown hK hP 0 rfl rfl 5 (by decide) (hw _ w_f_X0_28) (fun _ h9 => h9) rfl dX0_put_47 ?_
              refine lv_iconst (v := 1) hx hb dX0_put_50 (by decide) ?_
              refine lv_iadd hx hb dX0_put_51 ?_
              refine lv_topi (fun z42 ez42 => ?_)
              refine va_put (D := (dC, dI)) (ci := 0) (v := .int z42) (ty := tyX0 5) (C := RX0) (T := TX0) (N := 6) hx hb hw iwX0 tyX0 tyX0_ok nmX0 hown hK hP hD hS 0 rfl rfl 5 (by decide) (hw _ w_f_X0_28) (fun _ h9 => h9) rfl (tyX0_ok 5 (by decide)) rfl rfl (Nat.le_of_ble_eq_true rfl) dX0_put_52 (fun H locs hP9 hD9 hS9 => ?_)
              clear hP hD hS
              have hP : va_P (dC, dI) cls [(h_an, .inr (0, (mo41 (.ref h_as) (.ref h_ad) (.ref h_ao) (.ref h_af) (.int x2) (.int z42)))), (h_as, .inl (cy_as, 8, .inl f4)), (h_ad, .inl (cy_ad, 8, .inl f5)), (h_ao, .inl (cy_ao, 8, .inl f6)), (h_af, .inl (cy_af, 8, .inl f7))] H := hP9
              have hD : va_D A [(h_an, .inr (0, (mo41 (.ref h_as) (.ref h_ad) (.ref h_ao) (.ref h_af) (.int x2) (.int z42)))), (h_as, .inl (cy_as, 8, .inl f4)), (h_ad, .inl (cy_ad, 8, .inl f5)), (h_ao, .inl (cy_ao, 8, .inl f6)), (h_af, .inl (cy_af, 8, .inl f7))] := hD9
              have hS := hS9
              clear hP9 hD9 hS9
              refine lv_aload_n hx hb dX0_put_55 rfl (lv_at hl 0 rfl) ?_
              refine lv_iload hx hb dX0_put_56 (lv_at hl 5 rfl) ?_
              obtain ⟨vq43, evq43⟩ := mq41_40 (.int z42)
              replace hP : va_P (dC, dI) cls [(h_an, .inr (0, (mo40 vq43 (.ref h_as) (.ref h_ad) (.ref h_ao) (.ref h_af) (.int x2)))), (h_as, .inl (cy_as, 8, .inl f4)), (h_ad, .inl (cy_ad, 8, .inl f5)), (h_ao, .inl (cy_ao, 8, .inl f6)), (h_af, .inl (cy_af, 8, .inl f7))] H := by rw [evq43]; exact hP
              replace hD : va_D A [(h_an, .inr (0, (mo40 vq43 (.ref h_as) (.ref h_ad) (.ref h_ao) (.ref h_af) (.int x2)))), (h_as, .inl (cy_as, 8, .inl f4)), (h_ad, .inl (cy_ad, 8, .inl f5)), (h_ao, .inl (cy_ao, 8, .inl f6)), (h_af, .inl (cy_af, 8, .inl f7))] := by rw [evq43]; exact hD
              have hPc := hP.sub (ws' := [(h_an, .inr (0, (mo40 vq43 (.ref h_as) (.ref h_ad) (.ref h_ao) (.ref h_af) (.int x2)))), (h_as, .inl (cy_as, 8, .inl f4)), (h_ad, .inl (cy_ad, 8, .inl f5)), (h_ao, .inl (cy_ao, 8, .inl f6)), (h_af, .inl (cy_af, 8, .inl f7))]) [0, 1, 2, 3, 4] rfl
              have hDc := hD.sub (ws' := [(h_an, .inr (0, (mo40 vq43 (.ref h_as) (.ref h_ad) (.ref h_ao) (.ref h_af) (.int x2)))), (h_as, .inl (cy_as, 8, .inl f4)), (h_ad, .inl (cy_ad, 8, .inl f5)), (h_ao, .inl (cy_ao, 8, .inl f6)), (h_af, .inl (cy_af, 8, .inl f7))]) [0, 1, 2, 3, 4] (by decide) rfl
              have hKc := hK.sub (tys' := [(cy_as, .int), (cy_ad, .int), (cy_ao, .int), (cy_af, .int)]) [0, 1, 2, 3] rfl
              have hFc := va_free (wc := [(h_an, .inr (0, (mo40 vq43 (.ref h_as) (.ref h_ad) (.ref h_ao) (.ref h_af) (.int x2)))), (h_as, .inl (cy_as, 8, .inl f4)), (h_ad, .inl (cy_ad, 8, .inl f5)), (h_ao, .inl (cy_ao, 8, .inl f6)), (h_af, .inl (cy_af, 8, .inl f7))]) hD hS hA [0, 1, 2, 3, 4] rfl
              refine va_callv (va_runV (As := [.int x1]) (rest := []) ⟨hx, hb, hml, hown, hts⟩ (c_X0_remove l dC dI H.size h_an h_as h_ad h_ao h_af vq43 x2 cy_as f4 cy_ad f5 cy_ao f6 cy_af f7 x1 (by first | exact klp8_1 | omega) (by omega) (by omega)) (cwV 1 hts (gv hT w_m_X0_31 w_instanceMethod_X0_remove ws_sel_X0_remove w_ini_X0 w_code_X0_remove) rfl rfl rfl (by decide +kernel) ⟨(Nat.le_of_ble_eq_true rfl), (Nat.le_of_ble_eq_true rfl)⟩) ⟨pre_blind, va_recv hK hP (ci := 0) (q0 := 0) rfl rfl, pre_of hPc hKc hDc hN⟩ rfl rfl hl.1 rfl (lv_room (Nat.le_of_ble_eq_true rfl)) dX0_put_58 ⟨(Nat.le_of_ble_eq_true rfl), (Nat.le_of_ble_eq_true rfl)⟩) hS (fun q _ h => hFc q h) hFc (fun u t H locs ht hvm hq hB hz1 hk1 hS9 => ?_)
              obtain ⟨z45, f46, f47, f48, f49⟩ := u
              obtain ⟨hP1, hD1⟩ := hB
              rw [ht] at hP1
              obtain ⟨hP9, hD9⟩ := va_join (wr := []) (w1 := [(h_an, .inr (0, (mo40 vq43 (.ref h_as) (.ref h_ad) (.ref h_ao) (.ref h_af) (.int z45)))), (h_as, .inl (cy_as, 8, .inl f46)), (h_ad, .inl (cy_ad, 8, .inl f47)), (h_ao, .inl (cy_ao, 8, .inl f48)), (h_af, .inl (cy_af, 8, .inl f49))]) hP hD [0, 1, 2, 3, 4] [] rfl rfl (by decide) (by decide) hk1 hFc hP1 hD1
              clear hP hD hS hPc hDc hKc hFc hP1 hD1 hk1 hz1 ht hvm
              have hP : va_P (dC, dI) cls [(h_an, .inr (0, (mo40 vq43 (.ref h_as) (.ref h_ad) (.ref h_ao) (.ref h_af) (.int z45)))), (h_as, .inl (cy_as, 8, .inl f46)), (h_ad, .inl (cy_ad, 8, .inl f47)), (h_ao, .inl (cy_ao, 8, .inl f48)), (h_af, .inl (cy_af, 8, .inl f49))] H := hP9
              have hD : va_D A [(h_an, .inr (0, (mo40 vq43 (.ref h_as) (.ref h_ad) (.ref h_ao) (.ref h_af) (.int z45)))), (h_as, .inl (cy_as, 8, .inl f46)), (h_ad, .inl (cy_ad, 8, .inl f47)), (h_ao, .inl (cy_ao, 8, .inl f48)), (h_af, .inl (cy_af, 8, .inl f49))] := hD9
              have hS := hS9
              clear hP9 hD9 hS9
              rw [evq43] at hP hD
              replace hP : va_P (dC, dI) cls [(h_an, .inr (0, (mo41 (.ref h_as) (.ref h_ad) (.ref h_ao) (.ref h_af) (.int z45) (.int z42)))), (h_as, .inl (cy_as, 8, .inl f46)), (h_ad, .inl (cy_ad, 8, .inl f47)), (h_ao, .inl (cy_ao, 8, .inl f48)), (h_af, .inl (cy_af, 8, .inl f49))] H := hP
              replace hD : va_D A [(h_an, .inr (0, (mo41 (.ref h_as) (.ref h_ad) (.ref h_ao) (.ref h_af) (.int z45) (.int z42)))), (h_as, .inl (cy_as, 8, .inl f46)), (h_ad, .inl (cy_ad, 8, .inl f47)), (h_ao, .inl (cy_ao, 8, .inl f48)), (h_af, .inl (cy_af, 8, .inl f49))] := hD
              clear evq43 
              obtain ⟨k50, k51⟩ := hq
              replace k50 : 0 ≤ ((z45)).toInt ∧ ((z45)).toInt ≤ 8 := k50
              replace k51 : ((z45)).toInt = ((x2)).toInt - 1 := k51
              obtain ⟨z52, ez52⟩ : ∃ y : Int32, y = x1 + 1 := ⟨_, rfl⟩
              have tz52 : (z52).toInt = (x1).toInt + 1 := by rw [ez52]; exact i_add rfl (by decide) (by omega)
              refine lv_iinc (v := z52) (lv' := [(5, .int z52), (0, .ref h_an), (1, .int p1), (2, .int p2), (3, .int p3), (4, .int p4)]) hx hb dX0_put_61 hl (k := 5) rfl (by rw [ez52]; rfl) (by decide) rfl (fun ls hl => ?_)
              refine lv_goto (tgt := 3) hx hb dX0_put_64 (by decide) ?_
              exact ih9 (z52) (z45) (z42) (f46) (f47) (f48) (f49) _ _ _ (by omega) (by first | exact k50 | omega) (by omega) hP hD hS (lv_sub hl [1, 2, 3, 4, 5, 0] rfl)
  have cst0 : (0 : Int32).toInt = 0 := by decide
  exact lp8 _ (0) (x_an_count) (x_an_again) (f_as) (f_ad) (f_ao) (f_af) _ _ _ (by decide) (by first | exact hx_an_count | omega) (Nat.le_refl _) hP hD hS (lv_sub hl [1, 2, 3, 4, 5, 0] rfl)

