theorem w_cl_X11_183 : Cond.constantLong "OppositePairsModel" 183 (10 : Int64) ∈ WALL := wall_t (tb_5 128 (by decide +kernel)) rfl
theorem w_cl_X11_185 : Cond.constantLong "OppositePairsModel" 185 (9 : Int64) ∈ WALL := wall_t (tb_5 129 (by decide +kernel)) rfl
theorem w_code_X11_movesNodes : Cond.code yX11_movesNodes prog_13_method_24_code 5 none ∈ WALL := wall_t (tb_5 75 (by decide +kernel)) rfl
theorem w_code_X11_part : Cond.code yX11_part prog_13_method_4_code 3 (some .int) ∈ WALL := wall_t (tb_5 123 (by decide +kernel)) rfl
theorem w_code_X11_partsAt : Cond.code yX11_partsAt prog_13_method_5_code 2 (some .int) ∈ WALL := wall_t (tb_5 119 (by decide +kernel)) rfl
theorem w_code_X11_positives : Cond.code yX11_positives prog_13_method_33_code 4 (some .int) ∈ WALL := wall_t (tb_5 127 (by decide +kernel)) rfl
theorem w_code_X11_readsClause : Cond.code yX11_readsClause prog_13_method_22_code 1 none ∈ WALL := wall_t (tb_5 27 (by decide +kernel)) rfl
theorem w_code_X11_sizeAt : Cond.code yX11_sizeAt prog_13_method_7_code 4 (some .int) ∈ WALL := wall_t (tb_5 115 (by decide +kernel)) rfl
theorem w_code_X11_sizeOf : Cond.code yX11_sizeOf prog_13_method_32_code 4 (some .int) ∈ WALL := wall_t (tb_5 111 (by decide +kernel)) rfl
theorem w_instanceMethod_X11_movesNodes : Cond.instanceMethod yX11_movesNodes ∈ WALL := wall_t (tb_5 74 (by decide +kernel)) rfl
theorem w_instanceMethod_X11_part : Cond.instanceMethod yX11_part ∈ WALL := wall_t (tb_5 122 (by decide +kernel)) rfl
theorem w_instanceMethod_X11_partsAt : Cond.instanceMethod yX11_partsAt ∈ WALL := wall_t (tb_5 118 (by decide +kernel)) rfl
theorem w_instanceMethod_X11_positives : Cond.instanceMethod yX11_positives ∈ WALL := wall_t (tb_5 126 (by decide +kernel)) rfl
theorem w_instanceMethod_X11_readsClause : Cond.instanceMethod yX11_readsClause ∈ WALL := wall_t (tb_5 26 (by decide +kernel)) rfl
theorem w_instanceMethod_X11_sizeAt : Cond.instanceMethod yX11_sizeAt ∈ WALL := wall_t (tb_5 114 (by decide +kernel)) rfl
theorem w_instanceMethod_X11_sizeOf : Cond.instanceMethod yX11_sizeOf ∈ WALL := wall_t (tb_5 110 (by decide +kernel)) rfl
theorem w_m_X11_158 : Cond.methodLink "OppositePairsModel" 158 yX11_readsClause ∈ WALL := wall_t (tb_5 24 (by decide +kernel)) rfl
theorem w_m_X11_161 : Cond.methodLink "OppositePairsModel" 161 yX11_movesNodes ∈ WALL := wall_t (tb_5 72 (by decide +kernel)) rfl
theorem w_m_X11_177 : Cond.methodLink "OppositePairsModel" 177 yX11_sizeOf ∈ WALL := wall_t (tb_5 108 (by decide +kernel)) rfl
theorem w_m_X11_180 : Cond.methodLink "OppositePairsModel" 180 yX11_positives ∈ WALL := wall_t (tb_5 124 (by decide +kernel)) rfl
theorem w_m_X11_27 : Cond.methodLink "OppositePairsModel" 27 yX11_partsAt ∈ WALL := wall_t (tb_5 116 (by decide +kernel)) rfl
theorem w_m_X11_31 : Cond.methodLink "OppositePairsModel" 31 yX11_part ∈ WALL := wall_t (tb_5 120 (by decide +kernel)) rfl
theorem w_m_X11_35 : Cond.methodLink "OppositePairsModel" 35 yX11_sizeAt ∈ WALL := wall_t (tb_5 112 (by decide +kernel)) rfl
theorem ws_sel_X11_movesNodes : Cond.selects "OppositePairsModel" yX11_movesNodes yX11_movesNodes ∈ WALL := wall_s 100 (by decide +kernel) rfl
theorem ws_sel_X11_part : Cond.selects "OppositePairsModel" yX11_part yX11_part ∈ WALL := wall_s 107 (by decide +kernel) rfl
theorem ws_sel_X11_partsAt : Cond.selects "OppositePairsModel" yX11_partsAt yX11_partsAt ∈ WALL := wall_s 106 (by decide +kernel) rfl
theorem ws_sel_X11_positives : Cond.selects "OppositePairsModel" yX11_positives yX11_positives ∈ WALL := wall_s 108 (by decide +kernel) rfl
theorem ws_sel_X11_readsClause : Cond.selects "OppositePairsModel" yX11_readsClause yX11_readsClause ∈ WALL := wall_s 88 (by decide +kernel) rfl
theorem ws_sel_X11_sizeAt : Cond.selects "OppositePairsModel" yX11_sizeAt yX11_sizeAt ∈ WALL := wall_s 105 (by decide +kernel) rfl
theorem ws_sel_X11_sizeOf : Cond.selects "OppositePairsModel" yX11_sizeOf yX11_sizeOf ∈ WALL := wall_s 104 (by decide +kernel) rfl
theorem dX11_areOf_0 : decode cX11_areOf 0 = .ok (.aload_n 0, 1) := by decide +kernel
theorem dX11_areOf_1 : decode cX11_areOf 1 = .ok (.getfield 23, 3) := by decide +kernel
theorem dX11_areOf_10 : decode cX11_areOf 10 = .ok (.iload_n 2, 1) := by decide +kernel
theorem dX11_areOf_11 : decode cX11_areOf 11 = .ok (.laload, 1) := by decide +kernel
theorem dX11_areOf_12 : decode cX11_areOf 12 = .ok (.lcmp, 1) := by decide +kernel
theorem dX11_areOf_13 : decode cX11_areOf 13 = .ok (.ifCond .ne 20, 3) := by decide +kernel
theorem dX11_areOf_16 : decode cX11_areOf 16 = .ok (.aload_n 0, 1) := by decide +kernel
theorem dX11_areOf_17 : decode cX11_areOf 17 = .ok (.iload_n 1, 1) := by decide +kernel
theorem dX11_areOf_18 : decode cX11_areOf 18 = .ok (.invokevirtual 27, 3) := by decide +kernel
theorem dX11_areOf_21 : decode cX11_areOf 21 = .ok (.aload_n 0, 1) := by decide +kernel
theorem dX11_areOf_22 : decode cX11_areOf 22 = .ok (.iload_n 2, 1) := by decide +kernel
theorem dX11_areOf_23 : decode cX11_areOf 23 = .ok (.invokevirtual 27, 3) := by decide +kernel
theorem dX11_areOf_26 : decode cX11_areOf 26 = .ok (.if_icmp .ne 7, 3) := by decide +kernel
theorem dX11_areOf_29 : decode cX11_areOf 29 = .ok (.iconst 1, 1) := by decide +kernel
theorem dX11_areOf_30 : decode cX11_areOf 30 = .ok (.goto 4, 3) := by decide +kernel
theorem dX11_areOf_33 : decode cX11_areOf 33 = .ok (.iconst 0, 1) := by decide +kernel
theorem dX11_areOf_34 : decode cX11_areOf 34 = .ok (.ireturn, 1) := by decide +kernel
theorem dX11_areOf_4 : decode cX11_areOf 4 = .ok (.iload_n 1, 1) := by decide +kernel
theorem dX11_areOf_5 : decode cX11_areOf 5 = .ok (.laload, 1) := by decide +kernel
theorem dX11_areOf_6 : decode cX11_areOf 6 = .ok (.aload_n 0, 1) := by decide +kernel
theorem dX11_areOf_7 : decode cX11_areOf 7 = .ok (.getfield 23, 3) := by decide +kernel
theorem dX11_clause_0 : decode cX11_clause 0 = .ok (.aload_n 0, 1) := by decide +kernel
theorem dX11_clause_1 : decode cX11_clause 1 = .ok (.iconst 0, 1) := by decide +kernel
theorem dX11_clause_10 : decode cX11_clause 10 = .ok (.ifCond .ne 5, 3) := by decide +kernel
theorem dX11_clause_102 : decode cX11_clause 102 = .ok (.aload_n 0, 1) := by decide +kernel
theorem dX11_clause_103 : decode cX11_clause 103 = .ok (.iload_n 1, 1) := by decide +kernel
theorem dX11_clause_104 : decode cX11_clause 104 = .ok (.iload_n 2, 1) := by decide +kernel
theorem dX11_clause_105 : decode cX11_clause 105 = .ok (.bipush 10, 2) := by decide +kernel
theorem dX11_clause_107 : decode cX11_clause 107 = .ok (.isub, 1) := by decide +kernel
theorem dX11_clause_108 : decode cX11_clause 108 = .ok (.invokevirtual 149, 3) := by decide +kernel
theorem dX11_clause_111 : decode cX11_clause 111 = .ok (.iaload, 1) := by decide +kernel
theorem dX11_clause_112 : decode cX11_clause 112 = .ok (.invokevirtual 27, 3) := by decide +kernel
theorem dX11_clause_115 : decode cX11_clause 115 = .ok (.goto 4, 3) := by decide +kernel
theorem dX11_clause_118 : decode cX11_clause 118 = .ok (.iconst (-1), 1) := by decide +kernel
theorem dX11_clause_119 : decode cX11_clause 119 = .ok (.ireturn, 1) := by decide +kernel
theorem dX11_clause_13 : decode cX11_clause 13 = .ok (.iconst (-1), 1) := by decide +kernel
theorem dX11_clause_14 : decode cX11_clause 14 = .ok (.ireturn, 1) := by decide +kernel
theorem dX11_clause_15 : decode cX11_clause 15 = .ok (.iload_n 2, 1) := by decide +kernel
theorem dX11_clause_16 : decode cX11_clause 16 = .ok (.tableswitch 58 0 3 #[32, 39, 46, 52], 32) := by decide +kernel
theorem dX11_clause_2 : decode cX11_clause 2 = .ok (.putfield 1, 3) := by decide +kernel
theorem dX11_clause_48 : decode cX11_clause 48 = .ok (.aload_n 0, 1) := by decide +kernel
theorem dX11_clause_49 : decode cX11_clause 49 = .ok (.getfield 142, 3) := by decide +kernel
theorem dX11_clause_5 : decode cX11_clause 5 = .ok (.aload_n 0, 1) := by decide +kernel
theorem dX11_clause_52 : decode cX11_clause 52 = .ok (.iload_n 1, 1) := by decide +kernel
theorem dX11_clause_53 : decode cX11_clause 53 = .ok (.iaload, 1) := by decide +kernel
theorem dX11_clause_54 : decode cX11_clause 54 = .ok (.ireturn, 1) := by decide +kernel
theorem dX11_clause_55 : decode cX11_clause 55 = .ok (.aload_n 0, 1) := by decide +kernel
theorem dX11_clause_56 : decode cX11_clause 56 = .ok (.getfield 102, 3) := by decide +kernel
theorem dX11_clause_59 : decode cX11_clause 59 = .ok (.iload_n 1, 1) := by decide +kernel
theorem dX11_clause_6 : decode cX11_clause 6 = .ok (.iload_n 1, 1) := by decide +kernel
theorem dX11_clause_60 : decode cX11_clause 60 = .ok (.iaload, 1) := by decide +kernel
theorem dX11_clause_61 : decode cX11_clause 61 = .ok (.ireturn, 1) := by decide +kernel
theorem dX11_clause_62 : decode cX11_clause 62 = .ok (.aload_n 0, 1) := by decide +kernel
theorem dX11_clause_63 : decode cX11_clause 63 = .ok (.iload_n 1, 1) := by decide +kernel
theorem dX11_clause_64 : decode cX11_clause 64 = .ok (.invokevirtual 177, 3) := by decide +kernel
theorem dX11_clause_67 : decode cX11_clause 67 = .ok (.ireturn, 1) := by decide +kernel
theorem dX11_clause_68 : decode cX11_clause 68 = .ok (.aload_n 0, 1) := by decide +kernel
theorem dX11_clause_69 : decode cX11_clause 69 = .ok (.iload_n 1, 1) := by decide +kernel
theorem dX11_clause_7 : decode cX11_clause 7 = .ok (.invokevirtual 174, 3) := by decide +kernel
theorem dX11_clause_70 : decode cX11_clause 70 = .ok (.invokevirtual 180, 3) := by decide +kernel
theorem dX11_clause_73 : decode cX11_clause 73 = .ok (.ireturn, 1) := by decide +kernel
theorem dX11_clause_74 : decode cX11_clause 74 = .ok (.aload_n 0, 1) := by decide +kernel
theorem dX11_clause_75 : decode cX11_clause 75 = .ok (.iload_n 2, 1) := by decide +kernel
theorem dX11_clause_76 : decode cX11_clause 76 = .ok (.i2l, 1) := by decide +kernel
theorem dX11_clause_77 : decode cX11_clause 77 = .ok (.ldc2_w 183, 3) := by decide +kernel
theorem dX11_clause_80 : decode cX11_clause 80 = .ok (.ldc2_w 185, 3) := by decide +kernel
theorem dX11_clause_83 : decode cX11_clause 83 = .ok (.aload_n 0, 1) := by decide +kernel
theorem dX11_clause_84 : decode cX11_clause 84 = .ok (.getfield 142, 3) := by decide +kernel
theorem dX11_clause_87 : decode cX11_clause 87 = .ok (.iload_n 1, 1) := by decide +kernel
theorem dX11_clause_88 : decode cX11_clause 88 = .ok (.iaload, 1) := by decide +kernel
theorem dX11_clause_89 : decode cX11_clause 89 = .ok (.i2l, 1) := by decide +kernel
theorem dX11_clause_90 : decode cX11_clause 90 = .ok (.ladd, 1) := by decide +kernel
theorem dX11_clause_91 : decode cX11_clause 91 = .ok (.invokevirtual 49, 3) := by decide +kernel
theorem dX11_clause_94 : decode cX11_clause 94 = .ok (.ifCond .eq 24, 3) := by decide +kernel
theorem dX11_clause_97 : decode cX11_clause 97 = .ok (.aload_n 0, 1) := by decide +kernel
theorem dX11_clause_98 : decode cX11_clause 98 = .ok (.aload_n 0, 1) := by decide +kernel
theorem dX11_clause_99 : decode cX11_clause 99 = .ok (.getfield 152, 3) := by decide +kernel
theorem dX11_clauses_0 : decode cX11_clauses 0 = .ok (.aload_n 0, 1) := by decide +kernel
theorem dX11_clauses_1 : decode cX11_clauses 1 = .ok (.iconst 0, 1) := by decide +kernel
theorem dX11_clauses_10 : decode cX11_clauses 10 = .ok (.aload_n 0, 1) := by decide +kernel
theorem dX11_clauses_101 : decode cX11_clauses 101 = .ok (.iconst 0, 1) := by decide +kernel
theorem dX11_clauses_102 : decode cX11_clauses 102 = .ok (.istore_n 2, 1) := by decide +kernel
theorem dX11_clauses_103 : decode cX11_clauses 103 = .ok (.iload_n 2, 1) := by decide +kernel
theorem dX11_clauses_104 : decode cX11_clauses 104 = .ok (.aload_n 0, 1) := by decide +kernel
theorem dX11_clauses_105 : decode cX11_clauses 105 = .ok (.getfield 164, 3) := by decide +kernel
theorem dX11_clauses_108 : decode cX11_clauses 108 = .ok (.if_icmp .ge 18, 3) := by decide +kernel
theorem dX11_clauses_11 : decode cX11_clauses 11 = .ok (.iconst 0, 1) := by decide +kernel
theorem dX11_clauses_111 : decode cX11_clauses 111 = .ok (.aload_n 0, 1) := by decide +kernel
theorem dX11_clauses_112 : decode cX11_clauses 112 = .ok (.bipush 16, 2) := by decide +kernel
theorem dX11_clauses_114 : decode cX11_clauses 114 = .ok (.iload_n 2, 1) := by decide +kernel
theorem dX11_clauses_115 : decode cX11_clauses 115 = .ok (.iadd, 1) := by decide +kernel
theorem dX11_clauses_116 : decode cX11_clauses 116 = .ok (.iload_n 2, 1) := by decide +kernel
theorem dX11_clauses_117 : decode cX11_clauses 117 = .ok (.invokevirtual 167, 3) := by decide +kernel
theorem dX11_clauses_12 : decode cX11_clauses 12 = .ok (.putfield 65, 3) := by decide +kernel
theorem dX11_clauses_120 : decode cX11_clauses 120 = .ok (.iinc 2 1, 3) := by decide +kernel
theorem dX11_clauses_123 : decode cX11_clauses 123 = .ok (.goto (-20), 3) := by decide +kernel
theorem dX11_clauses_126 : decode cX11_clauses 126 = .ok (.aload_n 0, 1) := by decide +kernel
theorem dX11_clauses_127 : decode cX11_clauses 127 = .ok (.invokevirtual 171, 3) := by decide +kernel
theorem dX11_clauses_130 : decode cX11_clauses 130 = .ok (.aload_n 0, 1) := by decide +kernel
theorem dX11_clauses_131 : decode cX11_clauses 131 = .ok (.getfield 164, 3) := by decide +kernel
theorem dX11_clauses_134 : decode cX11_clauses 134 = .ok (.ireturn, 1) := by decide +kernel
theorem dX11_clauses_15 : decode cX11_clauses 15 = .ok (.aload_n 0, 1) := by decide +kernel
theorem dX11_clauses_16 : decode cX11_clauses 16 = .ok (.iconst (-1), 1) := by decide +kernel
theorem dX11_clauses_17 : decode cX11_clauses 17 = .ok (.putfield 71, 3) := by decide +kernel
theorem dX11_clauses_2 : decode cX11_clauses 2 = .ok (.putfield 1, 3) := by decide +kernel
theorem dX11_clauses_20 : decode cX11_clauses 20 = .ok (.aload_n 0, 1) := by decide +kernel
theorem dX11_clauses_21 : decode cX11_clauses 21 = .ok (.iconst 0, 1) := by decide +kernel
theorem dX11_clauses_22 : decode cX11_clauses 22 = .ok (.putfield 74, 3) := by decide +kernel
theorem dX11_clauses_25 : decode cX11_clauses 25 = .ok (.aload_n 0, 1) := by decide +kernel
theorem dX11_clauses_26 : decode cX11_clauses 26 = .ok (.iconst 0, 1) := by decide +kernel
theorem dX11_clauses_27 : decode cX11_clauses 27 = .ok (.putfield 130, 3) := by decide +kernel
theorem dX11_clauses_30 : decode cX11_clauses 30 = .ok (.aload_n 0, 1) := by decide +kernel
theorem dX11_clauses_31 : decode cX11_clauses 31 = .ok (.bipush 16, 2) := by decide +kernel
theorem dX11_clauses_33 : decode cX11_clauses 33 = .ok (.putfield 105, 3) := by decide +kernel
theorem dX11_clauses_36 : decode cX11_clauses 36 = .ok (.aload_n 0, 1) := by decide +kernel
theorem dX11_clauses_37 : decode cX11_clauses 37 = .ok (.getfield 20, 3) := by decide +kernel
theorem dX11_clauses_40 : decode cX11_clauses 40 = .ok (.istore_n 1, 1) := by decide +kernel
theorem dX11_clauses_41 : decode cX11_clauses 41 = .ok (.aload_n 0, 1) := by decide +kernel
theorem dX11_clauses_42 : decode cX11_clauses 42 = .ok (.invokevirtual 98, 3) := by decide +kernel
theorem dX11_clauses_45 : decode cX11_clauses 45 = .ok (.aload_n 0, 1) := by decide +kernel
theorem dX11_clauses_46 : decode cX11_clauses 46 = .ok (.getfield 61, 3) := by decide +kernel
theorem dX11_clauses_49 : decode cX11_clauses 49 = .ok (.ifCond .ne 17, 3) := by decide +kernel
theorem dX11_clauses_5 : decode cX11_clauses 5 = .ok (.aload_n 0, 1) := by decide +kernel
theorem dX11_clauses_52 : decode cX11_clauses 52 = .ok (.aload_n 0, 1) := by decide +kernel
theorem dX11_clauses_53 : decode cX11_clauses 53 = .ok (.getfield 87, 3) := by decide +kernel
theorem dX11_clauses_56 : decode cX11_clauses 56 = .ok (.ifCond .eq 10, 3) := by decide +kernel
theorem dX11_clauses_59 : decode cX11_clauses 59 = .ok (.aload_n 0, 1) := by decide +kernel
theorem dX11_clauses_6 : decode cX11_clauses 6 = .ok (.iconst 0, 1) := by decide +kernel
theorem dX11_clauses_60 : decode cX11_clauses 60 = .ok (.invokevirtual 158, 3) := by decide +kernel
theorem dX11_clauses_63 : decode cX11_clauses 63 = .ok (.goto (-18), 3) := by decide +kernel
theorem dX11_clauses_66 : decode cX11_clauses 66 = .ok (.aload_n 0, 1) := by decide +kernel
theorem dX11_clauses_67 : decode cX11_clauses 67 = .ok (.iconst 0, 1) := by decide +kernel
theorem dX11_clauses_68 : decode cX11_clauses 68 = .ok (.putfield 38, 3) := by decide +kernel
theorem dX11_clauses_7 : decode cX11_clauses 7 = .ok (.putfield 61, 3) := by decide +kernel
theorem dX11_clauses_71 : decode cX11_clauses 71 = .ok (.aload_n 0, 1) := by decide +kernel
theorem dX11_clauses_72 : decode cX11_clauses 72 = .ok (.getfield 61, 3) := by decide +kernel
theorem dX11_clauses_75 : decode cX11_clauses 75 = .ok (.ifCond .eq 10, 3) := by decide +kernel
theorem dX11_clauses_78 : decode cX11_clauses 78 = .ok (.aload_n 0, 1) := by decide +kernel
theorem dX11_clauses_79 : decode cX11_clauses 79 = .ok (.iload_n 1, 1) := by decide +kernel
theorem dX11_clauses_80 : decode cX11_clauses 80 = .ok (.putfield 20, 3) := by decide +kernel
theorem dX11_clauses_83 : decode cX11_clauses 83 = .ok (.iconst (-1), 1) := by decide +kernel
theorem dX11_clauses_84 : decode cX11_clauses 84 = .ok (.ireturn, 1) := by decide +kernel
theorem dX11_clauses_85 : decode cX11_clauses 85 = .ok (.aload_n 0, 1) := by decide +kernel
theorem dX11_clauses_86 : decode cX11_clauses 86 = .ok (.iload_n 1, 1) := by decide +kernel
theorem dX11_clauses_87 : decode cX11_clauses 87 = .ok (.invokevirtual 161, 3) := by decide +kernel
theorem dX11_clauses_90 : decode cX11_clauses 90 = .ok (.aload_n 0, 1) := by decide +kernel
theorem dX11_clauses_91 : decode cX11_clauses 91 = .ok (.aload_n 0, 1) := by decide +kernel
theorem dX11_clauses_92 : decode cX11_clauses 92 = .ok (.getfield 105, 3) := by decide +kernel
theorem dX11_clauses_95 : decode cX11_clauses 95 = .ok (.bipush 16, 2) := by decide +kernel
theorem dX11_clauses_97 : decode cX11_clauses 97 = .ok (.isub, 1) := by decide +kernel
theorem dX11_clauses_98 : decode cX11_clauses 98 = .ok (.putfield 164, 3) := by decide +kernel
theorem dX11_sizeAt_0 : decode cX11_sizeAt 0 = .ok (.iconst 1, 1) := by decide +kernel
theorem dX11_sizeAt_1 : decode cX11_sizeAt 1 = .ok (.istore_n 2, 1) := by decide +kernel
theorem dX11_sizeAt_10 : decode cX11_sizeAt 10 = .ok (.if_icmp .ge 22, 3) := by decide +kernel
theorem dX11_sizeAt_13 : decode cX11_sizeAt 13 = .ok (.iload_n 2, 1) := by decide +kernel
theorem dX11_sizeAt_14 : decode cX11_sizeAt 14 = .ok (.aload_n 0, 1) := by decide +kernel
theorem dX11_sizeAt_15 : decode cX11_sizeAt 15 = .ok (.aload_n 0, 1) := by decide +kernel
theorem dX11_sizeAt_16 : decode cX11_sizeAt 16 = .ok (.iload_n 1, 1) := by decide +kernel
theorem dX11_sizeAt_17 : decode cX11_sizeAt 17 = .ok (.iload_n 3, 1) := by decide +kernel
theorem dX11_sizeAt_18 : decode cX11_sizeAt 18 = .ok (.invokevirtual 31, 3) := by decide +kernel
theorem dX11_sizeAt_2 : decode cX11_sizeAt 2 = .ok (.iconst 0, 1) := by decide +kernel
theorem dX11_sizeAt_21 : decode cX11_sizeAt 21 = .ok (.invokevirtual 35, 3) := by decide +kernel
theorem dX11_sizeAt_24 : decode cX11_sizeAt 24 = .ok (.iadd, 1) := by decide +kernel
theorem dX11_sizeAt_25 : decode cX11_sizeAt 25 = .ok (.istore_n 2, 1) := by decide +kernel
theorem dX11_sizeAt_26 : decode cX11_sizeAt 26 = .ok (.iinc 3 1, 3) := by decide +kernel
theorem dX11_sizeAt_29 : decode cX11_sizeAt 29 = .ok (.goto (-25), 3) := by decide +kernel
theorem dX11_sizeAt_3 : decode cX11_sizeAt 3 = .ok (.istore_n 3, 1) := by decide +kernel
theorem dX11_sizeAt_32 : decode cX11_sizeAt 32 = .ok (.iload_n 2, 1) := by decide +kernel
theorem dX11_sizeAt_33 : decode cX11_sizeAt 33 = .ok (.ireturn, 1) := by decide +kernel
theorem dX11_sizeAt_4 : decode cX11_sizeAt 4 = .ok (.iload_n 3, 1) := by decide +kernel
theorem dX11_sizeAt_5 : decode cX11_sizeAt 5 = .ok (.aload_n 0, 1) := by decide +kernel
theorem dX11_sizeAt_6 : decode cX11_sizeAt 6 = .ok (.iload_n 1, 1) := by decide +kernel
theorem dX11_sizeAt_7 : decode cX11_sizeAt 7 = .ok (.invokevirtual 27, 3) := by decide +kernel
theorem dX11_sizeOf_0 : decode cX11_sizeOf 0 = .ok (.iconst 0, 1) := by decide +kernel
theorem dX11_sizeOf_1 : decode cX11_sizeOf 1 = .ok (.istore_n 2, 1) := by decide +kernel
theorem dX11_sizeOf_10 : decode cX11_sizeOf 10 = .ok (.iaload, 1) := by decide +kernel
theorem dX11_sizeOf_11 : decode cX11_sizeOf 11 = .ok (.if_icmp .ge 27, 3) := by decide +kernel
theorem dX11_sizeOf_14 : decode cX11_sizeOf 14 = .ok (.iload_n 2, 1) := by decide +kernel
theorem dX11_sizeOf_15 : decode cX11_sizeOf 15 = .ok (.aload_n 0, 1) := by decide +kernel
theorem dX11_sizeOf_16 : decode cX11_sizeOf 16 = .ok (.aload_n 0, 1) := by decide +kernel
theorem dX11_sizeOf_17 : decode cX11_sizeOf 17 = .ok (.getfield 152, 3) := by decide +kernel
theorem dX11_sizeOf_2 : decode cX11_sizeOf 2 = .ok (.iconst 0, 1) := by decide +kernel
theorem dX11_sizeOf_20 : decode cX11_sizeOf 20 = .ok (.aload_n 0, 1) := by decide +kernel
theorem dX11_sizeOf_21 : decode cX11_sizeOf 21 = .ok (.iload_n 1, 1) := by decide +kernel
theorem dX11_sizeOf_22 : decode cX11_sizeOf 22 = .ok (.iload_n 3, 1) := by decide +kernel
theorem dX11_sizeOf_23 : decode cX11_sizeOf 23 = .ok (.invokevirtual 149, 3) := by decide +kernel
theorem dX11_sizeOf_26 : decode cX11_sizeOf 26 = .ok (.iaload, 1) := by decide +kernel
theorem dX11_sizeOf_27 : decode cX11_sizeOf 27 = .ok (.invokevirtual 35, 3) := by decide +kernel
theorem dX11_sizeOf_3 : decode cX11_sizeOf 3 = .ok (.istore_n 3, 1) := by decide +kernel
theorem dX11_sizeOf_30 : decode cX11_sizeOf 30 = .ok (.iadd, 1) := by decide +kernel
theorem dX11_sizeOf_31 : decode cX11_sizeOf 31 = .ok (.istore_n 2, 1) := by decide +kernel
theorem dX11_sizeOf_32 : decode cX11_sizeOf 32 = .ok (.iinc 3 1, 3) := by decide +kernel
theorem dX11_sizeOf_35 : decode cX11_sizeOf 35 = .ok (.goto (-31), 3) := by decide +kernel
theorem dX11_sizeOf_38 : decode cX11_sizeOf 38 = .ok (.iload_n 2, 1) := by decide +kernel
theorem dX11_sizeOf_39 : decode cX11_sizeOf 39 = .ok (.ireturn, 1) := by decide +kernel
theorem dX11_sizeOf_4 : decode cX11_sizeOf 4 = .ok (.iload_n 3, 1) := by decide +kernel
theorem dX11_sizeOf_5 : decode cX11_sizeOf 5 = .ok (.aload_n 0, 1) := by decide +kernel
theorem dX11_sizeOf_6 : decode cX11_sizeOf 6 = .ok (.getfield 142, 3) := by decide +kernel
theorem dX11_sizeOf_9 : decode cX11_sizeOf 9 = .ok (.iload_n 1, 1) := by decide +kernel
theorem dX11_slotOf_0 : decode cX11_slotOf 0 = .ok (.bipush 8, 2) := by decide +kernel
theorem dX11_slotOf_10 : decode cX11_slotOf 10 = .ok (.iadd, 1) := by decide +kernel
theorem dX11_slotOf_11 : decode cX11_slotOf 11 = .ok (.ireturn, 1) := by decide +kernel
theorem dX11_slotOf_2 : decode cX11_slotOf 2 = .ok (.iload_n 2, 1) := by decide +kernel
theorem dX11_slotOf_3 : decode cX11_slotOf 3 = .ok (.imul, 1) := by decide +kernel
theorem dX11_slotOf_4 : decode cX11_slotOf 4 = .ok (.aload_n 0, 1) := by decide +kernel
theorem dX11_slotOf_5 : decode cX11_slotOf 5 = .ok (.getfield 17, 3) := by decide +kernel
theorem dX11_slotOf_8 : decode cX11_slotOf 8 = .ok (.iload_n 1, 1) := by decide +kernel
theorem dX11_slotOf_9 : decode cX11_slotOf 9 = .ok (.iaload, 1) := by decide +kernel
abbrev mo128 (v : Nat → Value) (a1 : Value) : List Value := ((v 0) :: a1 :: (v 2) :: (v 3) :: (v 4) :: (v 5) :: (v 6) :: (v 7) :: (v 8) :: (v 9) :: (v 10) :: (v 11) :: (v 12) :: (v 13) :: (v 14) :: (v 15) :: (v 16) :: (v 17) :: (v 18) :: (v 19) :: (v 20) :: (v 21) :: (v 22) :: (v 23) :: (v 24) :: (v 25) :: (v 26) :: (v 27) :: (v 28) :: (v 29) :: (v 30) :: (v 31) :: (v 32) :: (v 33) :: (v 34) :: (v 35) :: (v 36) :: (v 37) :: (v 38) :: (v 39) :: (v 40) :: (v 41) :: (v 42) :: [(v 43), (v 44), (v 45), (v 46), (v 47), (v 48), (v 49), (v 50), (v 51), (v 52), (v 53), (v 54), (v 55), (v 56), (v 57), (v 58), (v 59), (v 60), (v 61), (v 62), (v 63), (v 64), (v 65), (v 66), (v 67), (v 68), (v 69), (v 70)])
abbrev mo129 (v : Nat → Value) (a1 a2 a3 a4 a5 : Value) : List Value := ((v 0) :: a1 :: a2 :: a3 :: a4 :: a5 :: (v 6) :: (v 7) :: (v 8) :: (v 9) :: (v 10) :: (v 11) :: (v 12) :: (v 13) :: (v 14) :: (v 15) :: (v 16) :: (v 17) :: (v 18) :: (v 19) :: (v 20) :: (v 21) :: (v 22) :: (v 23) :: (v 24) :: (v 25) :: (v 26) :: (v 27) :: (v 28) :: (v 29) :: (v 30) :: (v 31) :: (v 32) :: (v 33) :: (v 34) :: (v 35) :: (v 36) :: (v 37) :: (v 38) :: (v 39) :: (v 40) :: (v 41) :: (v 42) :: [(v 43), (v 44), (v 45), (v 46), (v 47), (v 48), (v 49), (v 50), (v 51), (v 52), (v 53), (v 54), (v 55), (v 56), (v 57), (v 58), (v 59), (v 60), (v 61), (v 62), (v 63), (v 64), (v 65), (v 66), (v 67), (v 68), (v 69), (v 70)])
abbrev mo130 (v : Nat → Value) (a1 a3 a4 a5 a8 a12 : Value) : List Value := ((v 0) :: a1 :: (v 2) :: a3 :: a4 :: a5 :: (v 6) :: (v 7) :: a8 :: (v 9) :: (v 10) :: (v 11) :: a12 :: (v 13) :: (v 14) :: (v 15) :: (v 16) :: (v 17) :: (v 18) :: (v 19) :: (v 20) :: (v 21) :: (v 22) :: (v 23) :: (v 24) :: (v 25) :: (v 26) :: (v 27) :: (v 28) :: (v 29) :: (v 30) :: (v 31) :: (v 32) :: (v 33) :: (v 34) :: (v 35) :: (v 36) :: (v 37) :: (v 38) :: (v 39) :: (v 40) :: (v 41) :: (v 42) :: [(v 43), (v 44), (v 45), (v 46), (v 47), (v 48), (v 49), (v 50), (v 51), (v 52), (v 53), (v 54), (v 55), (v 56), (v 57), (v 58), (v 59), (v 60), (v 61), (v 62), (v 63), (v 64), (v 65), (v 66), (v 67), (v 68), (v 69), (v 70)])
abbrev mo131 (v : Nat → Value) (a1 a3 a4 a5 a7 a8 a9 a11 a12 : Value) : List Value := ((v 0) :: a1 :: (v 2) :: a3 :: a4 :: a5 :: (v 6) :: a7 :: a8 :: a9 :: (v 10) :: a11 :: a12 :: (v 13) :: (v 14) :: (v 15) :: (v 16) :: (v 17) :: (v 18) :: (v 19) :: (v 20) :: (v 21) :: (v 22) :: (v 23) :: (v 24) :: (v 25) :: (v 26) :: (v 27) :: (v 28) :: (v 29) :: (v 30) :: (v 31) :: (v 32) :: (v 33) :: (v 34) :: (v 35) :: (v 36) :: (v 37) :: (v 38) :: (v 39) :: (v 40) :: (v 41) :: (v 42) :: [(v 43), (v 44), (v 45), (v 46), (v 47), (v 48), (v 49), (v 50), (v 51), (v 52), (v 53), (v 54), (v 55), (v 56), (v 57), (v 58), (v 59), (v 60), (v 61), (v 62), (v 63), (v 64), (v 65), (v 66), (v 67), (v 68), (v 69), (v 70)])
abbrev mo132 (v : Nat → Value) (a0 a1 a3 a4 a5 a7 a8 a9 a11 a12 : Value) : List Value := (a0 :: a1 :: (v 2) :: a3 :: a4 :: a5 :: (v 6) :: a7 :: a8 :: a9 :: (v 10) :: a11 :: a12 :: (v 13) :: (v 14) :: (v 15) :: (v 16) :: (v 17) :: (v 18) :: (v 19) :: (v 20) :: (v 21) :: (v 22) :: (v 23) :: (v 24) :: (v 25) :: (v 26) :: (v 27) :: (v 28) :: (v 29) :: (v 30) :: (v 31) :: (v 32) :: (v 33) :: (v 34) :: (v 35) :: (v 36) :: (v 37) :: (v 38) :: (v 39) :: (v 40) :: (v 41) :: (v 42) :: [(v 43), (v 44), (v 45), (v 46), (v 47), (v 48), (v 49), (v 50), (v 51), (v 52), (v 53), (v 54), (v 55), (v 56), (v 57), (v 58), (v 59), (v 60), (v 61), (v 62), (v 63), (v 64), (v 65), (v 66), (v 67), (v 68), (v 69), (v 70)])
abbrev mo133 (v : Nat → Value) (a1 a2 a3 a4 a5 a6 a7 a8 a9 a10 a11 a12 a13 a14 a15 a16 a17 a18 a19 a20 a21 a22 a23 a24 a58 a60 : Value) : List Value := ((v 0) :: a1 :: a2 :: a3 :: a4 :: a5 :: a6 :: a7 :: a8 :: a9 :: a10 :: a11 :: a12 :: a13 :: a14 :: a15 :: a16 :: a17 :: a18 :: a19 :: a20 :: a21 :: a22 :: a23 :: a24 :: (v 25) :: (v 26) :: (v 27) :: (v 28) :: (v 29) :: (v 30) :: (v 31) :: (v 32) :: (v 33) :: (v 34) :: (v 35) :: (v 36) :: (v 37) :: (v 38) :: (v 39) :: (v 40) :: (v 41) :: (v 42) :: [(v 43), (v 44), (v 45), (v 46), (v 47), (v 48), (v 49), (v 50), (v 51), (v 52), (v 53), (v 54), (v 55), (v 56), (v 57), a58, (v 59), a60, (v 61), (v 62), (v 63), (v 64), (v 65), (v 66), (v 67), (v 68), (v 69), (v 70)])
abbrev mo134 (v : Nat → Value) (a0 a1 a2 a3 a4 a5 a6 a7 a8 a9 a10 a11 a12 a13 a14 a15 a16 a17 a18 a19 a20 a21 a22 a23 a24 a58 a60 : Value) : List Value := (a0 :: a1 :: a2 :: a3 :: a4 :: a5 :: a6 :: a7 :: a8 :: a9 :: a10 :: a11 :: a12 :: a13 :: a14 :: a15 :: a16 :: a17 :: a18 :: a19 :: a20 :: a21 :: a22 :: a23 :: a24 :: (v 25) :: (v 26) :: (v 27) :: (v 28) :: (v 29) :: (v 30) :: (v 31) :: (v 32) :: (v 33) :: (v 34) :: (v 35) :: (v 36) :: (v 37) :: (v 38) :: (v 39) :: (v 40) :: (v 41) :: (v 42) :: [(v 43), (v 44), (v 45), (v 46), (v 47), (v 48), (v 49), (v 50), (v 51), (v 52), (v 53), (v 54), (v 55), (v 56), (v 57), a58, (v 59), a60, (v 61), (v 62), (v 63), (v 64), (v 65), (v 66), (v 67), (v 68), (v 69), (v 70)])
set_option maxRecDepth 100000 in
theorem mq129_86 (v : Nat → Value) (b2 : Value) : ∃ w : Nat → Value, ∀ (a1 a3 a4 a5 : Value), mo86 w a1 a3 a4 a5 = (mo129 v a1 b2 a3 a4 a5) := ⟨fun k => List.getD (mo129 v .null b2 .null .null .null) k .null, fun _ _ _ _ => rfl⟩
set_option maxRecDepth 100000 in
theorem mq86_85 (v : Nat → Value) (b1 : Value) : ∃ w : Nat → Value, ∀ (a3 a4 a5 : Value), mo85 w a3 a4 a5 = (mo86 v b1 a3 a4 a5) := ⟨fun k => List.getD (mo86 v b1 .null .null .null) k .null, fun _ _ _ => rfl⟩
set_option maxRecDepth 100000 in
theorem mq130_86 (v : Nat → Value) (b8 b12 : Value) : ∃ w : Nat → Value, ∀ (a1 a3 a4 a5 : Value), mo86 w a1 a3 a4 a5 = (mo130 v a1 a3 a4 a5 b8 b12) := ⟨fun k => List.getD (mo130 v .null .null .null .null b8 b12) k .null, fun _ _ _ _ => rfl⟩
set_option maxRecDepth 100000 in
theorem mq132_99 (v : Nat → Value) (b0 b1 b3 b4 b5 b8 b9 b11 b12 : Value) : ∃ w : Nat → Value, ∀ (a7 : Value), mo99 w a7 = (mo132 v b0 b1 b3 b4 b5 a7 b8 b9 b11 b12) := ⟨fun k => List.getD (mo132 v b0 b1 b3 b4 b5 .null b8 b9 b11 b12) k .null, fun _ => rfl⟩
set_option maxRecDepth 100000 in
theorem mq132_86 (v : Nat → Value) (b0 b7 b8 b9 b11 b12 : Value) : ∃ w : Nat → Value, ∀ (a1 a3 a4 a5 : Value), mo86 w a1 a3 a4 a5 = (mo132 v b0 a1 a3 a4 a5 b7 b8 b9 b11 b12) := ⟨fun k => List.getD (mo132 v b0 .null .null .null .null b7 b8 b9 b11 b12) k .null, fun _ _ _ _ => rfl⟩
set_option maxRecDepth 100000 in
theorem mq132_130 (v : Nat → Value) (b0 b7 b9 b11 : Value) : ∃ w : Nat → Value, ∀ (a1 a3 a4 a5 a8 a12 : Value), mo130 w a1 a3 a4 a5 a8 a12 = (mo132 v b0 a1 a3 a4 a5 b7 a8 b9 b11 a12) := ⟨fun k => List.getD (mo132 v b0 .null .null .null .null b7 .null b9 b11 .null) k .null, fun _ _ _ _ _ _ => rfl⟩
set_option maxRecDepth 100000 in
theorem mq132_102 (v : Nat → Value) (b0 b1 b3 b4 b5 b7 b9 b12 : Value) : ∃ w : Nat → Value, ∀ (a8 a11 : Value), mo102 w a8 a11 = (mo132 v b0 b1 b3 b4 b5 b7 a8 b9 a11 b12) := ⟨fun k => List.getD (mo132 v b0 b1 b3 b4 b5 b7 .null b9 .null b12) k .null, fun _ _ => rfl⟩
set_option maxRecDepth 100000 in
theorem mq134_89 (v : Nat → Value) (b0 b1 b2 b3 b4 b5 b6 b7 b8 b9 b10 b11 b12 b20 b21 b22 b23 b24 b58 b60 : Value) : ∃ w : Nat → Value, ∀ (a13 a14 a15 a16 a17 a18 a19 : Value), mo89 w a13 a14 a15 a16 a17 a18 a19 = (mo134 v b0 b1 b2 b3 b4 b5 b6 b7 b8 b9 b10 b11 b12 a13 a14 a15 a16 a17 a18 a19 b20 b21 b22 b23 b24 b58 b60) := ⟨fun k => List.getD (mo134 v b0 b1 b2 b3 b4 b5 b6 b7 b8 b9 b10 b11 b12 .null .null .null .null .null .null .null b20 b21 b22 b23 b24 b58 b60) k .null, fun _ _ _ _ _ _ _ => rfl⟩
set_option maxRecDepth 100000 in
theorem mq134_127 (v : Nat → Value) (b0 b7 b9 b10 b11 b13 b14 b15 b16 b17 b18 b19 b20 b21 b22 b23 b58 b60 : Value) : ∃ w : Nat → Value, ∀ (a1 a2 a3 a4 a5 a6 a8 a12 a24 : Value), mo127 w a1 a2 a3 a4 a5 a6 a8 a12 a24 = (mo134 v b0 a1 a2 a3 a4 a5 a6 b7 a8 b9 b10 b11 a12 b13 b14 b15 b16 b17 b18 b19 b20 b21 b22 b23 a24 b58 b60) := ⟨fun k => List.getD (mo134 v b0 .null .null .null .null .null .null b7 .null b9 b10 b11 .null b13 b14 b15 b16 b17 b18 b19 b20 b21 b22 b23 .null b58 b60) k .null, fun _ _ _ _ _ _ _ _ _ => rfl⟩
set_option maxRecDepth 100000 in
theorem mq134_103 (v : Nat → Value) (b0 b1 b2 b3 b4 b5 b6 b7 b8 b9 b10 b11 b12 b13 b14 b15 b16 b17 b18 b19 b20 b21 b22 b23 b24 : Value) : ∃ w : Nat → Value, ∀ (a58 a60 : Value), mo103 w a58 a60 = (mo134 v b0 b1 b2 b3 b4 b5 b6 b7 b8 b9 b10 b11 b12 b13 b14 b15 b16 b17 b18 b19 b20 b21 b22 b23 b24 a58 a60) := ⟨fun k => List.getD (mo134 v b0 b1 b2 b3 b4 b5 b6 b7 b8 b9 b10 b11 b12 b13 b14 b15 b16 b17 b18 b19 b20 b21 b22 b23 b24 .null .null) k .null, fun _ _ => rfl⟩
set_option maxRecDepth 100000 in
theorem mq134_101 (v : Nat → Value) (b0 b1 b2 b3 b4 b5 b6 b7 b13 b14 b15 b16 b17 b18 b19 b20 b21 b22 b23 b24 b58 b60 : Value) : ∃ w : Nat → Value, ∀ (a8 a9 a10 a11 a12 : Value), mo101 w a8 a9 a10 a11 a12 = (mo134 v b0 b1 b2 b3 b4 b5 b6 b7 a8 a9 a10 a11 a12 b13 b14 b15 b16 b17 b18 b19 b20 b21 b22 b23 b24 b58 b60) := ⟨fun k => List.getD (mo134 v b0 b1 b2 b3 b4 b5 b6 b7 .null .null .null .null .null b13 b14 b15 b16 b17 b18 b19 b20 b21 b22 b23 b24 b58 b60) k .null, fun _ _ _ _ _ => rfl⟩
set_option maxRecDepth 100000 in
theorem mq134_126 (v : Nat → Value) (b0 b7 b58 b60 : Value) : ∃ w : Nat → Value, ∀ (a1 a2 a3 a4 a5 a6 a8 a9 a10 a11 a12 a13 a14 a15 a16 a17 a18 a19 a20 a21 a22 a23 a24 : Value), mo126 w a1 a2 a3 a4 a5 a6 a8 a9 a10 a11 a12 a13 a14 a15 a16 a17 a18 a19 a20 a21 a22 a23 a24 = (mo134 v b0 a1 a2 a3 a4 a5 a6 b7 a8 a9 a10 a11 a12 a13 a14 a15 a16 a17 a18 a19 a20 a21 a22 a23 a24 b58 b60) := ⟨fun k => List.getD (mo134 v b0 .null .null .null .null .null .null b7 .null .null .null .null .null .null .null .null .null .null .null .null .null .null .null .null .null b58 b60) k .null, fun _ _ _ _ _ _ _ _ _ _ _ _ _ _ _ _ _ _ _ _ _ _ _ => rfl⟩
set_option maxHeartbeats 8000000 in
set_option maxRecDepth 100000 in
theorem c_X11_partsAt_e (l : Launch) (dC : Nat → ClassId) (dI : Nat → Nat → Nat) (sz : Nat) (h_mm : Nat) (h_nv : Nat) (h_na : Nat) (h_nb : Nat) (h_nc : Nat) (v_mm : Nat → Value) (cy_nv : ClassId) (f_nv : Nat → Int32) (cy_na : ClassId) (f_na : Nat → Int32) (cy_nb : ClassId) (f_nb : Nat → Int32) (cy_nc : ClassId) (f_nc : Nat → Int32) (p1 : Int32) (hf_nv : Rg (-1) 7 f_nv) (hf_na : Rg (-1) 7999 f_na) (hf_nb : Rg (-1) 7999 f_nb) (hf_nc : Rg (-1) 7999 f_nc) (q0 : 0 ≤ (p1).toInt ∧ (p1).toInt ≤ 7999) : Met l yX11_partsAt (Ws yX11_partsAt cX11_partsAt 2 (some .int)) (({ frames := 0, cells := 0, slots := 0, locals := 0 } : Room)) (PRE (dC, dI) cls [(cy_nv, .int), (cy_na, .int), (cy_nb, .int), (cy_nc, .int)] [(h_mm, .inr (8, (mo86 v_mm (.ref h_nv) (.ref h_na) (.ref h_nb) (.ref h_nc)))), (h_nv, .inl (cy_nv, 8000, .inl f_nv)), (h_na, .inl (cy_na, 8000, .inl f_na)), (h_nb, .inl (cy_nb, 8000, .inl f_nb)), (h_nc, .inl (cy_nc, 8000, .inl f_nc))] sz [.ref h_mm, .int p1]) (va_Qi (fun (r : Int32) (_ : Unit) => (0 ≤ r.toInt ∧ r.toInt ≤ 3) ∧ ((r).toInt = (npx f_nv f_na f_nb f_nc (p1).toInt.toNat))) (fun (_ : Unit) (t : State) => va_P (dC, dI) cls [(h_mm, .inr (8, (mo86 v_mm (.ref h_nv) (.ref h_na) (.ref h_nb) (.ref h_nc)))), (h_nv, .inl (cy_nv, 8000, .inl f_nv)), (h_na, .inl (cy_na, 8000, .inl f_na)), (h_nb, .inl (cy_nb, 8000, .inl f_nb)), (h_nc, .inl (cy_nc, 8000, .inl f_nc))] t.heap ∧ va_D (va_A [(h_mm, .inr (8, (mo86 v_mm (.ref h_nv) (.ref h_na) (.ref h_nb) (.ref h_nc)))), (h_nv, .inl (cy_nv, 8000, .inl f_nv)), (h_na, .inl (cy_na, 8000, .inl f_na)), (h_nb, .inl (cy_nb, 8000, .inl f_nb)), (h_nc, .inl (cy_nc, 8000, .inl f_nc))] sz) [(h_mm, .inr (8, (mo86 v_mm (.ref h_nv) (.ref h_na) (.ref h_nb) (.ref h_nc)))), (h_nv, .inl (cy_nv, 8000, .inl f_nv)), (h_na, .inl (cy_na, 8000, .inl f_na)), (h_nb, .inl (cy_nb, 8000, .inl f_nb)), (h_nc, .inl (cy_nc, 8000, .inl f_nc))]) (va_A [(h_mm, .inr (8, (mo86 v_mm (.ref h_nv) (.ref h_na) (.ref h_nb) (.ref h_nc)))), (h_nv, .inl (cy_nv, 8000, .inl f_nv)), (h_na, .inl (cy_na, 8000, .inl f_na)), (h_nb, .inl (cy_nb, 8000, .inl f_nb)), (h_nc, .inl (cy_nc, 8000, .inl f_nc))] sz)) 0 0 (va_A [(h_mm, .inr (8, (mo86 v_mm (.ref h_nv) (.ref h_na) (.ref h_nb) (.ref h_nc)))), (h_nv, .inl (cy_nv, 8000, .inl f_nv)), (h_na, .inl (cy_na, 8000, .inl f_na)), (h_nb, .inl (cy_nb, 8000, .inl f_nb)), (h_nc, .inl (cy_nc, 8000, .inl f_nc))] sz) := by
  refine Met.ofW (cc := cX11_partsAt) (maxL := 2) (ret := (some .int)) (by decide) rfl ?_
  intro p e s m args below meth c s₁ B hml hv
  obtain ⟨rfl, hsz, hP, hK, hD0, hN⟩ := hv
  have hx := B.exec
  have hb := B.bytes
  have hr := B.returns
  have hts := atoms_spec (ws := Ws yX11_partsAt cX11_partsAt 2 (some .int)) B.pre
  have hT : ∀ w ∈ WALL, w ∈ Ws yX11_partsAt cX11_partsAt 2 (some .int) := fun w h => List.mem_cons_of_mem _ h
  have hw := fun w (h : w ∈ WALL) => hts w (hT w h)
  have hown : s.vm.findClass RX11 = some m.cls := findClass_of_methodNamed B.named
  have hlocks := B.notSynchronized
  subst hsz
  have hD := hD0.self (sz := s.heap.size)
  generalize hAe : va_A [(h_mm, .inr (8, (mo86 v_mm (.ref h_nv) (.ref h_na) (.ref h_nb) (.ref h_nc)))), (h_nv, .inl (cy_nv, 8000, .inl f_nv)), (h_na, .inl (cy_na, 8000, .inl f_na)), (h_nb, .inl (cy_nb, 8000, .inl f_nb)), (h_nc, .inl (cy_nc, 8000, .inl f_nc))] s.heap.size = A at hD ⊢
  have hA : ∀ q : Nat, s.heap.size ≤ q → A q := fun q h => by rw [← hAe]; exact Or.inr h
  have hS : va_S A s.heap s.heap [] := va_S.rf
  have hl := lv_entry ([.ref h_mm, .int p1]) (n := 2) (Nat.le_of_ble_eq_true rfl)
  rw [lg_entry_eq]
  generalize (lg_sl ([.ref h_mm, .int p1]) ++ List.replicate (2 - (lg_sl ([.ref h_mm, .int p1])).length) Slot.unset).toArray = ls at hl ⊢
  have hl : lv_has ls 2 [(0, .ref h_mm), (1, .int p1)] := hl
  refine lv_aload_n hx hb dX11_partsAt_0 rfl (lv_at hl 0 rfl) ?_
  refine va_get (D := (dC, dI)) (ci := 8) (v := .ref h_nv) (C := RX11) (T := TX11) (N := 71) hx hb hw iwX11 hown hK hP 0 rfl rfl 1 (by decide) (hw _ w_f_X11_17) (fun _ h9 => h9) rfl dX11_partsAt_1 ?_
  refine lv_iload_n hx hb dX11_partsAt_4 rfl (lv_at hl 1 rfl) ?_
  refine va_iald hx hb hK hP 1 0 rfl rfl (i := p1) (vp_in_iff.mpr (by omega)) dX11_partsAt_5 ?_
  refine lv_topi (fun z1 ez1 => ?_)
  have rz1 : -1 ≤ (z1).toInt ∧ (z1).toInt ≤ 7 := by rw [ez1]; exact hf_nv _
  refine lv_iconst (v := (-1)) hx hb dX11_partsAt_6 (by decide) ?_
  refine lv_icmp_ne (tgt := 20) hx hb dX11_partsAt_7 (by decide) (fun c2 => ?_) (fun c2 => ?_)
  · have kc2 := (not_congr (cv_eq (rfl : (z1).toInt = (z1).toInt) (by decide : ((-1) : Int32).toInt = -1))).mp c2
    refine lv_iconst (v := 0) hx hb dX11_partsAt_20 (by decide) ?_
    refine lv_goto (tgt := 53) hx hb dX11_partsAt_21 (by decide) ?_
    refine W.widen (k := 0) (n := 0) (Nat.le_of_ble_eq_true rfl) (Nat.le_of_ble_eq_true rfl) ?_
    have cst0 : (0 : Int32).toInt = 0 := by decide
    have w3 : 0 ≤ (0 : Int32).toInt ∧ (0 : Int32).toInt ≤ 3 := by omega
    have w4 : ((0 : Int32)).toInt = (npx f_nv f_na f_nb f_nc (p1).toInt.toNat) := by rw [(clamp_nat (i := p1) (by omega))] at ez1; unfold npx; rw [← ez1]; (repeat' split) <;> omega
    exact W.iret (v := 0) hx hb hr (fun t ht hW => ⟨⟨0, (), rfl, ⟨w3, w4⟩, by rw [ht]; exact hP, hD⟩, hS.F ht⟩) hS.2.2 dX11_partsAt_53
  · have kc2 := (cv_eq (rfl : (z1).toInt = (z1).toInt) (by decide : ((-1) : Int32).toInt = -1)).mp c2
    refine lv_aload_n hx hb dX11_partsAt_10 rfl (lv_at hl 0 rfl) ?_
    refine va_get (D := (dC, dI)) (ci := 8) (v := .ref h_na) (C := RX11) (T := TX11) (N := 71) hx hb hw iwX11 hown hK hP 0 rfl rfl 3 (by decide) (hw _ w_f_X11_7) (fun _ h9 => h9) rfl dX11_partsAt_11 ?_
    refine lv_iload_n hx hb dX11_partsAt_14 rfl (lv_at hl 1 rfl) ?_
    refine va_iald hx hb hK hP 2 1 rfl rfl (i := p1) (vp_in_iff.mpr (by omega)) dX11_partsAt_15 ?_
    refine lv_topi (fun z5 ez5 => ?_)
    have rz5 : -1 ≤ (z5).toInt ∧ (z5).toInt ≤ 7999 := by rw [ez5]; exact hf_na _
    refine lv_iconst (v := (-1)) hx hb dX11_partsAt_16 (by decide) ?_
    refine lv_icmp_ne (tgt := 24) hx hb dX11_partsAt_17 (by decide) (fun c6 => ?_) (fun c6 => ?_)
    · have kc6 := (not_congr (cv_eq (rfl : (z5).toInt = (z5).toInt) (by decide : ((-1) : Int32).toInt = -1))).mp c6
      refine lv_aload_n hx hb dX11_partsAt_24 rfl (lv_at hl 0 rfl) ?_
      refine va_get (D := (dC, dI)) (ci := 8) (v := .ref h_nb) (C := RX11) (T := TX11) (N := 71) hx hb hw iwX11 hown hK hP 0 rfl rfl 4 (by decide) (hw _ w_f_X11_11) (fun _ h9 => h9) rfl dX11_partsAt_25 ?_
      refine lv_iload_n hx hb dX11_partsAt_28 rfl (lv_at hl 1 rfl) ?_
      refine va_iald hx hb hK hP 3 2 rfl rfl (i := p1) (vp_in_iff.mpr (by omega)) dX11_partsAt_29 ?_
      refine lv_topi (fun z7 ez7 => ?_)
      have rz7 : -1 ≤ (z7).toInt ∧ (z7).toInt ≤ 7999 := by rw [ez7]; exact hf_nb _
      refine lv_iconst (v := (-1)) hx hb dX11_partsAt_30 (by decide) ?_
      refine lv_icmp_ne (tgt := 38) hx hb dX11_partsAt_31 (by decide) (fun c8 => ?_) (fun c8 => ?_)
      · have kc8 := (not_congr (cv_eq (rfl : (z7).toInt = (z7).toInt) (by decide : ((-1) : Int32).toInt = -1))).mp c8
        refine lv_aload_n hx hb dX11_partsAt_38 rfl (lv_at hl 0 rfl) ?_
        refine va_get (D := (dC, dI)) (ci := 8) (v := .ref h_nc) (C := RX11) (T := TX11) (N := 71) hx hb hw iwX11 hown hK hP 0 rfl rfl 5 (by decide) (hw _ w_f_X11_14) (fun _ h9 => h9) rfl dX11_partsAt_39 ?_
        refine lv_iload_n hx hb dX11_partsAt_42 rfl (lv_at hl 1 rfl) ?_
        refine va_iald hx hb hK hP 4 3 rfl rfl (i := p1) (vp_in_iff.mpr (by omega)) dX11_partsAt_43 ?_
        refine lv_topi (fun z9 ez9 => ?_)
        have rz9 : -1 ≤ (z9).toInt ∧ (z9).toInt ≤ 7999 := by rw [ez9]; exact hf_nc _
        refine lv_iconst (v := (-1)) hx hb dX11_partsAt_44 (by decide) ?_
        refine lv_icmp_ne (tgt := 52) hx hb dX11_partsAt_45 (by decide) (fun c10 => ?_) (fun c10 => ?_)
        · have kc10 := (not_congr (cv_eq (rfl : (z9).toInt = (z9).toInt) (by decide : ((-1) : Int32).toInt = -1))).mp c10
          refine lv_iconst (v := 3) hx hb dX11_partsAt_52 (by decide) ?_
          refine W.widen (k := 0) (n := 0) (Nat.le_of_ble_eq_true rfl) (Nat.le_of_ble_eq_true rfl) ?_
          have cst3 : (3 : Int32).toInt = 3 := by decide
          have w11 : 0 ≤ (3 : Int32).toInt ∧ (3 : Int32).toInt ≤ 3 := by omega
          have w12 : ((3 : Int32)).toInt = (npx f_nv f_na f_nb f_nc (p1).toInt.toNat) := by rw [(clamp_nat (i := p1) (by omega))] at ez1 ez5 ez7 ez9; unfold npx; rw [← ez1, ← ez5, ← ez7, ← ez9]; (repeat' split) <;> omega
          exact W.iret (v := 3) hx hb hr (fun t ht hW => ⟨⟨3, (), rfl, ⟨w11, w12⟩, by rw [ht]; exact hP, hD⟩, hS.F ht⟩) hS.2.2 dX11_partsAt_53
        · have kc10 := (cv_eq (rfl : (z9).toInt = (z9).toInt) (by decide : ((-1) : Int32).toInt = -1)).mp c10
          refine lv_iconst (v := 2) hx hb dX11_partsAt_48 (by decide) ?_
          refine lv_goto (tgt := 53) hx hb dX11_partsAt_49 (by decide) ?_
          refine W.widen (k := 0) (n := 0) (Nat.le_of_ble_eq_true rfl) (Nat.le_of_ble_eq_true rfl) ?_
          have cst2 : (2 : Int32).toInt = 2 := by decide
          have w13 : 0 ≤ (2 : Int32).toInt ∧ (2 : Int32).toInt ≤ 3 := by omega
          have w14 : ((2 : Int32)).toInt = (npx f_nv f_na f_nb f_nc (p1).toInt.toNat) := by rw [(clamp_nat (i := p1) (by omega))] at ez1 ez5 ez7 ez9; unfold npx; rw [← ez1, ← ez5, ← ez7, ← ez9]; (repeat' split) <;> omega
          exact W.iret (v := 2) hx hb hr (fun t ht hW => ⟨⟨2, (), rfl, ⟨w13, w14⟩, by rw [ht]; exact hP, hD⟩, hS.F ht⟩) hS.2.2 dX11_partsAt_53
      · have kc8 := (cv_eq (rfl : (z7).toInt = (z7).toInt) (by decide : ((-1) : Int32).toInt = -1)).mp c8
        refine lv_iconst (v := 1) hx hb dX11_partsAt_34 (by decide) ?_
        refine lv_goto (tgt := 53) hx hb dX11_partsAt_35 (by decide) ?_
        refine W.widen (k := 0) (n := 0) (Nat.le_of_ble_eq_true rfl) (Nat.le_of_ble_eq_true rfl) ?_
        have cst1 : (1 : Int32).toInt = 1 := by decide
        have w15 : 0 ≤ (1 : Int32).toInt ∧ (1 : Int32).toInt ≤ 3 := by omega
        have w16 : ((1 : Int32)).toInt = (npx f_nv f_na f_nb f_nc (p1).toInt.toNat) := by rw [(clamp_nat (i := p1) (by omega))] at ez1 ez5 ez7; unfold npx; rw [← ez1, ← ez5, ← ez7]; (repeat' split) <;> omega
        exact W.iret (v := 1) hx hb hr (fun t ht hW => ⟨⟨1, (), rfl, ⟨w15, w16⟩, by rw [ht]; exact hP, hD⟩, hS.F ht⟩) hS.2.2 dX11_partsAt_53
    · have kc6 := (cv_eq (rfl : (z5).toInt = (z5).toInt) (by decide : ((-1) : Int32).toInt = -1)).mp c6
      refine lv_iconst (v := 0) hx hb dX11_partsAt_20 (by decide) ?_
      refine lv_goto (tgt := 53) hx hb dX11_partsAt_21 (by decide) ?_
      refine W.widen (k := 0) (n := 0) (Nat.le_of_ble_eq_true rfl) (Nat.le_of_ble_eq_true rfl) ?_
      have cst0 : (0 : Int32).toInt = 0 := by decide
      have w17 : 0 ≤ (0 : Int32).toInt ∧ (0 : Int32).toInt ≤ 3 := by omega
      have w18 : ((0 : Int32)).toInt = (npx f_nv f_na f_nb f_nc (p1).toInt.toNat) := by rw [(clamp_nat (i := p1) (by omega))] at ez1 ez5; unfold npx; rw [← ez1, ← ez5]; (repeat' split) <;> omega
      exact W.iret (v := 0) hx hb hr (fun t ht hW => ⟨⟨0, (), rfl, ⟨w17, w18⟩, by rw [ht]; exact hP, hD⟩, hS.F ht⟩) hS.2.2 dX11_partsAt_53

set_option maxHeartbeats 8000000 in
set_option maxRecDepth 100000 in
theorem c_X11_part_e (l : Launch) (dC : Nat → ClassId) (dI : Nat → Nat → Nat) (sz : Nat) (h_mm : Nat) (h_na : Nat) (h_nb : Nat) (h_nc : Nat) (v_mm : Nat → Value) (cy_na : ClassId) (f_na : Nat → Int32) (cy_nb : ClassId) (f_nb : Nat → Int32) (cy_nc : ClassId) (f_nc : Nat → Int32) (p1 : Int32) (p2 : Int32) (hf_na : Rg (-1) 7999 f_na) (hf_nb : Rg (-1) 7999 f_nb) (hf_nc : Rg (-1) 7999 f_nc) (q0 : 0 ≤ (p1).toInt ∧ (p1).toInt ≤ 7999) : Met l yX11_part (Ws yX11_part cX11_part 3 (some .int)) (({ frames := 0, cells := 0, slots := 0, locals := 0 } : Room)) (PRE (dC, dI) cls [(cy_na, .int), (cy_nb, .int), (cy_nc, .int)] [(h_mm, .inr (8, (mo85 v_mm (.ref h_na) (.ref h_nb) (.ref h_nc)))), (h_na, .inl (cy_na, 8000, .inl f_na)), (h_nb, .inl (cy_nb, 8000, .inl f_nb)), (h_nc, .inl (cy_nc, 8000, .inl f_nc))] sz [.ref h_mm, .int p1, .int p2]) (va_Qi (fun (r : Int32) (_ : Unit) => (-1 ≤ r.toInt ∧ r.toInt ≤ 7999) ∧ ((r).toInt = (ptx f_na f_nb f_nc (p1).toInt.toNat (p2).toInt).toInt)) (fun (_ : Unit) (t : State) => va_P (dC, dI) cls [(h_mm, .inr (8, (mo85 v_mm (.ref h_na) (.ref h_nb) (.ref h_nc)))), (h_na, .inl (cy_na, 8000, .inl f_na)), (h_nb, .inl (cy_nb, 8000, .inl f_nb)), (h_nc, .inl (cy_nc, 8000, .inl f_nc))] t.heap ∧ va_D (va_A [(h_mm, .inr (8, (mo85 v_mm (.ref h_na) (.ref h_nb) (.ref h_nc)))), (h_na, .inl (cy_na, 8000, .inl f_na)), (h_nb, .inl (cy_nb, 8000, .inl f_nb)), (h_nc, .inl (cy_nc, 8000, .inl f_nc))] sz) [(h_mm, .inr (8, (mo85 v_mm (.ref h_na) (.ref h_nb) (.ref h_nc)))), (h_na, .inl (cy_na, 8000, .inl f_na)), (h_nb, .inl (cy_nb, 8000, .inl f_nb)), (h_nc, .inl (cy_nc, 8000, .inl f_nc))]) (va_A [(h_mm, .inr (8, (mo85 v_mm (.ref h_na) (.ref h_nb) (.ref h_nc)))), (h_na, .inl (cy_na, 8000, .inl f_na)), (h_nb, .inl (cy_nb, 8000, .inl f_nb)), (h_nc, .inl (cy_nc, 8000, .inl f_nc))] sz)) 0 0 (va_A [(h_mm, .inr (8, (mo85 v_mm (.ref h_na) (.ref h_nb) (.ref h_nc)))), (h_na, .inl (cy_na, 8000, .inl f_na)), (h_nb, .inl (cy_nb, 8000, .inl f_nb)), (h_nc, .inl (cy_nc, 8000, .inl f_nc))] sz) := by
  refine Met.ofW (cc := cX11_part) (maxL := 3) (ret := (some .int)) (by decide) rfl ?_
  intro p e s m args below meth c s₁ B hml hv
  obtain ⟨rfl, hsz, hP, hK, hD0, hN⟩ := hv
  have hx := B.exec
  have hb := B.bytes
  have hr := B.returns
  have hts := atoms_spec (ws := Ws yX11_part cX11_part 3 (some .int)) B.pre
  have hT : ∀ w ∈ WALL, w ∈ Ws yX11_part cX11_part 3 (some .int) := fun w h => List.mem_cons_of_mem _ h
  have hw := fun w (h : w ∈ WALL) => hts w (hT w h)
  have hown : s.vm.findClass RX11 = some m.cls := findClass_of_methodNamed B.named
  have hlocks := B.notSynchronized
  subst hsz
  have hD := hD0.self (sz := s.heap.size)
  generalize hAe : va_A [(h_mm, .inr (8, (mo85 v_mm (.ref h_na) (.ref h_nb) (.ref h_nc)))), (h_na, .inl (cy_na, 8000, .inl f_na)), (h_nb, .inl (cy_nb, 8000, .inl f_nb)), (h_nc, .inl (cy_nc, 8000, .inl f_nc))] s.heap.size = A at hD ⊢
  have hA : ∀ q : Nat, s.heap.size ≤ q → A q := fun q h => by rw [← hAe]; exact Or.inr h
  have hS : va_S A s.heap s.heap [] := va_S.rf
  have hl := lv_entry ([.ref h_mm, .int p1, .int p2]) (n := 3) (Nat.le_of_ble_eq_true rfl)
  rw [lg_entry_eq]
  generalize (lg_sl ([.ref h_mm, .int p1, .int p2]) ++ List.replicate (3 - (lg_sl ([.ref h_mm, .int p1, .int p2])).length) Slot.unset).toArray = ls at hl ⊢
  have hl : lv_has ls 3 [(0, .ref h_mm), (1, .int p1), (2, .int p2)] := hl
  refine lv_iload_n hx hb dX11_part_0 rfl (lv_at hl 2 rfl) ?_
  refine lv_if_ne (tgt := 13) hx hb dX11_part_1 (by decide) (fun c1 => ?_) (fun c1 => ?_)
  · have kc1 := (not_congr (cv_eq (rfl : (p2).toInt = (p2).toInt) (by decide : (0 : Int32).toInt = 0))).mp c1
    refine lv_iload_n hx hb dX11_part_13 rfl (lv_at hl 2 rfl) ?_
    refine lv_iconst (v := 1) hx hb dX11_part_14 (by decide) ?_
    refine lv_icmp_ne (tgt := 27) hx hb dX11_part_15 (by decide) (fun c2 => ?_) (fun c2 => ?_)
    · have kc2 := (not_congr (cv_eq (rfl : (p2).toInt = (p2).toInt) (by decide : (1 : Int32).toInt = 1))).mp c2
      refine lv_aload_n hx hb dX11_part_27 rfl (lv_at hl 0 rfl) ?_
      refine va_get (D := (dC, dI)) (ci := 8) (v := .ref h_nc) (C := RX11) (T := TX11) (N := 71) hx hb hw iwX11 hown hK hP 0 rfl rfl 5 (by decide) (hw _ w_f_X11_14) (fun _ h9 => h9) rfl dX11_part_28 ?_
      refine lv_iload_n hx hb dX11_part_31 rfl (lv_at hl 1 rfl) ?_
      refine va_iald hx hb hK hP 3 2 rfl rfl (i := p1) (vp_in_iff.mpr (by omega)) dX11_part_32 ?_
      refine lv_topi (fun z3 ez3 => ?_)
      have rz3 : -1 ≤ (z3).toInt ∧ (z3).toInt ≤ 7999 := by rw [ez3]; exact hf_nc _
      refine W.widen (k := 0) (n := 0) (Nat.le_of_ble_eq_true rfl) (Nat.le_of_ble_eq_true rfl) ?_
      have w4 : -1 ≤ (z3 : Int32).toInt ∧ (z3 : Int32).toInt ≤ 7999 := by omega
      have w5 : ((z3 : Int32)).toInt = (ptx f_na f_nb f_nc (p1).toInt.toNat (p2).toInt).toInt := by rw [(clamp_nat (i := p1) (by omega))] at ez3; unfold ptx; rw [ez3]; (repeat' split) <;> first | rfl | omega
      exact W.iret (v := z3) hx hb hr (fun t ht hW => ⟨⟨z3, (), rfl, ⟨w4, w5⟩, by rw [ht]; exact hP, hD⟩, hS.F ht⟩) hS.2.2 dX11_part_33
    · have kc2 := (cv_eq (rfl : (p2).toInt = (p2).toInt) (by decide : (1 : Int32).toInt = 1)).mp c2
      refine lv_aload_n hx hb dX11_part_18 rfl (lv_at hl 0 rfl) ?_
      refine va_get (D := (dC, dI)) (ci := 8) (v := .ref h_nb) (C := RX11) (T := TX11) (N := 71) hx hb hw iwX11 hown hK hP 0 rfl rfl 4 (by decide) (hw _ w_f_X11_11) (fun _ h9 => h9) rfl dX11_part_19 ?_
      refine lv_iload_n hx hb dX11_part_22 rfl (lv_at hl 1 rfl) ?_
      refine va_iald hx hb hK hP 2 1 rfl rfl (i := p1) (vp_in_iff.mpr (by omega)) dX11_part_23 ?_
      refine lv_topi (fun z6 ez6 => ?_)
      have rz6 : -1 ≤ (z6).toInt ∧ (z6).toInt ≤ 7999 := by rw [ez6]; exact hf_nb _
      refine lv_goto (tgt := 33) hx hb dX11_part_24 (by decide) ?_
      refine W.widen (k := 0) (n := 0) (Nat.le_of_ble_eq_true rfl) (Nat.le_of_ble_eq_true rfl) ?_
      have w7 : -1 ≤ (z6 : Int32).toInt ∧ (z6 : Int32).toInt ≤ 7999 := by omega
      have w8 : ((z6 : Int32)).toInt = (ptx f_na f_nb f_nc (p1).toInt.toNat (p2).toInt).toInt := by rw [(clamp_nat (i := p1) (by omega))] at ez6; unfold ptx; rw [ez6]; (repeat' split) <;> first | rfl | omega
      exact W.iret (v := z6) hx hb hr (fun t ht hW => ⟨⟨z6, (), rfl, ⟨w7, w8⟩, by rw [ht]; exact hP, hD⟩, hS.F ht⟩) hS.2.2 dX11_part_33
  · have kc1 := (cv_eq (rfl : (p2).toInt = (p2).toInt) (by decide : (0 : Int32).toInt = 0)).mp c1
    refine lv_aload_n hx hb dX11_part_4 rfl (lv_at hl 0 rfl) ?_
    refine va_get (D := (dC, dI)) (ci := 8) (v := .ref h_na) (C := RX11) (T := TX11) (N := 71) hx hb hw iwX11 hown hK hP 0 rfl rfl 3 (by decide) (hw _ w_f_X11_7) (fun _ h9 => h9) rfl dX11_part_5 ?_
    refine lv_iload_n hx hb dX11_part_8 rfl (lv_at hl 1 rfl) ?_
    refine va_iald hx hb hK hP 1 0 rfl rfl (i := p1) (vp_in_iff.mpr (by omega)) dX11_part_9 ?_
    refine lv_topi (fun z9 ez9 => ?_)
    have rz9 : -1 ≤ (z9).toInt ∧ (z9).toInt ≤ 7999 := by rw [ez9]; exact hf_na _
    refine lv_goto (tgt := 33) hx hb dX11_part_10 (by decide) ?_
    refine W.widen (k := 0) (n := 0) (Nat.le_of_ble_eq_true rfl) (Nat.le_of_ble_eq_true rfl) ?_
    have w10 : -1 ≤ (z9 : Int32).toInt ∧ (z9 : Int32).toInt ≤ 7999 := by omega
    have w11 : ((z9 : Int32)).toInt = (ptx f_na f_nb f_nc (p1).toInt.toNat (p2).toInt).toInt := by rw [(clamp_nat (i := p1) (by omega))] at ez9; unfold ptx; rw [ez9]; (repeat' split) <;> first | rfl | omega
    exact W.iret (v := z9) hx hb hr (fun t ht hW => ⟨⟨z9, (), rfl, ⟨w10, w11⟩, by rw [ht]; exact hP, hD⟩, hS.F ht⟩) hS.2.2 dX11_part_33

set_option maxHeartbeats 8000000 in
set_option maxRecDepth 100000 in
theorem c_X11_slotOf (l : Launch) (dC : Nat → ClassId) (dI : Nat → Nat → Nat) (sz : Nat) (h_mm : Nat) (h_nv : Nat) (v_mm : Nat → Value) (cy_nv : ClassId) (f_nv : Nat → Int32) (p1 : Int32) (p2 : Int32) (hf_nv : Rg (-1) 7 f_nv) (q0 : 0 ≤ (p1).toInt ∧ (p1).toInt ≤ 7999) (q1 : 0 ≤ (p2).toInt ∧ (p2).toInt ≤ 31) : Met l yX11_slotOf (Ws yX11_slotOf cX11_slotOf 3 (some .int)) (({ frames := 0, cells := 0, slots := 0, locals := 0 } : Room)) (PRE (dC, dI) cls [(cy_nv, .int)] [(h_mm, .inr (8, (mo128 v_mm (.ref h_nv)))), (h_nv, .inl (cy_nv, 8000, .inl f_nv))] sz [.ref h_mm, .int p1, .int p2]) (va_Qi (fun (r : Int32) (_ : Unit) => (-1 ≤ r.toInt ∧ r.toInt ≤ 255) ∧ ((r).toInt = 8 * (p2).toInt + (f_nv (p1).toInt.toNat).toInt)) (fun (_ : Unit) (t : State) => va_P (dC, dI) cls [(h_mm, .inr (8, (mo128 v_mm (.ref h_nv)))), (h_nv, .inl (cy_nv, 8000, .inl f_nv))] t.heap ∧ va_D (va_A [(h_mm, .inr (8, (mo128 v_mm (.ref h_nv)))), (h_nv, .inl (cy_nv, 8000, .inl f_nv))] sz) [(h_mm, .inr (8, (mo128 v_mm (.ref h_nv)))), (h_nv, .inl (cy_nv, 8000, .inl f_nv))]) (va_A [(h_mm, .inr (8, (mo128 v_mm (.ref h_nv)))), (h_nv, .inl (cy_nv, 8000, .inl f_nv))] sz)) 0 0 (va_A [(h_mm, .inr (8, (mo128 v_mm (.ref h_nv)))), (h_nv, .inl (cy_nv, 8000, .inl f_nv))] sz) := by
  refine Met.ofW (cc := cX11_slotOf) (maxL := 3) (ret := (some .int)) (by decide) rfl ?_
  intro p e s m args below meth c s₁ B hml hv
  obtain ⟨rfl, hsz, hP, hK, hD0, hN⟩ := hv
  have hx := B.exec
  have hb := B.bytes
  have hr := B.returns
  have hts := atoms_spec (ws := Ws yX11_slotOf cX11_slotOf 3 (some .int)) B.pre
  have hT : ∀ w ∈ WALL, w ∈ Ws yX11_slotOf cX11_slotOf 3 (some .int) := fun w h => List.mem_cons_of_mem _ h
  have hw := fun w (h : w ∈ WALL) => hts w (hT w h)
  have hown : s.vm.findClass RX11 = some m.cls := findClass_of_methodNamed B.named
  have hlocks := B.notSynchronized
  subst hsz
  have hD := hD0.self (sz := s.heap.size)
  generalize hAe : va_A [(h_mm, .inr (8, (mo128 v_mm (.ref h_nv)))), (h_nv, .inl (cy_nv, 8000, .inl f_nv))] s.heap.size = A at hD ⊢
  have hA : ∀ q : Nat, s.heap.size ≤ q → A q := fun q h => by rw [← hAe]; exact Or.inr h
  have hS : va_S A s.heap s.heap [] := va_S.rf
  have hl := lv_entry ([.ref h_mm, .int p1, .int p2]) (n := 3) (Nat.le_of_ble_eq_true rfl)
  rw [lg_entry_eq]
  generalize (lg_sl ([.ref h_mm, .int p1, .int p2]) ++ List.replicate (3 - (lg_sl ([.ref h_mm, .int p1, .int p2])).length) Slot.unset).toArray = ls at hl ⊢
  have hl : lv_has ls 3 [(0, .ref h_mm), (1, .int p1), (2, .int p2)] := hl
  refine lv_bipush (v := 8) hx hb dX11_slotOf_0 (by decide) ?_
  refine lv_iload_n hx hb dX11_slotOf_2 rfl (lv_at hl 2 rfl) ?_
  refine lv_imul hx hb dX11_slotOf_3 ?_
  refine lv_topi (fun z1 ez1 => ?_)
  have tz1 : (z1).toInt = 8 * (p2).toInt := by rw [ez1]; exact i_mul (by decide) rfl (by omega)
  refine lv_aload_n hx hb dX11_slotOf_4 rfl (lv_at hl 0 rfl) ?_
  refine va_get (D := (dC, dI)) (ci := 8) (v := .ref h_nv) (C := RX11) (T := TX11) (N := 71) hx hb hw iwX11 hown hK hP 0 rfl rfl 1 (by decide) (hw _ w_f_X11_17) (fun _ h9 => h9) rfl dX11_slotOf_5 ?_
  refine lv_iload_n hx hb dX11_slotOf_8 rfl (lv_at hl 1 rfl) ?_
  refine va_iald hx hb hK hP 1 0 rfl rfl (i := p1) (vp_in_iff.mpr (by omega)) dX11_slotOf_9 ?_
  refine lv_topi (fun z2 ez2 => ?_)
  have rz2 : -1 ≤ (z2).toInt ∧ (z2).toInt ≤ 7 := by rw [ez2]; exact hf_nv _
  refine lv_iadd hx hb dX11_slotOf_10 ?_
  refine lv_topi (fun z3 ez3 => ?_)
  have tz3 : (z3).toInt = (z1).toInt + (z2).toInt := by rw [ez3]; exact i_add rfl rfl (by omega)
  refine W.widen (k := 0) (n := 0) (Nat.le_of_ble_eq_true rfl) (Nat.le_of_ble_eq_true rfl) ?_
  have w4 : -1 ≤ (z3 : Int32).toInt ∧ (z3 : Int32).toInt ≤ 255 := by omega
  have w5 : ((z3 : Int32)).toInt = 8 * (p2).toInt + (f_nv (p1).toInt.toNat).toInt := by rw [(clamp_nat (i := p1) (by omega))] at ez2; rw [← ez2]; omega
  exact W.iret (v := z3) hx hb hr (fun t ht hW => ⟨⟨z3, (), rfl, ⟨w4, w5⟩, by rw [ht]; exact hP, hD⟩, hS.F ht⟩) hS.2.2 dX11_slotOf_11

set_option maxHeartbeats 8000000 in
set_option maxRecDepth 100000 in
theorem c_X11_areOf (l : Launch) (dC : Nat → ClassId) (dI : Nat → Nat → Nat) (sz : Nat) (h_mm : Nat) (h_nv : Nat) (h_nn : Nat) (h_na : Nat) (h_nb : Nat) (h_nc : Nat) (v_mm : Nat → Value) (cy_nv : ClassId) (f_nv : Nat → Int32) (cy_nn : ClassId) (f_nn : Nat → Int64) (cy_na : ClassId) (f_na : Nat → Int32) (cy_nb : ClassId) (f_nb : Nat → Int32) (cy_nc : ClassId) (f_nc : Nat → Int32) (p1 : Int32) (p2 : Int32) (hf_nv : Rg (-1) 7 f_nv) (hf_na : Rg (-1) 7999 f_na) (hf_nb : Rg (-1) 7999 f_nb) (hf_nc : Rg (-1) 7999 f_nc) (q0 : 0 ≤ (p1).toInt ∧ (p1).toInt ≤ 7999) (q1 : 0 ≤ (p2).toInt ∧ (p2).toInt ≤ 7999) : Met l yX11_areOf (Ws yX11_areOf cX11_areOf 3 (some .boolean)) (({ frames := 1, cells := 0, slots := 0, locals := 21 } : Room)) (PRE (dC, dI) cls [(cy_nv, .int), (cy_nn, .long), (cy_na, .int), (cy_nb, .int), (cy_nc, .int)] [(h_mm, .inr (8, (mo129 v_mm (.ref h_nv) (.ref h_nn) (.ref h_na) (.ref h_nb) (.ref h_nc)))), (h_nv, .inl (cy_nv, 8000, .inl f_nv)), (h_nn, .inl (cy_nn, 8000, .inr (.inl f_nn))), (h_na, .inl (cy_na, 8000, .inl f_na)), (h_nb, .inl (cy_nb, 8000, .inl f_nb)), (h_nc, .inl (cy_nc, 8000, .inl f_nc))] sz [.ref h_mm, .int p1, .int p2]) (va_Qi (fun (r : Int32) (_ : Unit) => (0 ≤ r.toInt ∧ r.toInt ≤ 1)) (fun (_ : Unit) (t : State) => va_P (dC, dI) cls [(h_mm, .inr (8, (mo129 v_mm (.ref h_nv) (.ref h_nn) (.ref h_na) (.ref h_nb) (.ref h_nc)))), (h_nv, .inl (cy_nv, 8000, .inl f_nv)), (h_nn, .inl (cy_nn, 8000, .inr (.inl f_nn))), (h_na, .inl (cy_na, 8000, .inl f_na)), (h_nb, .inl (cy_nb, 8000, .inl f_nb)), (h_nc, .inl (cy_nc, 8000, .inl f_nc))] t.heap ∧ va_D (va_A [(h_mm, .inr (8, (mo129 v_mm (.ref h_nv) (.ref h_nn) (.ref h_na) (.ref h_nb) (.ref h_nc)))), (h_nv, .inl (cy_nv, 8000, .inl f_nv)), (h_nn, .inl (cy_nn, 8000, .inr (.inl f_nn))), (h_na, .inl (cy_na, 8000, .inl f_na)), (h_nb, .inl (cy_nb, 8000, .inl f_nb)), (h_nc, .inl (cy_nc, 8000, .inl f_nc))] sz) [(h_mm, .inr (8, (mo129 v_mm (.ref h_nv) (.ref h_nn) (.ref h_na) (.ref h_nb) (.ref h_nc)))), (h_nv, .inl (cy_nv, 8000, .inl f_nv)), (h_nn, .inl (cy_nn, 8000, .inr (.inl f_nn))), (h_na, .inl (cy_na, 8000, .inl f_na)), (h_nb, .inl (cy_nb, 8000, .inl f_nb)), (h_nc, .inl (cy_nc, 8000, .inl f_nc))]) (va_A [(h_mm, .inr (8, (mo129 v_mm (.ref h_nv) (.ref h_nn) (.ref h_na) (.ref h_nb) (.ref h_nc)))), (h_nv, .inl (cy_nv, 8000, .inl f_nv)), (h_nn, .inl (cy_nn, 8000, .inr (.inl f_nn))), (h_na, .inl (cy_na, 8000, .inl f_na)), (h_nb, .inl (cy_nb, 8000, .inl f_nb)), (h_nc, .inl (cy_nc, 8000, .inl f_nc))] sz)) 0 0 (va_A [(h_mm, .inr (8, (mo129 v_mm (.ref h_nv) (.ref h_nn) (.ref h_na) (.ref h_nb) (.ref h_nc)))), (h_nv, .inl (cy_nv, 8000, .inl f_nv)), (h_nn, .inl (cy_nn, 8000, .inr (.inl f_nn))), (h_na, .inl (cy_na, 8000, .inl f_na)), (h_nb, .inl (cy_nb, 8000, .inl f_nb)), (h_nc, .inl (cy_nc, 8000, .inl f_nc))] sz) := by
  refine Met.ofW (cc := cX11_areOf) (maxL := 3) (ret := (some .boolean)) (by decide) rfl ?_
  intro p e s m args below meth c s₁ B hml hv
  obtain ⟨rfl, hsz, hP, hK, hD0, hN⟩ := hv
  have hx := B.exec
  have hb := B.bytes
  have hr := B.returns
  have hts := atoms_spec (ws := Ws yX11_areOf cX11_areOf 3 (some .boolean)) B.pre
  have hT : ∀ w ∈ WALL, w ∈ Ws yX11_areOf cX11_areOf 3 (some .boolean) := fun w h => List.mem_cons_of_mem _ h
  have hw := fun w (h : w ∈ WALL) => hts w (hT w h)
  have hown : s.vm.findClass RX11 = some m.cls := findClass_of_methodNamed B.named
  have hlocks := B.notSynchronized
  subst hsz
  have hD := hD0.self (sz := s.heap.size)
  generalize hAe : va_A [(h_mm, .inr (8, (mo129 v_mm (.ref h_nv) (.ref h_nn) (.ref h_na) (.ref h_nb) (.ref h_nc)))), (h_nv, .inl (cy_nv, 8000, .inl f_nv)), (h_nn, .inl (cy_nn, 8000, .inr (.inl f_nn))), (h_na, .inl (cy_na, 8000, .inl f_na)), (h_nb, .inl (cy_nb, 8000, .inl f_nb)), (h_nc, .inl (cy_nc, 8000, .inl f_nc))] s.heap.size = A at hD ⊢
  have hA : ∀ q : Nat, s.heap.size ≤ q → A q := fun q h => by rw [← hAe]; exact Or.inr h
  have hS : va_S A s.heap s.heap [] := va_S.rf
  have hl := lv_entry ([.ref h_mm, .int p1, .int p2]) (n := 3) (Nat.le_of_ble_eq_true rfl)
  rw [lg_entry_eq]
  generalize (lg_sl ([.ref h_mm, .int p1, .int p2]) ++ List.replicate (3 - (lg_sl ([.ref h_mm, .int p1, .int p2])).length) Slot.unset).toArray = ls at hl ⊢
  have hl : lv_has ls 3 [(0, .ref h_mm), (1, .int p1), (2, .int p2)] := hl
  refine lv_aload_n hx hb dX11_areOf_0 rfl (lv_at hl 0 rfl) ?_
  refine va_get (D := (dC, dI)) (ci := 8) (v := .ref h_nn) (C := RX11) (T := TX11) (N := 71) hx hb hw iwX11 hown hK hP 0 rfl rfl 2 (by decide) (hw _ w_f_X11_23) (fun _ h9 => h9) rfl dX11_areOf_1 ?_
  refine lv_iload_n hx hb dX11_areOf_4 rfl (lv_at hl 1 rfl) ?_
  refine va_lald hx hb hK hP 2 1 rfl rfl (i := p1) (vp_in_iff.mpr (by omega)) dX11_areOf_5 ?_
  refine lv_topl (fun z1 ez1 => ?_)
  refine lv_aload_n hx hb dX11_areOf_6 rfl (lv_at hl 0 rfl) ?_
  refine va_get (D := (dC, dI)) (ci := 8) (v := .ref h_nn) (C := RX11) (T := TX11) (N := 71) hx hb hw iwX11 hown hK hP 0 rfl rfl 2 (by decide) (hw _ w_f_X11_23) (fun _ h9 => h9) rfl dX11_areOf_7 ?_
  refine lv_iload_n hx hb dX11_areOf_10 rfl (lv_at hl 2 rfl) ?_
  refine va_lald hx hb hK hP 2 1 rfl rfl (i := p2) (vp_in_iff.mpr (by omega)) dX11_areOf_11 ?_
  refine lv_topl (fun z2 ez2 => ?_)
  refine W.lcmp hx hb dX11_areOf_12 ?_
  refine lv_topi (fun z3 ez3 => ?_)
  refine lv_if_ne (tgt := 33) hx hb dX11_areOf_13 (by decide) (fun c4 => ?_) (fun c4 => ?_)
  · have kc4 := (not_congr (cv_eq (rfl : (z3).toInt = (z3).toInt) (by decide : (0 : Int32).toInt = 0))).mp c4
    refine lv_iconst (v := 0) hx hb dX11_areOf_33 (by decide) ?_
    refine W.widen (k := 0) (n := 0) (Nat.le_of_ble_eq_true rfl) (Nat.le_of_ble_eq_true rfl) ?_
    have cst0 : (0 : Int32).toInt = 0 := by decide
    have w5 : 0 ≤ (0 : Int32).toInt ∧ (0 : Int32).toInt ≤ 1 := by omega
    exact W.zret (v := 0) (ty := .boolean) hx hb hr (by decide) (fun t ht hW => ⟨⟨0, (), rfl, w5, by rw [ht]; exact hP, hD⟩, hS.F ht⟩) hS.2.2 dX11_areOf_34
  · have kc4 := (cv_eq (rfl : (z3).toInt = (z3).toInt) (by decide : (0 : Int32).toInt = 0)).mp c4
    refine lv_aload_n hx hb dX11_areOf_16 rfl (lv_at hl 0 rfl) ?_
    refine lv_iload_n hx hb dX11_areOf_17 rfl (lv_at hl 1 rfl) ?_
    obtain ⟨vq6, evq6⟩ := mq129_86 v_mm (.ref h_nn)
    replace hP : va_P (dC, dI) cls [(h_mm, .inr (8, (mo86 vq6 (.ref h_nv) (.ref h_na) (.ref h_nb) (.ref h_nc)))), (h_nv, .inl (cy_nv, 8000, .inl f_nv)), (h_nn, .inl (cy_nn, 8000, .inr (.inl f_nn))), (h_na, .inl (cy_na, 8000, .inl f_na)), (h_nb, .inl (cy_nb, 8000, .inl f_nb)), (h_nc, .inl (cy_nc, 8000, .inl f_nc))] s.heap := by rw [evq6]; exact hP
    replace hD : va_D A [(h_mm, .inr (8, (mo86 vq6 (.ref h_nv) (.ref h_na) (.ref h_nb) (.ref h_nc)))), (h_nv, .inl (cy_nv, 8000, .inl f_nv)), (h_nn, .inl (cy_nn, 8000, .inr (.inl f_nn))), (h_na, .inl (cy_na, 8000, .inl f_na)), (h_nb, .inl (cy_nb, 8000, .inl f_nb)), (h_nc, .inl (cy_nc, 8000, .inl f_nc))] := by rw [evq6]; exact hD
    have hPc := hP.sub (ws' := [(h_mm, .inr (8, (mo86 vq6 (.ref h_nv) (.ref h_na) (.ref h_nb) (.ref h_nc)))), (h_nv, .inl (cy_nv, 8000, .inl f_nv)), (h_na, .inl (cy_na, 8000, .inl f_na)), (h_nb, .inl (cy_nb, 8000, .inl f_nb)), (h_nc, .inl (cy_nc, 8000, .inl f_nc))]) [0, 1, 3, 4, 5] rfl
    have hDc := hD.sub (ws' := [(h_mm, .inr (8, (mo86 vq6 (.ref h_nv) (.ref h_na) (.ref h_nb) (.ref h_nc)))), (h_nv, .inl (cy_nv, 8000, .inl f_nv)), (h_na, .inl (cy_na, 8000, .inl f_na)), (h_nb, .inl (cy_nb, 8000, .inl f_nb)), (h_nc, .inl (cy_nc, 8000, .inl f_nc))]) [0, 1, 3, 4, 5] (by decide) rfl
    have hKc := hK.sub (tys' := [(cy_nv, .int), (cy_na, .int), (cy_nb, .int), (cy_nc, .int)]) [0, 2, 3, 4] rfl
    have hFc := va_free (wc := [(h_mm, .inr (8, (mo86 vq6 (.ref h_nv) (.ref h_na) (.ref h_nb) (.ref h_nc)))), (h_nv, .inl (cy_nv, 8000, .inl f_nv)), (h_na, .inl (cy_na, 8000, .inl f_na)), (h_nb, .inl (cy_nb, 8000, .inl f_nb)), (h_nc, .inl (cy_nc, 8000, .inl f_nc))]) hD hS hA [0, 1, 3, 4, 5] rfl
    refine va_calli (va_runV (As := [.int p1]) (rest := []) ⟨hx, hb, hml, hown, hts⟩ (c_X11_partsAt_e l dC dI s.heap.size h_mm h_nv h_na h_nb h_nc vq6 cy_nv f_nv cy_na f_na cy_nb f_nb cy_nc f_nc p1 hf_nv hf_na hf_nb hf_nc (by first | exact q0 | omega)) (cwV 1 hts (gv hT w_m_X11_27 w_instanceMethod_X11_partsAt ws_sel_X11_partsAt w_ini_X11 w_code_X11_partsAt) rfl rfl rfl (by decide +kernel) ⟨(Nat.le_of_ble_eq_true rfl), (Nat.le_of_ble_eq_true rfl)⟩) ⟨pre_blind, va_recv hK hP (ci := 8) (q0 := 0) rfl rfl, pre_of hPc hKc hDc hN⟩ rfl rfl hl.1 rfl (lv_room (Nat.le_of_ble_eq_true rfl)) dX11_areOf_18 ⟨(Nat.le_of_ble_eq_true rfl), (Nat.le_of_ble_eq_true rfl)⟩) hS (fun q _ h => hFc q h) hFc (fun r7 u t H locs ht hvm hq hB hz1 hk1 hS9 => ?_)
    obtain ⟨hP1, hD1⟩ := hB
    rw [ht] at hP1
    obtain ⟨hP9, hD9⟩ := va_join (wr := [(h_nn, .inl (cy_nn, 8000, .inr (.inl f_nn)))]) (w1 := [(h_mm, .inr (8, (mo86 vq6 (.ref h_nv) (.ref h_na) (.ref h_nb) (.ref h_nc)))), (h_nv, .inl (cy_nv, 8000, .inl f_nv)), (h_na, .inl (cy_na, 8000, .inl f_na)), (h_nb, .inl (cy_nb, 8000, .inl f_nb)), (h_nc, .inl (cy_nc, 8000, .inl f_nc))]) hP hD [0, 1, 3, 4, 5] [2] rfl rfl (by decide) (by decide) hk1 hFc hP1 hD1
    clear hP hD hS hPc hDc hKc hFc hP1 hD1 hk1 hz1 ht hvm
    have hP : va_P (dC, dI) cls [(h_nn, .inl (cy_nn, 8000, .inr (.inl f_nn))), (h_mm, .inr (8, (mo86 vq6 (.ref h_nv) (.ref h_na) (.ref h_nb) (.ref h_nc)))), (h_nv, .inl (cy_nv, 8000, .inl f_nv)), (h_na, .inl (cy_na, 8000, .inl f_na)), (h_nb, .inl (cy_nb, 8000, .inl f_nb)), (h_nc, .inl (cy_nc, 8000, .inl f_nc))] H := hP9
    have hD : va_D A [(h_nn, .inl (cy_nn, 8000, .inr (.inl f_nn))), (h_mm, .inr (8, (mo86 vq6 (.ref h_nv) (.ref h_na) (.ref h_nb) (.ref h_nc)))), (h_nv, .inl (cy_nv, 8000, .inl f_nv)), (h_na, .inl (cy_na, 8000, .inl f_na)), (h_nb, .inl (cy_nb, 8000, .inl f_nb)), (h_nc, .inl (cy_nc, 8000, .inl f_nc))] := hD9
    have hS := hS9
    clear hP9 hD9 hS9
    rw [evq6] at hP hD
    replace hP : va_P (dC, dI) cls [(h_nn, .inl (cy_nn, 8000, .inr (.inl f_nn))), (h_mm, .inr (8, (mo129 v_mm (.ref h_nv) (.ref h_nn) (.ref h_na) (.ref h_nb) (.ref h_nc)))), (h_nv, .inl (cy_nv, 8000, .inl f_nv)), (h_na, .inl (cy_na, 8000, .inl f_na)), (h_nb, .inl (cy_nb, 8000, .inl f_nb)), (h_nc, .inl (cy_nc, 8000, .inl f_nc))] H := hP
    replace hD : va_D A [(h_nn, .inl (cy_nn, 8000, .inr (.inl f_nn))), (h_mm, .inr (8, (mo129 v_mm (.ref h_nv) (.ref h_nn) (.ref h_na) (.ref h_nb) (.ref h_nc)))), (h_nv, .inl (cy_nv, 8000, .inl f_nv)), (h_na, .inl (cy_na, 8000, .inl f_na)), (h_nb, .inl (cy_nb, 8000, .inl f_nb)), (h_nc, .inl (cy_nc, 8000, .inl f_nc))] := hD
    clear evq6 
    obtain ⟨k8, k9⟩ := hq
    have k8 : 0 ≤ (r7).toInt ∧ (r7).toInt ≤ 3 := k8
    have k9 : ((r7)).toInt = (npx f_nv f_na f_nb f_nc ((p1)).toInt.toNat) := k9
    refine lv_aload_n hx hb dX11_areOf_21 rfl (lv_at hl 0 rfl) ?_
    refine lv_iload_n hx hb dX11_areOf_22 rfl (lv_at hl 2 rfl) ?_
    obtain ⟨vq10, evq10⟩ := mq129_86 v_mm (.ref h_nn)
    replace hP : va_P (dC, dI) cls [(h_nn, .inl (cy_nn, 8000, .inr (.inl f_nn))), (h_mm, .inr (8, (mo86 vq10 (.ref h_nv) (.ref h_na) (.ref h_nb) (.ref h_nc)))), (h_nv, .inl (cy_nv, 8000, .inl f_nv)), (h_na, .inl (cy_na, 8000, .inl f_na)), (h_nb, .inl (cy_nb, 8000, .inl f_nb)), (h_nc, .inl (cy_nc, 8000, .inl f_nc))] H := by rw [evq10]; exact hP
    replace hD : va_D A [(h_nn, .inl (cy_nn, 8000, .inr (.inl f_nn))), (h_mm, .inr (8, (mo86 vq10 (.ref h_nv) (.ref h_na) (.ref h_nb) (.ref h_nc)))), (h_nv, .inl (cy_nv, 8000, .inl f_nv)), (h_na, .inl (cy_na, 8000, .inl f_na)), (h_nb, .inl (cy_nb, 8000, .inl f_nb)), (h_nc, .inl (cy_nc, 8000, .inl f_nc))] := by rw [evq10]; exact hD
    have hPc := hP.sub (ws' := [(h_mm, .inr (8, (mo86 vq10 (.ref h_nv) (.ref h_na) (.ref h_nb) (.ref h_nc)))), (h_nv, .inl (cy_nv, 8000, .inl f_nv)), (h_na, .inl (cy_na, 8000, .inl f_na)), (h_nb, .inl (cy_nb, 8000, .inl f_nb)), (h_nc, .inl (cy_nc, 8000, .inl f_nc))]) [1, 2, 3, 4, 5] rfl
    have hDc := hD.sub (ws' := [(h_mm, .inr (8, (mo86 vq10 (.ref h_nv) (.ref h_na) (.ref h_nb) (.ref h_nc)))), (h_nv, .inl (cy_nv, 8000, .inl f_nv)), (h_na, .inl (cy_na, 8000, .inl f_na)), (h_nb, .inl (cy_nb, 8000, .inl f_nb)), (h_nc, .inl (cy_nc, 8000, .inl f_nc))]) [1, 2, 3, 4, 5] (by decide) rfl
    have hKc := hK.sub (tys' := [(cy_nv, .int), (cy_na, .int), (cy_nb, .int), (cy_nc, .int)]) [0, 2, 3, 4] rfl
    have hFc := va_free (wc := [(h_mm, .inr (8, (mo86 vq10 (.ref h_nv) (.ref h_na) (.ref h_nb) (.ref h_nc)))), (h_nv, .inl (cy_nv, 8000, .inl f_nv)), (h_na, .inl (cy_na, 8000, .inl f_na)), (h_nb, .inl (cy_nb, 8000, .inl f_nb)), (h_nc, .inl (cy_nc, 8000, .inl f_nc))]) hD hS hA [1, 2, 3, 4, 5] rfl
    refine va_calli (va_runV (As := [.int p2]) (rest := [.int r7]) ⟨hx, hb, hml, hown, hts⟩ (c_X11_partsAt_e l dC dI H.size h_mm h_nv h_na h_nb h_nc vq10 cy_nv f_nv cy_na f_na cy_nb f_nb cy_nc f_nc p2 hf_nv hf_na hf_nb hf_nc (by first | exact q1 | omega)) (cwV 1 hts (gv hT w_m_X11_27 w_instanceMethod_X11_partsAt ws_sel_X11_partsAt w_ini_X11 w_code_X11_partsAt) rfl rfl rfl (by decide +kernel) ⟨(Nat.le_of_ble_eq_true rfl), (Nat.le_of_ble_eq_true rfl)⟩) ⟨pre_blind, va_recv hK hP (ci := 8) (q0 := 1) rfl rfl, pre_of hPc hKc hDc hN⟩ rfl rfl hl.1 rfl (lv_room (Nat.le_of_ble_eq_true rfl)) dX11_areOf_23 ⟨(Nat.le_of_ble_eq_true rfl), (Nat.le_of_ble_eq_true rfl)⟩) hS (fun q _ h => hFc q h) hFc (fun r11 u t H locs ht hvm hq hB hz1 hk1 hS9 => ?_)
    obtain ⟨hP1, hD1⟩ := hB
    rw [ht] at hP1
    obtain ⟨hP9, hD9⟩ := va_join (wr := [(h_nn, .inl (cy_nn, 8000, .inr (.inl f_nn)))]) (w1 := [(h_mm, .inr (8, (mo86 vq10 (.ref h_nv) (.ref h_na) (.ref h_nb) (.ref h_nc)))), (h_nv, .inl (cy_nv, 8000, .inl f_nv)), (h_na, .inl (cy_na, 8000, .inl f_na)), (h_nb, .inl (cy_nb, 8000, .inl f_nb)), (h_nc, .inl (cy_nc, 8000, .inl f_nc))]) hP hD [1, 2, 3, 4, 5] [0] rfl rfl (by decide) (by decide) hk1 hFc hP1 hD1
    clear hP hD hS hPc hDc hKc hFc hP1 hD1 hk1 hz1 ht hvm
    have hP : va_P (dC, dI) cls [(h_nn, .inl (cy_nn, 8000, .inr (.inl f_nn))), (h_mm, .inr (8, (mo86 vq10 (.ref h_nv) (.ref h_na) (.ref h_nb) (.ref h_nc)))), (h_nv, .inl (cy_nv, 8000, .inl f_nv)), (h_na, .inl (cy_na, 8000, .inl f_na)), (h_nb, .inl (cy_nb, 8000, .inl f_nb)), (h_nc, .inl (cy_nc, 8000, .inl f_nc))] H := hP9
    have hD : va_D A [(h_nn, .inl (cy_nn, 8000, .inr (.inl f_nn))), (h_mm, .inr (8, (mo86 vq10 (.ref h_nv) (.ref h_na) (.ref h_nb) (.ref h_nc)))), (h_nv, .inl (cy_nv, 8000, .inl f_nv)), (h_na, .inl (cy_na, 8000, .inl f_na)), (h_nb, .inl (cy_nb, 8000, .inl f_nb)), (h_nc, .inl (cy_nc, 8000, .inl f_nc))] := hD9
    have hS := hS9
    clear hP9 hD9 hS9
    rw [evq10] at hP hD
    replace hP : va_P (dC, dI) cls [(h_nn, .inl (cy_nn, 8000, .inr (.inl f_nn))), (h_mm, .inr (8, (mo129 v_mm (.ref h_nv) (.ref h_nn) (.ref h_na) (.ref h_nb) (.ref h_nc)))), (h_nv, .inl (cy_nv, 8000, .inl f_nv)), (h_na, .inl (cy_na, 8000, .inl f_na)), (h_nb, .inl (cy_nb, 8000, .inl f_nb)), (h_nc, .inl (cy_nc, 8000, .inl f_nc))] H := hP
    replace hD : va_D A [(h_nn, .inl (cy_nn, 8000, .inr (.inl f_nn))), (h_mm, .inr (8, (mo129 v_mm (.ref h_nv) (.ref h_nn) (.ref h_na) (.ref h_nb) (.ref h_nc)))), (h_nv, .inl (cy_nv, 8000, .inl f_nv)), (h_na, .inl (cy_na, 8000, .inl f_na)), (h_nb, .inl (cy_nb, 8000, .inl f_nb)), (h_nc, .inl (cy_nc, 8000, .inl f_nc))] := hD
    clear evq10 
    obtain ⟨k12, k13⟩ := hq
    have k12 : 0 ≤ (r11).toInt ∧ (r11).toInt ≤ 3 := k12
    have k13 : ((r11)).toInt = (npx f_nv f_na f_nb f_nc ((p2)).toInt.toNat) := k13
    refine lv_icmp_ne (tgt := 33) hx hb dX11_areOf_26 (by decide) (fun c14 => ?_) (fun c14 => ?_)
    · have kc14 := (not_congr (cv_eq (rfl : (r7).toInt = (r7).toInt) (rfl : (r11).toInt = (r11).toInt))).mp c14
      refine lv_iconst (v := 0) hx hb dX11_areOf_33 (by decide) ?_
      replace hP : va_P (dC, dI) cls [(h_mm, .inr (8, (mo129 v_mm (.ref h_nv) (.ref h_nn) (.ref h_na) (.ref h_nb) (.ref h_nc)))), (h_nv, .inl (cy_nv, 8000, .inl f_nv)), (h_nn, .inl (cy_nn, 8000, .inr (.inl f_nn))), (h_na, .inl (cy_na, 8000, .inl f_na)), (h_nb, .inl (cy_nb, 8000, .inl f_nb)), (h_nc, .inl (cy_nc, 8000, .inl f_nc))] H := hP.sub [1, 2, 0, 3, 4, 5] rfl
      replace hD : va_D A [(h_mm, .inr (8, (mo129 v_mm (.ref h_nv) (.ref h_nn) (.ref h_na) (.ref h_nb) (.ref h_nc)))), (h_nv, .inl (cy_nv, 8000, .inl f_nv)), (h_nn, .inl (cy_nn, 8000, .inr (.inl f_nn))), (h_na, .inl (cy_na, 8000, .inl f_na)), (h_nb, .inl (cy_nb, 8000, .inl f_nb)), (h_nc, .inl (cy_nc, 8000, .inl f_nc))] := hD.sub [1, 2, 0, 3, 4, 5] (by decide) rfl
      refine W.widen (k := 0) (n := 0) (Nat.le_of_ble_eq_true rfl) (Nat.le_of_ble_eq_true rfl) ?_
      have cst0 : (0 : Int32).toInt = 0 := by decide
      have w15 : 0 ≤ (0 : Int32).toInt ∧ (0 : Int32).toInt ≤ 1 := by omega
      exact W.zret (v := 0) (ty := .boolean) hx hb hr (by decide) (fun t ht hW => ⟨⟨0, (), rfl, w15, by rw [ht]; exact hP, hD⟩, hS.F ht⟩) hS.2.2 dX11_areOf_34
    · have kc14 := (cv_eq (rfl : (r7).toInt = (r7).toInt) (rfl : (r11).toInt = (r11).toInt)).mp c14
      refine lv_iconst (v := 1) hx hb dX11_areOf_29 (by decide) ?_
      refine lv_goto (tgt := 34) hx hb dX11_areOf_30 (by decide) ?_
      replace hP : va_P (dC, dI) cls [(h_mm, .inr (8, (mo129 v_mm (.ref h_nv) (.ref h_nn) (.ref h_na) (.ref h_nb) (.ref h_nc)))), (h_nv, .inl (cy_nv, 8000, .inl f_nv)), (h_nn, .inl (cy_nn, 8000, .inr (.inl f_nn))), (h_na, .inl (cy_na, 8000, .inl f_na)), (h_nb, .inl (cy_nb, 8000, .inl f_nb)), (h_nc, .inl (cy_nc, 8000, .inl f_nc))] H := hP.sub [1, 2, 0, 3, 4, 5] rfl
      replace hD : va_D A [(h_mm, .inr (8, (mo129 v_mm (.ref h_nv) (.ref h_nn) (.ref h_na) (.ref h_nb) (.ref h_nc)))), (h_nv, .inl (cy_nv, 8000, .inl f_nv)), (h_nn, .inl (cy_nn, 8000, .inr (.inl f_nn))), (h_na, .inl (cy_na, 8000, .inl f_na)), (h_nb, .inl (cy_nb, 8000, .inl f_nb)), (h_nc, .inl (cy_nc, 8000, .inl f_nc))] := hD.sub [1, 2, 0, 3, 4, 5] (by decide) rfl
      refine W.widen (k := 0) (n := 0) (Nat.le_of_ble_eq_true rfl) (Nat.le_of_ble_eq_true rfl) ?_
      have cst1 : (1 : Int32).toInt = 1 := by decide
      have w16 : 0 ≤ (1 : Int32).toInt ∧ (1 : Int32).toInt ≤ 1 := by omega
      exact W.zret (v := 1) (ty := .boolean) hx hb hr (by decide) (fun t ht hW => ⟨⟨1, (), rfl, w16, by rw [ht]; exact hP, hD⟩, hS.F ht⟩) hS.2.2 dX11_areOf_34

def K_X11_sizeAt (l : Launch) (fu : Nat) : Prop := ∀ (dC : Nat → ClassId) (dI : Nat → Nat → Nat) (sz : Nat) (h_mm : Nat) (h_nv : Nat) (h_na : Nat) (h_nb : Nat) (h_nc : Nat) (v_mm : Nat → Value) (cy_nv : ClassId) (f_nv : Nat → Int32) (cy_na : ClassId) (f_na : Nat → Int32) (cy_nb : ClassId) (f_nb : Nat → Int32) (cy_nc : ClassId) (f_nc : Nat → Int32) (p1 : Int32) (N : Int) (hz : Nat → Nat) (hf_nv : Rg (-1) 7 f_nv) (hf_na : Rg (-1) 7999 f_na) (hf_nb : Rg (-1) 7999 f_nb) (hf_nc : Rg (-1) 7999 f_nc) (q0 : 0 ≤ (p1).toInt ∧ (p1).toInt < N) (q1 : N ≤ 8000) (q2 : hz (p1).toInt.toNat + 1 ≤ fu) (hn_nds : ND 0 N hz f_na f_nb f_nc), Met l yX11_sizeAt (Ws yX11_sizeAt cX11_sizeAt 4 (some .int)) (({ frames := fu + 1, cells := 0, slots := 0, locals := 23 * fu + 22 } : Room)) (PRE (dC, dI) cls [(cy_nv, .int), (cy_na, .int), (cy_nb, .int), (cy_nc, .int)] [(h_mm, .inr (8, (mo86 v_mm (.ref h_nv) (.ref h_na) (.ref h_nb) (.ref h_nc)))), (h_nv, .inl (cy_nv, 8000, .inl f_nv)), (h_na, .inl (cy_na, 8000, .inl f_na)), (h_nb, .inl (cy_nb, 8000, .inl f_nb)), (h_nc, .inl (cy_nc, 8000, .inl f_nc))] sz [.ref h_mm, .int p1]) (va_Qi (fun (r : Int32) (_ : Unit) => True) (fun (_ : Unit) (t : State) => va_P (dC, dI) cls [(h_mm, .inr (8, (mo86 v_mm (.ref h_nv) (.ref h_na) (.ref h_nb) (.ref h_nc)))), (h_nv, .inl (cy_nv, 8000, .inl f_nv)), (h_na, .inl (cy_na, 8000, .inl f_na)), (h_nb, .inl (cy_nb, 8000, .inl f_nb)), (h_nc, .inl (cy_nc, 8000, .inl f_nc))] t.heap ∧ va_D (va_A [(h_mm, .inr (8, (mo86 v_mm (.ref h_nv) (.ref h_na) (.ref h_nb) (.ref h_nc)))), (h_nv, .inl (cy_nv, 8000, .inl f_nv)), (h_na, .inl (cy_na, 8000, .inl f_na)), (h_nb, .inl (cy_nb, 8000, .inl f_nb)), (h_nc, .inl (cy_nc, 8000, .inl f_nc))] sz) [(h_mm, .inr (8, (mo86 v_mm (.ref h_nv) (.ref h_na) (.ref h_nb) (.ref h_nc)))), (h_nv, .inl (cy_nv, 8000, .inl f_nv)), (h_na, .inl (cy_na, 8000, .inl f_na)), (h_nb, .inl (cy_nb, 8000, .inl f_nb)), (h_nc, .inl (cy_nc, 8000, .inl f_nc))]) (va_A [(h_mm, .inr (8, (mo86 v_mm (.ref h_nv) (.ref h_na) (.ref h_nb) (.ref h_nc)))), (h_nv, .inl (cy_nv, 8000, .inl f_nv)), (h_na, .inl (cy_na, 8000, .inl f_na)), (h_nb, .inl (cy_nb, 8000, .inl f_nb)), (h_nc, .inl (cy_nc, 8000, .inl f_nc))] sz)) 0 0 (va_A [(h_mm, .inr (8, (mo86 v_mm (.ref h_nv) (.ref h_na) (.ref h_nb) (.ref h_nc)))), (h_nv, .inl (cy_nv, 8000, .inl f_nv)), (h_na, .inl (cy_na, 8000, .inl f_na)), (h_nb, .inl (cy_nb, 8000, .inl f_nb)), (h_nc, .inl (cy_nc, 8000, .inl f_nc))] sz)
set_option maxHeartbeats 8000000 in
set_option maxRecDepth 100000 in
theorem c_X11_sizeAt (l : Launch) (fu : Nat) : K_X11_sizeAt l fu := by
  refine Nat.rec (motive := fun fu => K_X11_sizeAt l fu) ?_ ?_ fu
  · intro dC dI sz h_mm h_nv h_na h_nb h_nc v_mm cy_nv f_nv cy_na f_na cy_nb f_nb cy_nc f_nc p1 N hz hf_nv hf_na hf_nb hf_nc q0 q1 q2 hn_nds
    have h09 : Nat.zero = 0 := rfl
    exact False.elim (by omega)
  intro fu ihf
  intro dC dI sz h_mm h_nv h_na h_nb h_nc v_mm cy_nv f_nv cy_na f_na cy_nb f_nb cy_nc f_nc p1 N hz hf_nv hf_na hf_nb hf_nc q0 q1 q2 hn_nds
  refine Met.ofW (cc := cX11_sizeAt) (maxL := 4) (ret := (some .int)) (by decide) rfl ?_
  intro p e s m args below meth c s₁ B hml hv
  obtain ⟨rfl, hsz, hP, hK, hD0, hN⟩ := hv
  have hx := B.exec
  have hb := B.bytes
  have hr := B.returns
  have hts := atoms_spec (ws := Ws yX11_sizeAt cX11_sizeAt 4 (some .int)) B.pre
  have hT : ∀ w ∈ WALL, w ∈ Ws yX11_sizeAt cX11_sizeAt 4 (some .int) := fun w h => List.mem_cons_of_mem _ h
  have hw := fun w (h : w ∈ WALL) => hts w (hT w h)
  have hown : s.vm.findClass RX11 = some m.cls := findClass_of_methodNamed B.named
  have hlocks := B.notSynchronized
  subst hsz
  have hD := hD0.self (sz := s.heap.size)
  generalize hAe : va_A [(h_mm, .inr (8, (mo86 v_mm (.ref h_nv) (.ref h_na) (.ref h_nb) (.ref h_nc)))), (h_nv, .inl (cy_nv, 8000, .inl f_nv)), (h_na, .inl (cy_na, 8000, .inl f_na)), (h_nb, .inl (cy_nb, 8000, .inl f_nb)), (h_nc, .inl (cy_nc, 8000, .inl f_nc))] s.heap.size = A at hD ⊢
  have hA : ∀ q : Nat, s.heap.size ≤ q → A q := fun q h => by rw [← hAe]; exact Or.inr h
  have hS : va_S A s.heap s.heap [] := va_S.rf
  have hl := lv_entry ([.ref h_mm, .int p1]) (n := 4) (Nat.le_of_ble_eq_true rfl)
  rw [lg_entry_eq]
  generalize (lg_sl ([.ref h_mm, .int p1]) ++ List.replicate (4 - (lg_sl ([.ref h_mm, .int p1])).length) Slot.unset).toArray = ls at hl ⊢
  have hl : lv_has ls 4 [(0, .ref h_mm), (1, .int p1)] := hl
  refine lv_iconst (v := 1) hx hb dX11_sizeAt_0 (by decide) ?_
  refine lv_istore_n (lv' := [(2, .int 1), (0, .ref h_mm), (1, .int p1)]) hx hb dX11_sizeAt_1 rfl hl (by decide) rfl (fun ls hl => ?_)
  refine lv_iconst (v := 0) hx hb dX11_sizeAt_2 (by decide) ?_
  refine lv_istore_n (lv' := [(3, .int 0), (2, .int 1), (0, .ref h_mm), (1, .int p1)]) hx hb dX11_sizeAt_3 rfl hl (by decide) rfl (fun ls hl => ?_)
  have lp3 : ∀ (n : Nat) (x1 : Int32) (x2 : Int32) (H : Heap) (locs : List Loc) (ls : Array Slot), (0 ≤ (x2).toInt ∧ (x2).toInt ≤ 3) → (3 - (x2).toInt).toNat + 1 ≤ n → va_P (dC, dI) cls [(h_mm, .inr (8, (mo86 v_mm (.ref h_nv) (.ref h_na) (.ref h_nb) (.ref h_nc)))), (h_nv, .inl (cy_nv, 8000, .inl f_nv)), (h_na, .inl (cy_na, 8000, .inl f_na)), (h_nb, .inl (cy_nb, 8000, .inl f_nb)), (h_nc, .inl (cy_nc, 8000, .inl f_nc))] H → va_D A [(h_mm, .inr (8, (mo86 v_mm (.ref h_nv) (.ref h_na) (.ref h_nb) (.ref h_nc)))), (h_nv, .inl (cy_nv, 8000, .inl f_nv)), (h_na, .inl (cy_na, 8000, .inl f_na)), (h_nb, .inl (cy_nb, 8000, .inl f_nb)), (h_nc, .inl (cy_nc, 8000, .inl f_nc))] → va_S A s.heap H locs → lv_has ls 4 [(0, .ref h_mm), (1, .int p1), (2, .int x1), (3, .int x2)] → W p l e ({ frames := (fu + 1) + 1, cells := 0, slots := 0, locals := 23 * (fu + 1) + 22 } : Room) s m ([.ref h_mm, .int p1] : List Value).toArray below meth c H locs 0 0 (MQ below (va_Qi (fun (r : Int32) (_ : Unit) => True) (fun (_ : Unit) (t : State) => va_P (dC, dI) cls [(h_mm, .inr (8, (mo86 v_mm (.ref h_nv) (.ref h_na) (.ref h_nb) (.ref h_nc)))), (h_nv, .inl (cy_nv, 8000, .inl f_nv)), (h_na, .inl (cy_na, 8000, .inl f_na)), (h_nb, .inl (cy_nb, 8000, .inl f_nb)), (h_nc, .inl (cy_nc, 8000, .inl f_nc))] t.heap ∧ va_D A [(h_mm, .inr (8, (mo86 v_mm (.ref h_nv) (.ref h_na) (.ref h_nb) (.ref h_nc)))), (h_nv, .inl (cy_nv, 8000, .inl f_nv)), (h_na, .inl (cy_na, 8000, .inl f_na)), (h_nb, .inl (cy_nb, 8000, .inl f_nb)), (h_nc, .inl (cy_nc, 8000, .inl f_nc))]) A) ([.ref h_mm, .int p1] : List Value).toArray s 0 0 A) (F0 m 4 ls []) := by
    clear hP hD hS hl
    intro n
    induction n with
    | zero => intro x1 x2 H locs ls klp3_0 hm hP hD hS hl; exact False.elim (by omega)
    | succ n ih => 
      intro x1 x2 H locs ls klp3_0 hm hP hD hS hl
      have ih4 := ih
      clear ih
      refine lv_iload_n hx hb dX11_sizeAt_4 rfl (lv_at hl 3 rfl) ?_
      refine lv_aload_n hx hb dX11_sizeAt_5 rfl (lv_at hl 0 rfl) ?_
      refine lv_iload_n hx hb dX11_sizeAt_6 rfl (lv_at hl 1 rfl) ?_
      have hPc := hP.sub (ws' := [(h_mm, .inr (8, (mo86 v_mm (.ref h_nv) (.ref h_na) (.ref h_nb) (.ref h_nc)))), (h_nv, .inl (cy_nv, 8000, .inl f_nv)), (h_na, .inl (cy_na, 8000, .inl f_na)), (h_nb, .inl (cy_nb, 8000, .inl f_nb)), (h_nc, .inl (cy_nc, 8000, .inl f_nc))]) [0, 1, 2, 3, 4] rfl
      have hDc := hD.sub (ws' := [(h_mm, .inr (8, (mo86 v_mm (.ref h_nv) (.ref h_na) (.ref h_nb) (.ref h_nc)))), (h_nv, .inl (cy_nv, 8000, .inl f_nv)), (h_na, .inl (cy_na, 8000, .inl f_na)), (h_nb, .inl (cy_nb, 8000, .inl f_nb)), (h_nc, .inl (cy_nc, 8000, .inl f_nc))]) [0, 1, 2, 3, 4] (by decide) rfl
      have hKc := hK.sub (tys' := [(cy_nv, .int), (cy_na, .int), (cy_nb, .int), (cy_nc, .int)]) [0, 1, 2, 3] rfl
      have hFc := va_free (wc := [(h_mm, .inr (8, (mo86 v_mm (.ref h_nv) (.ref h_na) (.ref h_nb) (.ref h_nc)))), (h_nv, .inl (cy_nv, 8000, .inl f_nv)), (h_na, .inl (cy_na, 8000, .inl f_na)), (h_nb, .inl (cy_nb, 8000, .inl f_nb)), (h_nc, .inl (cy_nc, 8000, .inl f_nc))]) hD hS hA [0, 1, 2, 3, 4] rfl
      refine va_calli (va_runV (As := [.int p1]) (rest := [.int x2]) ⟨hx, hb, hml, hown, hts⟩ (c_X11_partsAt_e l dC dI H.size h_mm h_nv h_na h_nb h_nc v_mm cy_nv f_nv cy_na f_na cy_nb f_nb cy_nc f_nc p1 hf_nv hf_na hf_nb hf_nc (by omega)) (cwV 1 hts (gv hT w_m_X11_27 w_instanceMethod_X11_partsAt ws_sel_X11_partsAt w_ini_X11 w_code_X11_partsAt) rfl rfl rfl (by decide +kernel) ⟨(by dsimp only [headSpec]; omega), (by dsimp only [headSpec]; omega)⟩) ⟨pre_blind, va_recv hK hP (ci := 8) (q0 := 0) rfl rfl, pre_of hPc hKc hDc hN⟩ rfl rfl hl.1 rfl (lv_room (Nat.le_of_ble_eq_true rfl)) dX11_sizeAt_7 ⟨(Nat.le_of_ble_eq_true rfl), (Nat.le_of_ble_eq_true rfl)⟩) hS (fun q _ h => hFc q h) hFc (fun r5 u t H locs ht hvm hq hB hz1 hk1 hS9 => ?_)
      obtain ⟨hP1, hD1⟩ := hB
      rw [ht] at hP1
      obtain ⟨hP9, hD9⟩ := va_join (wr := []) (w1 := [(h_mm, .inr (8, (mo86 v_mm (.ref h_nv) (.ref h_na) (.ref h_nb) (.ref h_nc)))), (h_nv, .inl (cy_nv, 8000, .inl f_nv)), (h_na, .inl (cy_na, 8000, .inl f_na)), (h_nb, .inl (cy_nb, 8000, .inl f_nb)), (h_nc, .inl (cy_nc, 8000, .inl f_nc))]) hP hD [0, 1, 2, 3, 4] [] rfl rfl (by decide) (by decide) hk1 hFc hP1 hD1
      clear hP hD hS hPc hDc hKc hFc hP1 hD1 hk1 hz1 ht hvm
      have hP : va_P (dC, dI) cls [(h_mm, .inr (8, (mo86 v_mm (.ref h_nv) (.ref h_na) (.ref h_nb) (.ref h_nc)))), (h_nv, .inl (cy_nv, 8000, .inl f_nv)), (h_na, .inl (cy_na, 8000, .inl f_na)), (h_nb, .inl (cy_nb, 8000, .inl f_nb)), (h_nc, .inl (cy_nc, 8000, .inl f_nc))] H := hP9
      have hD : va_D A [(h_mm, .inr (8, (mo86 v_mm (.ref h_nv) (.ref h_na) (.ref h_nb) (.ref h_nc)))), (h_nv, .inl (cy_nv, 8000, .inl f_nv)), (h_na, .inl (cy_na, 8000, .inl f_na)), (h_nb, .inl (cy_nb, 8000, .inl f_nb)), (h_nc, .inl (cy_nc, 8000, .inl f_nc))] := hD9
      have hS := hS9
      clear hP9 hD9 hS9
      obtain ⟨k6, k7⟩ := hq
      have k6 : 0 ≤ (r5).toInt ∧ (r5).toInt ≤ 3 := k6
      have k7 : ((r5)).toInt = (npx f_nv f_na f_nb f_nc ((p1)).toInt.toNat) := k7
      refine lv_icmp_ge (tgt := 32) hx hb dX11_sizeAt_10 (by decide) (fun c8 => ?_) (fun c8 => ?_)
      · have kc8 := (cv_le (rfl : (r5).toInt = (r5).toInt) (rfl : (x2).toInt = (x2).toInt)).mp c8
        refine lv_iload_n hx hb dX11_sizeAt_32 rfl (lv_at hl 2 rfl) ?_
        refine W.widen (k := 0) (n := 0) (Nat.le_of_ble_eq_true rfl) (Nat.le_of_ble_eq_true rfl) ?_
        exact W.iret (v := x1) hx hb hr (fun t ht hW => ⟨⟨x1, (), rfl, trivial, by rw [ht]; exact hP, hD⟩, hS.F ht⟩) hS.2.2 dX11_sizeAt_33
      · have kc8 := (not_congr (cv_le (rfl : (r5).toInt = (r5).toInt) (rfl : (x2).toInt = (x2).toInt))).mp c8
        refine lv_iload_n hx hb dX11_sizeAt_13 rfl (lv_at hl 2 rfl) ?_
        refine lv_aload_n hx hb dX11_sizeAt_14 rfl (lv_at hl 0 rfl) ?_
        refine lv_aload_n hx hb dX11_sizeAt_15 rfl (lv_at hl 0 rfl) ?_
        refine lv_iload_n hx hb dX11_sizeAt_16 rfl (lv_at hl 1 rfl) ?_
        refine lv_iload_n hx hb dX11_sizeAt_17 rfl (lv_at hl 3 rfl) ?_
        obtain ⟨vq9, evq9⟩ := mq86_85 v_mm (.ref h_nv)
        replace hP : va_P (dC, dI) cls [(h_mm, .inr (8, (mo85 vq9 (.ref h_na) (.ref h_nb) (.ref h_nc)))), (h_nv, .inl (cy_nv, 8000, .inl f_nv)), (h_na, .inl (cy_na, 8000, .inl f_na)), (h_nb, .inl (cy_nb, 8000, .inl f_nb)), (h_nc, .inl (cy_nc, 8000, .inl f_nc))] H := by rw [evq9]; exact hP
        replace hD : va_D A [(h_mm, .inr (8, (mo85 vq9 (.ref h_na) (.ref h_nb) (.ref h_nc)))), (h_nv, .inl (cy_nv, 8000, .inl f_nv)), (h_na, .inl (cy_na, 8000, .inl f_na)), (h_nb, .inl (cy_nb, 8000, .inl f_nb)), (h_nc, .inl (cy_nc, 8000, .inl f_nc))] := by rw [evq9]; exact hD
        have hPc := hP.sub (ws' := [(h_mm, .inr (8, (mo85 vq9 (.ref h_na) (.ref h_nb) (.ref h_nc)))), (h_na, .inl (cy_na, 8000, .inl f_na)), (h_nb, .inl (cy_nb, 8000, .inl f_nb)), (h_nc, .inl (cy_nc, 8000, .inl f_nc))]) [0, 2, 3, 4] rfl
        have hDc := hD.sub (ws' := [(h_mm, .inr (8, (mo85 vq9 (.ref h_na) (.ref h_nb) (.ref h_nc)))), (h_na, .inl (cy_na, 8000, .inl f_na)), (h_nb, .inl (cy_nb, 8000, .inl f_nb)), (h_nc, .inl (cy_nc, 8000, .inl f_nc))]) [0, 2, 3, 4] (by decide) rfl
        have hKc := hK.sub (tys' := [(cy_na, .int), (cy_nb, .int), (cy_nc, .int)]) [1, 2, 3] rfl
        have hFc := va_free (wc := [(h_mm, .inr (8, (mo85 vq9 (.ref h_na) (.ref h_nb) (.ref h_nc)))), (h_na, .inl (cy_na, 8000, .inl f_na)), (h_nb, .inl (cy_nb, 8000, .inl f_nb)), (h_nc, .inl (cy_nc, 8000, .inl f_nc))]) hD hS hA [0, 2, 3, 4] rfl
        refine va_calli (va_runV (As := [.int p1, .int x2]) (rest := [.ref h_mm, .int x1]) ⟨hx, hb, hml, hown, hts⟩ (c_X11_part_e l dC dI H.size h_mm h_na h_nb h_nc vq9 cy_na f_na cy_nb f_nb cy_nc f_nc p1 x2 hf_na hf_nb hf_nc (by omega)) (cwV 2 hts (gv hT w_m_X11_31 w_instanceMethod_X11_part ws_sel_X11_part w_ini_X11 w_code_X11_part) rfl rfl rfl (by decide +kernel) ⟨(by dsimp only [headSpec]; omega), (by dsimp only [headSpec]; omega)⟩) ⟨pre_blind, va_recv hK hP (ci := 8) (q0 := 0) rfl rfl, pre_of hPc hKc hDc hN⟩ rfl rfl hl.1 rfl (lv_room (Nat.le_of_ble_eq_true rfl)) dX11_sizeAt_18 ⟨(Nat.le_of_ble_eq_true rfl), (Nat.le_of_ble_eq_true rfl)⟩) hS (fun q _ h => hFc q h) hFc (fun r10 u t H locs ht hvm hq hB hz1 hk1 hS9 => ?_)
        obtain ⟨hP1, hD1⟩ := hB
        rw [ht] at hP1
        obtain ⟨hP9, hD9⟩ := va_join (wr := [(h_nv, .inl (cy_nv, 8000, .inl f_nv))]) (w1 := [(h_mm, .inr (8, (mo85 vq9 (.ref h_na) (.ref h_nb) (.ref h_nc)))), (h_na, .inl (cy_na, 8000, .inl f_na)), (h_nb, .inl (cy_nb, 8000, .inl f_nb)), (h_nc, .inl (cy_nc, 8000, .inl f_nc))]) hP hD [0, 2, 3, 4] [1] rfl rfl (by decide) (by decide) hk1 hFc hP1 hD1
        clear hP hD hS hPc hDc hKc hFc hP1 hD1 hk1 hz1 ht hvm
        have hP : va_P (dC, dI) cls [(h_nv, .inl (cy_nv, 8000, .inl f_nv)), (h_mm, .inr (8, (mo85 vq9 (.ref h_na) (.ref h_nb) (.ref h_nc)))), (h_na, .inl (cy_na, 8000, .inl f_na)), (h_nb, .inl (cy_nb, 8000, .inl f_nb)), (h_nc, .inl (cy_nc, 8000, .inl f_nc))] H := hP9
        have hD : va_D A [(h_nv, .inl (cy_nv, 8000, .inl f_nv)), (h_mm, .inr (8, (mo85 vq9 (.ref h_na) (.ref h_nb) (.ref h_nc)))), (h_na, .inl (cy_na, 8000, .inl f_na)), (h_nb, .inl (cy_nb, 8000, .inl f_nb)), (h_nc, .inl (cy_nc, 8000, .inl f_nc))] := hD9
        have hS := hS9
        clear hP9 hD9 hS9
        rw [evq9] at hP hD
        replace hP : va_P (dC, dI) cls [(h_nv, .inl (cy_nv, 8000, .inl f_nv)), (h_mm, .inr (8, (mo86 v_mm (.ref h_nv) (.ref h_na) (.ref h_nb) (.ref h_nc)))), (h_na, .inl (cy_na, 8000, .inl f_na)), (h_nb, .inl (cy_nb, 8000, .inl f_nb)), (h_nc, .inl (cy_nc, 8000, .inl f_nc))] H := hP
        replace hD : va_D A [(h_nv, .inl (cy_nv, 8000, .inl f_nv)), (h_mm, .inr (8, (mo86 v_mm (.ref h_nv) (.ref h_na) (.ref h_nb) (.ref h_nc)))), (h_na, .inl (cy_na, 8000, .inl f_na)), (h_nb, .inl (cy_nb, 8000, .inl f_nb)), (h_nc, .inl (cy_nc, 8000, .inl f_nc))] := hD
        clear evq9 
        obtain ⟨k11, k12⟩ := hq
        have k11 : -1 ≤ (r10).toInt ∧ (r10).toInt ≤ 7999 := k11
        have k12 : ((r10)).toInt = (ptx f_na f_nb f_nc ((p1)).toInt.toNat ((x2)).toInt).toInt := k12
        have ch9 := ch_ok (nv := f_nv) (k := (x2).toInt) (x := (p1).toInt.toNat) hn_nds (by omega) (by omega)
        rw [← Int32.toInt_inj.mp (show (r10).toInt = (ptx f_na f_nb f_nc (p1).toInt.toNat (x2).toInt).toInt by omega)] at ch9
        have hPc := hP.sub (ws' := [(h_mm, .inr (8, (mo86 v_mm (.ref h_nv) (.ref h_na) (.ref h_nb) (.ref h_nc)))), (h_nv, .inl (cy_nv, 8000, .inl f_nv)), (h_na, .inl (cy_na, 8000, .inl f_na)), (h_nb, .inl (cy_nb, 8000, .inl f_nb)), (h_nc, .inl (cy_nc, 8000, .inl f_nc))]) [1, 0, 2, 3, 4] rfl
        have hDc := hD.sub (ws' := [(h_mm, .inr (8, (mo86 v_mm (.ref h_nv) (.ref h_na) (.ref h_nb) (.ref h_nc)))), (h_nv, .inl (cy_nv, 8000, .inl f_nv)), (h_na, .inl (cy_na, 8000, .inl f_na)), (h_nb, .inl (cy_nb, 8000, .inl f_nb)), (h_nc, .inl (cy_nc, 8000, .inl f_nc))]) [1, 0, 2, 3, 4] (by decide) rfl
        have hKc := hK.sub (tys' := [(cy_nv, .int), (cy_na, .int), (cy_nb, .int), (cy_nc, .int)]) [0, 1, 2, 3] rfl
        have hFc := va_free (wc := [(h_mm, .inr (8, (mo86 v_mm (.ref h_nv) (.ref h_na) (.ref h_nb) (.ref h_nc)))), (h_nv, .inl (cy_nv, 8000, .inl f_nv)), (h_na, .inl (cy_na, 8000, .inl f_na)), (h_nb, .inl (cy_nb, 8000, .inl f_nb)), (h_nc, .inl (cy_nc, 8000, .inl f_nc))]) hD hS hA [1, 0, 2, 3, 4] rfl
        refine va_calli (va_runV (As := [.int r10]) (rest := [.int x1]) ⟨hx, hb, hml, hown, hts⟩ (ihf dC dI H.size h_mm h_nv h_na h_nb h_nc v_mm cy_nv f_nv cy_na f_na cy_nb f_nb cy_nc f_nc r10 N hz hf_nv hf_na hf_nb hf_nc (by omega) (by first | exact q1 | omega) (by omega) hn_nds) (cwV 1 hts (gv hT w_m_X11_35 w_instanceMethod_X11_sizeAt ws_sel_X11_sizeAt w_ini_X11 w_code_X11_sizeAt) rfl rfl rfl (by decide +kernel) ⟨(by dsimp only [headSpec]; omega), (by dsimp only [headSpec]; omega)⟩) ⟨pre_blind, va_recv hK hP (ci := 8) (q0 := 1) rfl rfl, pre_of hPc hKc hDc hN⟩ rfl rfl hl.1 rfl (lv_room (Nat.le_of_ble_eq_true rfl)) dX11_sizeAt_21 ⟨(Nat.le_of_ble_eq_true rfl), (Nat.le_of_ble_eq_true rfl)⟩) hS (fun q _ h => hFc q h) hFc (fun r13 u t H locs ht hvm hq hB hz1 hk1 hS9 => ?_)
        obtain ⟨hP1, hD1⟩ := hB
        rw [ht] at hP1
        obtain ⟨hP9, hD9⟩ := va_join (wr := []) (w1 := [(h_mm, .inr (8, (mo86 v_mm (.ref h_nv) (.ref h_na) (.ref h_nb) (.ref h_nc)))), (h_nv, .inl (cy_nv, 8000, .inl f_nv)), (h_na, .inl (cy_na, 8000, .inl f_na)), (h_nb, .inl (cy_nb, 8000, .inl f_nb)), (h_nc, .inl (cy_nc, 8000, .inl f_nc))]) hP hD [1, 0, 2, 3, 4] [] rfl rfl (by decide) (by decide) hk1 hFc hP1 hD1
        clear hP hD hS hPc hDc hKc hFc hP1 hD1 hk1 hz1 ht hvm
        have hP : va_P (dC, dI) cls [(h_mm, .inr (8, (mo86 v_mm (.ref h_nv) (.ref h_na) (.ref h_nb) (.ref h_nc)))), (h_nv, .inl (cy_nv, 8000, .inl f_nv)), (h_na, .inl (cy_na, 8000, .inl f_na)), (h_nb, .inl (cy_nb, 8000, .inl f_nb)), (h_nc, .inl (cy_nc, 8000, .inl f_nc))] H := hP9
        have hD : va_D A [(h_mm, .inr (8, (mo86 v_mm (.ref h_nv) (.ref h_na) (.ref h_nb) (.ref h_nc)))), (h_nv, .inl (cy_nv, 8000, .inl f_nv)), (h_na, .inl (cy_na, 8000, .inl f_na)), (h_nb, .inl (cy_nb, 8000, .inl f_nb)), (h_nc, .inl (cy_nc, 8000, .inl f_nc))] := hD9
        have hS := hS9
        clear hP9 hD9 hS9
        refine lv_iadd hx hb dX11_sizeAt_24 ?_
        refine lv_topi (fun z14 ez14 => ?_)
        refine lv_istore_n (lv' := [(2, .int z14), (0, .ref h_mm), (1, .int p1), (3, .int x2)]) hx hb dX11_sizeAt_25 rfl hl (by decide) rfl (fun ls hl => ?_)
        obtain ⟨z15, ez15⟩ : ∃ y : Int32, y = x2 + 1 := ⟨_, rfl⟩
        have tz15 : (z15).toInt = (x2).toInt + 1 := by rw [ez15]; exact i_add rfl (by decide) (by omega)
        refine lv_iinc (v := z15) (lv' := [(3, .int z15), (2, .int z14), (0, .ref h_mm), (1, .int p1)]) hx hb dX11_sizeAt_26 hl (k := 3) rfl (by rw [ez15]; rfl) (by decide) rfl (fun ls hl => ?_)
        refine lv_goto (tgt := 4) hx hb dX11_sizeAt_29 (by decide) ?_
        exact ih4 (z14) (z15) _ _ _ (by omega) (by omega) hP hD hS (lv_sub hl [2, 3, 1, 0] rfl)
  have cst0 : (0 : Int32).toInt = 0 := by decide
  have cst1 : (1 : Int32).toInt = 1 := by decide
  exact lp3 _ (1) (0) _ _ _ (by decide) (Nat.le_refl _) hP hD hS (lv_sub hl [2, 3, 1, 0] rfl)

set_option maxHeartbeats 8000000 in
set_option maxRecDepth 100000 in
theorem c_X11_sizeOf (l : Launch) (dC : Nat → ClassId) (dI : Nat → Nat → Nat) (sz : Nat) (h_mm : Nat) (h_nv : Nat) (h_na : Nat) (h_nb : Nat) (h_nc : Nat) (h_mny : Nat) (h_tem : Nat) (v_mm : Nat → Value) (cy_nv : ClassId) (f_nv : Nat → Int32) (cy_na : ClassId) (f_na : Nat → Int32) (cy_nb : ClassId) (f_nb : Nat → Int32) (cy_nc : ClassId) (f_nc : Nat → Int32) (cy_mny : ClassId) (f_mny : Nat → Int32) (cy_tem : ClassId) (f_tem : Nat → Int32) (p1 : Int32) (N : Int) (hz : Nat → Nat) (cb : Int) (hf_nv : Rg (-1) 7 f_nv) (hf_na : Rg (-1) 7999 f_na) (hf_nb : Rg (-1) 7999 f_nb) (hf_nc : Rg (-1) 7999 f_nc) (hf_mny : Rg 0 6 f_mny) (hf_tem : Rg 0 7999 f_tem) (q0 : 0 ≤ (p1).toInt ∧ (p1).toInt < cb) (q1 : cb ≤ 16) (q2 : N ≤ 8000) (hn_nds : ND 0 N hz f_na f_nb f_nc) (hn_tms : TM 0 N hz 0 cb f_mny f_tem) : Met l yX11_sizeOf (Ws yX11_sizeOf cX11_sizeOf 4 (some .int)) (({ frames := 10, cells := 0, slots := 0, locals := 229 } : Room)) (PRE (dC, dI) cls [(cy_nv, .int), (cy_na, .int), (cy_nb, .int), (cy_nc, .int), (cy_mny, .int), (cy_tem, .int)] [(h_mm, .inr (8, (mo130 v_mm (.ref h_nv) (.ref h_na) (.ref h_nb) (.ref h_nc) (.ref h_mny) (.ref h_tem)))), (h_nv, .inl (cy_nv, 8000, .inl f_nv)), (h_na, .inl (cy_na, 8000, .inl f_na)), (h_nb, .inl (cy_nb, 8000, .inl f_nb)), (h_nc, .inl (cy_nc, 8000, .inl f_nc)), (h_mny, .inl (cy_mny, 32, .inl f_mny)), (h_tem, .inl (cy_tem, 192, .inl f_tem))] sz [.ref h_mm, .int p1]) (va_Qi (fun (r : Int32) (_ : Unit) => True) (fun (_ : Unit) (t : State) => va_P (dC, dI) cls [(h_mm, .inr (8, (mo130 v_mm (.ref h_nv) (.ref h_na) (.ref h_nb) (.ref h_nc) (.ref h_mny) (.ref h_tem)))), (h_nv, .inl (cy_nv, 8000, .inl f_nv)), (h_na, .inl (cy_na, 8000, .inl f_na)), (h_nb, .inl (cy_nb, 8000, .inl f_nb)), (h_nc, .inl (cy_nc, 8000, .inl f_nc)), (h_mny, .inl (cy_mny, 32, .inl f_mny)), (h_tem, .inl (cy_tem, 192, .inl f_tem))] t.heap ∧ va_D (va_A [(h_mm, .inr (8, (mo130 v_mm (.ref h_nv) (.ref h_na) (.ref h_nb) (.ref h_nc) (.ref h_mny) (.ref h_tem)))), (h_nv, .inl (cy_nv, 8000, .inl f_nv)), (h_na, .inl (cy_na, 8000, .inl f_na)), (h_nb, .inl (cy_nb, 8000, .inl f_nb)), (h_nc, .inl (cy_nc, 8000, .inl f_nc)), (h_mny, .inl (cy_mny, 32, .inl f_mny)), (h_tem, .inl (cy_tem, 192, .inl f_tem))] sz) [(h_mm, .inr (8, (mo130 v_mm (.ref h_nv) (.ref h_na) (.ref h_nb) (.ref h_nc) (.ref h_mny) (.ref h_tem)))), (h_nv, .inl (cy_nv, 8000, .inl f_nv)), (h_na, .inl (cy_na, 8000, .inl f_na)), (h_nb, .inl (cy_nb, 8000, .inl f_nb)), (h_nc, .inl (cy_nc, 8000, .inl f_nc)), (h_mny, .inl (cy_mny, 32, .inl f_mny)), (h_tem, .inl (cy_tem, 192, .inl f_tem))]) (va_A [(h_mm, .inr (8, (mo130 v_mm (.ref h_nv) (.ref h_na) (.ref h_nb) (.ref h_nc) (.ref h_mny) (.ref h_tem)))), (h_nv, .inl (cy_nv, 8000, .inl f_nv)), (h_na, .inl (cy_na, 8000, .inl f_na)), (h_nb, .inl (cy_nb, 8000, .inl f_nb)), (h_nc, .inl (cy_nc, 8000, .inl f_nc)), (h_mny, .inl (cy_mny, 32, .inl f_mny)), (h_tem, .inl (cy_tem, 192, .inl f_tem))] sz)) 0 0 (va_A [(h_mm, .inr (8, (mo130 v_mm (.ref h_nv) (.ref h_na) (.ref h_nb) (.ref h_nc) (.ref h_mny) (.ref h_tem)))), (h_nv, .inl (cy_nv, 8000, .inl f_nv)), (h_na, .inl (cy_na, 8000, .inl f_na)), (h_nb, .inl (cy_nb, 8000, .inl f_nb)), (h_nc, .inl (cy_nc, 8000, .inl f_nc)), (h_mny, .inl (cy_mny, 32, .inl f_mny)), (h_tem, .inl (cy_tem, 192, .inl f_tem))] sz) := by
  refine Met.ofW (cc := cX11_sizeOf) (maxL := 4) (ret := (some .int)) (by decide) rfl ?_
  intro p e s m args below meth c s₁ B hml hv
  obtain ⟨rfl, hsz, hP, hK, hD0, hN⟩ := hv
  have hx := B.exec
  have hb := B.bytes
  have hr := B.returns
  have hts := atoms_spec (ws := Ws yX11_sizeOf cX11_sizeOf 4 (some .int)) B.pre
  have hT : ∀ w ∈ WALL, w ∈ Ws yX11_sizeOf cX11_sizeOf 4 (some .int) := fun w h => List.mem_cons_of_mem _ h
  have hw := fun w (h : w ∈ WALL) => hts w (hT w h)
  have hown : s.vm.findClass RX11 = some m.cls := findClass_of_methodNamed B.named
  have hlocks := B.notSynchronized
  subst hsz
  have hD := hD0.self (sz := s.heap.size)
  generalize hAe : va_A [(h_mm, .inr (8, (mo130 v_mm (.ref h_nv) (.ref h_na) (.ref h_nb) (.ref h_nc) (.ref h_mny) (.ref h_tem)))), (h_nv, .inl (cy_nv, 8000, .inl f_nv)), (h_na, .inl (cy_na, 8000, .inl f_na)), (h_nb, .inl (cy_nb, 8000, .inl f_nb)), (h_nc, .inl (cy_nc, 8000, .inl f_nc)), (h_mny, .inl (cy_mny, 32, .inl f_mny)), (h_tem, .inl (cy_tem, 192, .inl f_tem))] s.heap.size = A at hD ⊢
  have hA : ∀ q : Nat, s.heap.size ≤ q → A q := fun q h => by rw [← hAe]; exact Or.inr h
  have hS : va_S A s.heap s.heap [] := va_S.rf
  have hl := lv_entry ([.ref h_mm, .int p1]) (n := 4) (Nat.le_of_ble_eq_true rfl)
  rw [lg_entry_eq]
  generalize (lg_sl ([.ref h_mm, .int p1]) ++ List.replicate (4 - (lg_sl ([.ref h_mm, .int p1])).length) Slot.unset).toArray = ls at hl ⊢
  have hl : lv_has ls 4 [(0, .ref h_mm), (1, .int p1)] := hl
  refine lv_iconst (v := 0) hx hb dX11_sizeOf_0 (by decide) ?_
  refine lv_istore_n (lv' := [(2, .int 0), (0, .ref h_mm), (1, .int p1)]) hx hb dX11_sizeOf_1 rfl hl (by decide) rfl (fun ls hl => ?_)
  refine lv_iconst (v := 0) hx hb dX11_sizeOf_2 (by decide) ?_
  refine lv_istore_n (lv' := [(3, .int 0), (2, .int 0), (0, .ref h_mm), (1, .int p1)]) hx hb dX11_sizeOf_3 rfl hl (by decide) rfl (fun ls hl => ?_)
  have lp3 : ∀ (n : Nat) (x1 : Int32) (x2 : Int32) (H : Heap) (locs : List Loc) (ls : Array Slot), (0 ≤ (x2).toInt ∧ (x2).toInt ≤ 6) → (6 - (x2).toInt).toNat + 1 ≤ n → va_P (dC, dI) cls [(h_mm, .inr (8, (mo130 v_mm (.ref h_nv) (.ref h_na) (.ref h_nb) (.ref h_nc) (.ref h_mny) (.ref h_tem)))), (h_nv, .inl (cy_nv, 8000, .inl f_nv)), (h_na, .inl (cy_na, 8000, .inl f_na)), (h_nb, .inl (cy_nb, 8000, .inl f_nb)), (h_nc, .inl (cy_nc, 8000, .inl f_nc)), (h_mny, .inl (cy_mny, 32, .inl f_mny)), (h_tem, .inl (cy_tem, 192, .inl f_tem))] H → va_D A [(h_mm, .inr (8, (mo130 v_mm (.ref h_nv) (.ref h_na) (.ref h_nb) (.ref h_nc) (.ref h_mny) (.ref h_tem)))), (h_nv, .inl (cy_nv, 8000, .inl f_nv)), (h_na, .inl (cy_na, 8000, .inl f_na)), (h_nb, .inl (cy_nb, 8000, .inl f_nb)), (h_nc, .inl (cy_nc, 8000, .inl f_nc)), (h_mny, .inl (cy_mny, 32, .inl f_mny)), (h_tem, .inl (cy_tem, 192, .inl f_tem))] → va_S A s.heap H locs → lv_has ls 4 [(0, .ref h_mm), (1, .int p1), (2, .int x1), (3, .int x2)] → W p l e ({ frames := 10, cells := 0, slots := 0, locals := 229 } : Room) s m ([.ref h_mm, .int p1] : List Value).toArray below meth c H locs 0 0 (MQ below (va_Qi (fun (r : Int32) (_ : Unit) => True) (fun (_ : Unit) (t : State) => va_P (dC, dI) cls [(h_mm, .inr (8, (mo130 v_mm (.ref h_nv) (.ref h_na) (.ref h_nb) (.ref h_nc) (.ref h_mny) (.ref h_tem)))), (h_nv, .inl (cy_nv, 8000, .inl f_nv)), (h_na, .inl (cy_na, 8000, .inl f_na)), (h_nb, .inl (cy_nb, 8000, .inl f_nb)), (h_nc, .inl (cy_nc, 8000, .inl f_nc)), (h_mny, .inl (cy_mny, 32, .inl f_mny)), (h_tem, .inl (cy_tem, 192, .inl f_tem))] t.heap ∧ va_D A [(h_mm, .inr (8, (mo130 v_mm (.ref h_nv) (.ref h_na) (.ref h_nb) (.ref h_nc) (.ref h_mny) (.ref h_tem)))), (h_nv, .inl (cy_nv, 8000, .inl f_nv)), (h_na, .inl (cy_na, 8000, .inl f_na)), (h_nb, .inl (cy_nb, 8000, .inl f_nb)), (h_nc, .inl (cy_nc, 8000, .inl f_nc)), (h_mny, .inl (cy_mny, 32, .inl f_mny)), (h_tem, .inl (cy_tem, 192, .inl f_tem))]) A) ([.ref h_mm, .int p1] : List Value).toArray s 0 0 A) (F0 m 4 ls []) := by
    clear hP hD hS hl
    intro n
    induction n with
    | zero => intro x1 x2 H locs ls klp3_0 hm hP hD hS hl; exact False.elim (by omega)
    | succ n ih => 
      intro x1 x2 H locs ls klp3_0 hm hP hD hS hl
      have ih4 := ih
      clear ih
      refine lv_iload_n hx hb dX11_sizeOf_4 rfl (lv_at hl 3 rfl) ?_
      refine lv_aload_n hx hb dX11_sizeOf_5 rfl (lv_at hl 0 rfl) ?_
      refine va_get (D := (dC, dI)) (ci := 8) (v := .ref h_mny) (C := RX11) (T := TX11) (N := 71) hx hb hw iwX11 hown hK hP 0 rfl rfl 8 (by decide) (hw _ w_f_X11_142) (fun _ h9 => h9) rfl dX11_sizeOf_6 ?_
      refine lv_iload_n hx hb dX11_sizeOf_9 rfl (lv_at hl 1 rfl) ?_
      refine va_iald hx hb hK hP 5 4 rfl rfl (i := p1) (vp_in_iff.mpr (by omega)) dX11_sizeOf_10 ?_
      refine lv_topi (fun z5 ez5 => ?_)
      have rz5 : 0 ≤ (z5).toInt ∧ (z5).toInt ≤ 6 := by rw [ez5]; exact hf_mny _
      refine lv_icmp_ge (tgt := 38) hx hb dX11_sizeOf_11 (by decide) (fun c6 => ?_) (fun c6 => ?_)
      · have kc6 := (cv_le (rfl : (z5).toInt = (z5).toInt) (rfl : (x2).toInt = (x2).toInt)).mp c6
        refine lv_iload_n hx hb dX11_sizeOf_38 rfl (lv_at hl 2 rfl) ?_
        refine W.widen (k := 0) (n := 0) (Nat.le_of_ble_eq_true rfl) (Nat.le_of_ble_eq_true rfl) ?_
        exact W.iret (v := x1) hx hb hr (fun t ht hW => ⟨⟨x1, (), rfl, trivial, by rw [ht]; exact hP, hD⟩, hS.F ht⟩) hS.2.2 dX11_sizeOf_39
      · have kc6 := (not_congr (cv_le (rfl : (z5).toInt = (z5).toInt) (rfl : (x2).toInt = (x2).toInt))).mp c6
        refine lv_iload_n hx hb dX11_sizeOf_14 rfl (lv_at hl 2 rfl) ?_
        refine lv_aload_n hx hb dX11_sizeOf_15 rfl (lv_at hl 0 rfl) ?_
        refine lv_aload_n hx hb dX11_sizeOf_16 rfl (lv_at hl 0 rfl) ?_
        refine va_get (D := (dC, dI)) (ci := 8) (v := .ref h_tem) (C := RX11) (T := TX11) (N := 71) hx hb hw iwX11 hown hK hP 0 rfl rfl 12 (by decide) (hw _ w_f_X11_152) (fun _ h9 => h9) rfl dX11_sizeOf_17 ?_
        refine lv_aload_n hx hb dX11_sizeOf_20 rfl (lv_at hl 0 rfl) ?_
        refine lv_iload_n hx hb dX11_sizeOf_21 rfl (lv_at hl 1 rfl) ?_
        refine lv_iload_n hx hb dX11_sizeOf_22 rfl (lv_at hl 3 rfl) ?_
        have hPc := hP.sub (ws' := []) [] rfl
        have hDc := hD.sub (ws' := []) [] (by decide) rfl
        have hKc := hK.sub (tys' := []) [] rfl
        have hFc := va_free (wc := []) hD hS hA [] rfl
        refine va_calli (va_runV (As := [.int p1, .int x2]) (rest := [.ref h_tem, .ref h_mm, .int x1]) ⟨hx, hb, hml, hown, hts⟩ (c_X11_litAt l dC dI H.size h_mm p1 x2 (by omega) (by omega)) (cwV 2 hts (gv hT w_m_X11_149 w_instanceMethod_X11_litAt ws_sel_X11_litAt w_ini_X11 w_code_X11_litAt) rfl rfl rfl (by decide +kernel) ⟨(Nat.le_of_ble_eq_true rfl), (Nat.le_of_ble_eq_true rfl)⟩) ⟨pre_blind, va_recv hK hP (ci := 8) (q0 := 0) rfl rfl, pre_of hPc hKc hDc hN⟩ rfl rfl hl.1 rfl (lv_room (Nat.le_of_ble_eq_true rfl)) dX11_sizeOf_23 ⟨(Nat.le_of_ble_eq_true rfl), (Nat.le_of_ble_eq_true rfl)⟩) hS (fun q _ h => hFc q h) hFc (fun r7 u t H locs ht hvm hq hB hz1 hk1 hS9 => ?_)
        obtain ⟨hP1, hD1⟩ := hB
        rw [ht] at hP1
        obtain ⟨hP9, hD9⟩ := va_join (wr := [(h_mm, .inr (8, (mo130 v_mm (.ref h_nv) (.ref h_na) (.ref h_nb) (.ref h_nc) (.ref h_mny) (.ref h_tem)))), (h_nv, .inl (cy_nv, 8000, .inl f_nv)), (h_na, .inl (cy_na, 8000, .inl f_na)), (h_nb, .inl (cy_nb, 8000, .inl f_nb)), (h_nc, .inl (cy_nc, 8000, .inl f_nc)), (h_mny, .inl (cy_mny, 32, .inl f_mny)), (h_tem, .inl (cy_tem, 192, .inl f_tem))]) (w1 := []) hP hD [] [0, 1, 2, 3, 4, 5, 6] rfl rfl (by decide) (by decide) hk1 hFc hP1 hD1
        clear hP hD hS hPc hDc hKc hFc hP1 hD1 hk1 hz1 ht hvm
        have hP : va_P (dC, dI) cls [(h_mm, .inr (8, (mo130 v_mm (.ref h_nv) (.ref h_na) (.ref h_nb) (.ref h_nc) (.ref h_mny) (.ref h_tem)))), (h_nv, .inl (cy_nv, 8000, .inl f_nv)), (h_na, .inl (cy_na, 8000, .inl f_na)), (h_nb, .inl (cy_nb, 8000, .inl f_nb)), (h_nc, .inl (cy_nc, 8000, .inl f_nc)), (h_mny, .inl (cy_mny, 32, .inl f_mny)), (h_tem, .inl (cy_tem, 192, .inl f_tem))] H := hP9
        have hD : va_D A [(h_mm, .inr (8, (mo130 v_mm (.ref h_nv) (.ref h_na) (.ref h_nb) (.ref h_nc) (.ref h_mny) (.ref h_tem)))), (h_nv, .inl (cy_nv, 8000, .inl f_nv)), (h_na, .inl (cy_na, 8000, .inl f_na)), (h_nb, .inl (cy_nb, 8000, .inl f_nb)), (h_nc, .inl (cy_nc, 8000, .inl f_nc)), (h_mny, .inl (cy_mny, 32, .inl f_mny)), (h_tem, .inl (cy_tem, 192, .inl f_tem))] := hD9
        have hS := hS9
        clear hP9 hD9 hS9
        obtain ⟨k8, k9⟩ := hq
        have k8 : 0 ≤ (r7).toInt ∧ (r7).toInt ≤ 191 := k8
        have k9 : ((r7)).toInt = 6 * ((p1)).toInt + ((x2)).toInt := k9
        refine va_iald hx hb hK hP 6 5 rfl rfl (i := r7) (vp_in_iff.mpr (by omega)) dX11_sizeOf_26 ?_
        refine lv_topi (fun z10 ez10 => ?_)
        have rz10 : 0 ≤ (z10).toInt ∧ (z10).toInt ≤ 7999 := by rw [ez10]; exact hf_tem _
        have mzz5 : (f_mny (Int32.toNatClampNeg p1)).toInt = (z5).toInt := by rw [ez5]
        have tgz10 := tm_get (c := p1) (t := r7) (l := (x2).toInt) hn_tms (by omega) (by omega) (by omega) ez10
        obtain ⟨vq11, evq11⟩ := mq130_86 v_mm (.ref h_mny) (.ref h_tem)
        replace hP : va_P (dC, dI) cls [(h_mm, .inr (8, (mo86 vq11 (.ref h_nv) (.ref h_na) (.ref h_nb) (.ref h_nc)))), (h_nv, .inl (cy_nv, 8000, .inl f_nv)), (h_na, .inl (cy_na, 8000, .inl f_na)), (h_nb, .inl (cy_nb, 8000, .inl f_nb)), (h_nc, .inl (cy_nc, 8000, .inl f_nc)), (h_mny, .inl (cy_mny, 32, .inl f_mny)), (h_tem, .inl (cy_tem, 192, .inl f_tem))] H := by rw [evq11]; exact hP
        replace hD : va_D A [(h_mm, .inr (8, (mo86 vq11 (.ref h_nv) (.ref h_na) (.ref h_nb) (.ref h_nc)))), (h_nv, .inl (cy_nv, 8000, .inl f_nv)), (h_na, .inl (cy_na, 8000, .inl f_na)), (h_nb, .inl (cy_nb, 8000, .inl f_nb)), (h_nc, .inl (cy_nc, 8000, .inl f_nc)), (h_mny, .inl (cy_mny, 32, .inl f_mny)), (h_tem, .inl (cy_tem, 192, .inl f_tem))] := by rw [evq11]; exact hD
        have hPc := hP.sub (ws' := [(h_mm, .inr (8, (mo86 vq11 (.ref h_nv) (.ref h_na) (.ref h_nb) (.ref h_nc)))), (h_nv, .inl (cy_nv, 8000, .inl f_nv)), (h_na, .inl (cy_na, 8000, .inl f_na)), (h_nb, .inl (cy_nb, 8000, .inl f_nb)), (h_nc, .inl (cy_nc, 8000, .inl f_nc))]) [0, 1, 2, 3, 4] rfl
        have hDc := hD.sub (ws' := [(h_mm, .inr (8, (mo86 vq11 (.ref h_nv) (.ref h_na) (.ref h_nb) (.ref h_nc)))), (h_nv, .inl (cy_nv, 8000, .inl f_nv)), (h_na, .inl (cy_na, 8000, .inl f_na)), (h_nb, .inl (cy_nb, 8000, .inl f_nb)), (h_nc, .inl (cy_nc, 8000, .inl f_nc))]) [0, 1, 2, 3, 4] (by decide) rfl
        have hKc := hK.sub (tys' := [(cy_nv, .int), (cy_na, .int), (cy_nb, .int), (cy_nc, .int)]) [0, 1, 2, 3] rfl
        have hFc := va_free (wc := [(h_mm, .inr (8, (mo86 vq11 (.ref h_nv) (.ref h_na) (.ref h_nb) (.ref h_nc)))), (h_nv, .inl (cy_nv, 8000, .inl f_nv)), (h_na, .inl (cy_na, 8000, .inl f_na)), (h_nb, .inl (cy_nb, 8000, .inl f_nb)), (h_nc, .inl (cy_nc, 8000, .inl f_nc))]) hD hS hA [0, 1, 2, 3, 4] rfl
        refine va_calli (va_runV (As := [.int z10]) (rest := [.int x1]) ⟨hx, hb, hml, hown, hts⟩ (c_X11_sizeAt l 8 dC dI H.size h_mm h_nv h_na h_nb h_nc vq11 cy_nv f_nv cy_na f_na cy_nb f_nb cy_nc f_nc z10 N hz hf_nv hf_na hf_nb hf_nc (by omega) (by first | exact q2 | omega) (by omega) hn_nds) (cwV 1 hts (gv hT w_m_X11_35 w_instanceMethod_X11_sizeAt ws_sel_X11_sizeAt w_ini_X11 w_code_X11_sizeAt) rfl rfl rfl (by decide +kernel) ⟨(Nat.le_of_ble_eq_true rfl), (Nat.le_of_ble_eq_true rfl)⟩) ⟨pre_blind, va_recv hK hP (ci := 8) (q0 := 0) rfl rfl, pre_of hPc hKc hDc hN⟩ rfl rfl hl.1 rfl (lv_room (Nat.le_of_ble_eq_true rfl)) dX11_sizeOf_27 ⟨(Nat.le_of_ble_eq_true rfl), (Nat.le_of_ble_eq_true rfl)⟩) hS (fun q _ h => hFc q h) hFc (fun r12 u t H locs ht hvm hq hB hz1 hk1 hS9 => ?_)
        obtain ⟨hP1, hD1⟩ := hB
        rw [ht] at hP1
        obtain ⟨hP9, hD9⟩ := va_join (wr := [(h_mny, .inl (cy_mny, 32, .inl f_mny)), (h_tem, .inl (cy_tem, 192, .inl f_tem))]) (w1 := [(h_mm, .inr (8, (mo86 vq11 (.ref h_nv) (.ref h_na) (.ref h_nb) (.ref h_nc)))), (h_nv, .inl (cy_nv, 8000, .inl f_nv)), (h_na, .inl (cy_na, 8000, .inl f_na)), (h_nb, .inl (cy_nb, 8000, .inl f_nb)), (h_nc, .inl (cy_nc, 8000, .inl f_nc))]) hP hD [0, 1, 2, 3, 4] [5, 6] rfl rfl (by decide) (by decide) hk1 hFc hP1 hD1
        clear hP hD hS hPc hDc hKc hFc hP1 hD1 hk1 hz1 ht hvm
        have hP : va_P (dC, dI) cls [(h_mny, .inl (cy_mny, 32, .inl f_mny)), (h_tem, .inl (cy_tem, 192, .inl f_tem)), (h_mm, .inr (8, (mo86 vq11 (.ref h_nv) (.ref h_na) (.ref h_nb) (.ref h_nc)))), (h_nv, .inl (cy_nv, 8000, .inl f_nv)), (h_na, .inl (cy_na, 8000, .inl f_na)), (h_nb, .inl (cy_nb, 8000, .inl f_nb)), (h_nc, .inl (cy_nc, 8000, .inl f_nc))] H := hP9
        have hD : va_D A [(h_mny, .inl (cy_mny, 32, .inl f_mny)), (h_tem, .inl (cy_tem, 192, .inl f_tem)), (h_mm, .inr (8, (mo86 vq11 (.ref h_nv) (.ref h_na) (.ref h_nb) (.ref h_nc)))), (h_nv, .inl (cy_nv, 8000, .inl f_nv)), (h_na, .inl (cy_na, 8000, .inl f_na)), (h_nb, .inl (cy_nb, 8000, .inl f_nb)), (h_nc, .inl (cy_nc, 8000, .inl f_nc))] := hD9
        have hS := hS9
        clear hP9 hD9 hS9
        rw [evq11] at hP hD
        replace hP : va_P (dC, dI) cls [(h_mny, .inl (cy_mny, 32, .inl f_mny)), (h_tem, .inl (cy_tem, 192, .inl f_tem)), (h_mm, .inr (8, (mo130 v_mm (.ref h_nv) (.ref h_na) (.ref h_nb) (.ref h_nc) (.ref h_mny) (.ref h_tem)))), (h_nv, .inl (cy_nv, 8000, .inl f_nv)), (h_na, .inl (cy_na, 8000, .inl f_na)), (h_nb, .inl (cy_nb, 8000, .inl f_nb)), (h_nc, .inl (cy_nc, 8000, .inl f_nc))] H := hP
        replace hD : va_D A [(h_mny, .inl (cy_mny, 32, .inl f_mny)), (h_tem, .inl (cy_tem, 192, .inl f_tem)), (h_mm, .inr (8, (mo130 v_mm (.ref h_nv) (.ref h_na) (.ref h_nb) (.ref h_nc) (.ref h_mny) (.ref h_tem)))), (h_nv, .inl (cy_nv, 8000, .inl f_nv)), (h_na, .inl (cy_na, 8000, .inl f_na)), (h_nb, .inl (cy_nb, 8000, .inl f_nb)), (h_nc, .inl (cy_nc, 8000, .inl f_nc))] := hD
        clear evq11 
        refine lv_iadd hx hb dX11_sizeOf_30 ?_
        refine lv_topi (fun z13 ez13 => ?_)
        refine lv_istore_n (lv' := [(2, .int z13), (0, .ref h_mm), (1, .int p1), (3, .int x2)]) hx hb dX11_sizeOf_31 rfl hl (by decide) rfl (fun ls hl => ?_)
        obtain ⟨z14, ez14⟩ : ∃ y : Int32, y = x2 + 1 := ⟨_, rfl⟩
        have tz14 : (z14).toInt = (x2).toInt + 1 := by rw [ez14]; exact i_add rfl (by decide) (by omega)
        refine lv_iinc (v := z14) (lv' := [(3, .int z14), (2, .int z13), (0, .ref h_mm), (1, .int p1)]) hx hb dX11_sizeOf_32 hl (k := 3) rfl (by rw [ez14]; rfl) (by decide) rfl (fun ls hl => ?_)
        refine lv_goto (tgt := 4) hx hb dX11_sizeOf_35 (by decide) ?_
        replace hP : va_P (dC, dI) cls [(h_mm, .inr (8, (mo130 v_mm (.ref h_nv) (.ref h_na) (.ref h_nb) (.ref h_nc) (.ref h_mny) (.ref h_tem)))), (h_nv, .inl (cy_nv, 8000, .inl f_nv)), (h_na, .inl (cy_na, 8000, .inl f_na)), (h_nb, .inl (cy_nb, 8000, .inl f_nb)), (h_nc, .inl (cy_nc, 8000, .inl f_nc)), (h_mny, .inl (cy_mny, 32, .inl f_mny)), (h_tem, .inl (cy_tem, 192, .inl f_tem))] H := hP.sub [2, 3, 4, 5, 6, 0, 1] rfl
        replace hD : va_D A [(h_mm, .inr (8, (mo130 v_mm (.ref h_nv) (.ref h_na) (.ref h_nb) (.ref h_nc) (.ref h_mny) (.ref h_tem)))), (h_nv, .inl (cy_nv, 8000, .inl f_nv)), (h_na, .inl (cy_na, 8000, .inl f_na)), (h_nb, .inl (cy_nb, 8000, .inl f_nb)), (h_nc, .inl (cy_nc, 8000, .inl f_nc)), (h_mny, .inl (cy_mny, 32, .inl f_mny)), (h_tem, .inl (cy_tem, 192, .inl f_tem))] := hD.sub [2, 3, 4, 5, 6, 0, 1] (by decide) rfl
        exact ih4 (z13) (z14) _ _ _ (by omega) (by omega) hP hD hS (lv_sub hl [2, 3, 1, 0] rfl)
  have cst0 : (0 : Int32).toInt = 0 := by decide
  exact lp3 _ (0) (0) _ _ _ (by decide) (Nat.le_refl _) hP hD hS (lv_sub hl [2, 3, 1, 0] rfl)

set_option maxHeartbeats 8000000 in
set_option maxRecDepth 100000 in
theorem c_X11_clause (l : Launch) (dC : Nat → ClassId) (dI : Nat → Nat → Nat) (sz : Nat) (h_mm : Nat) (h_nv : Nat) (h_na : Nat) (h_nb : Nat) (h_nc : Nat) (h_mny : Nat) (h_tem : Nat) (h_vrs : Nat) (h_isn : Nat) (v_mm : Nat → Value) (x_mm_clauses : Int32) (cy_nv : ClassId) (f_nv : Nat → Int32) (cy_na : ClassId) (f_na : Nat → Int32) (cy_nb : ClassId) (f_nb : Nat → Int32) (cy_nc : ClassId) (f_nc : Nat → Int32) (cy_mny : ClassId) (f_mny : Nat → Int32) (cy_tem : ClassId) (f_tem : Nat → Int32) (cy_vrs : ClassId) (f_vrs : Nat → Int32) (cy_isn : ClassId) (f_isn : Nat → Int32) (p1 : Int32) (p2 : Int32) (N : Int) (hz : Nat → Nat) (hx_mm_clauses : 0 ≤ (x_mm_clauses).toInt ∧ (x_mm_clauses).toInt ≤ 16) (hf_nv : Rg (-1) 7 f_nv) (hf_na : Rg (-1) 7999 f_na) (hf_nb : Rg (-1) 7999 f_nb) (hf_nc : Rg (-1) 7999 f_nc) (hf_mny : Rg 0 6 f_mny) (hf_tem : Rg 0 7999 f_tem) (hf_vrs : Rg 0 8 f_vrs) (q0 : N ≤ 8000) (hn_nds : ND 0 N hz f_na f_nb f_nc) (hn_tms : TM 0 N hz 0 (x_mm_clauses).toInt f_mny f_tem) : Met l yX11_clause (Ws yX11_clause cX11_clause 3 (some .int)) (({ frames := 11, cells := 0, slots := 0, locals := 252 } : Room)) (PRE (dC, dI) cls [(cy_nv, .int), (cy_na, .int), (cy_nb, .int), (cy_nc, .int), (cy_mny, .int), (cy_tem, .int), (cy_vrs, .int), (cy_isn, .boolean)] [(h_mm, .inr (8, (mo131 v_mm (.ref h_nv) (.ref h_na) (.ref h_nb) (.ref h_nc) (.int x_mm_clauses) (.ref h_mny) (.ref h_vrs) (.ref h_isn) (.ref h_tem)))), (h_nv, .inl (cy_nv, 8000, .inl f_nv)), (h_na, .inl (cy_na, 8000, .inl f_na)), (h_nb, .inl (cy_nb, 8000, .inl f_nb)), (h_nc, .inl (cy_nc, 8000, .inl f_nc)), (h_mny, .inl (cy_mny, 32, .inl f_mny)), (h_tem, .inl (cy_tem, 192, .inl f_tem)), (h_vrs, .inl (cy_vrs, 32, .inl f_vrs)), (h_isn, .inl (cy_isn, 192, .inl f_isn))] sz [.ref h_mm, .int p1, .int p2]) (va_Qi (fun (r : Int32) (u : (Int32)) => True) (fun (u : (Int32)) (t : State) => va_P (dC, dI) cls [(h_mm, .inr (8, (mo132 v_mm (.int u) (.ref h_nv) (.ref h_na) (.ref h_nb) (.ref h_nc) (.int x_mm_clauses) (.ref h_mny) (.ref h_vrs) (.ref h_isn) (.ref h_tem)))), (h_nv, .inl (cy_nv, 8000, .inl f_nv)), (h_na, .inl (cy_na, 8000, .inl f_na)), (h_nb, .inl (cy_nb, 8000, .inl f_nb)), (h_nc, .inl (cy_nc, 8000, .inl f_nc)), (h_mny, .inl (cy_mny, 32, .inl f_mny)), (h_tem, .inl (cy_tem, 192, .inl f_tem)), (h_vrs, .inl (cy_vrs, 32, .inl f_vrs)), (h_isn, .inl (cy_isn, 192, .inl f_isn))] t.heap ∧ va_D (va_A [(h_mm, .inr (8, (mo131 v_mm (.ref h_nv) (.ref h_na) (.ref h_nb) (.ref h_nc) (.int x_mm_clauses) (.ref h_mny) (.ref h_vrs) (.ref h_isn) (.ref h_tem)))), (h_nv, .inl (cy_nv, 8000, .inl f_nv)), (h_na, .inl (cy_na, 8000, .inl f_na)), (h_nb, .inl (cy_nb, 8000, .inl f_nb)), (h_nc, .inl (cy_nc, 8000, .inl f_nc)), (h_mny, .inl (cy_mny, 32, .inl f_mny)), (h_tem, .inl (cy_tem, 192, .inl f_tem)), (h_vrs, .inl (cy_vrs, 32, .inl f_vrs)), (h_isn, .inl (cy_isn, 192, .inl f_isn))] sz) [(h_mm, .inr (8, (mo132 v_mm (.int u) (.ref h_nv) (.ref h_na) (.ref h_nb) (.ref h_nc) (.int x_mm_clauses) (.ref h_mny) (.ref h_vrs) (.ref h_isn) (.ref h_tem)))), (h_nv, .inl (cy_nv, 8000, .inl f_nv)), (h_na, .inl (cy_na, 8000, .inl f_na)), (h_nb, .inl (cy_nb, 8000, .inl f_nb)), (h_nc, .inl (cy_nc, 8000, .inl f_nc)), (h_mny, .inl (cy_mny, 32, .inl f_mny)), (h_tem, .inl (cy_tem, 192, .inl f_tem)), (h_vrs, .inl (cy_vrs, 32, .inl f_vrs)), (h_isn, .inl (cy_isn, 192, .inl f_isn))]) (va_A [(h_mm, .inr (8, (mo131 v_mm (.ref h_nv) (.ref h_na) (.ref h_nb) (.ref h_nc) (.int x_mm_clauses) (.ref h_mny) (.ref h_vrs) (.ref h_isn) (.ref h_tem)))), (h_nv, .inl (cy_nv, 8000, .inl f_nv)), (h_na, .inl (cy_na, 8000, .inl f_na)), (h_nb, .inl (cy_nb, 8000, .inl f_nb)), (h_nc, .inl (cy_nc, 8000, .inl f_nc)), (h_mny, .inl (cy_mny, 32, .inl f_mny)), (h_tem, .inl (cy_tem, 192, .inl f_tem)), (h_vrs, .inl (cy_vrs, 32, .inl f_vrs)), (h_isn, .inl (cy_isn, 192, .inl f_isn))] sz)) 0 0 (va_A [(h_mm, .inr (8, (mo131 v_mm (.ref h_nv) (.ref h_na) (.ref h_nb) (.ref h_nc) (.int x_mm_clauses) (.ref h_mny) (.ref h_vrs) (.ref h_isn) (.ref h_tem)))), (h_nv, .inl (cy_nv, 8000, .inl f_nv)), (h_na, .inl (cy_na, 8000, .inl f_na)), (h_nb, .inl (cy_nb, 8000, .inl f_nb)), (h_nc, .inl (cy_nc, 8000, .inl f_nc)), (h_mny, .inl (cy_mny, 32, .inl f_mny)), (h_tem, .inl (cy_tem, 192, .inl f_tem)), (h_vrs, .inl (cy_vrs, 32, .inl f_vrs)), (h_isn, .inl (cy_isn, 192, .inl f_isn))] sz) := by
  refine Met.ofW (cc := cX11_clause) (maxL := 3) (ret := (some .int)) (by decide) rfl ?_
  intro p e s m args below meth c s₁ B hml hv
  obtain ⟨rfl, hsz, hP, hK, hD0, hN⟩ := hv
  have hx := B.exec
  have hb := B.bytes
  have hr := B.returns
  have hts := atoms_spec (ws := Ws yX11_clause cX11_clause 3 (some .int)) B.pre
  have hT : ∀ w ∈ WALL, w ∈ Ws yX11_clause cX11_clause 3 (some .int) := fun w h => List.mem_cons_of_mem _ h
  have hw := fun w (h : w ∈ WALL) => hts w (hT w h)
  have hown : s.vm.findClass RX11 = some m.cls := findClass_of_methodNamed B.named
  have hlocks := B.notSynchronized
  subst hsz
  have hD := hD0.self (sz := s.heap.size)
  generalize hAe : va_A [(h_mm, .inr (8, (mo131 v_mm (.ref h_nv) (.ref h_na) (.ref h_nb) (.ref h_nc) (.int x_mm_clauses) (.ref h_mny) (.ref h_vrs) (.ref h_isn) (.ref h_tem)))), (h_nv, .inl (cy_nv, 8000, .inl f_nv)), (h_na, .inl (cy_na, 8000, .inl f_na)), (h_nb, .inl (cy_nb, 8000, .inl f_nb)), (h_nc, .inl (cy_nc, 8000, .inl f_nc)), (h_mny, .inl (cy_mny, 32, .inl f_mny)), (h_tem, .inl (cy_tem, 192, .inl f_tem)), (h_vrs, .inl (cy_vrs, 32, .inl f_vrs)), (h_isn, .inl (cy_isn, 192, .inl f_isn))] s.heap.size = A at hD ⊢
  have hA : ∀ q : Nat, s.heap.size ≤ q → A q := fun q h => by rw [← hAe]; exact Or.inr h
  have hS : va_S A s.heap s.heap [] := va_S.rf
  have hl := lv_entry ([.ref h_mm, .int p1, .int p2]) (n := 3) (Nat.le_of_ble_eq_true rfl)
  rw [lg_entry_eq]
  generalize (lg_sl ([.ref h_mm, .int p1, .int p2]) ++ List.replicate (3 - (lg_sl ([.ref h_mm, .int p1, .int p2])).length) Slot.unset).toArray = ls at hl ⊢
  have hl : lv_has ls 3 [(0, .ref h_mm), (1, .int p1), (2, .int p2)] := hl
  refine lv_aload_n hx hb dX11_clause_0 rfl (lv_at hl 0 rfl) ?_
  refine lv_iconst (v := 0) hx hb dX11_clause_1 (by decide) ?_
  refine va_put (D := (dC, dI)) (ci := 8) (v := .int 0) (ty := tyX11 0) (C := RX11) (T := TX11) (N := 71) hx hb hw iwX11 tyX11 tyX11_ok nmX11 hown hK hP hD hS 0 rfl rfl 0 (by decide) (hw _ w_f_X11_1) (fun _ h9 => h9) rfl (tyX11_ok 0 (by decide)) rfl rfl (Nat.le_of_ble_eq_true rfl) dX11_clause_2 (fun H locs hP9 hD9 hS9 => ?_)
  clear hP hD hS
  have hP : va_P (dC, dI) cls [(h_mm, .inr (8, (mo132 v_mm (.int 0) (.ref h_nv) (.ref h_na) (.ref h_nb) (.ref h_nc) (.int x_mm_clauses) (.ref h_mny) (.ref h_vrs) (.ref h_isn) (.ref h_tem)))), (h_nv, .inl (cy_nv, 8000, .inl f_nv)), (h_na, .inl (cy_na, 8000, .inl f_na)), (h_nb, .inl (cy_nb, 8000, .inl f_nb)), (h_nc, .inl (cy_nc, 8000, .inl f_nc)), (h_mny, .inl (cy_mny, 32, .inl f_mny)), (h_tem, .inl (cy_tem, 192, .inl f_tem)), (h_vrs, .inl (cy_vrs, 32, .inl f_vrs)), (h_isn, .inl (cy_isn, 192, .inl f_isn))] H := hP9
  have hD : va_D A [(h_mm, .inr (8, (mo132 v_mm (.int 0) (.ref h_nv) (.ref h_na) (.ref h_nb) (.ref h_nc) (.int x_mm_clauses) (.ref h_mny) (.ref h_vrs) (.ref h_isn) (.ref h_tem)))), (h_nv, .inl (cy_nv, 8000, .inl f_nv)), (h_na, .inl (cy_na, 8000, .inl f_na)), (h_nb, .inl (cy_nb, 8000, .inl f_nb)), (h_nc, .inl (cy_nc, 8000, .inl f_nc)), (h_mny, .inl (cy_mny, 32, .inl f_mny)), (h_tem, .inl (cy_tem, 192, .inl f_tem)), (h_vrs, .inl (cy_vrs, 32, .inl f_vrs)), (h_isn, .inl (cy_isn, 192, .inl f_isn))] := hD9
  have hS := hS9
  clear hP9 hD9 hS9
  refine lv_aload_n hx hb dX11_clause_5 rfl (lv_at hl 0 rfl) ?_
  refine lv_iload_n hx hb dX11_clause_6 rfl (lv_at hl 1 rfl) ?_
  obtain ⟨vq1, evq1⟩ := mq132_99 v_mm (.int 0) (.ref h_nv) (.ref h_na) (.ref h_nb) (.ref h_nc) (.ref h_mny) (.ref h_vrs) (.ref h_isn) (.ref h_tem)
  replace hP : va_P (dC, dI) cls [(h_mm, .inr (8, (mo99 vq1 (.int x_mm_clauses)))), (h_nv, .inl (cy_nv, 8000, .inl f_nv)), (h_na, .inl (cy_na, 8000, .inl f_na)), (h_nb, .inl (cy_nb, 8000, .inl f_nb)), (h_nc, .inl (cy_nc, 8000, .inl f_nc)), (h_mny, .inl (cy_mny, 32, .inl f_mny)), (h_tem, .inl (cy_tem, 192, .inl f_tem)), (h_vrs, .inl (cy_vrs, 32, .inl f_vrs)), (h_isn, .inl (cy_isn, 192, .inl f_isn))] H := by rw [evq1]; exact hP
  replace hD : va_D A [(h_mm, .inr (8, (mo99 vq1 (.int x_mm_clauses)))), (h_nv, .inl (cy_nv, 8000, .inl f_nv)), (h_na, .inl (cy_na, 8000, .inl f_na)), (h_nb, .inl (cy_nb, 8000, .inl f_nb)), (h_nc, .inl (cy_nc, 8000, .inl f_nc)), (h_mny, .inl (cy_mny, 32, .inl f_mny)), (h_tem, .inl (cy_tem, 192, .inl f_tem)), (h_vrs, .inl (cy_vrs, 32, .inl f_vrs)), (h_isn, .inl (cy_isn, 192, .inl f_isn))] := by rw [evq1]; exact hD
  have hPc := hP.sub (ws' := [(h_mm, .inr (8, (mo99 vq1 (.int x_mm_clauses))))]) [0] rfl
  have hDc := hD.sub (ws' := [(h_mm, .inr (8, (mo99 vq1 (.int x_mm_clauses))))]) [0] (by decide) rfl
  have hKc := hK.sub (tys' := []) [] rfl
  have hFc := va_free (wc := [(h_mm, .inr (8, (mo99 vq1 (.int x_mm_clauses))))]) hD hS hA [0] rfl
  refine va_calli (va_runV (As := [.int p1]) (rest := []) ⟨hx, hb, hml, hown, hts⟩ (c_X11_isClause l dC dI H.size h_mm vq1 x_mm_clauses p1 (by first | exact hx_mm_clauses | omega)) (cwV 1 hts (gv hT w_m_X11_174 w_instanceMethod_X11_isClause ws_sel_X11_isClause w_ini_X11 w_code_X11_isClause) rfl rfl rfl (by decide +kernel) ⟨(Nat.le_of_ble_eq_true rfl), (Nat.le_of_ble_eq_true rfl)⟩) ⟨pre_blind, va_recv hK hP (ci := 8) (q0 := 0) rfl rfl, pre_of hPc hKc hDc hN⟩ rfl rfl hl.1 rfl (lv_room (Nat.le_of_ble_eq_true rfl)) dX11_clause_7 ⟨(Nat.le_of_ble_eq_true rfl), (Nat.le_of_ble_eq_true rfl)⟩) hS (fun q _ h => hFc q h) hFc (fun r2 u t H locs ht hvm hq hB hz1 hk1 hS9 => ?_)
  obtain ⟨hP1, hD1⟩ := hB
  rw [ht] at hP1
  obtain ⟨hP9, hD9⟩ := va_join (wr := [(h_nv, .inl (cy_nv, 8000, .inl f_nv)), (h_na, .inl (cy_na, 8000, .inl f_na)), (h_nb, .inl (cy_nb, 8000, .inl f_nb)), (h_nc, .inl (cy_nc, 8000, .inl f_nc)), (h_mny, .inl (cy_mny, 32, .inl f_mny)), (h_tem, .inl (cy_tem, 192, .inl f_tem)), (h_vrs, .inl (cy_vrs, 32, .inl f_vrs)), (h_isn, .inl (cy_isn, 192, .inl f_isn))]) (w1 := [(h_mm, .inr (8, (mo99 vq1 (.int x_mm_clauses))))]) hP hD [0] [1, 2, 3, 4, 5, 6, 7, 8] rfl rfl (by decide) (by decide) hk1 hFc hP1 hD1
  clear hP hD hS hPc hDc hKc hFc hP1 hD1 hk1 hz1 ht hvm
  have hP : va_P (dC, dI) cls [(h_nv, .inl (cy_nv, 8000, .inl f_nv)), (h_na, .inl (cy_na, 8000, .inl f_na)), (h_nb, .inl (cy_nb, 8000, .inl f_nb)), (h_nc, .inl (cy_nc, 8000, .inl f_nc)), (h_mny, .inl (cy_mny, 32, .inl f_mny)), (h_tem, .inl (cy_tem, 192, .inl f_tem)), (h_vrs, .inl (cy_vrs, 32, .inl f_vrs)), (h_isn, .inl (cy_isn, 192, .inl f_isn)), (h_mm, .inr (8, (mo99 vq1 (.int x_mm_clauses))))] H := hP9
  have hD : va_D A [(h_nv, .inl (cy_nv, 8000, .inl f_nv)), (h_na, .inl (cy_na, 8000, .inl f_na)), (h_nb, .inl (cy_nb, 8000, .inl f_nb)), (h_nc, .inl (cy_nc, 8000, .inl f_nc)), (h_mny, .inl (cy_mny, 32, .inl f_mny)), (h_tem, .inl (cy_tem, 192, .inl f_tem)), (h_vrs, .inl (cy_vrs, 32, .inl f_vrs)), (h_isn, .inl (cy_isn, 192, .inl f_isn)), (h_mm, .inr (8, (mo99 vq1 (.int x_mm_clauses))))] := hD9
  have hS := hS9
  clear hP9 hD9 hS9
  rw [evq1] at hP hD
  replace hP : va_P (dC, dI) cls [(h_nv, .inl (cy_nv, 8000, .inl f_nv)), (h_na, .inl (cy_na, 8000, .inl f_na)), (h_nb, .inl (cy_nb, 8000, .inl f_nb)), (h_nc, .inl (cy_nc, 8000, .inl f_nc)), (h_mny, .inl (cy_mny, 32, .inl f_mny)), (h_tem, .inl (cy_tem, 192, .inl f_tem)), (h_vrs, .inl (cy_vrs, 32, .inl f_vrs)), (h_isn, .inl (cy_isn, 192, .inl f_isn)), (h_mm, .inr (8, (mo132 v_mm (.int 0) (.ref h_nv) (.ref h_na) (.ref h_nb) (.ref h_nc) (.int x_mm_clauses) (.ref h_mny) (.ref h_vrs) (.ref h_isn) (.ref h_tem))))] H := hP
  replace hD : va_D A [(h_nv, .inl (cy_nv, 8000, .inl f_nv)), (h_na, .inl (cy_na, 8000, .inl f_na)), (h_nb, .inl (cy_nb, 8000, .inl f_nb)), (h_nc, .inl (cy_nc, 8000, .inl f_nc)), (h_mny, .inl (cy_mny, 32, .inl f_mny)), (h_tem, .inl (cy_tem, 192, .inl f_tem)), (h_vrs, .inl (cy_vrs, 32, .inl f_vrs)), (h_isn, .inl (cy_isn, 192, .inl f_isn)), (h_mm, .inr (8, (mo132 v_mm (.int 0) (.ref h_nv) (.ref h_na) (.ref h_nb) (.ref h_nc) (.int x_mm_clauses) (.ref h_mny) (.ref h_vrs) (.ref h_isn) (.ref h_tem))))] := hD
  clear evq1 
  rcases hq with ⟨rfl, hq⟩ | rfl
  · have hq : (0 ≤ ((p1)).toInt) ∧ (((p1)).toInt < ((x_mm_clauses)).toInt) := hq
    refine lv_if_ne (tgt := 15) hx hb dX11_clause_10 (by decide) (fun _ => ?_) (fun c9 => absurd c9 (by decide))
    refine lv_iload_n hx hb dX11_clause_15 rfl (lv_at hl 2 rfl) ?_
    have s3 : (p2).toInt < 0 ∨ 3 < (p2).toInt ∨ (p2).toInt = 0 ∨ (p2).toInt = 1 ∨ (p2).toInt = 2 ∨ (p2).toInt = 3 := by omega
    rcases s3 with s3 | s3 | s3 | s3 | s3 | s3
    · refine lv_tableOut (tgt := 74) hx hb dX11_clause_16 (Or.inl s3) (by decide) ?_
      refine lv_aload_n hx hb dX11_clause_74 rfl (lv_at hl 0 rfl) ?_
      refine lv_iload_n hx hb dX11_clause_75 rfl (lv_at hl 2 rfl) ?_
      refine lv_i2l hx hb dX11_clause_76 rfl ?_
      refine lv_topl (fun z4 ez4 => ?_)
      have tz4 : (z4).toInt = (p2).toInt := by rw [ez4]; exact Int32.toInt_toInt64 _
      have bz4 := i_bd p2
      refine lv_ldc2 (v := 10) hx hb hown (hw _ w_cl_X11_183) dX11_clause_77 ?_
      refine lv_ldc2 (v := 9) hx hb hown (hw _ w_cl_X11_185) dX11_clause_80 ?_
      refine lv_aload_n hx hb dX11_clause_83 rfl (lv_at hl 0 rfl) ?_
      refine va_get (D := (dC, dI)) (ci := 8) (v := .ref h_mny) (C := RX11) (T := TX11) (N := 71) hx hb hw iwX11 hown hK hP 8 rfl rfl 8 (by decide) (hw _ w_f_X11_142) (fun _ h9 => h9) rfl dX11_clause_84 ?_
      refine lv_iload_n hx hb dX11_clause_87 rfl (lv_at hl 1 rfl) ?_
      refine va_iald hx hb hK hP 4 4 rfl rfl (i := p1) (vp_in_iff.mpr (by omega)) dX11_clause_88 ?_
      refine lv_topi (fun z5 ez5 => ?_)
      have rz5 : 0 ≤ (z5).toInt ∧ (z5).toInt ≤ 6 := by rw [ez5]; exact hf_mny _
      refine lv_i2l hx hb dX11_clause_89 rfl ?_
      refine lv_topl (fun z6 ez6 => ?_)
      have tz6 : (z6).toInt = (z5).toInt := by rw [ez6]; exact Int32.toInt_toInt64 _
      have bz6 := i_bd z5
      refine lv_ladd hx hb dX11_clause_90 ?_
      refine lv_topl (fun z7 ez7 => ?_)
      have tz7 : (z7).toInt = 9 + (z6).toInt := by rw [ez7]; exact l_add (by decide) rfl (by omega)
      have : (10 : Int64).toInt = 10 := by decide
      have hPc := hP.sub (ws' := []) [] rfl
      have hDc := hD.sub (ws' := []) [] (by decide) rfl
      have hKc := hK.sub (tys' := []) [] rfl
      have hFc := va_free (wc := []) hD hS hA [] rfl
      refine va_calli (va_runV (As := [.long z4, .long 10, .long z7]) (rest := []) ⟨hx, hb, hml, hown, hts⟩ (c_X11_isIn l dC dI H.size h_mm z4 10 z7) (cwV 3 hts (gv hT w_m_X11_49 w_instanceMethod_X11_isIn ws_sel_X11_isIn w_ini_X11 w_code_X11_isIn) rfl rfl rfl (by decide +kernel) ⟨(Nat.le_of_ble_eq_true rfl), (Nat.le_of_ble_eq_true rfl)⟩) ⟨pre_blind, va_recv hK hP (ci := 8) (q0 := 8) rfl rfl, pre_of hPc hKc hDc hN⟩ rfl rfl hl.1 rfl (lv_room (Nat.le_of_ble_eq_true rfl)) dX11_clause_91 ⟨(Nat.le_of_ble_eq_true rfl), (Nat.le_of_ble_eq_true rfl)⟩) hS (fun q _ h => hFc q h) hFc (fun r8 u t H locs ht hvm hq hB hz1 hk1 hS9 => ?_)
      obtain ⟨hP1, hD1⟩ := hB
      rw [ht] at hP1
      obtain ⟨hP9, hD9⟩ := va_join (wr := [(h_nv, .inl (cy_nv, 8000, .inl f_nv)), (h_na, .inl (cy_na, 8000, .inl f_na)), (h_nb, .inl (cy_nb, 8000, .inl f_nb)), (h_nc, .inl (cy_nc, 8000, .inl f_nc)), (h_mny, .inl (cy_mny, 32, .inl f_mny)), (h_tem, .inl (cy_tem, 192, .inl f_tem)), (h_vrs, .inl (cy_vrs, 32, .inl f_vrs)), (h_isn, .inl (cy_isn, 192, .inl f_isn)), (h_mm, .inr (8, (mo132 v_mm (.int 0) (.ref h_nv) (.ref h_na) (.ref h_nb) (.ref h_nc) (.int x_mm_clauses) (.ref h_mny) (.ref h_vrs) (.ref h_isn) (.ref h_tem))))]) (w1 := []) hP hD [] [0, 1, 2, 3, 4, 5, 6, 7, 8] rfl rfl (by decide) (by decide) hk1 hFc hP1 hD1
      clear hP hD hS hPc hDc hKc hFc hP1 hD1 hk1 hz1 ht hvm
      have hP : va_P (dC, dI) cls [(h_nv, .inl (cy_nv, 8000, .inl f_nv)), (h_na, .inl (cy_na, 8000, .inl f_na)), (h_nb, .inl (cy_nb, 8000, .inl f_nb)), (h_nc, .inl (cy_nc, 8000, .inl f_nc)), (h_mny, .inl (cy_mny, 32, .inl f_mny)), (h_tem, .inl (cy_tem, 192, .inl f_tem)), (h_vrs, .inl (cy_vrs, 32, .inl f_vrs)), (h_isn, .inl (cy_isn, 192, .inl f_isn)), (h_mm, .inr (8, (mo132 v_mm (.int 0) (.ref h_nv) (.ref h_na) (.ref h_nb) (.ref h_nc) (.int x_mm_clauses) (.ref h_mny) (.ref h_vrs) (.ref h_isn) (.ref h_tem))))] H := hP9
      have hD : va_D A [(h_nv, .inl (cy_nv, 8000, .inl f_nv)), (h_na, .inl (cy_na, 8000, .inl f_na)), (h_nb, .inl (cy_nb, 8000, .inl f_nb)), (h_nc, .inl (cy_nc, 8000, .inl f_nc)), (h_mny, .inl (cy_mny, 32, .inl f_mny)), (h_tem, .inl (cy_tem, 192, .inl f_tem)), (h_vrs, .inl (cy_vrs, 32, .inl f_vrs)), (h_isn, .inl (cy_isn, 192, .inl f_isn)), (h_mm, .inr (8, (mo132 v_mm (.int 0) (.ref h_nv) (.ref h_na) (.ref h_nb) (.ref h_nc) (.int x_mm_clauses) (.ref h_mny) (.ref h_vrs) (.ref h_isn) (.ref h_tem))))] := hD9
      have hS := hS9
      clear hP9 hD9 hS9
      rcases hq with ⟨rfl, hq⟩ | ⟨rfl, hq⟩
      · have hq : (((10 : Int64)).toInt ≤ ((z4)).toInt) ∧ (((z4)).toInt ≤ ((z7)).toInt) := hq
        refine lv_if_eq (tgt := 118) hx hb dX11_clause_94 (by decide) (fun c9 => absurd c9 (by decide)) (fun _ => ?_)
        refine lv_aload_n hx hb dX11_clause_97 rfl (lv_at hl 0 rfl) ?_
        refine lv_aload_n hx hb dX11_clause_98 rfl (lv_at hl 0 rfl) ?_
        refine va_get (D := (dC, dI)) (ci := 8) (v := .ref h_tem) (C := RX11) (T := TX11) (N := 71) hx hb hw iwX11 hown hK hP 8 rfl rfl 12 (by decide) (hw _ w_f_X11_152) (fun _ h9 => h9) rfl dX11_clause_99 ?_
        refine lv_aload_n hx hb dX11_clause_102 rfl (lv_at hl 0 rfl) ?_
        refine lv_iload_n hx hb dX11_clause_103 rfl (lv_at hl 1 rfl) ?_
        refine lv_iload_n hx hb dX11_clause_104 rfl (lv_at hl 2 rfl) ?_
        refine lv_bipush (v := 10) hx hb dX11_clause_105 (by decide) ?_
        refine lv_isub hx hb dX11_clause_107 ?_
        refine lv_topi (fun z9 ez9 => ?_)
        have tz9 : (z9).toInt = (p2).toInt - 10 := by rw [ez9]; exact i_sub rfl (by decide) (by omega)
        have hPc := hP.sub (ws' := []) [] rfl
        have hDc := hD.sub (ws' := []) [] (by decide) rfl
        have hKc := hK.sub (tys' := []) [] rfl
        have hFc := va_free (wc := []) hD hS hA [] rfl
        refine va_calli (va_runV (As := [.int p1, .int z9]) (rest := [.ref h_tem, .ref h_mm]) ⟨hx, hb, hml, hown, hts⟩ (c_X11_litAt l dC dI H.size h_mm p1 z9 (by omega) (by omega)) (cwV 2 hts (gv hT w_m_X11_149 w_instanceMethod_X11_litAt ws_sel_X11_litAt w_ini_X11 w_code_X11_litAt) rfl rfl rfl (by decide +kernel) ⟨(Nat.le_of_ble_eq_true rfl), (Nat.le_of_ble_eq_true rfl)⟩) ⟨pre_blind, va_recv hK hP (ci := 8) (q0 := 8) rfl rfl, pre_of hPc hKc hDc hN⟩ rfl rfl hl.1 rfl (lv_room (Nat.le_of_ble_eq_true rfl)) dX11_clause_108 ⟨(Nat.le_of_ble_eq_true rfl), (Nat.le_of_ble_eq_true rfl)⟩) hS (fun q _ h => hFc q h) hFc (fun r10 u t H locs ht hvm hq hB hz1 hk1 hS9 => ?_)
        obtain ⟨hP1, hD1⟩ := hB
        rw [ht] at hP1
        obtain ⟨hP9, hD9⟩ := va_join (wr := [(h_nv, .inl (cy_nv, 8000, .inl f_nv)), (h_na, .inl (cy_na, 8000, .inl f_na)), (h_nb, .inl (cy_nb, 8000, .inl f_nb)), (h_nc, .inl (cy_nc, 8000, .inl f_nc)), (h_mny, .inl (cy_mny, 32, .inl f_mny)), (h_tem, .inl (cy_tem, 192, .inl f_tem)), (h_vrs, .inl (cy_vrs, 32, .inl f_vrs)), (h_isn, .inl (cy_isn, 192, .inl f_isn)), (h_mm, .inr (8, (mo132 v_mm (.int 0) (.ref h_nv) (.ref h_na) (.ref h_nb) (.ref h_nc) (.int x_mm_clauses) (.ref h_mny) (.ref h_vrs) (.ref h_isn) (.ref h_tem))))]) (w1 := []) hP hD [] [0, 1, 2, 3, 4, 5, 6, 7, 8] rfl rfl (by decide) (by decide) hk1 hFc hP1 hD1
        clear hP hD hS hPc hDc hKc hFc hP1 hD1 hk1 hz1 ht hvm
        have hP : va_P (dC, dI) cls [(h_nv, .inl (cy_nv, 8000, .inl f_nv)), (h_na, .inl (cy_na, 8000, .inl f_na)), (h_nb, .inl (cy_nb, 8000, .inl f_nb)), (h_nc, .inl (cy_nc, 8000, .inl f_nc)), (h_mny, .inl (cy_mny, 32, .inl f_mny)), (h_tem, .inl (cy_tem, 192, .inl f_tem)), (h_vrs, .inl (cy_vrs, 32, .inl f_vrs)), (h_isn, .inl (cy_isn, 192, .inl f_isn)), (h_mm, .inr (8, (mo132 v_mm (.int 0) (.ref h_nv) (.ref h_na) (.ref h_nb) (.ref h_nc) (.int x_mm_clauses) (.ref h_mny) (.ref h_vrs) (.ref h_isn) (.ref h_tem))))] H := hP9
        have hD : va_D A [(h_nv, .inl (cy_nv, 8000, .inl f_nv)), (h_na, .inl (cy_na, 8000, .inl f_na)), (h_nb, .inl (cy_nb, 8000, .inl f_nb)), (h_nc, .inl (cy_nc, 8000, .inl f_nc)), (h_mny, .inl (cy_mny, 32, .inl f_mny)), (h_tem, .inl (cy_tem, 192, .inl f_tem)), (h_vrs, .inl (cy_vrs, 32, .inl f_vrs)), (h_isn, .inl (cy_isn, 192, .inl f_isn)), (h_mm, .inr (8, (mo132 v_mm (.int 0) (.ref h_nv) (.ref h_na) (.ref h_nb) (.ref h_nc) (.int x_mm_clauses) (.ref h_mny) (.ref h_vrs) (.ref h_isn) (.ref h_tem))))] := hD9
        have hS := hS9
        clear hP9 hD9 hS9
        obtain ⟨k11, k12⟩ := hq
        have k11 : 0 ≤ (r10).toInt ∧ (r10).toInt ≤ 191 := k11
        have k12 : ((r10)).toInt = 6 * ((p1)).toInt + ((z9)).toInt := k12
        refine va_iald hx hb hK hP 5 5 rfl rfl (i := r10) (vp_in_iff.mpr (by omega)) dX11_clause_111 ?_
        refine lv_topi (fun z13 ez13 => ?_)
        have rz13 : 0 ≤ (z13).toInt ∧ (z13).toInt ≤ 7999 := by rw [ez13]; exact hf_tem _
        have mzz5 : (f_mny (Int32.toNatClampNeg p1)).toInt = (z5).toInt := by rw [ez5]
        have tgz13 := tm_get (c := p1) (t := r10) (l := (p2).toInt - 10) hn_tms (by omega) (by omega) (by omega) ez13
        obtain ⟨vq14, evq14⟩ := mq132_86 v_mm (.int 0) (.int x_mm_clauses) (.ref h_mny) (.ref h_vrs) (.ref h_isn) (.ref h_tem)
        replace hP : va_P (dC, dI) cls [(h_nv, .inl (cy_nv, 8000, .inl f_nv)), (h_na, .inl (cy_na, 8000, .inl f_na)), (h_nb, .inl (cy_nb, 8000, .inl f_nb)), (h_nc, .inl (cy_nc, 8000, .inl f_nc)), (h_mny, .inl (cy_mny, 32, .inl f_mny)), (h_tem, .inl (cy_tem, 192, .inl f_tem)), (h_vrs, .inl (cy_vrs, 32, .inl f_vrs)), (h_isn, .inl (cy_isn, 192, .inl f_isn)), (h_mm, .inr (8, (mo86 vq14 (.ref h_nv) (.ref h_na) (.ref h_nb) (.ref h_nc))))] H := by rw [evq14]; exact hP
        replace hD : va_D A [(h_nv, .inl (cy_nv, 8000, .inl f_nv)), (h_na, .inl (cy_na, 8000, .inl f_na)), (h_nb, .inl (cy_nb, 8000, .inl f_nb)), (h_nc, .inl (cy_nc, 8000, .inl f_nc)), (h_mny, .inl (cy_mny, 32, .inl f_mny)), (h_tem, .inl (cy_tem, 192, .inl f_tem)), (h_vrs, .inl (cy_vrs, 32, .inl f_vrs)), (h_isn, .inl (cy_isn, 192, .inl f_isn)), (h_mm, .inr (8, (mo86 vq14 (.ref h_nv) (.ref h_na) (.ref h_nb) (.ref h_nc))))] := by rw [evq14]; exact hD
        have hPc := hP.sub (ws' := [(h_mm, .inr (8, (mo86 vq14 (.ref h_nv) (.ref h_na) (.ref h_nb) (.ref h_nc)))), (h_nv, .inl (cy_nv, 8000, .inl f_nv)), (h_na, .inl (cy_na, 8000, .inl f_na)), (h_nb, .inl (cy_nb, 8000, .inl f_nb)), (h_nc, .inl (cy_nc, 8000, .inl f_nc))]) [8, 0, 1, 2, 3] rfl
        have hDc := hD.sub (ws' := [(h_mm, .inr (8, (mo86 vq14 (.ref h_nv) (.ref h_na) (.ref h_nb) (.ref h_nc)))), (h_nv, .inl (cy_nv, 8000, .inl f_nv)), (h_na, .inl (cy_na, 8000, .inl f_na)), (h_nb, .inl (cy_nb, 8000, .inl f_nb)), (h_nc, .inl (cy_nc, 8000, .inl f_nc))]) [8, 0, 1, 2, 3] (by decide) rfl
        have hKc := hK.sub (tys' := [(cy_nv, .int), (cy_na, .int), (cy_nb, .int), (cy_nc, .int)]) [0, 1, 2, 3] rfl
        have hFc := va_free (wc := [(h_mm, .inr (8, (mo86 vq14 (.ref h_nv) (.ref h_na) (.ref h_nb) (.ref h_nc)))), (h_nv, .inl (cy_nv, 8000, .inl f_nv)), (h_na, .inl (cy_na, 8000, .inl f_na)), (h_nb, .inl (cy_nb, 8000, .inl f_nb)), (h_nc, .inl (cy_nc, 8000, .inl f_nc))]) hD hS hA [8, 0, 1, 2, 3] rfl
        refine va_calli (va_runV (As := [.int z13]) (rest := []) ⟨hx, hb, hml, hown, hts⟩ (c_X11_partsAt_e l dC dI H.size h_mm h_nv h_na h_nb h_nc vq14 cy_nv f_nv cy_na f_na cy_nb f_nb cy_nc f_nc z13 hf_nv hf_na hf_nb hf_nc (by omega)) (cwV 1 hts (gv hT w_m_X11_27 w_instanceMethod_X11_partsAt ws_sel_X11_partsAt w_ini_X11 w_code_X11_partsAt) rfl rfl rfl (by decide +kernel) ⟨(Nat.le_of_ble_eq_true rfl), (Nat.le_of_ble_eq_true rfl)⟩) ⟨pre_blind, va_recv hK hP (ci := 8) (q0 := 8) rfl rfl, pre_of hPc hKc hDc hN⟩ rfl rfl hl.1 rfl (lv_room (Nat.le_of_ble_eq_true rfl)) dX11_clause_112 ⟨(Nat.le_of_ble_eq_true rfl), (Nat.le_of_ble_eq_true rfl)⟩) hS (fun q _ h => hFc q h) hFc (fun r15 u t H locs ht hvm hq hB hz1 hk1 hS9 => ?_)
        obtain ⟨hP1, hD1⟩ := hB
        rw [ht] at hP1
        obtain ⟨hP9, hD9⟩ := va_join (wr := [(h_mny, .inl (cy_mny, 32, .inl f_mny)), (h_tem, .inl (cy_tem, 192, .inl f_tem)), (h_vrs, .inl (cy_vrs, 32, .inl f_vrs)), (h_isn, .inl (cy_isn, 192, .inl f_isn))]) (w1 := [(h_mm, .inr (8, (mo86 vq14 (.ref h_nv) (.ref h_na) (.ref h_nb) (.ref h_nc)))), (h_nv, .inl (cy_nv, 8000, .inl f_nv)), (h_na, .inl (cy_na, 8000, .inl f_na)), (h_nb, .inl (cy_nb, 8000, .inl f_nb)), (h_nc, .inl (cy_nc, 8000, .inl f_nc))]) hP hD [8, 0, 1, 2, 3] [4, 5, 6, 7] rfl rfl (by decide) (by decide) hk1 hFc hP1 hD1
        clear hP hD hS hPc hDc hKc hFc hP1 hD1 hk1 hz1 ht hvm
        have hP : va_P (dC, dI) cls [(h_mny, .inl (cy_mny, 32, .inl f_mny)), (h_tem, .inl (cy_tem, 192, .inl f_tem)), (h_vrs, .inl (cy_vrs, 32, .inl f_vrs)), (h_isn, .inl (cy_isn, 192, .inl f_isn)), (h_mm, .inr (8, (mo86 vq14 (.ref h_nv) (.ref h_na) (.ref h_nb) (.ref h_nc)))), (h_nv, .inl (cy_nv, 8000, .inl f_nv)), (h_na, .inl (cy_na, 8000, .inl f_na)), (h_nb, .inl (cy_nb, 8000, .inl f_nb)), (h_nc, .inl (cy_nc, 8000, .inl f_nc))] H := hP9
        have hD : va_D A [(h_mny, .inl (cy_mny, 32, .inl f_mny)), (h_tem, .inl (cy_tem, 192, .inl f_tem)), (h_vrs, .inl (cy_vrs, 32, .inl f_vrs)), (h_isn, .inl (cy_isn, 192, .inl f_isn)), (h_mm, .inr (8, (mo86 vq14 (.ref h_nv) (.ref h_na) (.ref h_nb) (.ref h_nc)))), (h_nv, .inl (cy_nv, 8000, .inl f_nv)), (h_na, .inl (cy_na, 8000, .inl f_na)), (h_nb, .inl (cy_nb, 8000, .inl f_nb)), (h_nc, .inl (cy_nc, 8000, .inl f_nc))] := hD9
        have hS := hS9
        clear hP9 hD9 hS9
        rw [evq14] at hP hD
        replace hP : va_P (dC, dI) cls [(h_mny, .inl (cy_mny, 32, .inl f_mny)), (h_tem, .inl (cy_tem, 192, .inl f_tem)), (h_vrs, .inl (cy_vrs, 32, .inl f_vrs)), (h_isn, .inl (cy_isn, 192, .inl f_isn)), (h_mm, .inr (8, (mo132 v_mm (.int 0) (.ref h_nv) (.ref h_na) (.ref h_nb) (.ref h_nc) (.int x_mm_clauses) (.ref h_mny) (.ref h_vrs) (.ref h_isn) (.ref h_tem)))), (h_nv, .inl (cy_nv, 8000, .inl f_nv)), (h_na, .inl (cy_na, 8000, .inl f_na)), (h_nb, .inl (cy_nb, 8000, .inl f_nb)), (h_nc, .inl (cy_nc, 8000, .inl f_nc))] H := hP
        replace hD : va_D A [(h_mny, .inl (cy_mny, 32, .inl f_mny)), (h_tem, .inl (cy_tem, 192, .inl f_tem)), (h_vrs, .inl (cy_vrs, 32, .inl f_vrs)), (h_isn, .inl (cy_isn, 192, .inl f_isn)), (h_mm, .inr (8, (mo132 v_mm (.int 0) (.ref h_nv) (.ref h_na) (.ref h_nb) (.ref h_nc) (.int x_mm_clauses) (.ref h_mny) (.ref h_vrs) (.ref h_isn) (.ref h_tem)))), (h_nv, .inl (cy_nv, 8000, .inl f_nv)), (h_na, .inl (cy_na, 8000, .inl f_na)), (h_nb, .inl (cy_nb, 8000, .inl f_nb)), (h_nc, .inl (cy_nc, 8000, .inl f_nc))] := hD
        clear evq14 
        obtain ⟨k16, k17⟩ := hq
        have k16 : 0 ≤ (r15).toInt ∧ (r15).toInt ≤ 3 := k16
        have k17 : ((r15)).toInt = (npx f_nv f_na f_nb f_nc ((z13)).toInt.toNat) := k17
        refine lv_goto (tgt := 119) hx hb dX11_clause_115 (by decide) ?_
        replace hP : va_P (dC, dI) cls [(h_mm, .inr (8, (mo132 v_mm (.int 0) (.ref h_nv) (.ref h_na) (.ref h_nb) (.ref h_nc) (.int x_mm_clauses) (.ref h_mny) (.ref h_vrs) (.ref h_isn) (.ref h_tem)))), (h_nv, .inl (cy_nv, 8000, .inl f_nv)), (h_na, .inl (cy_na, 8000, .inl f_na)), (h_nb, .inl (cy_nb, 8000, .inl f_nb)), (h_nc, .inl (cy_nc, 8000, .inl f_nc)), (h_mny, .inl (cy_mny, 32, .inl f_mny)), (h_tem, .inl (cy_tem, 192, .inl f_tem)), (h_vrs, .inl (cy_vrs, 32, .inl f_vrs)), (h_isn, .inl (cy_isn, 192, .inl f_isn))] H := hP.sub [4, 5, 6, 7, 8, 0, 1, 2, 3] rfl
        replace hD : va_D A [(h_mm, .inr (8, (mo132 v_mm (.int 0) (.ref h_nv) (.ref h_na) (.ref h_nb) (.ref h_nc) (.int x_mm_clauses) (.ref h_mny) (.ref h_vrs) (.ref h_isn) (.ref h_tem)))), (h_nv, .inl (cy_nv, 8000, .inl f_nv)), (h_na, .inl (cy_na, 8000, .inl f_na)), (h_nb, .inl (cy_nb, 8000, .inl f_nb)), (h_nc, .inl (cy_nc, 8000, .inl f_nc)), (h_mny, .inl (cy_mny, 32, .inl f_mny)), (h_tem, .inl (cy_tem, 192, .inl f_tem)), (h_vrs, .inl (cy_vrs, 32, .inl f_vrs)), (h_isn, .inl (cy_isn, 192, .inl f_isn))] := hD.sub [4, 5, 6, 7, 8, 0, 1, 2, 3] (by decide) rfl
        refine W.widen (k := 0) (n := 0) (Nat.le_of_ble_eq_true rfl) (Nat.le_of_ble_eq_true rfl) ?_
        have cst0 : (0 : Int32).toInt = 0 := by decide
        exact W.iret (v := r15) hx hb hr (fun t ht hW => ⟨⟨r15, 0, rfl, trivial, by rw [ht]; exact hP, hD⟩, hS.F ht⟩) hS.2.2 dX11_clause_119
      · have hq : (((z4)).toInt < ((10 : Int64)).toInt ∨ ((z7)).toInt < ((z4)).toInt) := hq
        refine lv_if_eq (tgt := 118) hx hb dX11_clause_94 (by decide) (fun _ => ?_) (fun c9 => absurd c9 (by decide))
        refine lv_iconst (v := (-1)) hx hb dX11_clause_118 (by decide) ?_
        replace hP : va_P (dC, dI) cls [(h_mm, .inr (8, (mo132 v_mm (.int 0) (.ref h_nv) (.ref h_na) (.ref h_nb) (.ref h_nc) (.int x_mm_clauses) (.ref h_mny) (.ref h_vrs) (.ref h_isn) (.ref h_tem)))), (h_nv, .inl (cy_nv, 8000, .inl f_nv)), (h_na, .inl (cy_na, 8000, .inl f_na)), (h_nb, .inl (cy_nb, 8000, .inl f_nb)), (h_nc, .inl (cy_nc, 8000, .inl f_nc)), (h_mny, .inl (cy_mny, 32, .inl f_mny)), (h_tem, .inl (cy_tem, 192, .inl f_tem)), (h_vrs, .inl (cy_vrs, 32, .inl f_vrs)), (h_isn, .inl (cy_isn, 192, .inl f_isn))] H := hP.sub [8, 0, 1, 2, 3, 4, 5, 6, 7] rfl
        replace hD : va_D A [(h_mm, .inr (8, (mo132 v_mm (.int 0) (.ref h_nv) (.ref h_na) (.ref h_nb) (.ref h_nc) (.int x_mm_clauses) (.ref h_mny) (.ref h_vrs) (.ref h_isn) (.ref h_tem)))), (h_nv, .inl (cy_nv, 8000, .inl f_nv)), (h_na, .inl (cy_na, 8000, .inl f_na)), (h_nb, .inl (cy_nb, 8000, .inl f_nb)), (h_nc, .inl (cy_nc, 8000, .inl f_nc)), (h_mny, .inl (cy_mny, 32, .inl f_mny)), (h_tem, .inl (cy_tem, 192, .inl f_tem)), (h_vrs, .inl (cy_vrs, 32, .inl f_vrs)), (h_isn, .inl (cy_isn, 192, .inl f_isn))] := hD.sub [8, 0, 1, 2, 3, 4, 5, 6, 7] (by decide) rfl
        refine W.widen (k := 0) (n := 0) (Nat.le_of_ble_eq_true rfl) (Nat.le_of_ble_eq_true rfl) ?_
        have cstm1 : ((-1) : Int32).toInt = -1 := by decide
        have cst0 : (0 : Int32).toInt = 0 := by decide
        exact W.iret (v := (-1)) hx hb hr (fun t ht hW => ⟨⟨(-1), 0, rfl, trivial, by rw [ht]; exact hP, hD⟩, hS.F ht⟩) hS.2.2 dX11_clause_119
    · refine lv_tableOut (tgt := 74) hx hb dX11_clause_16 (Or.inr s3) (by decide) ?_
      refine lv_aload_n hx hb dX11_clause_74 rfl (lv_at hl 0 rfl) ?_
      refine lv_iload_n hx hb dX11_clause_75 rfl (lv_at hl 2 rfl) ?_
      refine lv_i2l hx hb dX11_clause_76 rfl ?_
      refine lv_topl (fun z18 ez18 => ?_)
      have tz18 : (z18).toInt = (p2).toInt := by rw [ez18]; exact Int32.toInt_toInt64 _
      have bz18 := i_bd p2
      refine lv_ldc2 (v := 10) hx hb hown (hw _ w_cl_X11_183) dX11_clause_77 ?_
      refine lv_ldc2 (v := 9) hx hb hown (hw _ w_cl_X11_185) dX11_clause_80 ?_
      refine lv_aload_n hx hb dX11_clause_83 rfl (lv_at hl 0 rfl) ?_
      refine va_get (D := (dC, dI)) (ci := 8) (v := .ref h_mny) (C := RX11) (T := TX11) (N := 71) hx hb hw iwX11 hown hK hP 8 rfl rfl 8 (by decide) (hw _ w_f_X11_142) (fun _ h9 => h9) rfl dX11_clause_84 ?_
      refine lv_iload_n hx hb dX11_clause_87 rfl (lv_at hl 1 rfl) ?_
      refine va_iald hx hb hK hP 4 4 rfl rfl (i := p1) (vp_in_iff.mpr (by omega)) dX11_clause_88 ?_
      refine lv_topi (fun z19 ez19 => ?_)
      have rz19 : 0 ≤ (z19).toInt ∧ (z19).toInt ≤ 6 := by rw [ez19]; exact hf_mny _
      refine lv_i2l hx hb dX11_clause_89 rfl ?_
      refine lv_topl (fun z20 ez20 => ?_)
      have tz20 : (z20).toInt = (z19).toInt := by rw [ez20]; exact Int32.toInt_toInt64 _
      have bz20 := i_bd z19
      refine lv_ladd hx hb dX11_clause_90 ?_
      refine lv_topl (fun z21 ez21 => ?_)
      have tz21 : (z21).toInt = 9 + (z20).toInt := by rw [ez21]; exact l_add (by decide) rfl (by omega)
      have : (10 : Int64).toInt = 10 := by decide
      have hPc := hP.sub (ws' := []) [] rfl
      have hDc := hD.sub (ws' := []) [] (by decide) rfl
      have hKc := hK.sub (tys' := []) [] rfl
      have hFc := va_free (wc := []) hD hS hA [] rfl
      refine va_calli (va_runV (As := [.long z18, .long 10, .long z21]) (rest := []) ⟨hx, hb, hml, hown, hts⟩ (c_X11_isIn l dC dI H.size h_mm z18 10 z21) (cwV 3 hts (gv hT w_m_X11_49 w_instanceMethod_X11_isIn ws_sel_X11_isIn w_ini_X11 w_code_X11_isIn) rfl rfl rfl (by decide +kernel) ⟨(Nat.le_of_ble_eq_true rfl), (Nat.le_of_ble_eq_true rfl)⟩) ⟨pre_blind, va_recv hK hP (ci := 8) (q0 := 8) rfl rfl, pre_of hPc hKc hDc hN⟩ rfl rfl hl.1 rfl (lv_room (Nat.le_of_ble_eq_true rfl)) dX11_clause_91 ⟨(Nat.le_of_ble_eq_true rfl), (Nat.le_of_ble_eq_true rfl)⟩) hS (fun q _ h => hFc q h) hFc (fun r22 u t H locs ht hvm hq hB hz1 hk1 hS9 => ?_)
      obtain ⟨hP1, hD1⟩ := hB
      rw [ht] at hP1
      obtain ⟨hP9, hD9⟩ := va_join (wr := [(h_nv, .inl (cy_nv, 8000, .inl f_nv)), (h_na, .inl (cy_na, 8000, .inl f_na)), (h_nb, .inl (cy_nb, 8000, .inl f_nb)), (h_nc, .inl (cy_nc, 8000, .inl f_nc)), (h_mny, .inl (cy_mny, 32, .inl f_mny)), (h_tem, .inl (cy_tem, 192, .inl f_tem)), (h_vrs, .inl (cy_vrs, 32, .inl f_vrs)), (h_isn, .inl (cy_isn, 192, .inl f_isn)), (h_mm, .inr (8, (mo132 v_mm (.int 0) (.ref h_nv) (.ref h_na) (.ref h_nb) (.ref h_nc) (.int x_mm_clauses) (.ref h_mny) (.ref h_vrs) (.ref h_isn) (.ref h_tem))))]) (w1 := []) hP hD [] [0, 1, 2, 3, 4, 5, 6, 7, 8] rfl rfl (by decide) (by decide) hk1 hFc hP1 hD1
      clear hP hD hS hPc hDc hKc hFc hP1 hD1 hk1 hz1 ht hvm
      have hP : va_P (dC, dI) cls [(h_nv, .inl (cy_nv, 8000, .inl f_nv)), (h_na, .inl (cy_na, 8000, .inl f_na)), (h_nb, .inl (cy_nb, 8000, .inl f_nb)), (h_nc, .inl (cy_nc, 8000, .inl f_nc)), (h_mny, .inl (cy_mny, 32, .inl f_mny)), (h_tem, .inl (cy_tem, 192, .inl f_tem)), (h_vrs, .inl (cy_vrs, 32, .inl f_vrs)), (h_isn, .inl (cy_isn, 192, .inl f_isn)), (h_mm, .inr (8, (mo132 v_mm (.int 0) (.ref h_nv) (.ref h_na) (.ref h_nb) (.ref h_nc) (.int x_mm_clauses) (.ref h_mny) (.ref h_vrs) (.ref h_isn) (.ref h_tem))))] H := hP9
      have hD : va_D A [(h_nv, .inl (cy_nv, 8000, .inl f_nv)), (h_na, .inl (cy_na, 8000, .inl f_na)), (h_nb, .inl (cy_nb, 8000, .inl f_nb)), (h_nc, .inl (cy_nc, 8000, .inl f_nc)), (h_mny, .inl (cy_mny, 32, .inl f_mny)), (h_tem, .inl (cy_tem, 192, .inl f_tem)), (h_vrs, .inl (cy_vrs, 32, .inl f_vrs)), (h_isn, .inl (cy_isn, 192, .inl f_isn)), (h_mm, .inr (8, (mo132 v_mm (.int 0) (.ref h_nv) (.ref h_na) (.ref h_nb) (.ref h_nc) (.int x_mm_clauses) (.ref h_mny) (.ref h_vrs) (.ref h_isn) (.ref h_tem))))] := hD9
      have hS := hS9
      clear hP9 hD9 hS9
      rcases hq with ⟨rfl, hq⟩ | ⟨rfl, hq⟩
      · have hq : (((10 : Int64)).toInt ≤ ((z18)).toInt) ∧ (((z18)).toInt ≤ ((z21)).toInt) := hq
        refine lv_if_eq (tgt := 118) hx hb dX11_clause_94 (by decide) (fun c9 => absurd c9 (by decide)) (fun _ => ?_)
        refine lv_aload_n hx hb dX11_clause_97 rfl (lv_at hl 0 rfl) ?_
        refine lv_aload_n hx hb dX11_clause_98 rfl (lv_at hl 0 rfl) ?_
        refine va_get (D := (dC, dI)) (ci := 8) (v := .ref h_tem) (C := RX11) (T := TX11) (N := 71) hx hb hw iwX11 hown hK hP 8 rfl rfl 12 (by decide) (hw _ w_f_X11_152) (fun _ h9 => h9) rfl dX11_clause_99 ?_
        refine lv_aload_n hx hb dX11_clause_102 rfl (lv_at hl 0 rfl) ?_
        refine lv_iload_n hx hb dX11_clause_103 rfl (lv_at hl 1 rfl) ?_
        refine lv_iload_n hx hb dX11_clause_104 rfl (lv_at hl 2 rfl) ?_
        refine lv_bipush (v := 10) hx hb dX11_clause_105 (by decide) ?_
        refine lv_isub hx hb dX11_clause_107 ?_
        refine lv_topi (fun z23 ez23 => ?_)
        have tz23 : (z23).toInt = (p2).toInt - 10 := by rw [ez23]; exact i_sub rfl (by decide) (by omega)
        have hPc := hP.sub (ws' := []) [] rfl
        have hDc := hD.sub (ws' := []) [] (by decide) rfl
        have hKc := hK.sub (tys' := []) [] rfl
        have hFc := va_free (wc := []) hD hS hA [] rfl
        refine va_calli (va_runV (As := [.int p1, .int z23]) (rest := [.ref h_tem, .ref h_mm]) ⟨hx, hb, hml, hown, hts⟩ (c_X11_litAt l dC dI H.size h_mm p1 z23 (by omega) (by omega)) (cwV 2 hts (gv hT w_m_X11_149 w_instanceMethod_X11_litAt ws_sel_X11_litAt w_ini_X11 w_code_X11_litAt) rfl rfl rfl (by decide +kernel) ⟨(Nat.le_of_ble_eq_true rfl), (Nat.le_of_ble_eq_true rfl)⟩) ⟨pre_blind, va_recv hK hP (ci := 8) (q0 := 8) rfl rfl, pre_of hPc hKc hDc hN⟩ rfl rfl hl.1 rfl (lv_room (Nat.le_of_ble_eq_true rfl)) dX11_clause_108 ⟨(Nat.le_of_ble_eq_true rfl), (Nat.le_of_ble_eq_true rfl)⟩) hS (fun q _ h => hFc q h) hFc (fun r24 u t H locs ht hvm hq hB hz1 hk1 hS9 => ?_)
        obtain ⟨hP1, hD1⟩ := hB
        rw [ht] at hP1
        obtain ⟨hP9, hD9⟩ := va_join (wr := [(h_nv, .inl (cy_nv, 8000, .inl f_nv)), (h_na, .inl (cy_na, 8000, .inl f_na)), (h_nb, .inl (cy_nb, 8000, .inl f_nb)), (h_nc, .inl (cy_nc, 8000, .inl f_nc)), (h_mny, .inl (cy_mny, 32, .inl f_mny)), (h_tem, .inl (cy_tem, 192, .inl f_tem)), (h_vrs, .inl (cy_vrs, 32, .inl f_vrs)), (h_isn, .inl (cy_isn, 192, .inl f_isn)), (h_mm, .inr (8, (mo132 v_mm (.int 0) (.ref h_nv) (.ref h_na) (.ref h_nb) (.ref h_nc) (.int x_mm_clauses) (.ref h_mny) (.ref h_vrs) (.ref h_isn) (.ref h_tem))))]) (w1 := []) hP hD [] [0, 1, 2, 3, 4, 5, 6, 7, 8] rfl rfl (by decide) (by decide) hk1 hFc hP1 hD1
        clear hP hD hS hPc hDc hKc hFc hP1 hD1 hk1 hz1 ht hvm
        have hP : va_P (dC, dI) cls [(h_nv, .inl (cy_nv, 8000, .inl f_nv)), (h_na, .inl (cy_na, 8000, .inl f_na)), (h_nb, .inl (cy_nb, 8000, .inl f_nb)), (h_nc, .inl (cy_nc, 8000, .inl f_nc)), (h_mny, .inl (cy_mny, 32, .inl f_mny)), (h_tem, .inl (cy_tem, 192, .inl f_tem)), (h_vrs, .inl (cy_vrs, 32, .inl f_vrs)), (h_isn, .inl (cy_isn, 192, .inl f_isn)), (h_mm, .inr (8, (mo132 v_mm (.int 0) (.ref h_nv) (.ref h_na) (.ref h_nb) (.ref h_nc) (.int x_mm_clauses) (.ref h_mny) (.ref h_vrs) (.ref h_isn) (.ref h_tem))))] H := hP9
        have hD : va_D A [(h_nv, .inl (cy_nv, 8000, .inl f_nv)), (h_na, .inl (cy_na, 8000, .inl f_na)), (h_nb, .inl (cy_nb, 8000, .inl f_nb)), (h_nc, .inl (cy_nc, 8000, .inl f_nc)), (h_mny, .inl (cy_mny, 32, .inl f_mny)), (h_tem, .inl (cy_tem, 192, .inl f_tem)), (h_vrs, .inl (cy_vrs, 32, .inl f_vrs)), (h_isn, .inl (cy_isn, 192, .inl f_isn)), (h_mm, .inr (8, (mo132 v_mm (.int 0) (.ref h_nv) (.ref h_na) (.ref h_nb) (.ref h_nc) (.int x_mm_clauses) (.ref h_mny) (.ref h_vrs) (.ref h_isn) (.ref h_tem))))] := hD9
        have hS := hS9
        clear hP9 hD9 hS9
        obtain ⟨k25, k26⟩ := hq
        have k25 : 0 ≤ (r24).toInt ∧ (r24).toInt ≤ 191 := k25
        have k26 : ((r24)).toInt = 6 * ((p1)).toInt + ((z23)).toInt := k26
        refine va_iald hx hb hK hP 5 5 rfl rfl (i := r24) (vp_in_iff.mpr (by omega)) dX11_clause_111 ?_
        refine lv_topi (fun z27 ez27 => ?_)
        have rz27 : 0 ≤ (z27).toInt ∧ (z27).toInt ≤ 7999 := by rw [ez27]; exact hf_tem _
        have mzz19 : (f_mny (Int32.toNatClampNeg p1)).toInt = (z19).toInt := by rw [ez19]
        have tgz27 := tm_get (c := p1) (t := r24) (l := (p2).toInt - 10) hn_tms (by omega) (by omega) (by omega) ez27
        obtain ⟨vq28, evq28⟩ := mq132_86 v_mm (.int 0) (.int x_mm_clauses) (.ref h_mny) (.ref h_vrs) (.ref h_isn) (.ref h_tem)
        replace hP : va_P (dC, dI) cls [(h_nv, .inl (cy_nv, 8000, .inl f_nv)), (h_na, .inl (cy_na, 8000, .inl f_na)), (h_nb, .inl (cy_nb, 8000, .inl f_nb)), (h_nc, .inl (cy_nc, 8000, .inl f_nc)), (h_mny, .inl (cy_mny, 32, .inl f_mny)), (h_tem, .inl (cy_tem, 192, .inl f_tem)), (h_vrs, .inl (cy_vrs, 32, .inl f_vrs)), (h_isn, .inl (cy_isn, 192, .inl f_isn)), (h_mm, .inr (8, (mo86 vq28 (.ref h_nv) (.ref h_na) (.ref h_nb) (.ref h_nc))))] H := by rw [evq28]; exact hP
        replace hD : va_D A [(h_nv, .inl (cy_nv, 8000, .inl f_nv)), (h_na, .inl (cy_na, 8000, .inl f_na)), (h_nb, .inl (cy_nb, 8000, .inl f_nb)), (h_nc, .inl (cy_nc, 8000, .inl f_nc)), (h_mny, .inl (cy_mny, 32, .inl f_mny)), (h_tem, .inl (cy_tem, 192, .inl f_tem)), (h_vrs, .inl (cy_vrs, 32, .inl f_vrs)), (h_isn, .inl (cy_isn, 192, .inl f_isn)), (h_mm, .inr (8, (mo86 vq28 (.ref h_nv) (.ref h_na) (.ref h_nb) (.ref h_nc))))] := by rw [evq28]; exact hD
        have hPc := hP.sub (ws' := [(h_mm, .inr (8, (mo86 vq28 (.ref h_nv) (.ref h_na) (.ref h_nb) (.ref h_nc)))), (h_nv, .inl (cy_nv, 8000, .inl f_nv)), (h_na, .inl (cy_na, 8000, .inl f_na)), (h_nb, .inl (cy_nb, 8000, .inl f_nb)), (h_nc, .inl (cy_nc, 8000, .inl f_nc))]) [8, 0, 1, 2, 3] rfl
        have hDc := hD.sub (ws' := [(h_mm, .inr (8, (mo86 vq28 (.ref h_nv) (.ref h_na) (.ref h_nb) (.ref h_nc)))), (h_nv, .inl (cy_nv, 8000, .inl f_nv)), (h_na, .inl (cy_na, 8000, .inl f_na)), (h_nb, .inl (cy_nb, 8000, .inl f_nb)), (h_nc, .inl (cy_nc, 8000, .inl f_nc))]) [8, 0, 1, 2, 3] (by decide) rfl
        have hKc := hK.sub (tys' := [(cy_nv, .int), (cy_na, .int), (cy_nb, .int), (cy_nc, .int)]) [0, 1, 2, 3] rfl
        have hFc := va_free (wc := [(h_mm, .inr (8, (mo86 vq28 (.ref h_nv) (.ref h_na) (.ref h_nb) (.ref h_nc)))), (h_nv, .inl (cy_nv, 8000, .inl f_nv)), (h_na, .inl (cy_na, 8000, .inl f_na)), (h_nb, .inl (cy_nb, 8000, .inl f_nb)), (h_nc, .inl (cy_nc, 8000, .inl f_nc))]) hD hS hA [8, 0, 1, 2, 3] rfl
        refine va_calli (va_runV (As := [.int z27]) (rest := []) ⟨hx, hb, hml, hown, hts⟩ (c_X11_partsAt_e l dC dI H.size h_mm h_nv h_na h_nb h_nc vq28 cy_nv f_nv cy_na f_na cy_nb f_nb cy_nc f_nc z27 hf_nv hf_na hf_nb hf_nc (by omega)) (cwV 1 hts (gv hT w_m_X11_27 w_instanceMethod_X11_partsAt ws_sel_X11_partsAt w_ini_X11 w_code_X11_partsAt) rfl rfl rfl (by decide +kernel) ⟨(Nat.le_of_ble_eq_true rfl), (Nat.le_of_ble_eq_true rfl)⟩) ⟨pre_blind, va_recv hK hP (ci := 8) (q0 := 8) rfl rfl, pre_of hPc hKc hDc hN⟩ rfl rfl hl.1 rfl (lv_room (Nat.le_of_ble_eq_true rfl)) dX11_clause_112 ⟨(Nat.le_of_ble_eq_true rfl), (Nat.le_of_ble_eq_true rfl)⟩) hS (fun q _ h => hFc q h) hFc (fun r29 u t H locs ht hvm hq hB hz1 hk1 hS9 => ?_)
        obtain ⟨hP1, hD1⟩ := hB
        rw [ht] at hP1
        obtain ⟨hP9, hD9⟩ := va_join (wr := [(h_mny, .inl (cy_mny, 32, .inl f_mny)), (h_tem, .inl (cy_tem, 192, .inl f_tem)), (h_vrs, .inl (cy_vrs, 32, .inl f_vrs)), (h_isn, .inl (cy_isn, 192, .inl f_isn))]) (w1 := [(h_mm, .inr (8, (mo86 vq28 (.ref h_nv) (.ref h_na) (.ref h_nb) (.ref h_nc)))), (h_nv, .inl (cy_nv, 8000, .inl f_nv)), (h_na, .inl (cy_na, 8000, .inl f_na)), (h_nb, .inl (cy_nb, 8000, .inl f_nb)), (h_nc, .inl (cy_nc, 8000, .inl f_nc))]) hP hD [8, 0, 1, 2, 3] [4, 5, 6, 7] rfl rfl (by decide) (by decide) hk1 hFc hP1 hD1
        clear hP hD hS hPc hDc hKc hFc hP1 hD1 hk1 hz1 ht hvm
        have hP : va_P (dC, dI) cls [(h_mny, .inl (cy_mny, 32, .inl f_mny)), (h_tem, .inl (cy_tem, 192, .inl f_tem)), (h_vrs, .inl (cy_vrs, 32, .inl f_vrs)), (h_isn, .inl (cy_isn, 192, .inl f_isn)), (h_mm, .inr (8, (mo86 vq28 (.ref h_nv) (.ref h_na) (.ref h_nb) (.ref h_nc)))), (h_nv, .inl (cy_nv, 8000, .inl f_nv)), (h_na, .inl (cy_na, 8000, .inl f_na)), (h_nb, .inl (cy_nb, 8000, .inl f_nb)), (h_nc, .inl (cy_nc, 8000, .inl f_nc))] H := hP9
        have hD : va_D A [(h_mny, .inl (cy_mny, 32, .inl f_mny)), (h_tem, .inl (cy_tem, 192, .inl f_tem)), (h_vrs, .inl (cy_vrs, 32, .inl f_vrs)), (h_isn, .inl (cy_isn, 192, .inl f_isn)), (h_mm, .inr (8, (mo86 vq28 (.ref h_nv) (.ref h_na) (.ref h_nb) (.ref h_nc)))), (h_nv, .inl (cy_nv, 8000, .inl f_nv)), (h_na, .inl (cy_na, 8000, .inl f_na)), (h_nb, .inl (cy_nb, 8000, .inl f_nb)), (h_nc, .inl (cy_nc, 8000, .inl f_nc))] := hD9
        have hS := hS9
        clear hP9 hD9 hS9
        rw [evq28] at hP hD
        replace hP : va_P (dC, dI) cls [(h_mny, .inl (cy_mny, 32, .inl f_mny)), (h_tem, .inl (cy_tem, 192, .inl f_tem)), (h_vrs, .inl (cy_vrs, 32, .inl f_vrs)), (h_isn, .inl (cy_isn, 192, .inl f_isn)), (h_mm, .inr (8, (mo132 v_mm (.int 0) (.ref h_nv) (.ref h_na) (.ref h_nb) (.ref h_nc) (.int x_mm_clauses) (.ref h_mny) (.ref h_vrs) (.ref h_isn) (.ref h_tem)))), (h_nv, .inl (cy_nv, 8000, .inl f_nv)), (h_na, .inl (cy_na, 8000, .inl f_na)), (h_nb, .inl (cy_nb, 8000, .inl f_nb)), (h_nc, .inl (cy_nc, 8000, .inl f_nc))] H := hP
        replace hD : va_D A [(h_mny, .inl (cy_mny, 32, .inl f_mny)), (h_tem, .inl (cy_tem, 192, .inl f_tem)), (h_vrs, .inl (cy_vrs, 32, .inl f_vrs)), (h_isn, .inl (cy_isn, 192, .inl f_isn)), (h_mm, .inr (8, (mo132 v_mm (.int 0) (.ref h_nv) (.ref h_na) (.ref h_nb) (.ref h_nc) (.int x_mm_clauses) (.ref h_mny) (.ref h_vrs) (.ref h_isn) (.ref h_tem)))), (h_nv, .inl (cy_nv, 8000, .inl f_nv)), (h_na, .inl (cy_na, 8000, .inl f_na)), (h_nb, .inl (cy_nb, 8000, .inl f_nb)), (h_nc, .inl (cy_nc, 8000, .inl f_nc))] := hD
        clear evq28 
        obtain ⟨k30, k31⟩ := hq
        have k30 : 0 ≤ (r29).toInt ∧ (r29).toInt ≤ 3 := k30
        have k31 : ((r29)).toInt = (npx f_nv f_na f_nb f_nc ((z27)).toInt.toNat) := k31
        refine lv_goto (tgt := 119) hx hb dX11_clause_115 (by decide) ?_
        replace hP : va_P (dC, dI) cls [(h_mm, .inr (8, (mo132 v_mm (.int 0) (.ref h_nv) (.ref h_na) (.ref h_nb) (.ref h_nc) (.int x_mm_clauses) (.ref h_mny) (.ref h_vrs) (.ref h_isn) (.ref h_tem)))), (h_nv, .inl (cy_nv, 8000, .inl f_nv)), (h_na, .inl (cy_na, 8000, .inl f_na)), (h_nb, .inl (cy_nb, 8000, .inl f_nb)), (h_nc, .inl (cy_nc, 8000, .inl f_nc)), (h_mny, .inl (cy_mny, 32, .inl f_mny)), (h_tem, .inl (cy_tem, 192, .inl f_tem)), (h_vrs, .inl (cy_vrs, 32, .inl f_vrs)), (h_isn, .inl (cy_isn, 192, .inl f_isn))] H := hP.sub [4, 5, 6, 7, 8, 0, 1, 2, 3] rfl
        replace hD : va_D A [(h_mm, .inr (8, (mo132 v_mm (.int 0) (.ref h_nv) (.ref h_na) (.ref h_nb) (.ref h_nc) (.int x_mm_clauses) (.ref h_mny) (.ref h_vrs) (.ref h_isn) (.ref h_tem)))), (h_nv, .inl (cy_nv, 8000, .inl f_nv)), (h_na, .inl (cy_na, 8000, .inl f_na)), (h_nb, .inl (cy_nb, 8000, .inl f_nb)), (h_nc, .inl (cy_nc, 8000, .inl f_nc)), (h_mny, .inl (cy_mny, 32, .inl f_mny)), (h_tem, .inl (cy_tem, 192, .inl f_tem)), (h_vrs, .inl (cy_vrs, 32, .inl f_vrs)), (h_isn, .inl (cy_isn, 192, .inl f_isn))] := hD.sub [4, 5, 6, 7, 8, 0, 1, 2, 3] (by decide) rfl
        refine W.widen (k := 0) (n := 0) (Nat.le_of_ble_eq_true rfl) (Nat.le_of_ble_eq_true rfl) ?_
        have cst0 : (0 : Int32).toInt = 0 := by decide
        exact W.iret (v := r29) hx hb hr (fun t ht hW => ⟨⟨r29, 0, rfl, trivial, by rw [ht]; exact hP, hD⟩, hS.F ht⟩) hS.2.2 dX11_clause_119
      · have hq : (((z18)).toInt < ((10 : Int64)).toInt ∨ ((z21)).toInt < ((z18)).toInt) := hq
        refine lv_if_eq (tgt := 118) hx hb dX11_clause_94 (by decide) (fun _ => ?_) (fun c9 => absurd c9 (by decide))
        refine lv_iconst (v := (-1)) hx hb dX11_clause_118 (by decide) ?_
        replace hP : va_P (dC, dI) cls [(h_mm, .inr (8, (mo132 v_mm (.int 0) (.ref h_nv) (.ref h_na) (.ref h_nb) (.ref h_nc) (.int x_mm_clauses) (.ref h_mny) (.ref h_vrs) (.ref h_isn) (.ref h_tem)))), (h_nv, .inl (cy_nv, 8000, .inl f_nv)), (h_na, .inl (cy_na, 8000, .inl f_na)), (h_nb, .inl (cy_nb, 8000, .inl f_nb)), (h_nc, .inl (cy_nc, 8000, .inl f_nc)), (h_mny, .inl (cy_mny, 32, .inl f_mny)), (h_tem, .inl (cy_tem, 192, .inl f_tem)), (h_vrs, .inl (cy_vrs, 32, .inl f_vrs)), (h_isn, .inl (cy_isn, 192, .inl f_isn))] H := hP.sub [8, 0, 1, 2, 3, 4, 5, 6, 7] rfl
        replace hD : va_D A [(h_mm, .inr (8, (mo132 v_mm (.int 0) (.ref h_nv) (.ref h_na) (.ref h_nb) (.ref h_nc) (.int x_mm_clauses) (.ref h_mny) (.ref h_vrs) (.ref h_isn) (.ref h_tem)))), (h_nv, .inl (cy_nv, 8000, .inl f_nv)), (h_na, .inl (cy_na, 8000, .inl f_na)), (h_nb, .inl (cy_nb, 8000, .inl f_nb)), (h_nc, .inl (cy_nc, 8000, .inl f_nc)), (h_mny, .inl (cy_mny, 32, .inl f_mny)), (h_tem, .inl (cy_tem, 192, .inl f_tem)), (h_vrs, .inl (cy_vrs, 32, .inl f_vrs)), (h_isn, .inl (cy_isn, 192, .inl f_isn))] := hD.sub [8, 0, 1, 2, 3, 4, 5, 6, 7] (by decide) rfl
        refine W.widen (k := 0) (n := 0) (Nat.le_of_ble_eq_true rfl) (Nat.le_of_ble_eq_true rfl) ?_
        have cstm1 : ((-1) : Int32).toInt = -1 := by decide
        have cst0 : (0 : Int32).toInt = 0 := by decide
        exact W.iret (v := (-1)) hx hb hr (fun t ht hW => ⟨⟨(-1), 0, rfl, trivial, by rw [ht]; exact hP, hD⟩, hS.F ht⟩) hS.2.2 dX11_clause_119
    · refine lv_tableIn (off := 32) (tgt := 48) hx hb dX11_clause_16 (by omega) (by omega) (by rw [s3]; rfl) (by decide) ?_
      refine lv_aload_n hx hb dX11_clause_48 rfl (lv_at hl 0 rfl) ?_
      refine va_get (D := (dC, dI)) (ci := 8) (v := .ref h_mny) (C := RX11) (T := TX11) (N := 71) hx hb hw iwX11 hown hK hP 8 rfl rfl 8 (by decide) (hw _ w_f_X11_142) (fun _ h9 => h9) rfl dX11_clause_49 ?_
      refine lv_iload_n hx hb dX11_clause_52 rfl (lv_at hl 1 rfl) ?_
      refine va_iald hx hb hK hP 4 4 rfl rfl (i := p1) (vp_in_iff.mpr (by omega)) dX11_clause_53 ?_
      refine lv_topi (fun z32 ez32 => ?_)
      have rz32 : 0 ≤ (z32).toInt ∧ (z32).toInt ≤ 6 := by rw [ez32]; exact hf_mny _
      replace hP : va_P (dC, dI) cls [(h_mm, .inr (8, (mo132 v_mm (.int 0) (.ref h_nv) (.ref h_na) (.ref h_nb) (.ref h_nc) (.int x_mm_clauses) (.ref h_mny) (.ref h_vrs) (.ref h_isn) (.ref h_tem)))), (h_nv, .inl (cy_nv, 8000, .inl f_nv)), (h_na, .inl (cy_na, 8000, .inl f_na)), (h_nb, .inl (cy_nb, 8000, .inl f_nb)), (h_nc, .inl (cy_nc, 8000, .inl f_nc)), (h_mny, .inl (cy_mny, 32, .inl f_mny)), (h_tem, .inl (cy_tem, 192, .inl f_tem)), (h_vrs, .inl (cy_vrs, 32, .inl f_vrs)), (h_isn, .inl (cy_isn, 192, .inl f_isn))] H := hP.sub [8, 0, 1, 2, 3, 4, 5, 6, 7] rfl
      replace hD : va_D A [(h_mm, .inr (8, (mo132 v_mm (.int 0) (.ref h_nv) (.ref h_na) (.ref h_nb) (.ref h_nc) (.int x_mm_clauses) (.ref h_mny) (.ref h_vrs) (.ref h_isn) (.ref h_tem)))), (h_nv, .inl (cy_nv, 8000, .inl f_nv)), (h_na, .inl (cy_na, 8000, .inl f_na)), (h_nb, .inl (cy_nb, 8000, .inl f_nb)), (h_nc, .inl (cy_nc, 8000, .inl f_nc)), (h_mny, .inl (cy_mny, 32, .inl f_mny)), (h_tem, .inl (cy_tem, 192, .inl f_tem)), (h_vrs, .inl (cy_vrs, 32, .inl f_vrs)), (h_isn, .inl (cy_isn, 192, .inl f_isn))] := hD.sub [8, 0, 1, 2, 3, 4, 5, 6, 7] (by decide) rfl
      refine W.widen (k := 0) (n := 0) (Nat.le_of_ble_eq_true rfl) (Nat.le_of_ble_eq_true rfl) ?_
      have cst0 : (0 : Int32).toInt = 0 := by decide
      exact W.iret (v := z32) hx hb hr (fun t ht hW => ⟨⟨z32, 0, rfl, trivial, by rw [ht]; exact hP, hD⟩, hS.F ht⟩) hS.2.2 dX11_clause_54
    · refine lv_tableIn (off := 39) (tgt := 55) hx hb dX11_clause_16 (by omega) (by omega) (by rw [s3]; rfl) (by decide) ?_
      refine lv_aload_n hx hb dX11_clause_55 rfl (lv_at hl 0 rfl) ?_
      refine va_get (D := (dC, dI)) (ci := 8) (v := .ref h_vrs) (C := RX11) (T := TX11) (N := 71) hx hb hw iwX11 hown hK hP 8 rfl rfl 9 (by decide) (hw _ w_f_X11_102) (fun _ h9 => h9) rfl dX11_clause_56 ?_
      refine lv_iload_n hx hb dX11_clause_59 rfl (lv_at hl 1 rfl) ?_
      refine va_iald hx hb hK hP 6 6 rfl rfl (i := p1) (vp_in_iff.mpr (by omega)) dX11_clause_60 ?_
      refine lv_topi (fun z33 ez33 => ?_)
      have rz33 : 0 ≤ (z33).toInt ∧ (z33).toInt ≤ 8 := by rw [ez33]; exact hf_vrs _
      replace hP : va_P (dC, dI) cls [(h_mm, .inr (8, (mo132 v_mm (.int 0) (.ref h_nv) (.ref h_na) (.ref h_nb) (.ref h_nc) (.int x_mm_clauses) (.ref h_mny) (.ref h_vrs) (.ref h_isn) (.ref h_tem)))), (h_nv, .inl (cy_nv, 8000, .inl f_nv)), (h_na, .inl (cy_na, 8000, .inl f_na)), (h_nb, .inl (cy_nb, 8000, .inl f_nb)), (h_nc, .inl (cy_nc, 8000, .inl f_nc)), (h_mny, .inl (cy_mny, 32, .inl f_mny)), (h_tem, .inl (cy_tem, 192, .inl f_tem)), (h_vrs, .inl (cy_vrs, 32, .inl f_vrs)), (h_isn, .inl (cy_isn, 192, .inl f_isn))] H := hP.sub [8, 0, 1, 2, 3, 4, 5, 6, 7] rfl
      replace hD : va_D A [(h_mm, .inr (8, (mo132 v_mm (.int 0) (.ref h_nv) (.ref h_na) (.ref h_nb) (.ref h_nc) (.int x_mm_clauses) (.ref h_mny) (.ref h_vrs) (.ref h_isn) (.ref h_tem)))), (h_nv, .inl (cy_nv, 8000, .inl f_nv)), (h_na, .inl (cy_na, 8000, .inl f_na)), (h_nb, .inl (cy_nb, 8000, .inl f_nb)), (h_nc, .inl (cy_nc, 8000, .inl f_nc)), (h_mny, .inl (cy_mny, 32, .inl f_mny)), (h_tem, .inl (cy_tem, 192, .inl f_tem)), (h_vrs, .inl (cy_vrs, 32, .inl f_vrs)), (h_isn, .inl (cy_isn, 192, .inl f_isn))] := hD.sub [8, 0, 1, 2, 3, 4, 5, 6, 7] (by decide) rfl
      refine W.widen (k := 0) (n := 0) (Nat.le_of_ble_eq_true rfl) (Nat.le_of_ble_eq_true rfl) ?_
      have cst0 : (0 : Int32).toInt = 0 := by decide
      exact W.iret (v := z33) hx hb hr (fun t ht hW => ⟨⟨z33, 0, rfl, trivial, by rw [ht]; exact hP, hD⟩, hS.F ht⟩) hS.2.2 dX11_clause_61
    · refine lv_tableIn (off := 46) (tgt := 62) hx hb dX11_clause_16 (by omega) (by omega) (by rw [s3]; rfl) (by decide) ?_
      refine lv_aload_n hx hb dX11_clause_62 rfl (lv_at hl 0 rfl) ?_
      refine lv_iload_n hx hb dX11_clause_63 rfl (lv_at hl 1 rfl) ?_
      obtain ⟨vq34, evq34⟩ := mq132_130 v_mm (.int 0) (.int x_mm_clauses) (.ref h_vrs) (.ref h_isn)
      replace hP : va_P (dC, dI) cls [(h_nv, .inl (cy_nv, 8000, .inl f_nv)), (h_na, .inl (cy_na, 8000, .inl f_na)), (h_nb, .inl (cy_nb, 8000, .inl f_nb)), (h_nc, .inl (cy_nc, 8000, .inl f_nc)), (h_mny, .inl (cy_mny, 32, .inl f_mny)), (h_tem, .inl (cy_tem, 192, .inl f_tem)), (h_vrs, .inl (cy_vrs, 32, .inl f_vrs)), (h_isn, .inl (cy_isn, 192, .inl f_isn)), (h_mm, .inr (8, (mo130 vq34 (.ref h_nv) (.ref h_na) (.ref h_nb) (.ref h_nc) (.ref h_mny) (.ref h_tem))))] H := by rw [evq34]; exact hP
      replace hD : va_D A [(h_nv, .inl (cy_nv, 8000, .inl f_nv)), (h_na, .inl (cy_na, 8000, .inl f_na)), (h_nb, .inl (cy_nb, 8000, .inl f_nb)), (h_nc, .inl (cy_nc, 8000, .inl f_nc)), (h_mny, .inl (cy_mny, 32, .inl f_mny)), (h_tem, .inl (cy_tem, 192, .inl f_tem)), (h_vrs, .inl (cy_vrs, 32, .inl f_vrs)), (h_isn, .inl (cy_isn, 192, .inl f_isn)), (h_mm, .inr (8, (mo130 vq34 (.ref h_nv) (.ref h_na) (.ref h_nb) (.ref h_nc) (.ref h_mny) (.ref h_tem))))] := by rw [evq34]; exact hD
      have hPc := hP.sub (ws' := [(h_mm, .inr (8, (mo130 vq34 (.ref h_nv) (.ref h_na) (.ref h_nb) (.ref h_nc) (.ref h_mny) (.ref h_tem)))), (h_nv, .inl (cy_nv, 8000, .inl f_nv)), (h_na, .inl (cy_na, 8000, .inl f_na)), (h_nb, .inl (cy_nb, 8000, .inl f_nb)), (h_nc, .inl (cy_nc, 8000, .inl f_nc)), (h_mny, .inl (cy_mny, 32, .inl f_mny)), (h_tem, .inl (cy_tem, 192, .inl f_tem))]) [8, 0, 1, 2, 3, 4, 5] rfl
      have hDc := hD.sub (ws' := [(h_mm, .inr (8, (mo130 vq34 (.ref h_nv) (.ref h_na) (.ref h_nb) (.ref h_nc) (.ref h_mny) (.ref h_tem)))), (h_nv, .inl (cy_nv, 8000, .inl f_nv)), (h_na, .inl (cy_na, 8000, .inl f_na)), (h_nb, .inl (cy_nb, 8000, .inl f_nb)), (h_nc, .inl (cy_nc, 8000, .inl f_nc)), (h_mny, .inl (cy_mny, 32, .inl f_mny)), (h_tem, .inl (cy_tem, 192, .inl f_tem))]) [8, 0, 1, 2, 3, 4, 5] (by decide) rfl
      have hKc := hK.sub (tys' := [(cy_nv, .int), (cy_na, .int), (cy_nb, .int), (cy_nc, .int), (cy_mny, .int), (cy_tem, .int)]) [0, 1, 2, 3, 4, 5] rfl
      have hFc := va_free (wc := [(h_mm, .inr (8, (mo130 vq34 (.ref h_nv) (.ref h_na) (.ref h_nb) (.ref h_nc) (.ref h_mny) (.ref h_tem)))), (h_nv, .inl (cy_nv, 8000, .inl f_nv)), (h_na, .inl (cy_na, 8000, .inl f_na)), (h_nb, .inl (cy_nb, 8000, .inl f_nb)), (h_nc, .inl (cy_nc, 8000, .inl f_nc)), (h_mny, .inl (cy_mny, 32, .inl f_mny)), (h_tem, .inl (cy_tem, 192, .inl f_tem))]) hD hS hA [8, 0, 1, 2, 3, 4, 5] rfl
      refine va_calli (va_runV (As := [.int p1]) (rest := []) ⟨hx, hb, hml, hown, hts⟩ (c_X11_sizeOf l dC dI H.size h_mm h_nv h_na h_nb h_nc h_mny h_tem vq34 cy_nv f_nv cy_na f_na cy_nb f_nb cy_nc f_nc cy_mny f_mny cy_tem f_tem p1 N hz (x_mm_clauses).toInt hf_nv hf_na hf_nb hf_nc hf_mny hf_tem (by omega) (by omega) (by first | exact q0 | omega) hn_nds hn_tms) (cwV 1 hts (gv hT w_m_X11_177 w_instanceMethod_X11_sizeOf ws_sel_X11_sizeOf w_ini_X11 w_code_X11_sizeOf) rfl rfl rfl (by decide +kernel) ⟨(Nat.le_of_ble_eq_true rfl), (Nat.le_of_ble_eq_true rfl)⟩) ⟨pre_blind, va_recv hK hP (ci := 8) (q0 := 8) rfl rfl, pre_of hPc hKc hDc hN⟩ rfl rfl hl.1 rfl (lv_room (Nat.le_of_ble_eq_true rfl)) dX11_clause_64 ⟨(Nat.le_of_ble_eq_true rfl), (Nat.le_of_ble_eq_true rfl)⟩) hS (fun q _ h => hFc q h) hFc (fun r35 u t H locs ht hvm hq hB hz1 hk1 hS9 => ?_)
      obtain ⟨hP1, hD1⟩ := hB
      rw [ht] at hP1
      obtain ⟨hP9, hD9⟩ := va_join (wr := [(h_vrs, .inl (cy_vrs, 32, .inl f_vrs)), (h_isn, .inl (cy_isn, 192, .inl f_isn))]) (w1 := [(h_mm, .inr (8, (mo130 vq34 (.ref h_nv) (.ref h_na) (.ref h_nb) (.ref h_nc) (.ref h_mny) (.ref h_tem)))), (h_nv, .inl (cy_nv, 8000, .inl f_nv)), (h_na, .inl (cy_na, 8000, .inl f_na)), (h_nb, .inl (cy_nb, 8000, .inl f_nb)), (h_nc, .inl (cy_nc, 8000, .inl f_nc)), (h_mny, .inl (cy_mny, 32, .inl f_mny)), (h_tem, .inl (cy_tem, 192, .inl f_tem))]) hP hD [8, 0, 1, 2, 3, 4, 5] [6, 7] rfl rfl (by decide) (by decide) hk1 hFc hP1 hD1
      clear hP hD hS hPc hDc hKc hFc hP1 hD1 hk1 hz1 ht hvm
      have hP : va_P (dC, dI) cls [(h_vrs, .inl (cy_vrs, 32, .inl f_vrs)), (h_isn, .inl (cy_isn, 192, .inl f_isn)), (h_mm, .inr (8, (mo130 vq34 (.ref h_nv) (.ref h_na) (.ref h_nb) (.ref h_nc) (.ref h_mny) (.ref h_tem)))), (h_nv, .inl (cy_nv, 8000, .inl f_nv)), (h_na, .inl (cy_na, 8000, .inl f_na)), (h_nb, .inl (cy_nb, 8000, .inl f_nb)), (h_nc, .inl (cy_nc, 8000, .inl f_nc)), (h_mny, .inl (cy_mny, 32, .inl f_mny)), (h_tem, .inl (cy_tem, 192, .inl f_tem))] H := hP9
      have hD : va_D A [(h_vrs, .inl (cy_vrs, 32, .inl f_vrs)), (h_isn, .inl (cy_isn, 192, .inl f_isn)), (h_mm, .inr (8, (mo130 vq34 (.ref h_nv) (.ref h_na) (.ref h_nb) (.ref h_nc) (.ref h_mny) (.ref h_tem)))), (h_nv, .inl (cy_nv, 8000, .inl f_nv)), (h_na, .inl (cy_na, 8000, .inl f_na)), (h_nb, .inl (cy_nb, 8000, .inl f_nb)), (h_nc, .inl (cy_nc, 8000, .inl f_nc)), (h_mny, .inl (cy_mny, 32, .inl f_mny)), (h_tem, .inl (cy_tem, 192, .inl f_tem))] := hD9
      have hS := hS9
      clear hP9 hD9 hS9
      rw [evq34] at hP hD
      replace hP : va_P (dC, dI) cls [(h_vrs, .inl (cy_vrs, 32, .inl f_vrs)), (h_isn, .inl (cy_isn, 192, .inl f_isn)), (h_mm, .inr (8, (mo132 v_mm (.int 0) (.ref h_nv) (.ref h_na) (.ref h_nb) (.ref h_nc) (.int x_mm_clauses) (.ref h_mny) (.ref h_vrs) (.ref h_isn) (.ref h_tem)))), (h_nv, .inl (cy_nv, 8000, .inl f_nv)), (h_na, .inl (cy_na, 8000, .inl f_na)), (h_nb, .inl (cy_nb, 8000, .inl f_nb)), (h_nc, .inl (cy_nc, 8000, .inl f_nc)), (h_mny, .inl (cy_mny, 32, .inl f_mny)), (h_tem, .inl (cy_tem, 192, .inl f_tem))] H := hP
      replace hD : va_D A [(h_vrs, .inl (cy_vrs, 32, .inl f_vrs)), (h_isn, .inl (cy_isn, 192, .inl f_isn)), (h_mm, .inr (8, (mo132 v_mm (.int 0) (.ref h_nv) (.ref h_na) (.ref h_nb) (.ref h_nc) (.int x_mm_clauses) (.ref h_mny) (.ref h_vrs) (.ref h_isn) (.ref h_tem)))), (h_nv, .inl (cy_nv, 8000, .inl f_nv)), (h_na, .inl (cy_na, 8000, .inl f_na)), (h_nb, .inl (cy_nb, 8000, .inl f_nb)), (h_nc, .inl (cy_nc, 8000, .inl f_nc)), (h_mny, .inl (cy_mny, 32, .inl f_mny)), (h_tem, .inl (cy_tem, 192, .inl f_tem))] := hD
      clear evq34 
      replace hP : va_P (dC, dI) cls [(h_mm, .inr (8, (mo132 v_mm (.int 0) (.ref h_nv) (.ref h_na) (.ref h_nb) (.ref h_nc) (.int x_mm_clauses) (.ref h_mny) (.ref h_vrs) (.ref h_isn) (.ref h_tem)))), (h_nv, .inl (cy_nv, 8000, .inl f_nv)), (h_na, .inl (cy_na, 8000, .inl f_na)), (h_nb, .inl (cy_nb, 8000, .inl f_nb)), (h_nc, .inl (cy_nc, 8000, .inl f_nc)), (h_mny, .inl (cy_mny, 32, .inl f_mny)), (h_tem, .inl (cy_tem, 192, .inl f_tem)), (h_vrs, .inl (cy_vrs, 32, .inl f_vrs)), (h_isn, .inl (cy_isn, 192, .inl f_isn))] H := hP.sub [2, 3, 4, 5, 6, 7, 8, 0, 1] rfl
      replace hD : va_D A [(h_mm, .inr (8, (mo132 v_mm (.int 0) (.ref h_nv) (.ref h_na) (.ref h_nb) (.ref h_nc) (.int x_mm_clauses) (.ref h_mny) (.ref h_vrs) (.ref h_isn) (.ref h_tem)))), (h_nv, .inl (cy_nv, 8000, .inl f_nv)), (h_na, .inl (cy_na, 8000, .inl f_na)), (h_nb, .inl (cy_nb, 8000, .inl f_nb)), (h_nc, .inl (cy_nc, 8000, .inl f_nc)), (h_mny, .inl (cy_mny, 32, .inl f_mny)), (h_tem, .inl (cy_tem, 192, .inl f_tem)), (h_vrs, .inl (cy_vrs, 32, .inl f_vrs)), (h_isn, .inl (cy_isn, 192, .inl f_isn))] := hD.sub [2, 3, 4, 5, 6, 7, 8, 0, 1] (by decide) rfl
      refine W.widen (k := 0) (n := 0) (Nat.le_of_ble_eq_true rfl) (Nat.le_of_ble_eq_true rfl) ?_
      have cst0 : (0 : Int32).toInt = 0 := by decide
      exact W.iret (v := r35) hx hb hr (fun t ht hW => ⟨⟨r35, 0, rfl, trivial, by rw [ht]; exact hP, hD⟩, hS.F ht⟩) hS.2.2 dX11_clause_67
    · refine lv_tableIn (off := 52) (tgt := 68) hx hb dX11_clause_16 (by omega) (by omega) (by rw [s3]; rfl) (by decide) ?_
      refine lv_aload_n hx hb dX11_clause_68 rfl (lv_at hl 0 rfl) ?_
      refine lv_iload_n hx hb dX11_clause_69 rfl (lv_at hl 1 rfl) ?_
      obtain ⟨vq36, evq36⟩ := mq132_102 v_mm (.int 0) (.ref h_nv) (.ref h_na) (.ref h_nb) (.ref h_nc) (.int x_mm_clauses) (.ref h_vrs) (.ref h_tem)
      replace hP : va_P (dC, dI) cls [(h_nv, .inl (cy_nv, 8000, .inl f_nv)), (h_na, .inl (cy_na, 8000, .inl f_na)), (h_nb, .inl (cy_nb, 8000, .inl f_nb)), (h_nc, .inl (cy_nc, 8000, .inl f_nc)), (h_mny, .inl (cy_mny, 32, .inl f_mny)), (h_tem, .inl (cy_tem, 192, .inl f_tem)), (h_vrs, .inl (cy_vrs, 32, .inl f_vrs)), (h_isn, .inl (cy_isn, 192, .inl f_isn)), (h_mm, .inr (8, (mo102 vq36 (.ref h_mny) (.ref h_isn))))] H := by rw [evq36]; exact hP
      replace hD : va_D A [(h_nv, .inl (cy_nv, 8000, .inl f_nv)), (h_na, .inl (cy_na, 8000, .inl f_na)), (h_nb, .inl (cy_nb, 8000, .inl f_nb)), (h_nc, .inl (cy_nc, 8000, .inl f_nc)), (h_mny, .inl (cy_mny, 32, .inl f_mny)), (h_tem, .inl (cy_tem, 192, .inl f_tem)), (h_vrs, .inl (cy_vrs, 32, .inl f_vrs)), (h_isn, .inl (cy_isn, 192, .inl f_isn)), (h_mm, .inr (8, (mo102 vq36 (.ref h_mny) (.ref h_isn))))] := by rw [evq36]; exact hD
      have hPc := hP.sub (ws' := [(h_mm, .inr (8, (mo102 vq36 (.ref h_mny) (.ref h_isn)))), (h_mny, .inl (cy_mny, 32, .inl f_mny)), (h_isn, .inl (cy_isn, 192, .inl f_isn))]) [8, 4, 7] rfl
      have hDc := hD.sub (ws' := [(h_mm, .inr (8, (mo102 vq36 (.ref h_mny) (.ref h_isn)))), (h_mny, .inl (cy_mny, 32, .inl f_mny)), (h_isn, .inl (cy_isn, 192, .inl f_isn))]) [8, 4, 7] (by decide) rfl
      have hKc := hK.sub (tys' := [(cy_mny, .int), (cy_isn, .boolean)]) [4, 7] rfl
      have hFc := va_free (wc := [(h_mm, .inr (8, (mo102 vq36 (.ref h_mny) (.ref h_isn)))), (h_mny, .inl (cy_mny, 32, .inl f_mny)), (h_isn, .inl (cy_isn, 192, .inl f_isn))]) hD hS hA [8, 4, 7] rfl
      refine va_calli (va_runV (As := [.int p1]) (rest := []) ⟨hx, hb, hml, hown, hts⟩ (c_X11_positives l dC dI H.size h_mm h_mny h_isn vq36 cy_mny f_mny cy_isn f_isn p1 hf_mny (by omega)) (cwV 1 hts (gv hT w_m_X11_180 w_instanceMethod_X11_positives ws_sel_X11_positives w_ini_X11 w_code_X11_positives) rfl rfl rfl (by decide +kernel) ⟨(Nat.le_of_ble_eq_true rfl), (Nat.le_of_ble_eq_true rfl)⟩) ⟨pre_blind, va_recv hK hP (ci := 8) (q0 := 8) rfl rfl, pre_of hPc hKc hDc hN⟩ rfl rfl hl.1 rfl (lv_room (Nat.le_of_ble_eq_true rfl)) dX11_clause_70 ⟨(Nat.le_of_ble_eq_true rfl), (Nat.le_of_ble_eq_true rfl)⟩) hS (fun q _ h => hFc q h) hFc (fun r37 u t H locs ht hvm hq hB hz1 hk1 hS9 => ?_)
      obtain ⟨hP1, hD1⟩ := hB
      rw [ht] at hP1
      obtain ⟨hP9, hD9⟩ := va_join (wr := [(h_nv, .inl (cy_nv, 8000, .inl f_nv)), (h_na, .inl (cy_na, 8000, .inl f_na)), (h_nb, .inl (cy_nb, 8000, .inl f_nb)), (h_nc, .inl (cy_nc, 8000, .inl f_nc)), (h_tem, .inl (cy_tem, 192, .inl f_tem)), (h_vrs, .inl (cy_vrs, 32, .inl f_vrs))]) (w1 := [(h_mm, .inr (8, (mo102 vq36 (.ref h_mny) (.ref h_isn)))), (h_mny, .inl (cy_mny, 32, .inl f_mny)), (h_isn, .inl (cy_isn, 192, .inl f_isn))]) hP hD [8, 4, 7] [0, 1, 2, 3, 5, 6] rfl rfl (by decide) (by decide) hk1 hFc hP1 hD1
      clear hP hD hS hPc hDc hKc hFc hP1 hD1 hk1 hz1 ht hvm
      have hP : va_P (dC, dI) cls [(h_nv, .inl (cy_nv, 8000, .inl f_nv)), (h_na, .inl (cy_na, 8000, .inl f_na)), (h_nb, .inl (cy_nb, 8000, .inl f_nb)), (h_nc, .inl (cy_nc, 8000, .inl f_nc)), (h_tem, .inl (cy_tem, 192, .inl f_tem)), (h_vrs, .inl (cy_vrs, 32, .inl f_vrs)), (h_mm, .inr (8, (mo102 vq36 (.ref h_mny) (.ref h_isn)))), (h_mny, .inl (cy_mny, 32, .inl f_mny)), (h_isn, .inl (cy_isn, 192, .inl f_isn))] H := hP9
      have hD : va_D A [(h_nv, .inl (cy_nv, 8000, .inl f_nv)), (h_na, .inl (cy_na, 8000, .inl f_na)), (h_nb, .inl (cy_nb, 8000, .inl f_nb)), (h_nc, .inl (cy_nc, 8000, .inl f_nc)), (h_tem, .inl (cy_tem, 192, .inl f_tem)), (h_vrs, .inl (cy_vrs, 32, .inl f_vrs)), (h_mm, .inr (8, (mo102 vq36 (.ref h_mny) (.ref h_isn)))), (h_mny, .inl (cy_mny, 32, .inl f_mny)), (h_isn, .inl (cy_isn, 192, .inl f_isn))] := hD9
      have hS := hS9
      clear hP9 hD9 hS9
      rw [evq36] at hP hD
      replace hP : va_P (dC, dI) cls [(h_nv, .inl (cy_nv, 8000, .inl f_nv)), (h_na, .inl (cy_na, 8000, .inl f_na)), (h_nb, .inl (cy_nb, 8000, .inl f_nb)), (h_nc, .inl (cy_nc, 8000, .inl f_nc)), (h_tem, .inl (cy_tem, 192, .inl f_tem)), (h_vrs, .inl (cy_vrs, 32, .inl f_vrs)), (h_mm, .inr (8, (mo132 v_mm (.int 0) (.ref h_nv) (.ref h_na) (.ref h_nb) (.ref h_nc) (.int x_mm_clauses) (.ref h_mny) (.ref h_vrs) (.ref h_isn) (.ref h_tem)))), (h_mny, .inl (cy_mny, 32, .inl f_mny)), (h_isn, .inl (cy_isn, 192, .inl f_isn))] H := hP
      replace hD : va_D A [(h_nv, .inl (cy_nv, 8000, .inl f_nv)), (h_na, .inl (cy_na, 8000, .inl f_na)), (h_nb, .inl (cy_nb, 8000, .inl f_nb)), (h_nc, .inl (cy_nc, 8000, .inl f_nc)), (h_tem, .inl (cy_tem, 192, .inl f_tem)), (h_vrs, .inl (cy_vrs, 32, .inl f_vrs)), (h_mm, .inr (8, (mo132 v_mm (.int 0) (.ref h_nv) (.ref h_na) (.ref h_nb) (.ref h_nc) (.int x_mm_clauses) (.ref h_mny) (.ref h_vrs) (.ref h_isn) (.ref h_tem)))), (h_mny, .inl (cy_mny, 32, .inl f_mny)), (h_isn, .inl (cy_isn, 192, .inl f_isn))] := hD
      clear evq36 
      replace hP : va_P (dC, dI) cls [(h_mm, .inr (8, (mo132 v_mm (.int 0) (.ref h_nv) (.ref h_na) (.ref h_nb) (.ref h_nc) (.int x_mm_clauses) (.ref h_mny) (.ref h_vrs) (.ref h_isn) (.ref h_tem)))), (h_nv, .inl (cy_nv, 8000, .inl f_nv)), (h_na, .inl (cy_na, 8000, .inl f_na)), (h_nb, .inl (cy_nb, 8000, .inl f_nb)), (h_nc, .inl (cy_nc, 8000, .inl f_nc)), (h_mny, .inl (cy_mny, 32, .inl f_mny)), (h_tem, .inl (cy_tem, 192, .inl f_tem)), (h_vrs, .inl (cy_vrs, 32, .inl f_vrs)), (h_isn, .inl (cy_isn, 192, .inl f_isn))] H := hP.sub [6, 0, 1, 2, 3, 7, 4, 5, 8] rfl
      replace hD : va_D A [(h_mm, .inr (8, (mo132 v_mm (.int 0) (.ref h_nv) (.ref h_na) (.ref h_nb) (.ref h_nc) (.int x_mm_clauses) (.ref h_mny) (.ref h_vrs) (.ref h_isn) (.ref h_tem)))), (h_nv, .inl (cy_nv, 8000, .inl f_nv)), (h_na, .inl (cy_na, 8000, .inl f_na)), (h_nb, .inl (cy_nb, 8000, .inl f_nb)), (h_nc, .inl (cy_nc, 8000, .inl f_nc)), (h_mny, .inl (cy_mny, 32, .inl f_mny)), (h_tem, .inl (cy_tem, 192, .inl f_tem)), (h_vrs, .inl (cy_vrs, 32, .inl f_vrs)), (h_isn, .inl (cy_isn, 192, .inl f_isn))] := hD.sub [6, 0, 1, 2, 3, 7, 4, 5, 8] (by decide) rfl
      refine W.widen (k := 0) (n := 0) (Nat.le_of_ble_eq_true rfl) (Nat.le_of_ble_eq_true rfl) ?_
      have cst0 : (0 : Int32).toInt = 0 := by decide
      exact W.iret (v := r37) hx hb hr (fun t ht hW => ⟨⟨r37, 0, rfl, trivial, by rw [ht]; exact hP, hD⟩, hS.F ht⟩) hS.2.2 dX11_clause_73
  · have hq : True := trivial
    refine lv_if_ne (tgt := 15) hx hb dX11_clause_10 (by decide) (fun c9 => absurd c9 (by decide)) (fun _ => ?_)
    refine lv_iconst (v := (-1)) hx hb dX11_clause_13 (by decide) ?_
    replace hP : va_P (dC, dI) cls [(h_mm, .inr (8, (mo132 v_mm (.int 0) (.ref h_nv) (.ref h_na) (.ref h_nb) (.ref h_nc) (.int x_mm_clauses) (.ref h_mny) (.ref h_vrs) (.ref h_isn) (.ref h_tem)))), (h_nv, .inl (cy_nv, 8000, .inl f_nv)), (h_na, .inl (cy_na, 8000, .inl f_na)), (h_nb, .inl (cy_nb, 8000, .inl f_nb)), (h_nc, .inl (cy_nc, 8000, .inl f_nc)), (h_mny, .inl (cy_mny, 32, .inl f_mny)), (h_tem, .inl (cy_tem, 192, .inl f_tem)), (h_vrs, .inl (cy_vrs, 32, .inl f_vrs)), (h_isn, .inl (cy_isn, 192, .inl f_isn))] H := hP.sub [8, 0, 1, 2, 3, 4, 5, 6, 7] rfl
    replace hD : va_D A [(h_mm, .inr (8, (mo132 v_mm (.int 0) (.ref h_nv) (.ref h_na) (.ref h_nb) (.ref h_nc) (.int x_mm_clauses) (.ref h_mny) (.ref h_vrs) (.ref h_isn) (.ref h_tem)))), (h_nv, .inl (cy_nv, 8000, .inl f_nv)), (h_na, .inl (cy_na, 8000, .inl f_na)), (h_nb, .inl (cy_nb, 8000, .inl f_nb)), (h_nc, .inl (cy_nc, 8000, .inl f_nc)), (h_mny, .inl (cy_mny, 32, .inl f_mny)), (h_tem, .inl (cy_tem, 192, .inl f_tem)), (h_vrs, .inl (cy_vrs, 32, .inl f_vrs)), (h_isn, .inl (cy_isn, 192, .inl f_isn))] := hD.sub [8, 0, 1, 2, 3, 4, 5, 6, 7] (by decide) rfl
    refine W.widen (k := 0) (n := 0) (Nat.le_of_ble_eq_true rfl) (Nat.le_of_ble_eq_true rfl) ?_
    have cstm1 : ((-1) : Int32).toInt = -1 := by decide
    have cst0 : (0 : Int32).toInt = 0 := by decide
    exact W.iret (v := (-1)) hx hb hr (fun t ht hW => ⟨⟨(-1), 0, rfl, trivial, by rw [ht]; exact hP, hD⟩, hS.F ht⟩) hS.2.2 dX11_clause_14

set_option maxHeartbeats 8000000 in
set_option maxRecDepth 100000 in
theorem c_X11_forgets_e (l : Launch) (dC : Nat → ClassId) (dI : Nat → Nat → Nat) (sz : Nat) (h_mm : Nat) (v_mm : Nat → Value) (x_mm_isProof : Int32) (x_mm_answers : Int32) (hx_mm_isProof : 0 ≤ (x_mm_isProof).toInt ∧ (x_mm_isProof).toInt ≤ 1) (hx_mm_answers : 0 ≤ (x_mm_answers).toInt ∧ (x_mm_answers).toInt ≤ 8) : Met l yX11_forgets (Ws yX11_forgets cX11_forgets 1 none) (({ frames := 0, cells := 0, slots := 0, locals := 0 } : Room)) (PRE (dC, dI) cls [] [(h_mm, .inr (8, (mo103 v_mm (.int x_mm_isProof) (.int x_mm_answers))))] sz [.ref h_mm]) (va_Qv (fun (u : (Int32) × (Int32)) => (0 ≤ (u.1).toInt ∧ (u.1).toInt ≤ 1) ∧ (0 ≤ (u.2).toInt ∧ (u.2).toInt ≤ 8) ∧ ((u.1).toInt = 0) ∧ ((u.2).toInt = 0)) (fun (u : (Int32) × (Int32)) (t : State) => va_P (dC, dI) cls [(h_mm, .inr (8, (mo103 v_mm (.int u.1) (.int u.2))))] t.heap ∧ va_D (va_A [(h_mm, .inr (8, (mo103 v_mm (.int x_mm_isProof) (.int x_mm_answers))))] sz) [(h_mm, .inr (8, (mo103 v_mm (.int u.1) (.int u.2))))]) (va_A [(h_mm, .inr (8, (mo103 v_mm (.int x_mm_isProof) (.int x_mm_answers))))] sz)) 0 0 (va_A [(h_mm, .inr (8, (mo103 v_mm (.int x_mm_isProof) (.int x_mm_answers))))] sz) := by
  refine Met.ofW (cc := cX11_forgets) (maxL := 1) (ret := none) (by decide) rfl ?_
  intro p e s m args below meth c s₁ B hml hv
  obtain ⟨rfl, hsz, hP, hK, hD0, hN⟩ := hv
  have hx := B.exec
  have hb := B.bytes
  have hr := B.returns
  have hts := atoms_spec (ws := Ws yX11_forgets cX11_forgets 1 none) B.pre
  have hT : ∀ w ∈ WALL, w ∈ Ws yX11_forgets cX11_forgets 1 none := fun w h => List.mem_cons_of_mem _ h
  have hw := fun w (h : w ∈ WALL) => hts w (hT w h)
  have hown : s.vm.findClass RX11 = some m.cls := findClass_of_methodNamed B.named
  have hlocks := B.notSynchronized
  subst hsz
  have hD := hD0.self (sz := s.heap.size)
  generalize hAe : va_A [(h_mm, .inr (8, (mo103 v_mm (.int x_mm_isProof) (.int x_mm_answers))))] s.heap.size = A at hD ⊢
  have hA : ∀ q : Nat, s.heap.size ≤ q → A q := fun q h => by rw [← hAe]; exact Or.inr h
  have hS : va_S A s.heap s.heap [] := va_S.rf
  have hl := lv_entry ([.ref h_mm]) (n := 1) (Nat.le_of_ble_eq_true rfl)
  rw [lg_entry_eq]
  generalize (lg_sl ([.ref h_mm]) ++ List.replicate (1 - (lg_sl ([.ref h_mm])).length) Slot.unset).toArray = ls at hl ⊢
  have hl : lv_has ls 1 [(0, .ref h_mm)] := hl
  refine lv_aload_n hx hb dX11_forgets_0 rfl (lv_at hl 0 rfl) ?_
  refine lv_iconst (v := 0) hx hb dX11_forgets_1 (by decide) ?_
  refine va_put (D := (dC, dI)) (ci := 8) (v := .int 0) (ty := tyX11 58) (C := RX11) (T := TX11) (N := 71) hx hb hw iwX11 tyX11 tyX11_ok nmX11 hown hK hP hD hS 0 rfl rfl 58 (by decide) (hw _ w_f_X11_410) (fun _ h9 => h9) rfl (tyX11_ok 58 (by decide)) rfl rfl (Nat.le_of_ble_eq_true rfl) dX11_forgets_2 (fun H locs hP9 hD9 hS9 => ?_)
  clear hP hD hS
  have hP : va_P (dC, dI) cls [(h_mm, .inr (8, (mo103 v_mm (.int 0) (.int x_mm_answers))))] H := hP9
  have hD : va_D A [(h_mm, .inr (8, (mo103 v_mm (.int 0) (.int x_mm_answers))))] := hD9
  have hS := hS9
  clear hP9 hD9 hS9
  refine lv_aload_n hx hb dX11_forgets_5 rfl (lv_at hl 0 rfl) ?_
  refine lv_iconst (v := 0) hx hb dX11_forgets_6 (by decide) ?_
  refine va_put (D := (dC, dI)) (ci := 8) (v := .int 0) (ty := tyX11 60) (C := RX11) (T := TX11) (N := 71) hx hb hw iwX11 tyX11 tyX11_ok nmX11 hown hK hP hD hS 0 rfl rfl 60 (by decide) (hw _ w_f_X11_413) (fun _ h9 => h9) rfl (tyX11_ok 60 (by decide)) rfl rfl (Nat.le_of_ble_eq_true rfl) dX11_forgets_7 (fun H locs hP9 hD9 hS9 => ?_)
  clear hP hD hS
  have hP : va_P (dC, dI) cls [(h_mm, .inr (8, (mo103 v_mm (.int 0) (.int 0))))] H := hP9
  have hD : va_D A [(h_mm, .inr (8, (mo103 v_mm (.int 0) (.int 0))))] := hD9
  have hS := hS9
  clear hP9 hD9 hS9
  refine W.widen (k := 0) (n := 0) (Nat.le_of_ble_eq_true rfl) (Nat.le_of_ble_eq_true rfl) ?_
  have cst0 : (0 : Int32).toInt = 0 := by decide
  have w1 : 0 ≤ ((0 : Int32)).toInt ∧ ((0 : Int32)).toInt ≤ 1 := by omega
  have w2 : 0 ≤ ((0 : Int32)).toInt ∧ ((0 : Int32)).toInt ≤ 8 := by omega
  have w3 : ((0 : Int32)).toInt = 0 := by omega
  have w4 : ((0 : Int32)).toInt = 0 := by omega
  exact W.vret hx hb hr (fun t ht hW => ⟨⟨(0, 0), rfl, ⟨w1, w2, w3, w4⟩, by rw [ht]; exact hP, hD⟩, hS.F ht⟩) hS.2.2 dX11_forgets_10

set_option maxHeartbeats 8000000 in
set_option maxRecDepth 100000 in
theorem c_X11_clauses (l : Launch) (dC : Nat → ClassId) (dI : Nat → Nat → Nat) (sz : Nat) (h_mm : Nat) (h_tap : Nat) (h_nv : Nat) (h_nn : Nat) (h_na : Nat) (h_nb : Nat) (h_nc : Nat) (h_vrs : Nat) (h_let : Nat) (h_mny : Nat) (h_isn : Nat) (h_tem : Nat) (v_mm : Nat → Value) (x_mm_nodes : Int32) (x_mm_clauses : Int32) (x_mm_taped : Int32) (x_mm_at : Int32) (x_mm_place : Int32) (x_mm_kind : Int32) (x_mm_sign : Int32) (x_mm_name : Int64) (x_mm_isFaulty : Int32) (x_mm_fault : Int32) (x_mm_faultPlace : Int32) (x_mm_opened : Int32) (x_mm_reading : Int32) (x_mm_isProof : Int32) (x_mm_answers : Int32) (cy_tap : ClassId) (f_tap : Nat → Int32) (cy_nv : ClassId) (f_nv : Nat → Int32) (cy_nn : ClassId) (f_nn : Nat → Int64) (cy_na : ClassId) (f_na : Nat → Int32) (cy_nb : ClassId) (f_nb : Nat → Int32) (cy_nc : ClassId) (f_nc : Nat → Int32) (cy_vrs : ClassId) (f_vrs : Nat → Int32) (cy_let : ClassId) (f_let : Nat → Int32) (cy_mny : ClassId) (f_mny : Nat → Int32) (cy_isn : ClassId) (f_isn : Nat → Int32) (cy_tem : ClassId) (f_tem : Nat → Int32) (hz : Nat → Nat) (hx_mm_nodes : 0 ≤ (x_mm_nodes).toInt ∧ (x_mm_nodes).toInt ≤ 1200) (hx_mm_clauses : 0 ≤ (x_mm_clauses).toInt ∧ (x_mm_clauses).toInt ≤ 16) (hx_mm_taped : 0 ≤ (x_mm_taped).toInt ∧ (x_mm_taped).toInt ≤ 600) (hx_mm_at : 0 ≤ (x_mm_at).toInt ∧ (x_mm_at).toInt ≤ 600) (hx_mm_place : 0 ≤ (x_mm_place).toInt ∧ (x_mm_place).toInt ≤ 600) (hx_mm_kind : 0 ≤ (x_mm_kind).toInt ∧ (x_mm_kind).toInt ≤ 4) (hx_mm_isFaulty : 0 ≤ (x_mm_isFaulty).toInt ∧ (x_mm_isFaulty).toInt ≤ 1) (hx_mm_reading : 16 ≤ (x_mm_reading).toInt ∧ (x_mm_reading).toInt ≤ 32) (hx_mm_isProof : 0 ≤ (x_mm_isProof).toInt ∧ (x_mm_isProof).toInt ≤ 1) (hx_mm_answers : 0 ≤ (x_mm_answers).toInt ∧ (x_mm_answers).toInt ≤ 8) (hf_nv : Rg (-1) 7 f_nv) (hf_na : Rg (-1) 7999 f_na) (hf_nb : Rg (-1) 7999 f_nb) (hf_nc : Rg (-1) 7999 f_nc) (hf_vrs : Rg 0 8 f_vrs) (hf_mny : Rg 0 6 f_mny) (hf_tem : Rg 0 7999 f_tem) (q0 : (x_mm_nodes).toInt ≤ 600) (hn_nds : ND 0 (x_mm_nodes).toInt hz f_na f_nb f_nc) (hn_tms : TM 0 (x_mm_nodes).toInt hz 0 (x_mm_clauses).toInt f_mny f_tem) : Met l yX11_clauses (Ws yX11_clauses cX11_clauses 3 (some .int)) (({ frames := 18, cells := 0, slots := 0, locals := 384 } : Room)) (PRE (dC, dI) cls [(cy_tap, .byte), (cy_nv, .int), (cy_nn, .long), (cy_na, .int), (cy_nb, .int), (cy_nc, .int), (cy_vrs, .int), (cy_let, .int), (cy_mny, .int), (cy_isn, .boolean), (cy_tem, .int)] [(h_mm, .inr (8, (mo133 v_mm (.ref h_nv) (.ref h_nn) (.ref h_na) (.ref h_nb) (.ref h_nc) (.int x_mm_nodes) (.int x_mm_clauses) (.ref h_mny) (.ref h_vrs) (.ref h_let) (.ref h_isn) (.ref h_tem) (.ref h_tap) (.int x_mm_taped) (.int x_mm_at) (.int x_mm_place) (.int x_mm_kind) (.int x_mm_sign) (.long x_mm_name) (.int x_mm_isFaulty) (.int x_mm_fault) (.int x_mm_faultPlace) (.int x_mm_opened) (.int x_mm_reading) (.int x_mm_isProof) (.int x_mm_answers)))), (h_tap, .inl (cy_tap, 600, .inl f_tap)), (h_nv, .inl (cy_nv, 8000, .inl f_nv)), (h_nn, .inl (cy_nn, 8000, .inr (.inl f_nn))), (h_na, .inl (cy_na, 8000, .inl f_na)), (h_nb, .inl (cy_nb, 8000, .inl f_nb)), (h_nc, .inl (cy_nc, 8000, .inl f_nc)), (h_vrs, .inl (cy_vrs, 32, .inl f_vrs)), (h_let, .inl (cy_let, 256, .inl f_let)), (h_mny, .inl (cy_mny, 32, .inl f_mny)), (h_isn, .inl (cy_isn, 192, .inl f_isn)), (h_tem, .inl (cy_tem, 192, .inl f_tem))] sz [.ref h_mm]) (va_Qi (fun (r : Int32) (u : (Int32) × (Int32) × (Int32) × (Int32) × (Int32) × (Int32) × (Int32) × (Int32) × (Int64) × (Int32) × (Int32) × (Int32) × (Int32) × (Int32) × (Int32) × (Int32) × (Nat → Int32) × (Nat → Int64) × (Nat → Int32) × (Nat → Int32) × (Nat → Int32) × (Nat → Int32) × (Nat → Int32) × (Nat → Int32) × (Nat → Int32) × (Nat → Int32) × (Nat → Nat)) => (0 ≤ (u.2.1).toInt ∧ (u.2.1).toInt ≤ 1200) ∧ (0 ≤ (u.2.2.1).toInt ∧ (u.2.2.1).toInt ≤ 16) ∧ (0 ≤ (u.2.2.2.1).toInt ∧ (u.2.2.2.1).toInt ≤ 600) ∧ (0 ≤ (u.2.2.2.2.1).toInt ∧ (u.2.2.2.2.1).toInt ≤ 600) ∧ (0 ≤ (u.2.2.2.2.2.1).toInt ∧ (u.2.2.2.2.2.1).toInt ≤ 600) ∧ (0 ≤ (u.2.2.2.2.2.2.1).toInt ∧ (u.2.2.2.2.2.2.1).toInt ≤ 4) ∧ (0 ≤ (u.2.2.2.2.2.2.2.2.2.1).toInt ∧ (u.2.2.2.2.2.2.2.2.2.1).toInt ≤ 1) ∧ (16 ≤ (u.2.2.2.2.2.2.2.2.2.2.2.2.2.1).toInt ∧ (u.2.2.2.2.2.2.2.2.2.2.2.2.2.1).toInt ≤ 32) ∧ (0 ≤ (u.2.2.2.2.2.2.2.2.2.2.2.2.2.2.1).toInt ∧ (u.2.2.2.2.2.2.2.2.2.2.2.2.2.2.1).toInt ≤ 1) ∧ (0 ≤ (u.2.2.2.2.2.2.2.2.2.2.2.2.2.2.2.1).toInt ∧ (u.2.2.2.2.2.2.2.2.2.2.2.2.2.2.2.1).toInt ≤ 8) ∧ (Rg (-1) 7 u.2.2.2.2.2.2.2.2.2.2.2.2.2.2.2.2.1) ∧ (Rg (-1) 7999 u.2.2.2.2.2.2.2.2.2.2.2.2.2.2.2.2.2.2.1) ∧ (Rg (-1) 7999 u.2.2.2.2.2.2.2.2.2.2.2.2.2.2.2.2.2.2.2.1) ∧ (Rg (-1) 7999 u.2.2.2.2.2.2.2.2.2.2.2.2.2.2.2.2.2.2.2.2.1) ∧ (Rg 0 8 u.2.2.2.2.2.2.2.2.2.2.2.2.2.2.2.2.2.2.2.2.2.1) ∧ (Rg 0 6 u.2.2.2.2.2.2.2.2.2.2.2.2.2.2.2.2.2.2.2.2.2.2.2.1) ∧ (Rg 0 7999 u.2.2.2.2.2.2.2.2.2.2.2.2.2.2.2.2.2.2.2.2.2.2.2.2.2.1) ∧ ((u.2.1).toInt ≤ 600) ∧ (ND 0 (u.2.1).toInt u.2.2.2.2.2.2.2.2.2.2.2.2.2.2.2.2.2.2.2.2.2.2.2.2.2.2 u.2.2.2.2.2.2.2.2.2.2.2.2.2.2.2.2.2.2.1 u.2.2.2.2.2.2.2.2.2.2.2.2.2.2.2.2.2.2.2.1 u.2.2.2.2.2.2.2.2.2.2.2.2.2.2.2.2.2.2.2.2.1) ∧ (TM 0 (u.2.1).toInt u.2.2.2.2.2.2.2.2.2.2.2.2.2.2.2.2.2.2.2.2.2.2.2.2.2.2 0 (u.2.2.1).toInt u.2.2.2.2.2.2.2.2.2.2.2.2.2.2.2.2.2.2.2.2.2.2.2.1 u.2.2.2.2.2.2.2.2.2.2.2.2.2.2.2.2.2.2.2.2.2.2.2.2.2.1) ∧ (((u.2.2.2.2.2.2.2.2.2.2.2.2.2.2.1).toInt = 0) ∨ (EQ0 (x_mm_nodes).toInt f_na f_nb f_nc f_nv u.2.2.2.2.2.2.2.2.2.2.2.2.2.2.2.2.2.2.1 u.2.2.2.2.2.2.2.2.2.2.2.2.2.2.2.2.2.2.2.1 u.2.2.2.2.2.2.2.2.2.2.2.2.2.2.2.2.2.2.2.2.1 u.2.2.2.2.2.2.2.2.2.2.2.2.2.2.2.2.1 ∧ u.2.1 = x_mm_nodes ∧ u.2.2.2.2.2.2.2.2.2.2.2.2.2.2.2.2.2.2.2.2.2.2.2.2.2.2 = hz ∧ u.2.2.2.2.2.2.2.2.2.2.2.2.2.2.1 = x_mm_isProof ∧ u.2.2.1 = x_mm_clauses))) (fun (u : (Int32) × (Int32) × (Int32) × (Int32) × (Int32) × (Int32) × (Int32) × (Int32) × (Int64) × (Int32) × (Int32) × (Int32) × (Int32) × (Int32) × (Int32) × (Int32) × (Nat → Int32) × (Nat → Int64) × (Nat → Int32) × (Nat → Int32) × (Nat → Int32) × (Nat → Int32) × (Nat → Int32) × (Nat → Int32) × (Nat → Int32) × (Nat → Int32) × (Nat → Nat)) (t : State) => va_P (dC, dI) cls [(h_mm, .inr (8, (mo134 v_mm (.int u.1) (.ref h_nv) (.ref h_nn) (.ref h_na) (.ref h_nb) (.ref h_nc) (.int u.2.1) (.int u.2.2.1) (.ref h_mny) (.ref h_vrs) (.ref h_let) (.ref h_isn) (.ref h_tem) (.ref h_tap) (.int u.2.2.2.1) (.int u.2.2.2.2.1) (.int u.2.2.2.2.2.1) (.int u.2.2.2.2.2.2.1) (.int u.2.2.2.2.2.2.2.1) (.long u.2.2.2.2.2.2.2.2.1) (.int u.2.2.2.2.2.2.2.2.2.1) (.int u.2.2.2.2.2.2.2.2.2.2.1) (.int u.2.2.2.2.2.2.2.2.2.2.2.1) (.int u.2.2.2.2.2.2.2.2.2.2.2.2.1) (.int u.2.2.2.2.2.2.2.2.2.2.2.2.2.1) (.int u.2.2.2.2.2.2.2.2.2.2.2.2.2.2.1) (.int u.2.2.2.2.2.2.2.2.2.2.2.2.2.2.2.1)))), (h_tap, .inl (cy_tap, 600, .inl f_tap)), (h_nv, .inl (cy_nv, 8000, .inl u.2.2.2.2.2.2.2.2.2.2.2.2.2.2.2.2.1)), (h_nn, .inl (cy_nn, 8000, .inr (.inl u.2.2.2.2.2.2.2.2.2.2.2.2.2.2.2.2.2.1))), (h_na, .inl (cy_na, 8000, .inl u.2.2.2.2.2.2.2.2.2.2.2.2.2.2.2.2.2.2.1)), (h_nb, .inl (cy_nb, 8000, .inl u.2.2.2.2.2.2.2.2.2.2.2.2.2.2.2.2.2.2.2.1)), (h_nc, .inl (cy_nc, 8000, .inl u.2.2.2.2.2.2.2.2.2.2.2.2.2.2.2.2.2.2.2.2.1)), (h_vrs, .inl (cy_vrs, 32, .inl u.2.2.2.2.2.2.2.2.2.2.2.2.2.2.2.2.2.2.2.2.2.1)), (h_let, .inl (cy_let, 256, .inl u.2.2.2.2.2.2.2.2.2.2.2.2.2.2.2.2.2.2.2.2.2.2.1)), (h_mny, .inl (cy_mny, 32, .inl u.2.2.2.2.2.2.2.2.2.2.2.2.2.2.2.2.2.2.2.2.2.2.2.1)), (h_isn, .inl (cy_isn, 192, .inl u.2.2.2.2.2.2.2.2.2.2.2.2.2.2.2.2.2.2.2.2.2.2.2.2.1)), (h_tem, .inl (cy_tem, 192, .inl u.2.2.2.2.2.2.2.2.2.2.2.2.2.2.2.2.2.2.2.2.2.2.2.2.2.1))] t.heap ∧ va_D (va_A [(h_mm, .inr (8, (mo133 v_mm (.ref h_nv) (.ref h_nn) (.ref h_na) (.ref h_nb) (.ref h_nc) (.int x_mm_nodes) (.int x_mm_clauses) (.ref h_mny) (.ref h_vrs) (.ref h_let) (.ref h_isn) (.ref h_tem) (.ref h_tap) (.int x_mm_taped) (.int x_mm_at) (.int x_mm_place) (.int x_mm_kind) (.int x_mm_sign) (.long x_mm_name) (.int x_mm_isFaulty) (.int x_mm_fault) (.int x_mm_faultPlace) (.int x_mm_opened) (.int x_mm_reading) (.int x_mm_isProof) (.int x_mm_answers)))), (h_tap, .inl (cy_tap, 600, .inl f_tap)), (h_nv, .inl (cy_nv, 8000, .inl f_nv)), (h_nn, .inl (cy_nn, 8000, .inr (.inl f_nn))), (h_na, .inl (cy_na, 8000, .inl f_na)), (h_nb, .inl (cy_nb, 8000, .inl f_nb)), (h_nc, .inl (cy_nc, 8000, .inl f_nc)), (h_vrs, .inl (cy_vrs, 32, .inl f_vrs)), (h_let, .inl (cy_let, 256, .inl f_let)), (h_mny, .inl (cy_mny, 32, .inl f_mny)), (h_isn, .inl (cy_isn, 192, .inl f_isn)), (h_tem, .inl (cy_tem, 192, .inl f_tem))] sz) [(h_mm, .inr (8, (mo134 v_mm (.int u.1) (.ref h_nv) (.ref h_nn) (.ref h_na) (.ref h_nb) (.ref h_nc) (.int u.2.1) (.int u.2.2.1) (.ref h_mny) (.ref h_vrs) (.ref h_let) (.ref h_isn) (.ref h_tem) (.ref h_tap) (.int u.2.2.2.1) (.int u.2.2.2.2.1) (.int u.2.2.2.2.2.1) (.int u.2.2.2.2.2.2.1) (.int u.2.2.2.2.2.2.2.1) (.long u.2.2.2.2.2.2.2.2.1) (.int u.2.2.2.2.2.2.2.2.2.1) (.int u.2.2.2.2.2.2.2.2.2.2.1) (.int u.2.2.2.2.2.2.2.2.2.2.2.1) (.int u.2.2.2.2.2.2.2.2.2.2.2.2.1) (.int u.2.2.2.2.2.2.2.2.2.2.2.2.2.1) (.int u.2.2.2.2.2.2.2.2.2.2.2.2.2.2.1) (.int u.2.2.2.2.2.2.2.2.2.2.2.2.2.2.2.1)))), (h_tap, .inl (cy_tap, 600, .inl f_tap)), (h_nv, .inl (cy_nv, 8000, .inl u.2.2.2.2.2.2.2.2.2.2.2.2.2.2.2.2.1)), (h_nn, .inl (cy_nn, 8000, .inr (.inl u.2.2.2.2.2.2.2.2.2.2.2.2.2.2.2.2.2.1))), (h_na, .inl (cy_na, 8000, .inl u.2.2.2.2.2.2.2.2.2.2.2.2.2.2.2.2.2.2.1)), (h_nb, .inl (cy_nb, 8000, .inl u.2.2.2.2.2.2.2.2.2.2.2.2.2.2.2.2.2.2.2.1)), (h_nc, .inl (cy_nc, 8000, .inl u.2.2.2.2.2.2.2.2.2.2.2.2.2.2.2.2.2.2.2.2.1)), (h_vrs, .inl (cy_vrs, 32, .inl u.2.2.2.2.2.2.2.2.2.2.2.2.2.2.2.2.2.2.2.2.2.1)), (h_let, .inl (cy_let, 256, .inl u.2.2.2.2.2.2.2.2.2.2.2.2.2.2.2.2.2.2.2.2.2.2.1)), (h_mny, .inl (cy_mny, 32, .inl u.2.2.2.2.2.2.2.2.2.2.2.2.2.2.2.2.2.2.2.2.2.2.2.1)), (h_isn, .inl (cy_isn, 192, .inl u.2.2.2.2.2.2.2.2.2.2.2.2.2.2.2.2.2.2.2.2.2.2.2.2.1)), (h_tem, .inl (cy_tem, 192, .inl u.2.2.2.2.2.2.2.2.2.2.2.2.2.2.2.2.2.2.2.2.2.2.2.2.2.1))]) (va_A [(h_mm, .inr (8, (mo133 v_mm (.ref h_nv) (.ref h_nn) (.ref h_na) (.ref h_nb) (.ref h_nc) (.int x_mm_nodes) (.int x_mm_clauses) (.ref h_mny) (.ref h_vrs) (.ref h_let) (.ref h_isn) (.ref h_tem) (.ref h_tap) (.int x_mm_taped) (.int x_mm_at) (.int x_mm_place) (.int x_mm_kind) (.int x_mm_sign) (.long x_mm_name) (.int x_mm_isFaulty) (.int x_mm_fault) (.int x_mm_faultPlace) (.int x_mm_opened) (.int x_mm_reading) (.int x_mm_isProof) (.int x_mm_answers)))), (h_tap, .inl (cy_tap, 600, .inl f_tap)), (h_nv, .inl (cy_nv, 8000, .inl f_nv)), (h_nn, .inl (cy_nn, 8000, .inr (.inl f_nn))), (h_na, .inl (cy_na, 8000, .inl f_na)), (h_nb, .inl (cy_nb, 8000, .inl f_nb)), (h_nc, .inl (cy_nc, 8000, .inl f_nc)), (h_vrs, .inl (cy_vrs, 32, .inl f_vrs)), (h_let, .inl (cy_let, 256, .inl f_let)), (h_mny, .inl (cy_mny, 32, .inl f_mny)), (h_isn, .inl (cy_isn, 192, .inl f_isn)), (h_tem, .inl (cy_tem, 192, .inl f_tem))] sz)) 0 0 (va_A [(h_mm, .inr (8, (mo133 v_mm (.ref h_nv) (.ref h_nn) (.ref h_na) (.ref h_nb) (.ref h_nc) (.int x_mm_nodes) (.int x_mm_clauses) (.ref h_mny) (.ref h_vrs) (.ref h_let) (.ref h_isn) (.ref h_tem) (.ref h_tap) (.int x_mm_taped) (.int x_mm_at) (.int x_mm_place) (.int x_mm_kind) (.int x_mm_sign) (.long x_mm_name) (.int x_mm_isFaulty) (.int x_mm_fault) (.int x_mm_faultPlace) (.int x_mm_opened) (.int x_mm_reading) (.int x_mm_isProof) (.int x_mm_answers)))), (h_tap, .inl (cy_tap, 600, .inl f_tap)), (h_nv, .inl (cy_nv, 8000, .inl f_nv)), (h_nn, .inl (cy_nn, 8000, .inr (.inl f_nn))), (h_na, .inl (cy_na, 8000, .inl f_na)), (h_nb, .inl (cy_nb, 8000, .inl f_nb)), (h_nc, .inl (cy_nc, 8000, .inl f_nc)), (h_vrs, .inl (cy_vrs, 32, .inl f_vrs)), (h_let, .inl (cy_let, 256, .inl f_let)), (h_mny, .inl (cy_mny, 32, .inl f_mny)), (h_isn, .inl (cy_isn, 192, .inl f_isn)), (h_tem, .inl (cy_tem, 192, .inl f_tem))] sz) := by
  refine Met.ofW (cc := cX11_clauses) (maxL := 3) (ret := (some .int)) (by decide) rfl ?_
  intro p e s m args below meth c s₁ B hml hv
  obtain ⟨rfl, hsz, hP, hK, hD0, hN⟩ := hv
  have hx := B.exec
  have hb := B.bytes
  have hr := B.returns
  have hts := atoms_spec (ws := Ws yX11_clauses cX11_clauses 3 (some .int)) B.pre
  have hT : ∀ w ∈ WALL, w ∈ Ws yX11_clauses cX11_clauses 3 (some .int) := fun w h => List.mem_cons_of_mem _ h
  have hw := fun w (h : w ∈ WALL) => hts w (hT w h)
  have hown : s.vm.findClass RX11 = some m.cls := findClass_of_methodNamed B.named
  have hlocks := B.notSynchronized
  subst hsz
  have hD := hD0.self (sz := s.heap.size)
  generalize hAe : va_A [(h_mm, .inr (8, (mo133 v_mm (.ref h_nv) (.ref h_nn) (.ref h_na) (.ref h_nb) (.ref h_nc) (.int x_mm_nodes) (.int x_mm_clauses) (.ref h_mny) (.ref h_vrs) (.ref h_let) (.ref h_isn) (.ref h_tem) (.ref h_tap) (.int x_mm_taped) (.int x_mm_at) (.int x_mm_place) (.int x_mm_kind) (.int x_mm_sign) (.long x_mm_name) (.int x_mm_isFaulty) (.int x_mm_fault) (.int x_mm_faultPlace) (.int x_mm_opened) (.int x_mm_reading) (.int x_mm_isProof) (.int x_mm_answers)))), (h_tap, .inl (cy_tap, 600, .inl f_tap)), (h_nv, .inl (cy_nv, 8000, .inl f_nv)), (h_nn, .inl (cy_nn, 8000, .inr (.inl f_nn))), (h_na, .inl (cy_na, 8000, .inl f_na)), (h_nb, .inl (cy_nb, 8000, .inl f_nb)), (h_nc, .inl (cy_nc, 8000, .inl f_nc)), (h_vrs, .inl (cy_vrs, 32, .inl f_vrs)), (h_let, .inl (cy_let, 256, .inl f_let)), (h_mny, .inl (cy_mny, 32, .inl f_mny)), (h_isn, .inl (cy_isn, 192, .inl f_isn)), (h_tem, .inl (cy_tem, 192, .inl f_tem))] s.heap.size = A at hD ⊢
  have hA : ∀ q : Nat, s.heap.size ≤ q → A q := fun q h => by rw [← hAe]; exact Or.inr h
  have hS : va_S A s.heap s.heap [] := va_S.rf
  have hl := lv_entry ([.ref h_mm]) (n := 3) (Nat.le_of_ble_eq_true rfl)
  rw [lg_entry_eq]
  generalize (lg_sl ([.ref h_mm]) ++ List.replicate (3 - (lg_sl ([.ref h_mm])).length) Slot.unset).toArray = ls at hl ⊢
  have hl : lv_has ls 3 [(0, .ref h_mm)] := hl
  refine lv_aload_n hx hb dX11_clauses_0 rfl (lv_at hl 0 rfl) ?_
  refine lv_iconst (v := 0) hx hb dX11_clauses_1 (by decide) ?_
  refine va_put (D := (dC, dI)) (ci := 8) (v := .int 0) (ty := tyX11 0) (C := RX11) (T := TX11) (N := 71) hx hb hw iwX11 tyX11 tyX11_ok nmX11 hown hK hP hD hS 0 rfl rfl 0 (by decide) (hw _ w_f_X11_1) (fun _ h9 => h9) rfl (tyX11_ok 0 (by decide)) rfl rfl (Nat.le_of_ble_eq_true rfl) dX11_clauses_2 (fun H locs hP9 hD9 hS9 => ?_)
  clear hP hD hS
  have hP : va_P (dC, dI) cls [(h_mm, .inr (8, (mo134 v_mm (.int 0) (.ref h_nv) (.ref h_nn) (.ref h_na) (.ref h_nb) (.ref h_nc) (.int x_mm_nodes) (.int x_mm_clauses) (.ref h_mny) (.ref h_vrs) (.ref h_let) (.ref h_isn) (.ref h_tem) (.ref h_tap) (.int x_mm_taped) (.int x_mm_at) (.int x_mm_place) (.int x_mm_kind) (.int x_mm_sign) (.long x_mm_name) (.int x_mm_isFaulty) (.int x_mm_fault) (.int x_mm_faultPlace) (.int x_mm_opened) (.int x_mm_reading) (.int x_mm_isProof) (.int x_mm_answers)))), (h_tap, .inl (cy_tap, 600, .inl f_tap)), (h_nv, .inl (cy_nv, 8000, .inl f_nv)), (h_nn, .inl (cy_nn, 8000, .inr (.inl f_nn))), (h_na, .inl (cy_na, 8000, .inl f_na)), (h_nb, .inl (cy_nb, 8000, .inl f_nb)), (h_nc, .inl (cy_nc, 8000, .inl f_nc)), (h_vrs, .inl (cy_vrs, 32, .inl f_vrs)), (h_let, .inl (cy_let, 256, .inl f_let)), (h_mny, .inl (cy_mny, 32, .inl f_mny)), (h_isn, .inl (cy_isn, 192, .inl f_isn)), (h_tem, .inl (cy_tem, 192, .inl f_tem))] H := hP9
  have hD : va_D A [(h_mm, .inr (8, (mo134 v_mm (.int 0) (.ref h_nv) (.ref h_nn) (.ref h_na) (.ref h_nb) (.ref h_nc) (.int x_mm_nodes) (.int x_mm_clauses) (.ref h_mny) (.ref h_vrs) (.ref h_let) (.ref h_isn) (.ref h_tem) (.ref h_tap) (.int x_mm_taped) (.int x_mm_at) (.int x_mm_place) (.int x_mm_kind) (.int x_mm_sign) (.long x_mm_name) (.int x_mm_isFaulty) (.int x_mm_fault) (.int x_mm_faultPlace) (.int x_mm_opened) (.int x_mm_reading) (.int x_mm_isProof) (.int x_mm_answers)))), (h_tap, .inl (cy_tap, 600, .inl f_tap)), (h_nv, .inl (cy_nv, 8000, .inl f_nv)), (h_nn, .inl (cy_nn, 8000, .inr (.inl f_nn))), (h_na, .inl (cy_na, 8000, .inl f_na)), (h_nb, .inl (cy_nb, 8000, .inl f_nb)), (h_nc, .inl (cy_nc, 8000, .inl f_nc)), (h_vrs, .inl (cy_vrs, 32, .inl f_vrs)), (h_let, .inl (cy_let, 256, .inl f_let)), (h_mny, .inl (cy_mny, 32, .inl f_mny)), (h_isn, .inl (cy_isn, 192, .inl f_isn)), (h_tem, .inl (cy_tem, 192, .inl f_tem))] := hD9
  have hS := hS9
  clear hP9 hD9 hS9
  refine lv_aload_n hx hb dX11_clauses_5 rfl (lv_at hl 0 rfl) ?_
  refine lv_iconst (v := 0) hx hb dX11_clauses_6 (by decide) ?_
  refine va_put (D := (dC, dI)) (ci := 8) (v := .int 0) (ty := tyX11 20) (C := RX11) (T := TX11) (N := 71) hx hb hw iwX11 tyX11 tyX11_ok nmX11 hown hK hP hD hS 0 rfl rfl 20 (by decide) (hw _ w_f_X11_61) (fun _ h9 => h9) rfl (tyX11_ok 20 (by decide)) rfl rfl (Nat.le_of_ble_eq_true rfl) dX11_clauses_7 (fun H locs hP9 hD9 hS9 => ?_)
  clear hP hD hS
  have hP : va_P (dC, dI) cls [(h_mm, .inr (8, (mo134 v_mm (.int 0) (.ref h_nv) (.ref h_nn) (.ref h_na) (.ref h_nb) (.ref h_nc) (.int x_mm_nodes) (.int x_mm_clauses) (.ref h_mny) (.ref h_vrs) (.ref h_let) (.ref h_isn) (.ref h_tem) (.ref h_tap) (.int x_mm_taped) (.int x_mm_at) (.int x_mm_place) (.int x_mm_kind) (.int x_mm_sign) (.long x_mm_name) (.int 0) (.int x_mm_fault) (.int x_mm_faultPlace) (.int x_mm_opened) (.int x_mm_reading) (.int x_mm_isProof) (.int x_mm_answers)))), (h_tap, .inl (cy_tap, 600, .inl f_tap)), (h_nv, .inl (cy_nv, 8000, .inl f_nv)), (h_nn, .inl (cy_nn, 8000, .inr (.inl f_nn))), (h_na, .inl (cy_na, 8000, .inl f_na)), (h_nb, .inl (cy_nb, 8000, .inl f_nb)), (h_nc, .inl (cy_nc, 8000, .inl f_nc)), (h_vrs, .inl (cy_vrs, 32, .inl f_vrs)), (h_let, .inl (cy_let, 256, .inl f_let)), (h_mny, .inl (cy_mny, 32, .inl f_mny)), (h_isn, .inl (cy_isn, 192, .inl f_isn)), (h_tem, .inl (cy_tem, 192, .inl f_tem))] H := hP9
  have hD : va_D A [(h_mm, .inr (8, (mo134 v_mm (.int 0) (.ref h_nv) (.ref h_nn) (.ref h_na) (.ref h_nb) (.ref h_nc) (.int x_mm_nodes) (.int x_mm_clauses) (.ref h_mny) (.ref h_vrs) (.ref h_let) (.ref h_isn) (.ref h_tem) (.ref h_tap) (.int x_mm_taped) (.int x_mm_at) (.int x_mm_place) (.int x_mm_kind) (.int x_mm_sign) (.long x_mm_name) (.int 0) (.int x_mm_fault) (.int x_mm_faultPlace) (.int x_mm_opened) (.int x_mm_reading) (.int x_mm_isProof) (.int x_mm_answers)))), (h_tap, .inl (cy_tap, 600, .inl f_tap)), (h_nv, .inl (cy_nv, 8000, .inl f_nv)), (h_nn, .inl (cy_nn, 8000, .inr (.inl f_nn))), (h_na, .inl (cy_na, 8000, .inl f_na)), (h_nb, .inl (cy_nb, 8000, .inl f_nb)), (h_nc, .inl (cy_nc, 8000, .inl f_nc)), (h_vrs, .inl (cy_vrs, 32, .inl f_vrs)), (h_let, .inl (cy_let, 256, .inl f_let)), (h_mny, .inl (cy_mny, 32, .inl f_mny)), (h_isn, .inl (cy_isn, 192, .inl f_isn)), (h_tem, .inl (cy_tem, 192, .inl f_tem))] := hD9
  have hS := hS9
  clear hP9 hD9 hS9
  refine lv_aload_n hx hb dX11_clauses_10 rfl (lv_at hl 0 rfl) ?_
  refine lv_iconst (v := 0) hx hb dX11_clauses_11 (by decide) ?_
  refine va_put (D := (dC, dI)) (ci := 8) (v := .int 0) (ty := tyX11 21) (C := RX11) (T := TX11) (N := 71) hx hb hw iwX11 tyX11 tyX11_ok nmX11 hown hK hP hD hS 0 rfl rfl 21 (by decide) (hw _ w_f_X11_65) (fun _ h9 => h9) rfl (tyX11_ok 21 (by decide)) rfl rfl (Nat.le_of_ble_eq_true rfl) dX11_clauses_12 (fun H locs hP9 hD9 hS9 => ?_)
  clear hP hD hS
  have hP : va_P (dC, dI) cls [(h_mm, .inr (8, (mo134 v_mm (.int 0) (.ref h_nv) (.ref h_nn) (.ref h_na) (.ref h_nb) (.ref h_nc) (.int x_mm_nodes) (.int x_mm_clauses) (.ref h_mny) (.ref h_vrs) (.ref h_let) (.ref h_isn) (.ref h_tem) (.ref h_tap) (.int x_mm_taped) (.int x_mm_at) (.int x_mm_place) (.int x_mm_kind) (.int x_mm_sign) (.long x_mm_name) (.int 0) (.int 0) (.int x_mm_faultPlace) (.int x_mm_opened) (.int x_mm_reading) (.int x_mm_isProof) (.int x_mm_answers)))), (h_tap, .inl (cy_tap, 600, .inl f_tap)), (h_nv, .inl (cy_nv, 8000, .inl f_nv)), (h_nn, .inl (cy_nn, 8000, .inr (.inl f_nn))), (h_na, .inl (cy_na, 8000, .inl f_na)), (h_nb, .inl (cy_nb, 8000, .inl f_nb)), (h_nc, .inl (cy_nc, 8000, .inl f_nc)), (h_vrs, .inl (cy_vrs, 32, .inl f_vrs)), (h_let, .inl (cy_let, 256, .inl f_let)), (h_mny, .inl (cy_mny, 32, .inl f_mny)), (h_isn, .inl (cy_isn, 192, .inl f_isn)), (h_tem, .inl (cy_tem, 192, .inl f_tem))] H := hP9
  have hD : va_D A [(h_mm, .inr (8, (mo134 v_mm (.int 0) (.ref h_nv) (.ref h_nn) (.ref h_na) (.ref h_nb) (.ref h_nc) (.int x_mm_nodes) (.int x_mm_clauses) (.ref h_mny) (.ref h_vrs) (.ref h_let) (.ref h_isn) (.ref h_tem) (.ref h_tap) (.int x_mm_taped) (.int x_mm_at) (.int x_mm_place) (.int x_mm_kind) (.int x_mm_sign) (.long x_mm_name) (.int 0) (.int 0) (.int x_mm_faultPlace) (.int x_mm_opened) (.int x_mm_reading) (.int x_mm_isProof) (.int x_mm_answers)))), (h_tap, .inl (cy_tap, 600, .inl f_tap)), (h_nv, .inl (cy_nv, 8000, .inl f_nv)), (h_nn, .inl (cy_nn, 8000, .inr (.inl f_nn))), (h_na, .inl (cy_na, 8000, .inl f_na)), (h_nb, .inl (cy_nb, 8000, .inl f_nb)), (h_nc, .inl (cy_nc, 8000, .inl f_nc)), (h_vrs, .inl (cy_vrs, 32, .inl f_vrs)), (h_let, .inl (cy_let, 256, .inl f_let)), (h_mny, .inl (cy_mny, 32, .inl f_mny)), (h_isn, .inl (cy_isn, 192, .inl f_isn)), (h_tem, .inl (cy_tem, 192, .inl f_tem))] := hD9
  have hS := hS9
  clear hP9 hD9 hS9
  refine lv_aload_n hx hb dX11_clauses_15 rfl (lv_at hl 0 rfl) ?_
  refine lv_iconst (v := (-1)) hx hb dX11_clauses_16 (by decide) ?_
  refine va_put (D := (dC, dI)) (ci := 8) (v := .int (-1)) (ty := tyX11 22) (C := RX11) (T := TX11) (N := 71) hx hb hw iwX11 tyX11 tyX11_ok nmX11 hown hK hP hD hS 0 rfl rfl 22 (by decide) (hw _ w_f_X11_71) (fun _ h9 => h9) rfl (tyX11_ok 22 (by decide)) rfl rfl (Nat.le_of_ble_eq_true rfl) dX11_clauses_17 (fun H locs hP9 hD9 hS9 => ?_)
  clear hP hD hS
  have hP : va_P (dC, dI) cls [(h_mm, .inr (8, (mo134 v_mm (.int 0) (.ref h_nv) (.ref h_nn) (.ref h_na) (.ref h_nb) (.ref h_nc) (.int x_mm_nodes) (.int x_mm_clauses) (.ref h_mny) (.ref h_vrs) (.ref h_let) (.ref h_isn) (.ref h_tem) (.ref h_tap) (.int x_mm_taped) (.int x_mm_at) (.int x_mm_place) (.int x_mm_kind) (.int x_mm_sign) (.long x_mm_name) (.int 0) (.int 0) (.int (-1)) (.int x_mm_opened) (.int x_mm_reading) (.int x_mm_isProof) (.int x_mm_answers)))), (h_tap, .inl (cy_tap, 600, .inl f_tap)), (h_nv, .inl (cy_nv, 8000, .inl f_nv)), (h_nn, .inl (cy_nn, 8000, .inr (.inl f_nn))), (h_na, .inl (cy_na, 8000, .inl f_na)), (h_nb, .inl (cy_nb, 8000, .inl f_nb)), (h_nc, .inl (cy_nc, 8000, .inl f_nc)), (h_vrs, .inl (cy_vrs, 32, .inl f_vrs)), (h_let, .inl (cy_let, 256, .inl f_let)), (h_mny, .inl (cy_mny, 32, .inl f_mny)), (h_isn, .inl (cy_isn, 192, .inl f_isn)), (h_tem, .inl (cy_tem, 192, .inl f_tem))] H := hP9
  have hD : va_D A [(h_mm, .inr (8, (mo134 v_mm (.int 0) (.ref h_nv) (.ref h_nn) (.ref h_na) (.ref h_nb) (.ref h_nc) (.int x_mm_nodes) (.int x_mm_clauses) (.ref h_mny) (.ref h_vrs) (.ref h_let) (.ref h_isn) (.ref h_tem) (.ref h_tap) (.int x_mm_taped) (.int x_mm_at) (.int x_mm_place) (.int x_mm_kind) (.int x_mm_sign) (.long x_mm_name) (.int 0) (.int 0) (.int (-1)) (.int x_mm_opened) (.int x_mm_reading) (.int x_mm_isProof) (.int x_mm_answers)))), (h_tap, .inl (cy_tap, 600, .inl f_tap)), (h_nv, .inl (cy_nv, 8000, .inl f_nv)), (h_nn, .inl (cy_nn, 8000, .inr (.inl f_nn))), (h_na, .inl (cy_na, 8000, .inl f_na)), (h_nb, .inl (cy_nb, 8000, .inl f_nb)), (h_nc, .inl (cy_nc, 8000, .inl f_nc)), (h_vrs, .inl (cy_vrs, 32, .inl f_vrs)), (h_let, .inl (cy_let, 256, .inl f_let)), (h_mny, .inl (cy_mny, 32, .inl f_mny)), (h_isn, .inl (cy_isn, 192, .inl f_isn)), (h_tem, .inl (cy_tem, 192, .inl f_tem))] := hD9
  have hS := hS9
  clear hP9 hD9 hS9
  refine lv_aload_n hx hb dX11_clauses_20 rfl (lv_at hl 0 rfl) ?_
  refine lv_iconst (v := 0) hx hb dX11_clauses_21 (by decide) ?_
  refine va_put (D := (dC, dI)) (ci := 8) (v := .int 0) (ty := tyX11 15) (C := RX11) (T := TX11) (N := 71) hx hb hw iwX11 tyX11 tyX11_ok nmX11 hown hK hP hD hS 0 rfl rfl 15 (by decide) (hw _ w_f_X11_74) (fun _ h9 => h9) rfl (tyX11_ok 15 (by decide)) rfl rfl (Nat.le_of_ble_eq_true rfl) dX11_clauses_22 (fun H locs hP9 hD9 hS9 => ?_)
  clear hP hD hS
  have hP : va_P (dC, dI) cls [(h_mm, .inr (8, (mo134 v_mm (.int 0) (.ref h_nv) (.ref h_nn) (.ref h_na) (.ref h_nb) (.ref h_nc) (.int x_mm_nodes) (.int x_mm_clauses) (.ref h_mny) (.ref h_vrs) (.ref h_let) (.ref h_isn) (.ref h_tem) (.ref h_tap) (.int x_mm_taped) (.int 0) (.int x_mm_place) (.int x_mm_kind) (.int x_mm_sign) (.long x_mm_name) (.int 0) (.int 0) (.int (-1)) (.int x_mm_opened) (.int x_mm_reading) (.int x_mm_isProof) (.int x_mm_answers)))), (h_tap, .inl (cy_tap, 600, .inl f_tap)), (h_nv, .inl (cy_nv, 8000, .inl f_nv)), (h_nn, .inl (cy_nn, 8000, .inr (.inl f_nn))), (h_na, .inl (cy_na, 8000, .inl f_na)), (h_nb, .inl (cy_nb, 8000, .inl f_nb)), (h_nc, .inl (cy_nc, 8000, .inl f_nc)), (h_vrs, .inl (cy_vrs, 32, .inl f_vrs)), (h_let, .inl (cy_let, 256, .inl f_let)), (h_mny, .inl (cy_mny, 32, .inl f_mny)), (h_isn, .inl (cy_isn, 192, .inl f_isn)), (h_tem, .inl (cy_tem, 192, .inl f_tem))] H := hP9
  have hD : va_D A [(h_mm, .inr (8, (mo134 v_mm (.int 0) (.ref h_nv) (.ref h_nn) (.ref h_na) (.ref h_nb) (.ref h_nc) (.int x_mm_nodes) (.int x_mm_clauses) (.ref h_mny) (.ref h_vrs) (.ref h_let) (.ref h_isn) (.ref h_tem) (.ref h_tap) (.int x_mm_taped) (.int 0) (.int x_mm_place) (.int x_mm_kind) (.int x_mm_sign) (.long x_mm_name) (.int 0) (.int 0) (.int (-1)) (.int x_mm_opened) (.int x_mm_reading) (.int x_mm_isProof) (.int x_mm_answers)))), (h_tap, .inl (cy_tap, 600, .inl f_tap)), (h_nv, .inl (cy_nv, 8000, .inl f_nv)), (h_nn, .inl (cy_nn, 8000, .inr (.inl f_nn))), (h_na, .inl (cy_na, 8000, .inl f_na)), (h_nb, .inl (cy_nb, 8000, .inl f_nb)), (h_nc, .inl (cy_nc, 8000, .inl f_nc)), (h_vrs, .inl (cy_vrs, 32, .inl f_vrs)), (h_let, .inl (cy_let, 256, .inl f_let)), (h_mny, .inl (cy_mny, 32, .inl f_mny)), (h_isn, .inl (cy_isn, 192, .inl f_isn)), (h_tem, .inl (cy_tem, 192, .inl f_tem))] := hD9
  have hS := hS9
  clear hP9 hD9 hS9
  refine lv_aload_n hx hb dX11_clauses_25 rfl (lv_at hl 0 rfl) ?_
  refine lv_iconst (v := 0) hx hb dX11_clauses_26 (by decide) ?_
  refine va_put (D := (dC, dI)) (ci := 8) (v := .int 0) (ty := tyX11 23) (C := RX11) (T := TX11) (N := 71) hx hb hw iwX11 tyX11 tyX11_ok nmX11 hown hK hP hD hS 0 rfl rfl 23 (by decide) (hw _ w_f_X11_130) (fun _ h9 => h9) rfl (tyX11_ok 23 (by decide)) rfl rfl (Nat.le_of_ble_eq_true rfl) dX11_clauses_27 (fun H locs hP9 hD9 hS9 => ?_)
  clear hP hD hS
  have hP : va_P (dC, dI) cls [(h_mm, .inr (8, (mo134 v_mm (.int 0) (.ref h_nv) (.ref h_nn) (.ref h_na) (.ref h_nb) (.ref h_nc) (.int x_mm_nodes) (.int x_mm_clauses) (.ref h_mny) (.ref h_vrs) (.ref h_let) (.ref h_isn) (.ref h_tem) (.ref h_tap) (.int x_mm_taped) (.int 0) (.int x_mm_place) (.int x_mm_kind) (.int x_mm_sign) (.long x_mm_name) (.int 0) (.int 0) (.int (-1)) (.int 0) (.int x_mm_reading) (.int x_mm_isProof) (.int x_mm_answers)))), (h_tap, .inl (cy_tap, 600, .inl f_tap)), (h_nv, .inl (cy_nv, 8000, .inl f_nv)), (h_nn, .inl (cy_nn, 8000, .inr (.inl f_nn))), (h_na, .inl (cy_na, 8000, .inl f_na)), (h_nb, .inl (cy_nb, 8000, .inl f_nb)), (h_nc, .inl (cy_nc, 8000, .inl f_nc)), (h_vrs, .inl (cy_vrs, 32, .inl f_vrs)), (h_let, .inl (cy_let, 256, .inl f_let)), (h_mny, .inl (cy_mny, 32, .inl f_mny)), (h_isn, .inl (cy_isn, 192, .inl f_isn)), (h_tem, .inl (cy_tem, 192, .inl f_tem))] H := hP9
  have hD : va_D A [(h_mm, .inr (8, (mo134 v_mm (.int 0) (.ref h_nv) (.ref h_nn) (.ref h_na) (.ref h_nb) (.ref h_nc) (.int x_mm_nodes) (.int x_mm_clauses) (.ref h_mny) (.ref h_vrs) (.ref h_let) (.ref h_isn) (.ref h_tem) (.ref h_tap) (.int x_mm_taped) (.int 0) (.int x_mm_place) (.int x_mm_kind) (.int x_mm_sign) (.long x_mm_name) (.int 0) (.int 0) (.int (-1)) (.int 0) (.int x_mm_reading) (.int x_mm_isProof) (.int x_mm_answers)))), (h_tap, .inl (cy_tap, 600, .inl f_tap)), (h_nv, .inl (cy_nv, 8000, .inl f_nv)), (h_nn, .inl (cy_nn, 8000, .inr (.inl f_nn))), (h_na, .inl (cy_na, 8000, .inl f_na)), (h_nb, .inl (cy_nb, 8000, .inl f_nb)), (h_nc, .inl (cy_nc, 8000, .inl f_nc)), (h_vrs, .inl (cy_vrs, 32, .inl f_vrs)), (h_let, .inl (cy_let, 256, .inl f_let)), (h_mny, .inl (cy_mny, 32, .inl f_mny)), (h_isn, .inl (cy_isn, 192, .inl f_isn)), (h_tem, .inl (cy_tem, 192, .inl f_tem))] := hD9
  have hS := hS9
  clear hP9 hD9 hS9
  refine lv_aload_n hx hb dX11_clauses_30 rfl (lv_at hl 0 rfl) ?_
  refine lv_bipush (v := 16) hx hb dX11_clauses_31 (by decide) ?_
  refine va_put (D := (dC, dI)) (ci := 8) (v := .int 16) (ty := tyX11 24) (C := RX11) (T := TX11) (N := 71) hx hb hw iwX11 tyX11 tyX11_ok nmX11 hown hK hP hD hS 0 rfl rfl 24 (by decide) (hw _ w_f_X11_105) (fun _ h9 => h9) rfl (tyX11_ok 24 (by decide)) rfl rfl (Nat.le_of_ble_eq_true rfl) dX11_clauses_33 (fun H locs hP9 hD9 hS9 => ?_)
  clear hP hD hS
  have hP : va_P (dC, dI) cls [(h_mm, .inr (8, (mo134 v_mm (.int 0) (.ref h_nv) (.ref h_nn) (.ref h_na) (.ref h_nb) (.ref h_nc) (.int x_mm_nodes) (.int x_mm_clauses) (.ref h_mny) (.ref h_vrs) (.ref h_let) (.ref h_isn) (.ref h_tem) (.ref h_tap) (.int x_mm_taped) (.int 0) (.int x_mm_place) (.int x_mm_kind) (.int x_mm_sign) (.long x_mm_name) (.int 0) (.int 0) (.int (-1)) (.int 0) (.int 16) (.int x_mm_isProof) (.int x_mm_answers)))), (h_tap, .inl (cy_tap, 600, .inl f_tap)), (h_nv, .inl (cy_nv, 8000, .inl f_nv)), (h_nn, .inl (cy_nn, 8000, .inr (.inl f_nn))), (h_na, .inl (cy_na, 8000, .inl f_na)), (h_nb, .inl (cy_nb, 8000, .inl f_nb)), (h_nc, .inl (cy_nc, 8000, .inl f_nc)), (h_vrs, .inl (cy_vrs, 32, .inl f_vrs)), (h_let, .inl (cy_let, 256, .inl f_let)), (h_mny, .inl (cy_mny, 32, .inl f_mny)), (h_isn, .inl (cy_isn, 192, .inl f_isn)), (h_tem, .inl (cy_tem, 192, .inl f_tem))] H := hP9
  have hD : va_D A [(h_mm, .inr (8, (mo134 v_mm (.int 0) (.ref h_nv) (.ref h_nn) (.ref h_na) (.ref h_nb) (.ref h_nc) (.int x_mm_nodes) (.int x_mm_clauses) (.ref h_mny) (.ref h_vrs) (.ref h_let) (.ref h_isn) (.ref h_tem) (.ref h_tap) (.int x_mm_taped) (.int 0) (.int x_mm_place) (.int x_mm_kind) (.int x_mm_sign) (.long x_mm_name) (.int 0) (.int 0) (.int (-1)) (.int 0) (.int 16) (.int x_mm_isProof) (.int x_mm_answers)))), (h_tap, .inl (cy_tap, 600, .inl f_tap)), (h_nv, .inl (cy_nv, 8000, .inl f_nv)), (h_nn, .inl (cy_nn, 8000, .inr (.inl f_nn))), (h_na, .inl (cy_na, 8000, .inl f_na)), (h_nb, .inl (cy_nb, 8000, .inl f_nb)), (h_nc, .inl (cy_nc, 8000, .inl f_nc)), (h_vrs, .inl (cy_vrs, 32, .inl f_vrs)), (h_let, .inl (cy_let, 256, .inl f_let)), (h_mny, .inl (cy_mny, 32, .inl f_mny)), (h_isn, .inl (cy_isn, 192, .inl f_isn)), (h_tem, .inl (cy_tem, 192, .inl f_tem))] := hD9
  have hS := hS9
  clear hP9 hD9 hS9
  refine lv_aload_n hx hb dX11_clauses_36 rfl (lv_at hl 0 rfl) ?_
  refine va_get (D := (dC, dI)) (ci := 8) (v := .int x_mm_nodes) (C := RX11) (T := TX11) (N := 71) hx hb hw iwX11 hown hK hP 0 rfl rfl 6 (by decide) (hw _ w_f_X11_20) (fun _ h9 => h9) rfl dX11_clauses_37 ?_
  refine lv_istore_n (lv' := [(1, .int x_mm_nodes), (0, .ref h_mm)]) hx hb dX11_clauses_40 rfl hl (by decide) rfl (fun ls hl => ?_)
  have ndi : ND (x_mm_nodes).toInt (x_mm_nodes).toInt hz f_na f_nb f_nc := nd_empty
  have tmi : TM (x_mm_nodes).toInt (x_mm_nodes).toInt hz 16 16 f_mny f_tem := tm_empty (by omega)
  have eqi : EQ0 (x_mm_nodes).toInt f_na f_nb f_nc f_nv f_na f_nb f_nc f_nv := fun x _ => ⟨rfl, rfl, rfl, rfl⟩
  have cst16 : (16 : Int32).toInt = 16 := by decide
  refine lv_aload_n hx hb dX11_clauses_41 rfl (lv_at hl 1 rfl) ?_
  obtain ⟨vq1, evq1⟩ := mq134_89 v_mm (.int 0) (.ref h_nv) (.ref h_nn) (.ref h_na) (.ref h_nb) (.ref h_nc) (.int x_mm_nodes) (.int x_mm_clauses) (.ref h_mny) (.ref h_vrs) (.ref h_let) (.ref h_isn) (.ref h_tem) (.int 0) (.int 0) (.int (-1)) (.int 0) (.int 16) (.int x_mm_isProof) (.int x_mm_answers)
  replace hP : va_P (dC, dI) cls [(h_mm, .inr (8, (mo89 vq1 (.ref h_tap) (.int x_mm_taped) (.int 0) (.int x_mm_place) (.int x_mm_kind) (.int x_mm_sign) (.long x_mm_name)))), (h_tap, .inl (cy_tap, 600, .inl f_tap)), (h_nv, .inl (cy_nv, 8000, .inl f_nv)), (h_nn, .inl (cy_nn, 8000, .inr (.inl f_nn))), (h_na, .inl (cy_na, 8000, .inl f_na)), (h_nb, .inl (cy_nb, 8000, .inl f_nb)), (h_nc, .inl (cy_nc, 8000, .inl f_nc)), (h_vrs, .inl (cy_vrs, 32, .inl f_vrs)), (h_let, .inl (cy_let, 256, .inl f_let)), (h_mny, .inl (cy_mny, 32, .inl f_mny)), (h_isn, .inl (cy_isn, 192, .inl f_isn)), (h_tem, .inl (cy_tem, 192, .inl f_tem))] H := by rw [evq1]; exact hP
  replace hD : va_D A [(h_mm, .inr (8, (mo89 vq1 (.ref h_tap) (.int x_mm_taped) (.int 0) (.int x_mm_place) (.int x_mm_kind) (.int x_mm_sign) (.long x_mm_name)))), (h_tap, .inl (cy_tap, 600, .inl f_tap)), (h_nv, .inl (cy_nv, 8000, .inl f_nv)), (h_nn, .inl (cy_nn, 8000, .inr (.inl f_nn))), (h_na, .inl (cy_na, 8000, .inl f_na)), (h_nb, .inl (cy_nb, 8000, .inl f_nb)), (h_nc, .inl (cy_nc, 8000, .inl f_nc)), (h_vrs, .inl (cy_vrs, 32, .inl f_vrs)), (h_let, .inl (cy_let, 256, .inl f_let)), (h_mny, .inl (cy_mny, 32, .inl f_mny)), (h_isn, .inl (cy_isn, 192, .inl f_isn)), (h_tem, .inl (cy_tem, 192, .inl f_tem))] := by rw [evq1]; exact hD
  have hPc := hP.sub (ws' := [(h_mm, .inr (8, (mo89 vq1 (.ref h_tap) (.int x_mm_taped) (.int 0) (.int x_mm_place) (.int x_mm_kind) (.int x_mm_sign) (.long x_mm_name)))), (h_tap, .inl (cy_tap, 600, .inl f_tap))]) [0, 1] rfl
  have hDc := hD.sub (ws' := [(h_mm, .inr (8, (mo89 vq1 (.ref h_tap) (.int x_mm_taped) (.int 0) (.int x_mm_place) (.int x_mm_kind) (.int x_mm_sign) (.long x_mm_name)))), (h_tap, .inl (cy_tap, 600, .inl f_tap))]) [0, 1] (by decide) rfl
  have hKc := hK.sub (tys' := [(cy_tap, .byte)]) [0] rfl
  have hFc := va_free (wc := [(h_mm, .inr (8, (mo89 vq1 (.ref h_tap) (.int x_mm_taped) (.int 0) (.int x_mm_place) (.int x_mm_kind) (.int x_mm_sign) (.long x_mm_name)))), (h_tap, .inl (cy_tap, 600, .inl f_tap))]) hD hS hA [0, 1] rfl
  refine va_callv (va_runV (As := []) (rest := []) ⟨hx, hb, hml, hown, hts⟩ (c_X11_step l dC dI H.size h_mm h_tap vq1 x_mm_taped 0 x_mm_place x_mm_kind x_mm_sign x_mm_name cy_tap f_tap (by first | exact hx_mm_taped | omega) (by decide) (by first | exact hx_mm_place | omega) (by first | exact hx_mm_kind | omega)) (cwV 0 hts (gv hT w_m_X11_98 w_instanceMethod_X11_step ws_sel_X11_step w_ini_X11 w_code_X11_step) rfl rfl rfl (by decide +kernel) ⟨(Nat.le_of_ble_eq_true rfl), (Nat.le_of_ble_eq_true rfl)⟩) ⟨pre_blind, va_recv hK hP (ci := 8) (q0 := 0) rfl rfl, pre_of hPc hKc hDc hN⟩ rfl rfl hl.1 rfl (lv_room (Nat.le_of_ble_eq_true rfl)) dX11_clauses_42 ⟨(Nat.le_of_ble_eq_true rfl), (Nat.le_of_ble_eq_true rfl)⟩) hS (fun q _ h => hFc q h) hFc (fun u t H locs ht hvm hq hB hz1 hk1 hS9 => ?_)
  obtain ⟨z3, z4, z5, z6, z7⟩ := u
  obtain ⟨hP1, hD1⟩ := hB
  rw [ht] at hP1
  obtain ⟨hP9, hD9⟩ := va_join (wr := [(h_nv, .inl (cy_nv, 8000, .inl f_nv)), (h_nn, .inl (cy_nn, 8000, .inr (.inl f_nn))), (h_na, .inl (cy_na, 8000, .inl f_na)), (h_nb, .inl (cy_nb, 8000, .inl f_nb)), (h_nc, .inl (cy_nc, 8000, .inl f_nc)), (h_vrs, .inl (cy_vrs, 32, .inl f_vrs)), (h_let, .inl (cy_let, 256, .inl f_let)), (h_mny, .inl (cy_mny, 32, .inl f_mny)), (h_isn, .inl (cy_isn, 192, .inl f_isn)), (h_tem, .inl (cy_tem, 192, .inl f_tem))]) (w1 := [(h_mm, .inr (8, (mo89 vq1 (.ref h_tap) (.int x_mm_taped) (.int z3) (.int z4) (.int z5) (.int z6) (.long z7)))), (h_tap, .inl (cy_tap, 600, .inl f_tap))]) hP hD [0, 1] [2, 3, 4, 5, 6, 7, 8, 9, 10, 11] rfl rfl (by decide) (by decide) hk1 hFc hP1 hD1
  clear hP hD hS hPc hDc hKc hFc hP1 hD1 hk1 hz1 ht hvm
  have hP : va_P (dC, dI) cls [(h_nv, .inl (cy_nv, 8000, .inl f_nv)), (h_nn, .inl (cy_nn, 8000, .inr (.inl f_nn))), (h_na, .inl (cy_na, 8000, .inl f_na)), (h_nb, .inl (cy_nb, 8000, .inl f_nb)), (h_nc, .inl (cy_nc, 8000, .inl f_nc)), (h_vrs, .inl (cy_vrs, 32, .inl f_vrs)), (h_let, .inl (cy_let, 256, .inl f_let)), (h_mny, .inl (cy_mny, 32, .inl f_mny)), (h_isn, .inl (cy_isn, 192, .inl f_isn)), (h_tem, .inl (cy_tem, 192, .inl f_tem)), (h_mm, .inr (8, (mo89 vq1 (.ref h_tap) (.int x_mm_taped) (.int z3) (.int z4) (.int z5) (.int z6) (.long z7)))), (h_tap, .inl (cy_tap, 600, .inl f_tap))] H := hP9
  have hD : va_D A [(h_nv, .inl (cy_nv, 8000, .inl f_nv)), (h_nn, .inl (cy_nn, 8000, .inr (.inl f_nn))), (h_na, .inl (cy_na, 8000, .inl f_na)), (h_nb, .inl (cy_nb, 8000, .inl f_nb)), (h_nc, .inl (cy_nc, 8000, .inl f_nc)), (h_vrs, .inl (cy_vrs, 32, .inl f_vrs)), (h_let, .inl (cy_let, 256, .inl f_let)), (h_mny, .inl (cy_mny, 32, .inl f_mny)), (h_isn, .inl (cy_isn, 192, .inl f_isn)), (h_tem, .inl (cy_tem, 192, .inl f_tem)), (h_mm, .inr (8, (mo89 vq1 (.ref h_tap) (.int x_mm_taped) (.int z3) (.int z4) (.int z5) (.int z6) (.long z7)))), (h_tap, .inl (cy_tap, 600, .inl f_tap))] := hD9
  have hS := hS9
  clear hP9 hD9 hS9
  rw [evq1] at hP hD
  replace hP : va_P (dC, dI) cls [(h_nv, .inl (cy_nv, 8000, .inl f_nv)), (h_nn, .inl (cy_nn, 8000, .inr (.inl f_nn))), (h_na, .inl (cy_na, 8000, .inl f_na)), (h_nb, .inl (cy_nb, 8000, .inl f_nb)), (h_nc, .inl (cy_nc, 8000, .inl f_nc)), (h_vrs, .inl (cy_vrs, 32, .inl f_vrs)), (h_let, .inl (cy_let, 256, .inl f_let)), (h_mny, .inl (cy_mny, 32, .inl f_mny)), (h_isn, .inl (cy_isn, 192, .inl f_isn)), (h_tem, .inl (cy_tem, 192, .inl f_tem)), (h_mm, .inr (8, (mo134 v_mm (.int 0) (.ref h_nv) (.ref h_nn) (.ref h_na) (.ref h_nb) (.ref h_nc) (.int x_mm_nodes) (.int x_mm_clauses) (.ref h_mny) (.ref h_vrs) (.ref h_let) (.ref h_isn) (.ref h_tem) (.ref h_tap) (.int x_mm_taped) (.int z3) (.int z4) (.int z5) (.int z6) (.long z7) (.int 0) (.int 0) (.int (-1)) (.int 0) (.int 16) (.int x_mm_isProof) (.int x_mm_answers)))), (h_tap, .inl (cy_tap, 600, .inl f_tap))] H := hP
  replace hD : va_D A [(h_nv, .inl (cy_nv, 8000, .inl f_nv)), (h_nn, .inl (cy_nn, 8000, .inr (.inl f_nn))), (h_na, .inl (cy_na, 8000, .inl f_na)), (h_nb, .inl (cy_nb, 8000, .inl f_nb)), (h_nc, .inl (cy_nc, 8000, .inl f_nc)), (h_vrs, .inl (cy_vrs, 32, .inl f_vrs)), (h_let, .inl (cy_let, 256, .inl f_let)), (h_mny, .inl (cy_mny, 32, .inl f_mny)), (h_isn, .inl (cy_isn, 192, .inl f_isn)), (h_tem, .inl (cy_tem, 192, .inl f_tem)), (h_mm, .inr (8, (mo134 v_mm (.int 0) (.ref h_nv) (.ref h_nn) (.ref h_na) (.ref h_nb) (.ref h_nc) (.int x_mm_nodes) (.int x_mm_clauses) (.ref h_mny) (.ref h_vrs) (.ref h_let) (.ref h_isn) (.ref h_tem) (.ref h_tap) (.int x_mm_taped) (.int z3) (.int z4) (.int z5) (.int z6) (.long z7) (.int 0) (.int 0) (.int (-1)) (.int 0) (.int 16) (.int x_mm_isProof) (.int x_mm_answers)))), (h_tap, .inl (cy_tap, 600, .inl f_tap))] := hD
  clear evq1 
  obtain ⟨k8, k9, k10, k11, k12, k13⟩ := hq
  have k8 : 0 ≤ ((z3)).toInt ∧ ((z3)).toInt ≤ 600 := k8
  have k9 : 0 ≤ ((z4)).toInt ∧ ((z4)).toInt ≤ 600 := k9
  have k10 : 0 ≤ ((z5)).toInt ∧ ((z5)).toInt ≤ 4 := k10
  have k11 : ((0 : Int32)).toInt ≤ ((z4)).toInt := k11
  have k12 : ((z4)).toInt ≤ ((z3)).toInt := k12
  have k13 : ((z5)).toInt = 0 ∨ ((z4)).toInt + 1 ≤ ((z3)).toInt := k13
  have lp35 : ∀ (n : Nat) (f14 : Nat → Int32) (f15 : Nat → Int64) (f16 : Nat → Int32) (f17 : Nat → Int32) (f18 : Nat → Int32) (f19 : Nat → Int32) (f20 : Nat → Int32) (f21 : Nat → Int32) (f22 : Nat → Int32) (f23 : Nat → Int32) (x24 : Int32) (x25 : Int32) (x26 : Int32) (x27 : Int32) (x28 : Int32) (x29 : Int64) (x30 : Int32) (x31 : Int32) (x32 : Int32) (x33 : Int32) (gh34 : Nat → Nat) (H : Heap) (locs : List Loc) (ls : Array Slot), (Rg (-1) 7 f14) → (Rg (-1) 7999 f16) → (Rg (-1) 7999 f17) → (Rg (-1) 7999 f18) → (Rg 0 8 f19) → (Rg 0 6 f21) → (Rg 0 7999 f23) → (0 ≤ (x24).toInt ∧ (x24).toInt ≤ 1200) → (0 ≤ (x25).toInt ∧ (x25).toInt ≤ 600) → (0 ≤ (x26).toInt ∧ (x26).toInt ≤ 600) → (0 ≤ (x27).toInt ∧ (x27).toInt ≤ 4) → (0 ≤ (x30).toInt ∧ (x30).toInt ≤ 1) → (16 ≤ (x33).toInt ∧ (x33).toInt ≤ 32) → ((x26).toInt ≤ (x25).toInt) → ((x27).toInt = 0 ∨ (x26).toInt + 1 ≤ (x25).toInt) → ((x30).toInt = 1 ∨ (x24).toInt ≤ (x_mm_nodes).toInt + (x26).toInt) → ((x_mm_nodes).toInt ≤ (x24).toInt) → (EQ0 (x_mm_nodes).toInt f_na f_nb f_nc f_nv f16 f17 f18 f14) → (ND (x_mm_nodes).toInt (x24).toInt gh34 f16 f17 f18) → (TM (x_mm_nodes).toInt (x24).toInt gh34 16 (x33).toInt f21 f23) → (TM 0 (x_mm_nodes).toInt hz 0 (x_mm_clauses).toInt f21 f23) → (2 * (600 - (x26).toInt) + 1 - (x30).toInt).toNat + 1 ≤ n → va_P (dC, dI) cls [(h_nv, .inl (cy_nv, 8000, .inl f14)), (h_nn, .inl (cy_nn, 8000, .inr (.inl f15))), (h_na, .inl (cy_na, 8000, .inl f16)), (h_nb, .inl (cy_nb, 8000, .inl f17)), (h_nc, .inl (cy_nc, 8000, .inl f18)), (h_vrs, .inl (cy_vrs, 32, .inl f19)), (h_let, .inl (cy_let, 256, .inl f20)), (h_mny, .inl (cy_mny, 32, .inl f21)), (h_isn, .inl (cy_isn, 192, .inl f22)), (h_tem, .inl (cy_tem, 192, .inl f23)), (h_mm, .inr (8, (mo134 v_mm (.int 0) (.ref h_nv) (.ref h_nn) (.ref h_na) (.ref h_nb) (.ref h_nc) (.int x24) (.int x_mm_clauses) (.ref h_mny) (.ref h_vrs) (.ref h_let) (.ref h_isn) (.ref h_tem) (.ref h_tap) (.int x_mm_taped) (.int x25) (.int x26) (.int x27) (.int x28) (.long x29) (.int x30) (.int x31) (.int x32) (.int 0) (.int x33) (.int x_mm_isProof) (.int x_mm_answers)))), (h_tap, .inl (cy_tap, 600, .inl f_tap))] H → va_D A [(h_nv, .inl (cy_nv, 8000, .inl f14)), (h_nn, .inl (cy_nn, 8000, .inr (.inl f15))), (h_na, .inl (cy_na, 8000, .inl f16)), (h_nb, .inl (cy_nb, 8000, .inl f17)), (h_nc, .inl (cy_nc, 8000, .inl f18)), (h_vrs, .inl (cy_vrs, 32, .inl f19)), (h_let, .inl (cy_let, 256, .inl f20)), (h_mny, .inl (cy_mny, 32, .inl f21)), (h_isn, .inl (cy_isn, 192, .inl f22)), (h_tem, .inl (cy_tem, 192, .inl f23)), (h_mm, .inr (8, (mo134 v_mm (.int 0) (.ref h_nv) (.ref h_nn) (.ref h_na) (.ref h_nb) (.ref h_nc) (.int x24) (.int x_mm_clauses) (.ref h_mny) (.ref h_vrs) (.ref h_let) (.ref h_isn) (.ref h_tem) (.ref h_tap) (.int x_mm_taped) (.int x25) (.int x26) (.int x27) (.int x28) (.long x29) (.int x30) (.int x31) (.int x32) (.int 0) (.int x33) (.int x_mm_isProof) (.int x_mm_answers)))), (h_tap, .inl (cy_tap, 600, .inl f_tap))] → va_S A s.heap H locs → lv_has ls 3 [(0, .ref h_mm), (1, .int x_mm_nodes)] → W p l e ({ frames := 18, cells := 0, slots := 0, locals := 384 } : Room) s m ([.ref h_mm] : List Value).toArray below meth c H locs 0 0 (MQ below (va_Qi (fun (r : Int32) (u : (Int32) × (Int32) × (Int32) × (Int32) × (Int32) × (Int32) × (Int32) × (Int32) × (Int64) × (Int32) × (Int32) × (Int32) × (Int32) × (Int32) × (Int32) × (Int32) × (Nat → Int32) × (Nat → Int64) × (Nat → Int32) × (Nat → Int32) × (Nat → Int32) × (Nat → Int32) × (Nat → Int32) × (Nat → Int32) × (Nat → Int32) × (Nat → Int32) × (Nat → Nat)) => (0 ≤ (u.2.1).toInt ∧ (u.2.1).toInt ≤ 1200) ∧ (0 ≤ (u.2.2.1).toInt ∧ (u.2.2.1).toInt ≤ 16) ∧ (0 ≤ (u.2.2.2.1).toInt ∧ (u.2.2.2.1).toInt ≤ 600) ∧ (0 ≤ (u.2.2.2.2.1).toInt ∧ (u.2.2.2.2.1).toInt ≤ 600) ∧ (0 ≤ (u.2.2.2.2.2.1).toInt ∧ (u.2.2.2.2.2.1).toInt ≤ 600) ∧ (0 ≤ (u.2.2.2.2.2.2.1).toInt ∧ (u.2.2.2.2.2.2.1).toInt ≤ 4) ∧ (0 ≤ (u.2.2.2.2.2.2.2.2.2.1).toInt ∧ (u.2.2.2.2.2.2.2.2.2.1).toInt ≤ 1) ∧ (16 ≤ (u.2.2.2.2.2.2.2.2.2.2.2.2.2.1).toInt ∧ (u.2.2.2.2.2.2.2.2.2.2.2.2.2.1).toInt ≤ 32) ∧ (0 ≤ (u.2.2.2.2.2.2.2.2.2.2.2.2.2.2.1).toInt ∧ (u.2.2.2.2.2.2.2.2.2.2.2.2.2.2.1).toInt ≤ 1) ∧ (0 ≤ (u.2.2.2.2.2.2.2.2.2.2.2.2.2.2.2.1).toInt ∧ (u.2.2.2.2.2.2.2.2.2.2.2.2.2.2.2.1).toInt ≤ 8) ∧ (Rg (-1) 7 u.2.2.2.2.2.2.2.2.2.2.2.2.2.2.2.2.1) ∧ (Rg (-1) 7999 u.2.2.2.2.2.2.2.2.2.2.2.2.2.2.2.2.2.2.1) ∧ (Rg (-1) 7999 u.2.2.2.2.2.2.2.2.2.2.2.2.2.2.2.2.2.2.2.1) ∧ (Rg (-1) 7999 u.2.2.2.2.2.2.2.2.2.2.2.2.2.2.2.2.2.2.2.2.1) ∧ (Rg 0 8 u.2.2.2.2.2.2.2.2.2.2.2.2.2.2.2.2.2.2.2.2.2.1) ∧ (Rg 0 6 u.2.2.2.2.2.2.2.2.2.2.2.2.2.2.2.2.2.2.2.2.2.2.2.1) ∧ (Rg 0 7999 u.2.2.2.2.2.2.2.2.2.2.2.2.2.2.2.2.2.2.2.2.2.2.2.2.2.1) ∧ ((u.2.1).toInt ≤ 600) ∧ (ND 0 (u.2.1).toInt u.2.2.2.2.2.2.2.2.2.2.2.2.2.2.2.2.2.2.2.2.2.2.2.2.2.2 u.2.2.2.2.2.2.2.2.2.2.2.2.2.2.2.2.2.2.1 u.2.2.2.2.2.2.2.2.2.2.2.2.2.2.2.2.2.2.2.1 u.2.2.2.2.2.2.2.2.2.2.2.2.2.2.2.2.2.2.2.2.1) ∧ (TM 0 (u.2.1).toInt u.2.2.2.2.2.2.2.2.2.2.2.2.2.2.2.2.2.2.2.2.2.2.2.2.2.2 0 (u.2.2.1).toInt u.2.2.2.2.2.2.2.2.2.2.2.2.2.2.2.2.2.2.2.2.2.2.2.1 u.2.2.2.2.2.2.2.2.2.2.2.2.2.2.2.2.2.2.2.2.2.2.2.2.2.1) ∧ (((u.2.2.2.2.2.2.2.2.2.2.2.2.2.2.1).toInt = 0) ∨ (EQ0 (x_mm_nodes).toInt f_na f_nb f_nc f_nv u.2.2.2.2.2.2.2.2.2.2.2.2.2.2.2.2.2.2.1 u.2.2.2.2.2.2.2.2.2.2.2.2.2.2.2.2.2.2.2.1 u.2.2.2.2.2.2.2.2.2.2.2.2.2.2.2.2.2.2.2.2.1 u.2.2.2.2.2.2.2.2.2.2.2.2.2.2.2.2.1 ∧ u.2.1 = x_mm_nodes ∧ u.2.2.2.2.2.2.2.2.2.2.2.2.2.2.2.2.2.2.2.2.2.2.2.2.2.2 = hz ∧ u.2.2.2.2.2.2.2.2.2.2.2.2.2.2.1 = x_mm_isProof ∧ u.2.2.1 = x_mm_clauses))) (fun (u : (Int32) × (Int32) × (Int32) × (Int32) × (Int32) × (Int32) × (Int32) × (Int32) × (Int64) × (Int32) × (Int32) × (Int32) × (Int32) × (Int32) × (Int32) × (Int32) × (Nat → Int32) × (Nat → Int64) × (Nat → Int32) × (Nat → Int32) × (Nat → Int32) × (Nat → Int32) × (Nat → Int32) × (Nat → Int32) × (Nat → Int32) × (Nat → Int32) × (Nat → Nat)) (t : State) => va_P (dC, dI) cls [(h_mm, .inr (8, (mo134 v_mm (.int u.1) (.ref h_nv) (.ref h_nn) (.ref h_na) (.ref h_nb) (.ref h_nc) (.int u.2.1) (.int u.2.2.1) (.ref h_mny) (.ref h_vrs) (.ref h_let) (.ref h_isn) (.ref h_tem) (.ref h_tap) (.int u.2.2.2.1) (.int u.2.2.2.2.1) (.int u.2.2.2.2.2.1) (.int u.2.2.2.2.2.2.1) (.int u.2.2.2.2.2.2.2.1) (.long u.2.2.2.2.2.2.2.2.1) (.int u.2.2.2.2.2.2.2.2.2.1) (.int u.2.2.2.2.2.2.2.2.2.2.1) (.int u.2.2.2.2.2.2.2.2.2.2.2.1) (.int u.2.2.2.2.2.2.2.2.2.2.2.2.1) (.int u.2.2.2.2.2.2.2.2.2.2.2.2.2.1) (.int u.2.2.2.2.2.2.2.2.2.2.2.2.2.2.1) (.int u.2.2.2.2.2.2.2.2.2.2.2.2.2.2.2.1)))), (h_tap, .inl (cy_tap, 600, .inl f_tap)), (h_nv, .inl (cy_nv, 8000, .inl u.2.2.2.2.2.2.2.2.2.2.2.2.2.2.2.2.1)), (h_nn, .inl (cy_nn, 8000, .inr (.inl u.2.2.2.2.2.2.2.2.2.2.2.2.2.2.2.2.2.1))), (h_na, .inl (cy_na, 8000, .inl u.2.2.2.2.2.2.2.2.2.2.2.2.2.2.2.2.2.2.1)), (h_nb, .inl (cy_nb, 8000, .inl u.2.2.2.2.2.2.2.2.2.2.2.2.2.2.2.2.2.2.2.1)), (h_nc, .inl (cy_nc, 8000, .inl u.2.2.2.2.2.2.2.2.2.2.2.2.2.2.2.2.2.2.2.2.1)), (h_vrs, .inl (cy_vrs, 32, .inl u.2.2.2.2.2.2.2.2.2.2.2.2.2.2.2.2.2.2.2.2.2.1)), (h_let, .inl (cy_let, 256, .inl u.2.2.2.2.2.2.2.2.2.2.2.2.2.2.2.2.2.2.2.2.2.2.1)), (h_mny, .inl (cy_mny, 32, .inl u.2.2.2.2.2.2.2.2.2.2.2.2.2.2.2.2.2.2.2.2.2.2.2.1)), (h_isn, .inl (cy_isn, 192, .inl u.2.2.2.2.2.2.2.2.2.2.2.2.2.2.2.2.2.2.2.2.2.2.2.2.1)), (h_tem, .inl (cy_tem, 192, .inl u.2.2.2.2.2.2.2.2.2.2.2.2.2.2.2.2.2.2.2.2.2.2.2.2.2.1))] t.heap ∧ va_D A [(h_mm, .inr (8, (mo134 v_mm (.int u.1) (.ref h_nv) (.ref h_nn) (.ref h_na) (.ref h_nb) (.ref h_nc) (.int u.2.1) (.int u.2.2.1) (.ref h_mny) (.ref h_vrs) (.ref h_let) (.ref h_isn) (.ref h_tem) (.ref h_tap) (.int u.2.2.2.1) (.int u.2.2.2.2.1) (.int u.2.2.2.2.2.1) (.int u.2.2.2.2.2.2.1) (.int u.2.2.2.2.2.2.2.1) (.long u.2.2.2.2.2.2.2.2.1) (.int u.2.2.2.2.2.2.2.2.2.1) (.int u.2.2.2.2.2.2.2.2.2.2.1) (.int u.2.2.2.2.2.2.2.2.2.2.2.1) (.int u.2.2.2.2.2.2.2.2.2.2.2.2.1) (.int u.2.2.2.2.2.2.2.2.2.2.2.2.2.1) (.int u.2.2.2.2.2.2.2.2.2.2.2.2.2.2.1) (.int u.2.2.2.2.2.2.2.2.2.2.2.2.2.2.2.1)))), (h_tap, .inl (cy_tap, 600, .inl f_tap)), (h_nv, .inl (cy_nv, 8000, .inl u.2.2.2.2.2.2.2.2.2.2.2.2.2.2.2.2.1)), (h_nn, .inl (cy_nn, 8000, .inr (.inl u.2.2.2.2.2.2.2.2.2.2.2.2.2.2.2.2.2.1))), (h_na, .inl (cy_na, 8000, .inl u.2.2.2.2.2.2.2.2.2.2.2.2.2.2.2.2.2.2.1)), (h_nb, .inl (cy_nb, 8000, .inl u.2.2.2.2.2.2.2.2.2.2.2.2.2.2.2.2.2.2.2.1)), (h_nc, .inl (cy_nc, 8000, .inl u.2.2.2.2.2.2.2.2.2.2.2.2.2.2.2.2.2.2.2.2.1)), (h_vrs, .inl (cy_vrs, 32, .inl u.2.2.2.2.2.2.2.2.2.2.2.2.2.2.2.2.2.2.2.2.2.1)), (h_let, .inl (cy_let, 256, .inl u.2.2.2.2.2.2.2.2.2.2.2.2.2.2.2.2.2.2.2.2.2.2.1)), (h_mny, .inl (cy_mny, 32, .inl u.2.2.2.2.2.2.2.2.2.2.2.2.2.2.2.2.2.2.2.2.2.2.2.1)), (h_isn, .inl (cy_isn, 192, .inl u.2.2.2.2.2.2.2.2.2.2.2.2.2.2.2.2.2.2.2.2.2.2.2.2.1)), (h_tem, .inl (cy_tem, 192, .inl u.2.2.2.2.2.2.2.2.2.2.2.2.2.2.2.2.2.2.2.2.2.2.2.2.2.1))]) A) ([.ref h_mm] : List Value).toArray s 0 0 A) (F0 m 45 ls []) := by
    clear hP hD hS hl
    intro n
    induction n with
    | zero => intro f14 f15 f16 f17 f18 f19 f20 f21 f22 f23 x24 x25 x26 x27 x28 x29 x30 x31 x32 x33 gh34 H locs ls hf14 hf16 hf17 hf18 hf19 hf21 hf23 klp35_7 klp35_8 klp35_9 klp35_10 klp35_11 klp35_12 klp35_13 klp35_14 klp35_15 klp35_16 klp35_17 klp35_18 klp35_19 klp35_20 hm hP hD hS hl; exact False.elim (by omega)
    | succ n ih => 
      intro f14 f15 f16 f17 f18 f19 f20 f21 f22 f23 x24 x25 x26 x27 x28 x29 x30 x31 x32 x33 gh34 H locs ls hf14 hf16 hf17 hf18 hf19 hf21 hf23 klp35_7 klp35_8 klp35_9 klp35_10 klp35_11 klp35_12 klp35_13 klp35_14 klp35_15 klp35_16 klp35_17 klp35_18 klp35_19 klp35_20 hm hP hD hS hl
      have ih36 := ih
      clear ih
      refine lv_aload_n hx hb dX11_clauses_45 rfl (lv_at hl 0 rfl) ?_
      refine va_get (D := (dC, dI)) (ci := 8) (v := .int x30) (C := RX11) (T := TX11) (N := 71) hx hb hw iwX11 hown hK hP 10 rfl rfl 20 (by decide) (hw _ w_f_X11_61) (fun _ h9 => h9) rfl dX11_clauses_46 ?_
      refine lv_if_ne (tgt := 66) hx hb dX11_clauses_49 (by decide) (fun c37 => ?_) (fun c37 => ?_)
      · have kc37 := (not_congr (cv_eq (rfl : (x30).toInt = (x30).toInt) (by decide : (0 : Int32).toInt = 0))).mp c37
        refine lv_aload_n hx hb dX11_clauses_66 rfl (lv_at hl 0 rfl) ?_
        refine lv_iconst (v := 0) hx hb dX11_clauses_67 (by decide) ?_
        refine va_put (D := (dC, dI)) (ci := 8) (v := .int 0) (ty := tyX11 14) (C := RX11) (T := TX11) (N := 71) hx hb hw iwX11 tyX11 tyX11_ok nmX11 hown hK hP hD hS 10 rfl rfl 14 (by decide) (hw _ w_f_X11_38) (fun _ h9 => h9) rfl (tyX11_ok 14 (by decide)) rfl rfl (Nat.le_of_ble_eq_true rfl) dX11_clauses_68 (fun H locs hP9 hD9 hS9 => ?_)
        clear hP hD hS
        have hP : va_P (dC, dI) cls [(h_nv, .inl (cy_nv, 8000, .inl f14)), (h_nn, .inl (cy_nn, 8000, .inr (.inl f15))), (h_na, .inl (cy_na, 8000, .inl f16)), (h_nb, .inl (cy_nb, 8000, .inl f17)), (h_nc, .inl (cy_nc, 8000, .inl f18)), (h_vrs, .inl (cy_vrs, 32, .inl f19)), (h_let, .inl (cy_let, 256, .inl f20)), (h_mny, .inl (cy_mny, 32, .inl f21)), (h_isn, .inl (cy_isn, 192, .inl f22)), (h_tem, .inl (cy_tem, 192, .inl f23)), (h_mm, .inr (8, (mo134 v_mm (.int 0) (.ref h_nv) (.ref h_nn) (.ref h_na) (.ref h_nb) (.ref h_nc) (.int x24) (.int x_mm_clauses) (.ref h_mny) (.ref h_vrs) (.ref h_let) (.ref h_isn) (.ref h_tem) (.ref h_tap) (.int 0) (.int x25) (.int x26) (.int x27) (.int x28) (.long x29) (.int x30) (.int x31) (.int x32) (.int 0) (.int x33) (.int x_mm_isProof) (.int x_mm_answers)))), (h_tap, .inl (cy_tap, 600, .inl f_tap))] H := hP9
        have hD : va_D A [(h_nv, .inl (cy_nv, 8000, .inl f14)), (h_nn, .inl (cy_nn, 8000, .inr (.inl f15))), (h_na, .inl (cy_na, 8000, .inl f16)), (h_nb, .inl (cy_nb, 8000, .inl f17)), (h_nc, .inl (cy_nc, 8000, .inl f18)), (h_vrs, .inl (cy_vrs, 32, .inl f19)), (h_let, .inl (cy_let, 256, .inl f20)), (h_mny, .inl (cy_mny, 32, .inl f21)), (h_isn, .inl (cy_isn, 192, .inl f22)), (h_tem, .inl (cy_tem, 192, .inl f23)), (h_mm, .inr (8, (mo134 v_mm (.int 0) (.ref h_nv) (.ref h_nn) (.ref h_na) (.ref h_nb) (.ref h_nc) (.int x24) (.int x_mm_clauses) (.ref h_mny) (.ref h_vrs) (.ref h_let) (.ref h_isn) (.ref h_tem) (.ref h_tap) (.int 0) (.int x25) (.int x26) (.int x27) (.int x28) (.long x29) (.int x30) (.int x31) (.int x32) (.int 0) (.int x33) (.int x_mm_isProof) (.int x_mm_answers)))), (h_tap, .inl (cy_tap, 600, .inl f_tap))] := hD9
        have hS := hS9
        clear hP9 hD9 hS9
        refine lv_aload_n hx hb dX11_clauses_71 rfl (lv_at hl 0 rfl) ?_
        refine va_get (D := (dC, dI)) (ci := 8) (v := .int x30) (C := RX11) (T := TX11) (N := 71) hx hb hw iwX11 hown hK hP 10 rfl rfl 20 (by decide) (hw _ w_f_X11_61) (fun _ h9 => h9) rfl dX11_clauses_72 ?_
        refine lv_if_eq (tgt := 85) hx hb dX11_clauses_75 (by decide) (fun c38 => False.elim (by have kc38 := (cv_eq (rfl : (x30).toInt = (x30).toInt) (by decide : (0 : Int32).toInt = 0)).mp c38; omega)) (fun _ => ?_)
        refine lv_aload_n hx hb dX11_clauses_78 rfl (lv_at hl 0 rfl) ?_
        refine lv_iload_n hx hb dX11_clauses_79 rfl (lv_at hl 1 rfl) ?_
        refine va_put (D := (dC, dI)) (ci := 8) (v := .int x_mm_nodes) (ty := tyX11 6) (C := RX11) (T := TX11) (N := 71) hx hb hw iwX11 tyX11 tyX11_ok nmX11 hown hK hP hD hS 10 rfl rfl 6 (by decide) (hw _ w_f_X11_20) (fun _ h9 => h9) rfl (tyX11_ok 6 (by decide)) rfl rfl (Nat.le_of_ble_eq_true rfl) dX11_clauses_80 (fun H locs hP9 hD9 hS9 => ?_)
        clear hP hD hS
        have hP : va_P (dC, dI) cls [(h_nv, .inl (cy_nv, 8000, .inl f14)), (h_nn, .inl (cy_nn, 8000, .inr (.inl f15))), (h_na, .inl (cy_na, 8000, .inl f16)), (h_nb, .inl (cy_nb, 8000, .inl f17)), (h_nc, .inl (cy_nc, 8000, .inl f18)), (h_vrs, .inl (cy_vrs, 32, .inl f19)), (h_let, .inl (cy_let, 256, .inl f20)), (h_mny, .inl (cy_mny, 32, .inl f21)), (h_isn, .inl (cy_isn, 192, .inl f22)), (h_tem, .inl (cy_tem, 192, .inl f23)), (h_mm, .inr (8, (mo134 v_mm (.int 0) (.ref h_nv) (.ref h_nn) (.ref h_na) (.ref h_nb) (.ref h_nc) (.int x_mm_nodes) (.int x_mm_clauses) (.ref h_mny) (.ref h_vrs) (.ref h_let) (.ref h_isn) (.ref h_tem) (.ref h_tap) (.int 0) (.int x25) (.int x26) (.int x27) (.int x28) (.long x29) (.int x30) (.int x31) (.int x32) (.int 0) (.int x33) (.int x_mm_isProof) (.int x_mm_answers)))), (h_tap, .inl (cy_tap, 600, .inl f_tap))] H := hP9
        have hD : va_D A [(h_nv, .inl (cy_nv, 8000, .inl f14)), (h_nn, .inl (cy_nn, 8000, .inr (.inl f15))), (h_na, .inl (cy_na, 8000, .inl f16)), (h_nb, .inl (cy_nb, 8000, .inl f17)), (h_nc, .inl (cy_nc, 8000, .inl f18)), (h_vrs, .inl (cy_vrs, 32, .inl f19)), (h_let, .inl (cy_let, 256, .inl f20)), (h_mny, .inl (cy_mny, 32, .inl f21)), (h_isn, .inl (cy_isn, 192, .inl f22)), (h_tem, .inl (cy_tem, 192, .inl f23)), (h_mm, .inr (8, (mo134 v_mm (.int 0) (.ref h_nv) (.ref h_nn) (.ref h_na) (.ref h_nb) (.ref h_nc) (.int x_mm_nodes) (.int x_mm_clauses) (.ref h_mny) (.ref h_vrs) (.ref h_let) (.ref h_isn) (.ref h_tem) (.ref h_tap) (.int 0) (.int x25) (.int x26) (.int x27) (.int x28) (.long x29) (.int x30) (.int x31) (.int x32) (.int 0) (.int x33) (.int x_mm_isProof) (.int x_mm_answers)))), (h_tap, .inl (cy_tap, 600, .inl f_tap))] := hD9
        have hS := hS9
        clear hP9 hD9 hS9
        have nd39 : ND 0 (x_mm_nodes).toInt hz f16 f17 f18 := nd_eq0 hn_nds klp35_17
        refine lv_iconst (v := (-1)) hx hb dX11_clauses_83 (by decide) ?_
        replace hP : va_P (dC, dI) cls [(h_mm, .inr (8, (mo134 v_mm (.int 0) (.ref h_nv) (.ref h_nn) (.ref h_na) (.ref h_nb) (.ref h_nc) (.int x_mm_nodes) (.int x_mm_clauses) (.ref h_mny) (.ref h_vrs) (.ref h_let) (.ref h_isn) (.ref h_tem) (.ref h_tap) (.int 0) (.int x25) (.int x26) (.int x27) (.int x28) (.long x29) (.int x30) (.int x31) (.int x32) (.int 0) (.int x33) (.int x_mm_isProof) (.int x_mm_answers)))), (h_tap, .inl (cy_tap, 600, .inl f_tap)), (h_nv, .inl (cy_nv, 8000, .inl f14)), (h_nn, .inl (cy_nn, 8000, .inr (.inl f15))), (h_na, .inl (cy_na, 8000, .inl f16)), (h_nb, .inl (cy_nb, 8000, .inl f17)), (h_nc, .inl (cy_nc, 8000, .inl f18)), (h_vrs, .inl (cy_vrs, 32, .inl f19)), (h_let, .inl (cy_let, 256, .inl f20)), (h_mny, .inl (cy_mny, 32, .inl f21)), (h_isn, .inl (cy_isn, 192, .inl f22)), (h_tem, .inl (cy_tem, 192, .inl f23))] H := hP.sub [10, 11, 0, 1, 2, 3, 4, 5, 6, 7, 8, 9] rfl
        replace hD : va_D A [(h_mm, .inr (8, (mo134 v_mm (.int 0) (.ref h_nv) (.ref h_nn) (.ref h_na) (.ref h_nb) (.ref h_nc) (.int x_mm_nodes) (.int x_mm_clauses) (.ref h_mny) (.ref h_vrs) (.ref h_let) (.ref h_isn) (.ref h_tem) (.ref h_tap) (.int 0) (.int x25) (.int x26) (.int x27) (.int x28) (.long x29) (.int x30) (.int x31) (.int x32) (.int 0) (.int x33) (.int x_mm_isProof) (.int x_mm_answers)))), (h_tap, .inl (cy_tap, 600, .inl f_tap)), (h_nv, .inl (cy_nv, 8000, .inl f14)), (h_nn, .inl (cy_nn, 8000, .inr (.inl f15))), (h_na, .inl (cy_na, 8000, .inl f16)), (h_nb, .inl (cy_nb, 8000, .inl f17)), (h_nc, .inl (cy_nc, 8000, .inl f18)), (h_vrs, .inl (cy_vrs, 32, .inl f19)), (h_let, .inl (cy_let, 256, .inl f20)), (h_mny, .inl (cy_mny, 32, .inl f21)), (h_isn, .inl (cy_isn, 192, .inl f22)), (h_tem, .inl (cy_tem, 192, .inl f23))] := hD.sub [10, 11, 0, 1, 2, 3, 4, 5, 6, 7, 8, 9] (by decide) rfl
        refine W.widen (k := 0) (n := 0) (Nat.le_of_ble_eq_true rfl) (Nat.le_of_ble_eq_true rfl) ?_
        have cstm1 : ((-1) : Int32).toInt = -1 := by decide
        have cst0 : (0 : Int32).toInt = 0 := by decide
        have w40 : 0 ≤ ((x_mm_nodes)).toInt ∧ ((x_mm_nodes)).toInt ≤ 1200 := by first | exact hx_mm_nodes | omega
        have w41 : 0 ≤ ((x_mm_clauses)).toInt ∧ ((x_mm_clauses)).toInt ≤ 16 := by first | exact hx_mm_clauses | omega
        have w42 : 0 ≤ ((0 : Int32)).toInt ∧ ((0 : Int32)).toInt ≤ 600 := by omega
        have w43 : 0 ≤ ((x25)).toInt ∧ ((x25)).toInt ≤ 600 := by first | exact klp35_8 | omega
        have w44 : 0 ≤ ((x26)).toInt ∧ ((x26)).toInt ≤ 600 := by first | exact klp35_9 | omega
        have w45 : 0 ≤ ((x27)).toInt ∧ ((x27)).toInt ≤ 4 := by first | exact klp35_10 | omega
        have w46 : 0 ≤ ((x30)).toInt ∧ ((x30)).toInt ≤ 1 := by first | exact klp35_11 | omega
        have w47 : 16 ≤ ((x33)).toInt ∧ ((x33)).toInt ≤ 32 := by first | exact klp35_12 | omega
        have w48 : 0 ≤ ((x_mm_isProof)).toInt ∧ ((x_mm_isProof)).toInt ≤ 1 := by first | exact hx_mm_isProof | omega
        have w49 : 0 ≤ ((x_mm_answers)).toInt ∧ ((x_mm_answers)).toInt ≤ 8 := by first | exact hx_mm_answers | omega
        have w50 : ((x_mm_nodes)).toInt ≤ 600 := by first | exact q0 | omega
        have w51 : ND 0 ((x_mm_nodes)).toInt (hz) (f16) (f17) (f18) := nd39
        have w52 : TM 0 ((x_mm_nodes)).toInt (hz) 0 ((x_mm_clauses)).toInt (f21) (f23) := klp35_20
        have w53 : (((x_mm_isProof)).toInt = 0) ∨ (EQ0 (x_mm_nodes).toInt f_na f_nb f_nc f_nv (f16) (f17) (f18) (f14) ∧ (x_mm_nodes) = x_mm_nodes ∧ (hz) = hz ∧ (x_mm_isProof) = x_mm_isProof ∧ (x_mm_clauses) = x_mm_clauses) := (Or.inr ⟨klp35_17, rfl, rfl, rfl, rfl⟩)
        exact W.iret (v := (-1)) hx hb hr (fun t ht hW => ⟨⟨(-1), (0, x_mm_nodes, x_mm_clauses, 0, x25, x26, x27, x28, x29, x30, x31, x32, 0, x33, x_mm_isProof, x_mm_answers, f14, f15, f16, f17, f18, f19, f20, f21, f22, f23, hz), rfl, ⟨w40, w41, w42, w43, w44, w45, w46, w47, w48, w49, hf14, hf16, hf17, hf18, hf19, hf21, hf23, w50, w51, w52, w53⟩, by rw [ht]; exact hP, hD⟩, hS.F ht⟩) hS.2.2 dX11_clauses_84
      · have kc37 := (cv_eq (rfl : (x30).toInt = (x30).toInt) (by decide : (0 : Int32).toInt = 0)).mp c37
        refine lv_aload_n hx hb dX11_clauses_52 rfl (lv_at hl 0 rfl) ?_
        refine va_get (D := (dC, dI)) (ci := 8) (v := .int x27) (C := RX11) (T := TX11) (N := 71) hx hb hw iwX11 hown hK hP 10 rfl rfl 17 (by decide) (hw _ w_f_X11_87) (fun _ h9 => h9) rfl dX11_clauses_53 ?_
        refine lv_if_eq (tgt := 66) hx hb dX11_clauses_56 (by decide) (fun c54 => ?_) (fun c54 => ?_)
        · have kc54 := (cv_eq (rfl : (x27).toInt = (x27).toInt) (by decide : (0 : Int32).toInt = 0)).mp c54
          refine lv_aload_n hx hb dX11_clauses_66 rfl (lv_at hl 0 rfl) ?_
          refine lv_iconst (v := 0) hx hb dX11_clauses_67 (by decide) ?_
          refine va_put (D := (dC, dI)) (ci := 8) (v := .int 0) (ty := tyX11 14) (C := RX11) (T := TX11) (N := 71) hx hb hw iwX11 tyX11 tyX11_ok nmX11 hown hK hP hD hS 10 rfl rfl 14 (by decide) (hw _ w_f_X11_38) (fun _ h9 => h9) rfl (tyX11_ok 14 (by decide)) rfl rfl (Nat.le_of_ble_eq_true rfl) dX11_clauses_68 (fun H locs hP9 hD9 hS9 => ?_)
          clear hP hD hS
          have hP : va_P (dC, dI) cls [(h_nv, .inl (cy_nv, 8000, .inl f14)), (h_nn, .inl (cy_nn, 8000, .inr (.inl f15))), (h_na, .inl (cy_na, 8000, .inl f16)), (h_nb, .inl (cy_nb, 8000, .inl f17)), (h_nc, .inl (cy_nc, 8000, .inl f18)), (h_vrs, .inl (cy_vrs, 32, .inl f19)), (h_let, .inl (cy_let, 256, .inl f20)), (h_mny, .inl (cy_mny, 32, .inl f21)), (h_isn, .inl (cy_isn, 192, .inl f22)), (h_tem, .inl (cy_tem, 192, .inl f23)), (h_mm, .inr (8, (mo134 v_mm (.int 0) (.ref h_nv) (.ref h_nn) (.ref h_na) (.ref h_nb) (.ref h_nc) (.int x24) (.int x_mm_clauses) (.ref h_mny) (.ref h_vrs) (.ref h_let) (.ref h_isn) (.ref h_tem) (.ref h_tap) (.int 0) (.int x25) (.int x26) (.int x27) (.int x28) (.long x29) (.int x30) (.int x31) (.int x32) (.int 0) (.int x33) (.int x_mm_isProof) (.int x_mm_answers)))), (h_tap, .inl (cy_tap, 600, .inl f_tap))] H := hP9
          have hD : va_D A [(h_nv, .inl (cy_nv, 8000, .inl f14)), (h_nn, .inl (cy_nn, 8000, .inr (.inl f15))), (h_na, .inl (cy_na, 8000, .inl f16)), (h_nb, .inl (cy_nb, 8000, .inl f17)), (h_nc, .inl (cy_nc, 8000, .inl f18)), (h_vrs, .inl (cy_vrs, 32, .inl f19)), (h_let, .inl (cy_let, 256, .inl f20)), (h_mny, .inl (cy_mny, 32, .inl f21)), (h_isn, .inl (cy_isn, 192, .inl f22)), (h_tem, .inl (cy_tem, 192, .inl f23)), (h_mm, .inr (8, (mo134 v_mm (.int 0) (.ref h_nv) (.ref h_nn) (.ref h_na) (.ref h_nb) (.ref h_nc) (.int x24) (.int x_mm_clauses) (.ref h_mny) (.ref h_vrs) (.ref h_let) (.ref h_isn) (.ref h_tem) (.ref h_tap) (.int 0) (.int x25) (.int x26) (.int x27) (.int x28) (.long x29) (.int x30) (.int x31) (.int x32) (.int 0) (.int x33) (.int x_mm_isProof) (.int x_mm_answers)))), (h_tap, .inl (cy_tap, 600, .inl f_tap))] := hD9
          have hS := hS9
          clear hP9 hD9 hS9
          refine lv_aload_n hx hb dX11_clauses_71 rfl (lv_at hl 0 rfl) ?_
          refine va_get (D := (dC, dI)) (ci := 8) (v := .int x30) (C := RX11) (T := TX11) (N := 71) hx hb hw iwX11 hown hK hP 10 rfl rfl 20 (by decide) (hw _ w_f_X11_61) (fun _ h9 => h9) rfl dX11_clauses_72 ?_
          refine lv_if_eq (tgt := 85) hx hb dX11_clauses_75 (by decide) (fun _ => ?_) (fun c55 => False.elim (by have kc55 := (not_congr (cv_eq (rfl : (x30).toInt = (x30).toInt) (by decide : (0 : Int32).toInt = 0))).mp c55; omega))
          refine lv_aload_n hx hb dX11_clauses_85 rfl (lv_at hl 0 rfl) ?_
          refine lv_iload_n hx hb dX11_clauses_86 rfl (lv_at hl 1 rfl) ?_
          obtain ⟨vq56, evq56⟩ := mq134_127 v_mm (.int 0) (.int x_mm_clauses) (.ref h_vrs) (.ref h_let) (.ref h_isn) (.ref h_tap) (.int 0) (.int x25) (.int x26) (.int x27) (.int x28) (.long x29) (.int x30) (.int x31) (.int x32) (.int 0) (.int x_mm_isProof) (.int x_mm_answers)
          replace hP : va_P (dC, dI) cls [(h_nv, .inl (cy_nv, 8000, .inl f14)), (h_nn, .inl (cy_nn, 8000, .inr (.inl f15))), (h_na, .inl (cy_na, 8000, .inl f16)), (h_nb, .inl (cy_nb, 8000, .inl f17)), (h_nc, .inl (cy_nc, 8000, .inl f18)), (h_vrs, .inl (cy_vrs, 32, .inl f19)), (h_let, .inl (cy_let, 256, .inl f20)), (h_mny, .inl (cy_mny, 32, .inl f21)), (h_isn, .inl (cy_isn, 192, .inl f22)), (h_tem, .inl (cy_tem, 192, .inl f23)), (h_mm, .inr (8, (mo127 vq56 (.ref h_nv) (.ref h_nn) (.ref h_na) (.ref h_nb) (.ref h_nc) (.int x24) (.ref h_mny) (.ref h_tem) (.int x33)))), (h_tap, .inl (cy_tap, 600, .inl f_tap))] H := by rw [evq56]; exact hP
          replace hD : va_D A [(h_nv, .inl (cy_nv, 8000, .inl f14)), (h_nn, .inl (cy_nn, 8000, .inr (.inl f15))), (h_na, .inl (cy_na, 8000, .inl f16)), (h_nb, .inl (cy_nb, 8000, .inl f17)), (h_nc, .inl (cy_nc, 8000, .inl f18)), (h_vrs, .inl (cy_vrs, 32, .inl f19)), (h_let, .inl (cy_let, 256, .inl f20)), (h_mny, .inl (cy_mny, 32, .inl f21)), (h_isn, .inl (cy_isn, 192, .inl f22)), (h_tem, .inl (cy_tem, 192, .inl f23)), (h_mm, .inr (8, (mo127 vq56 (.ref h_nv) (.ref h_nn) (.ref h_na) (.ref h_nb) (.ref h_nc) (.int x24) (.ref h_mny) (.ref h_tem) (.int x33)))), (h_tap, .inl (cy_tap, 600, .inl f_tap))] := by rw [evq56]; exact hD
          have hPc := hP.sub (ws' := [(h_mm, .inr (8, (mo127 vq56 (.ref h_nv) (.ref h_nn) (.ref h_na) (.ref h_nb) (.ref h_nc) (.int x24) (.ref h_mny) (.ref h_tem) (.int x33)))), (h_nv, .inl (cy_nv, 8000, .inl f14)), (h_nn, .inl (cy_nn, 8000, .inr (.inl f15))), (h_na, .inl (cy_na, 8000, .inl f16)), (h_nb, .inl (cy_nb, 8000, .inl f17)), (h_nc, .inl (cy_nc, 8000, .inl f18)), (h_mny, .inl (cy_mny, 32, .inl f21)), (h_tem, .inl (cy_tem, 192, .inl f23))]) [10, 0, 1, 2, 3, 4, 7, 9] rfl
          have hDc := hD.sub (ws' := [(h_mm, .inr (8, (mo127 vq56 (.ref h_nv) (.ref h_nn) (.ref h_na) (.ref h_nb) (.ref h_nc) (.int x24) (.ref h_mny) (.ref h_tem) (.int x33)))), (h_nv, .inl (cy_nv, 8000, .inl f14)), (h_nn, .inl (cy_nn, 8000, .inr (.inl f15))), (h_na, .inl (cy_na, 8000, .inl f16)), (h_nb, .inl (cy_nb, 8000, .inl f17)), (h_nc, .inl (cy_nc, 8000, .inl f18)), (h_mny, .inl (cy_mny, 32, .inl f21)), (h_tem, .inl (cy_tem, 192, .inl f23))]) [10, 0, 1, 2, 3, 4, 7, 9] (by decide) rfl
          have hKc := hK.sub (tys' := [(cy_nv, .int), (cy_nn, .long), (cy_na, .int), (cy_nb, .int), (cy_nc, .int), (cy_mny, .int), (cy_tem, .int)]) [1, 2, 3, 4, 5, 8, 10] rfl
          have hFc := va_free (wc := [(h_mm, .inr (8, (mo127 vq56 (.ref h_nv) (.ref h_nn) (.ref h_na) (.ref h_nb) (.ref h_nc) (.int x24) (.ref h_mny) (.ref h_tem) (.int x33)))), (h_nv, .inl (cy_nv, 8000, .inl f14)), (h_nn, .inl (cy_nn, 8000, .inr (.inl f15))), (h_na, .inl (cy_na, 8000, .inl f16)), (h_nb, .inl (cy_nb, 8000, .inl f17)), (h_nc, .inl (cy_nc, 8000, .inl f18)), (h_mny, .inl (cy_mny, 32, .inl f21)), (h_tem, .inl (cy_tem, 192, .inl f23))]) hD hS hA [10, 0, 1, 2, 3, 4, 7, 9] rfl
          refine va_callv (va_runV (As := [.int x_mm_nodes]) (rest := []) ⟨hx, hb, hml, hown, hts⟩ (c_X11_movesNodes l dC dI H.size h_mm h_nv h_nn h_na h_nb h_nc h_mny h_tem vq56 x24 x33 cy_nv f14 cy_nn f15 cy_na f16 cy_nb f17 cy_nc f18 cy_mny f21 cy_tem f23 x_mm_nodes gh34 (by first | exact klp35_7 | omega) (by first | exact klp35_12 | omega) hf14 hf16 hf17 hf18 hf21 hf23 (by omega) (by first | exact klp35_16 | omega) (by omega) (nd_cast klp35_18 (by omega)) (tm_mono2 klp35_19 (by omega) (by omega) (by omega) (fun y hy => rfl))) (cwV 1 hts (gv hT w_m_X11_161 w_instanceMethod_X11_movesNodes ws_sel_X11_movesNodes w_ini_X11 w_code_X11_movesNodes) rfl rfl rfl (by decide +kernel) ⟨(Nat.le_of_ble_eq_true rfl), (Nat.le_of_ble_eq_true rfl)⟩) ⟨pre_blind, va_recv hK hP (ci := 8) (q0 := 10) rfl rfl, pre_of hPc hKc hDc hN⟩ rfl rfl hl.1 rfl (lv_room (Nat.le_of_ble_eq_true rfl)) dX11_clauses_87 ⟨(Nat.le_of_ble_eq_true rfl), (Nat.le_of_ble_eq_true rfl)⟩) hS (fun q _ h => hFc q h) hFc (fun u t H locs ht hvm hq hB hz1 hk1 hS9 => ?_)
          obtain ⟨z58, f59, f60, f61, f62, f63, f64⟩ := u
          obtain ⟨hP1, hD1⟩ := hB
          rw [ht] at hP1
          obtain ⟨hP9, hD9⟩ := va_join (wr := [(h_vrs, .inl (cy_vrs, 32, .inl f19)), (h_let, .inl (cy_let, 256, .inl f20)), (h_isn, .inl (cy_isn, 192, .inl f22)), (h_tap, .inl (cy_tap, 600, .inl f_tap))]) (w1 := [(h_mm, .inr (8, (mo127 vq56 (.ref h_nv) (.ref h_nn) (.ref h_na) (.ref h_nb) (.ref h_nc) (.int z58) (.ref h_mny) (.ref h_tem) (.int x33)))), (h_nv, .inl (cy_nv, 8000, .inl f59)), (h_nn, .inl (cy_nn, 8000, .inr (.inl f60))), (h_na, .inl (cy_na, 8000, .inl f61)), (h_nb, .inl (cy_nb, 8000, .inl f62)), (h_nc, .inl (cy_nc, 8000, .inl f63)), (h_mny, .inl (cy_mny, 32, .inl f21)), (h_tem, .inl (cy_tem, 192, .inl f64))]) hP hD [10, 0, 1, 2, 3, 4, 7, 9] [5, 6, 8, 11] rfl rfl (by decide) (by decide) hk1 hFc hP1 hD1
          clear hP hD hS hPc hDc hKc hFc hP1 hD1 hk1 hz1 ht hvm
          have hP : va_P (dC, dI) cls [(h_vrs, .inl (cy_vrs, 32, .inl f19)), (h_let, .inl (cy_let, 256, .inl f20)), (h_isn, .inl (cy_isn, 192, .inl f22)), (h_tap, .inl (cy_tap, 600, .inl f_tap)), (h_mm, .inr (8, (mo127 vq56 (.ref h_nv) (.ref h_nn) (.ref h_na) (.ref h_nb) (.ref h_nc) (.int z58) (.ref h_mny) (.ref h_tem) (.int x33)))), (h_nv, .inl (cy_nv, 8000, .inl f59)), (h_nn, .inl (cy_nn, 8000, .inr (.inl f60))), (h_na, .inl (cy_na, 8000, .inl f61)), (h_nb, .inl (cy_nb, 8000, .inl f62)), (h_nc, .inl (cy_nc, 8000, .inl f63)), (h_mny, .inl (cy_mny, 32, .inl f21)), (h_tem, .inl (cy_tem, 192, .inl f64))] H := hP9
          have hD : va_D A [(h_vrs, .inl (cy_vrs, 32, .inl f19)), (h_let, .inl (cy_let, 256, .inl f20)), (h_isn, .inl (cy_isn, 192, .inl f22)), (h_tap, .inl (cy_tap, 600, .inl f_tap)), (h_mm, .inr (8, (mo127 vq56 (.ref h_nv) (.ref h_nn) (.ref h_na) (.ref h_nb) (.ref h_nc) (.int z58) (.ref h_mny) (.ref h_tem) (.int x33)))), (h_nv, .inl (cy_nv, 8000, .inl f59)), (h_nn, .inl (cy_nn, 8000, .inr (.inl f60))), (h_na, .inl (cy_na, 8000, .inl f61)), (h_nb, .inl (cy_nb, 8000, .inl f62)), (h_nc, .inl (cy_nc, 8000, .inl f63)), (h_mny, .inl (cy_mny, 32, .inl f21)), (h_tem, .inl (cy_tem, 192, .inl f64))] := hD9
          have hS := hS9
          clear hP9 hD9 hS9
          rw [evq56] at hP hD
          replace hP : va_P (dC, dI) cls [(h_vrs, .inl (cy_vrs, 32, .inl f19)), (h_let, .inl (cy_let, 256, .inl f20)), (h_isn, .inl (cy_isn, 192, .inl f22)), (h_tap, .inl (cy_tap, 600, .inl f_tap)), (h_mm, .inr (8, (mo134 v_mm (.int 0) (.ref h_nv) (.ref h_nn) (.ref h_na) (.ref h_nb) (.ref h_nc) (.int z58) (.int x_mm_clauses) (.ref h_mny) (.ref h_vrs) (.ref h_let) (.ref h_isn) (.ref h_tem) (.ref h_tap) (.int 0) (.int x25) (.int x26) (.int x27) (.int x28) (.long x29) (.int x30) (.int x31) (.int x32) (.int 0) (.int x33) (.int x_mm_isProof) (.int x_mm_answers)))), (h_nv, .inl (cy_nv, 8000, .inl f59)), (h_nn, .inl (cy_nn, 8000, .inr (.inl f60))), (h_na, .inl (cy_na, 8000, .inl f61)), (h_nb, .inl (cy_nb, 8000, .inl f62)), (h_nc, .inl (cy_nc, 8000, .inl f63)), (h_mny, .inl (cy_mny, 32, .inl f21)), (h_tem, .inl (cy_tem, 192, .inl f64))] H := hP
          replace hD : va_D A [(h_vrs, .inl (cy_vrs, 32, .inl f19)), (h_let, .inl (cy_let, 256, .inl f20)), (h_isn, .inl (cy_isn, 192, .inl f22)), (h_tap, .inl (cy_tap, 600, .inl f_tap)), (h_mm, .inr (8, (mo134 v_mm (.int 0) (.ref h_nv) (.ref h_nn) (.ref h_na) (.ref h_nb) (.ref h_nc) (.int z58) (.int x_mm_clauses) (.ref h_mny) (.ref h_vrs) (.ref h_let) (.ref h_isn) (.ref h_tem) (.ref h_tap) (.int 0) (.int x25) (.int x26) (.int x27) (.int x28) (.long x29) (.int x30) (.int x31) (.int x32) (.int 0) (.int x33) (.int x_mm_isProof) (.int x_mm_answers)))), (h_nv, .inl (cy_nv, 8000, .inl f59)), (h_nn, .inl (cy_nn, 8000, .inr (.inl f60))), (h_na, .inl (cy_na, 8000, .inl f61)), (h_nb, .inl (cy_nb, 8000, .inl f62)), (h_nc, .inl (cy_nc, 8000, .inl f63)), (h_mny, .inl (cy_mny, 32, .inl f21)), (h_tem, .inl (cy_tem, 192, .inl f64))] := hD
          clear evq56 
          obtain ⟨k65, hf59, hf61, hf62, hf63, hf64, k66, k67, k68⟩ := hq
          have k65 : 0 ≤ ((z58)).toInt ∧ ((z58)).toInt ≤ 1200 := k65
          have hf59 : Rg (-1) 7 (f59) := hf59
          have hf61 : Rg (-1) 7999 (f61) := hf61
          have hf62 : Rg (-1) 7999 (f62) := hf62
          have hf63 : Rg (-1) 7999 (f63) := hf63
          have hf64 : Rg 0 7999 (f64) := hf64
          have k66 : ((z58)).toInt = ((x24)).toInt - ((x_mm_nodes)).toInt := k66
          have k67 : ND 0 ((z58)).toInt (hsh (gh34) ((x_mm_nodes)).toInt) (f61) (f62) (f63) := k67
          have k68 : TM 0 ((z58)).toInt (hsh (gh34) ((x_mm_nodes)).toInt) 16 ((x33)).toInt (f21) (f64) := k68
          refine lv_aload_n hx hb dX11_clauses_90 rfl (lv_at hl 0 rfl) ?_
          refine lv_aload_n hx hb dX11_clauses_91 rfl (lv_at hl 0 rfl) ?_
          refine va_get (D := (dC, dI)) (ci := 8) (v := .int x33) (C := RX11) (T := TX11) (N := 71) hx hb hw iwX11 hown hK hP 4 rfl rfl 24 (by decide) (hw _ w_f_X11_105) (fun _ h9 => h9) rfl dX11_clauses_92 ?_
          refine lv_bipush (v := 16) hx hb dX11_clauses_95 (by decide) ?_
          refine lv_isub hx hb dX11_clauses_97 ?_
          refine lv_topi (fun z69 ez69 => ?_)
          have tz69 : (z69).toInt = (x33).toInt - 16 := by rw [ez69]; exact i_sub rfl (by decide) (by omega)
          refine va_put (D := (dC, dI)) (ci := 8) (v := .int z69) (ty := tyX11 7) (C := RX11) (T := TX11) (N := 71) hx hb hw iwX11 tyX11 tyX11_ok nmX11 hown hK hP hD hS 4 rfl rfl 7 (by decide) (hw _ w_f_X11_164) (fun _ h9 => h9) rfl (tyX11_ok 7 (by decide)) rfl rfl (Nat.le_of_ble_eq_true rfl) dX11_clauses_98 (fun H locs hP9 hD9 hS9 => ?_)
          clear hP hD hS
          have hP : va_P (dC, dI) cls [(h_vrs, .inl (cy_vrs, 32, .inl f19)), (h_let, .inl (cy_let, 256, .inl f20)), (h_isn, .inl (cy_isn, 192, .inl f22)), (h_tap, .inl (cy_tap, 600, .inl f_tap)), (h_mm, .inr (8, (mo134 v_mm (.int 0) (.ref h_nv) (.ref h_nn) (.ref h_na) (.ref h_nb) (.ref h_nc) (.int z58) (.int z69) (.ref h_mny) (.ref h_vrs) (.ref h_let) (.ref h_isn) (.ref h_tem) (.ref h_tap) (.int 0) (.int x25) (.int x26) (.int x27) (.int x28) (.long x29) (.int x30) (.int x31) (.int x32) (.int 0) (.int x33) (.int x_mm_isProof) (.int x_mm_answers)))), (h_nv, .inl (cy_nv, 8000, .inl f59)), (h_nn, .inl (cy_nn, 8000, .inr (.inl f60))), (h_na, .inl (cy_na, 8000, .inl f61)), (h_nb, .inl (cy_nb, 8000, .inl f62)), (h_nc, .inl (cy_nc, 8000, .inl f63)), (h_mny, .inl (cy_mny, 32, .inl f21)), (h_tem, .inl (cy_tem, 192, .inl f64))] H := hP9
          have hD : va_D A [(h_vrs, .inl (cy_vrs, 32, .inl f19)), (h_let, .inl (cy_let, 256, .inl f20)), (h_isn, .inl (cy_isn, 192, .inl f22)), (h_tap, .inl (cy_tap, 600, .inl f_tap)), (h_mm, .inr (8, (mo134 v_mm (.int 0) (.ref h_nv) (.ref h_nn) (.ref h_na) (.ref h_nb) (.ref h_nc) (.int z58) (.int z69) (.ref h_mny) (.ref h_vrs) (.ref h_let) (.ref h_isn) (.ref h_tem) (.ref h_tap) (.int 0) (.int x25) (.int x26) (.int x27) (.int x28) (.long x29) (.int x30) (.int x31) (.int x32) (.int 0) (.int x33) (.int x_mm_isProof) (.int x_mm_answers)))), (h_nv, .inl (cy_nv, 8000, .inl f59)), (h_nn, .inl (cy_nn, 8000, .inr (.inl f60))), (h_na, .inl (cy_na, 8000, .inl f61)), (h_nb, .inl (cy_nb, 8000, .inl f62)), (h_nc, .inl (cy_nc, 8000, .inl f63)), (h_mny, .inl (cy_mny, 32, .inl f21)), (h_tem, .inl (cy_tem, 192, .inl f64))] := hD9
          have hS := hS9
          clear hP9 hD9 hS9
          refine lv_iconst (v := 0) hx hb dX11_clauses_101 (by decide) ?_
          have tm70 : TM 0 (z58).toInt (hsh gh34 (x_mm_nodes).toInt) 0 0 f21 f64 := tm_empty (by omega)
          refine lv_istore_n (lv' := [(2, .int 0), (0, .ref h_mm), (1, .int x_mm_nodes)]) hx hb dX11_clauses_102 rfl hl (by decide) rfl (fun ls hl => ?_)
          have lp77 : ∀ (n : Nat) (x71 : Int32) (f72 : Nat → Int32) (f73 : Nat → Int32) (f74 : Nat → Int32) (f75 : Nat → Int32) (f76 : Nat → Int32) (H : Heap) (locs : List Loc) (ls : Array Slot), (0 ≤ (x71).toInt ∧ (x71).toInt ≤ 16) → (Rg 0 8 f72) → (Rg 0 6 f75) → (Rg 0 7999 f76) → ((x71).toInt ≤ (z69).toInt) → ((z69).toInt = (x33).toInt - 16) → (TM 0 (z58).toInt (hsh gh34 (x_mm_nodes).toInt) 0 (x71).toInt f75 f76) → (TM 0 (z58).toInt (hsh gh34 (x_mm_nodes).toInt) 16 (x33).toInt f75 f76) → (16 - (x71).toInt).toNat + 1 ≤ n → va_P (dC, dI) cls [(h_vrs, .inl (cy_vrs, 32, .inl f72)), (h_let, .inl (cy_let, 256, .inl f73)), (h_isn, .inl (cy_isn, 192, .inl f74)), (h_tap, .inl (cy_tap, 600, .inl f_tap)), (h_mm, .inr (8, (mo134 v_mm (.int 0) (.ref h_nv) (.ref h_nn) (.ref h_na) (.ref h_nb) (.ref h_nc) (.int z58) (.int z69) (.ref h_mny) (.ref h_vrs) (.ref h_let) (.ref h_isn) (.ref h_tem) (.ref h_tap) (.int 0) (.int x25) (.int x26) (.int x27) (.int x28) (.long x29) (.int x30) (.int x31) (.int x32) (.int 0) (.int x33) (.int x_mm_isProof) (.int x_mm_answers)))), (h_nv, .inl (cy_nv, 8000, .inl f59)), (h_nn, .inl (cy_nn, 8000, .inr (.inl f60))), (h_na, .inl (cy_na, 8000, .inl f61)), (h_nb, .inl (cy_nb, 8000, .inl f62)), (h_nc, .inl (cy_nc, 8000, .inl f63)), (h_mny, .inl (cy_mny, 32, .inl f75)), (h_tem, .inl (cy_tem, 192, .inl f76))] H → va_D A [(h_vrs, .inl (cy_vrs, 32, .inl f72)), (h_let, .inl (cy_let, 256, .inl f73)), (h_isn, .inl (cy_isn, 192, .inl f74)), (h_tap, .inl (cy_tap, 600, .inl f_tap)), (h_mm, .inr (8, (mo134 v_mm (.int 0) (.ref h_nv) (.ref h_nn) (.ref h_na) (.ref h_nb) (.ref h_nc) (.int z58) (.int z69) (.ref h_mny) (.ref h_vrs) (.ref h_let) (.ref h_isn) (.ref h_tem) (.ref h_tap) (.int 0) (.int x25) (.int x26) (.int x27) (.int x28) (.long x29) (.int x30) (.int x31) (.int x32) (.int 0) (.int x33) (.int x_mm_isProof) (.int x_mm_answers)))), (h_nv, .inl (cy_nv, 8000, .inl f59)), (h_nn, .inl (cy_nn, 8000, .inr (.inl f60))), (h_na, .inl (cy_na, 8000, .inl f61)), (h_nb, .inl (cy_nb, 8000, .inl f62)), (h_nc, .inl (cy_nc, 8000, .inl f63)), (h_mny, .inl (cy_mny, 32, .inl f75)), (h_tem, .inl (cy_tem, 192, .inl f76))] → va_S A s.heap H locs → lv_has ls 3 [(0, .ref h_mm), (1, .int x_mm_nodes), (2, .int x71)] → W p l e ({ frames := 18, cells := 0, slots := 0, locals := 384 } : Room) s m ([.ref h_mm] : List Value).toArray below meth c H locs 0 0 (MQ below (va_Qi (fun (r : Int32) (u : (Int32) × (Int32) × (Int32) × (Int32) × (Int32) × (Int32) × (Int32) × (Int32) × (Int64) × (Int32) × (Int32) × (Int32) × (Int32) × (Int32) × (Int32) × (Int32) × (Nat → Int32) × (Nat → Int64) × (Nat → Int32) × (Nat → Int32) × (Nat → Int32) × (Nat → Int32) × (Nat → Int32) × (Nat → Int32) × (Nat → Int32) × (Nat → Int32) × (Nat → Nat)) => (0 ≤ (u.2.1).toInt ∧ (u.2.1).toInt ≤ 1200) ∧ (0 ≤ (u.2.2.1).toInt ∧ (u.2.2.1).toInt ≤ 16) ∧ (0 ≤ (u.2.2.2.1).toInt ∧ (u.2.2.2.1).toInt ≤ 600) ∧ (0 ≤ (u.2.2.2.2.1).toInt ∧ (u.2.2.2.2.1).toInt ≤ 600) ∧ (0 ≤ (u.2.2.2.2.2.1).toInt ∧ (u.2.2.2.2.2.1).toInt ≤ 600) ∧ (0 ≤ (u.2.2.2.2.2.2.1).toInt ∧ (u.2.2.2.2.2.2.1).toInt ≤ 4) ∧ (0 ≤ (u.2.2.2.2.2.2.2.2.2.1).toInt ∧ (u.2.2.2.2.2.2.2.2.2.1).toInt ≤ 1) ∧ (16 ≤ (u.2.2.2.2.2.2.2.2.2.2.2.2.2.1).toInt ∧ (u.2.2.2.2.2.2.2.2.2.2.2.2.2.1).toInt ≤ 32) ∧ (0 ≤ (u.2.2.2.2.2.2.2.2.2.2.2.2.2.2.1).toInt ∧ (u.2.2.2.2.2.2.2.2.2.2.2.2.2.2.1).toInt ≤ 1) ∧ (0 ≤ (u.2.2.2.2.2.2.2.2.2.2.2.2.2.2.2.1).toInt ∧ (u.2.2.2.2.2.2.2.2.2.2.2.2.2.2.2.1).toInt ≤ 8) ∧ (Rg (-1) 7 u.2.2.2.2.2.2.2.2.2.2.2.2.2.2.2.2.1) ∧ (Rg (-1) 7999 u.2.2.2.2.2.2.2.2.2.2.2.2.2.2.2.2.2.2.1) ∧ (Rg (-1) 7999 u.2.2.2.2.2.2.2.2.2.2.2.2.2.2.2.2.2.2.2.1) ∧ (Rg (-1) 7999 u.2.2.2.2.2.2.2.2.2.2.2.2.2.2.2.2.2.2.2.2.1) ∧ (Rg 0 8 u.2.2.2.2.2.2.2.2.2.2.2.2.2.2.2.2.2.2.2.2.2.1) ∧ (Rg 0 6 u.2.2.2.2.2.2.2.2.2.2.2.2.2.2.2.2.2.2.2.2.2.2.2.1) ∧ (Rg 0 7999 u.2.2.2.2.2.2.2.2.2.2.2.2.2.2.2.2.2.2.2.2.2.2.2.2.2.1) ∧ ((u.2.1).toInt ≤ 600) ∧ (ND 0 (u.2.1).toInt u.2.2.2.2.2.2.2.2.2.2.2.2.2.2.2.2.2.2.2.2.2.2.2.2.2.2 u.2.2.2.2.2.2.2.2.2.2.2.2.2.2.2.2.2.2.1 u.2.2.2.2.2.2.2.2.2.2.2.2.2.2.2.2.2.2.2.1 u.2.2.2.2.2.2.2.2.2.2.2.2.2.2.2.2.2.2.2.2.1) ∧ (TM 0 (u.2.1).toInt u.2.2.2.2.2.2.2.2.2.2.2.2.2.2.2.2.2.2.2.2.2.2.2.2.2.2 0 (u.2.2.1).toInt u.2.2.2.2.2.2.2.2.2.2.2.2.2.2.2.2.2.2.2.2.2.2.2.1 u.2.2.2.2.2.2.2.2.2.2.2.2.2.2.2.2.2.2.2.2.2.2.2.2.2.1) ∧ (((u.2.2.2.2.2.2.2.2.2.2.2.2.2.2.1).toInt = 0) ∨ (EQ0 (x_mm_nodes).toInt f_na f_nb f_nc f_nv u.2.2.2.2.2.2.2.2.2.2.2.2.2.2.2.2.2.2.1 u.2.2.2.2.2.2.2.2.2.2.2.2.2.2.2.2.2.2.2.1 u.2.2.2.2.2.2.2.2.2.2.2.2.2.2.2.2.2.2.2.2.1 u.2.2.2.2.2.2.2.2.2.2.2.2.2.2.2.2.1 ∧ u.2.1 = x_mm_nodes ∧ u.2.2.2.2.2.2.2.2.2.2.2.2.2.2.2.2.2.2.2.2.2.2.2.2.2.2 = hz ∧ u.2.2.2.2.2.2.2.2.2.2.2.2.2.2.1 = x_mm_isProof ∧ u.2.2.1 = x_mm_clauses))) (fun (u : (Int32) × (Int32) × (Int32) × (Int32) × (Int32) × (Int32) × (Int32) × (Int32) × (Int64) × (Int32) × (Int32) × (Int32) × (Int32) × (Int32) × (Int32) × (Int32) × (Nat → Int32) × (Nat → Int64) × (Nat → Int32) × (Nat → Int32) × (Nat → Int32) × (Nat → Int32) × (Nat → Int32) × (Nat → Int32) × (Nat → Int32) × (Nat → Int32) × (Nat → Nat)) (t : State) => va_P (dC, dI) cls [(h_mm, .inr (8, (mo134 v_mm (.int u.1) (.ref h_nv) (.ref h_nn) (.ref h_na) (.ref h_nb) (.ref h_nc) (.int u.2.1) (.int u.2.2.1) (.ref h_mny) (.ref h_vrs) (.ref h_let) (.ref h_isn) (.ref h_tem) (.ref h_tap) (.int u.2.2.2.1) (.int u.2.2.2.2.1) (.int u.2.2.2.2.2.1) (.int u.2.2.2.2.2.2.1) (.int u.2.2.2.2.2.2.2.1) (.long u.2.2.2.2.2.2.2.2.1) (.int u.2.2.2.2.2.2.2.2.2.1) (.int u.2.2.2.2.2.2.2.2.2.2.1) (.int u.2.2.2.2.2.2.2.2.2.2.2.1) (.int u.2.2.2.2.2.2.2.2.2.2.2.2.1) (.int u.2.2.2.2.2.2.2.2.2.2.2.2.2.1) (.int u.2.2.2.2.2.2.2.2.2.2.2.2.2.2.1) (.int u.2.2.2.2.2.2.2.2.2.2.2.2.2.2.2.1)))), (h_tap, .inl (cy_tap, 600, .inl f_tap)), (h_nv, .inl (cy_nv, 8000, .inl u.2.2.2.2.2.2.2.2.2.2.2.2.2.2.2.2.1)), (h_nn, .inl (cy_nn, 8000, .inr (.inl u.2.2.2.2.2.2.2.2.2.2.2.2.2.2.2.2.2.1))), (h_na, .inl (cy_na, 8000, .inl u.2.2.2.2.2.2.2.2.2.2.2.2.2.2.2.2.2.2.1)), (h_nb, .inl (cy_nb, 8000, .inl u.2.2.2.2.2.2.2.2.2.2.2.2.2.2.2.2.2.2.2.1)), (h_nc, .inl (cy_nc, 8000, .inl u.2.2.2.2.2.2.2.2.2.2.2.2.2.2.2.2.2.2.2.2.1)), (h_vrs, .inl (cy_vrs, 32, .inl u.2.2.2.2.2.2.2.2.2.2.2.2.2.2.2.2.2.2.2.2.2.1)), (h_let, .inl (cy_let, 256, .inl u.2.2.2.2.2.2.2.2.2.2.2.2.2.2.2.2.2.2.2.2.2.2.1)), (h_mny, .inl (cy_mny, 32, .inl u.2.2.2.2.2.2.2.2.2.2.2.2.2.2.2.2.2.2.2.2.2.2.2.1)), (h_isn, .inl (cy_isn, 192, .inl u.2.2.2.2.2.2.2.2.2.2.2.2.2.2.2.2.2.2.2.2.2.2.2.2.1)), (h_tem, .inl (cy_tem, 192, .inl u.2.2.2.2.2.2.2.2.2.2.2.2.2.2.2.2.2.2.2.2.2.2.2.2.2.1))] t.heap ∧ va_D A [(h_mm, .inr (8, (mo134 v_mm (.int u.1) (.ref h_nv) (.ref h_nn) (.ref h_na) (.ref h_nb) (.ref h_nc) (.int u.2.1) (.int u.2.2.1) (.ref h_mny) (.ref h_vrs) (.ref h_let) (.ref h_isn) (.ref h_tem) (.ref h_tap) (.int u.2.2.2.1) (.int u.2.2.2.2.1) (.int u.2.2.2.2.2.1) (.int u.2.2.2.2.2.2.1) (.int u.2.2.2.2.2.2.2.1) (.long u.2.2.2.2.2.2.2.2.1) (.int u.2.2.2.2.2.2.2.2.2.1) (.int u.2.2.2.2.2.2.2.2.2.2.1) (.int u.2.2.2.2.2.2.2.2.2.2.2.1) (.int u.2.2.2.2.2.2.2.2.2.2.2.2.1) (.int u.2.2.2.2.2.2.2.2.2.2.2.2.2.1) (.int u.2.2.2.2.2.2.2.2.2.2.2.2.2.2.1) (.int u.2.2.2.2.2.2.2.2.2.2.2.2.2.2.2.1)))), (h_tap, .inl (cy_tap, 600, .inl f_tap)), (h_nv, .inl (cy_nv, 8000, .inl u.2.2.2.2.2.2.2.2.2.2.2.2.2.2.2.2.1)), (h_nn, .inl (cy_nn, 8000, .inr (.inl u.2.2.2.2.2.2.2.2.2.2.2.2.2.2.2.2.2.1))), (h_na, .inl (cy_na, 8000, .inl u.2.2.2.2.2.2.2.2.2.2.2.2.2.2.2.2.2.2.1)), (h_nb, .inl (cy_nb, 8000, .inl u.2.2.2.2.2.2.2.2.2.2.2.2.2.2.2.2.2.2.2.1)), (h_nc, .inl (cy_nc, 8000, .inl u.2.2.2.2.2.2.2.2.2.2.2.2.2.2.2.2.2.2.2.2.1)), (h_vrs, .inl (cy_vrs, 32, .inl u.2.2.2.2.2.2.2.2.2.2.2.2.2.2.2.2.2.2.2.2.2.1)), (h_let, .inl (cy_let, 256, .inl u.2.2.2.2.2.2.2.2.2.2.2.2.2.2.2.2.2.2.2.2.2.2.1)), (h_mny, .inl (cy_mny, 32, .inl u.2.2.2.2.2.2.2.2.2.2.2.2.2.2.2.2.2.2.2.2.2.2.2.1)), (h_isn, .inl (cy_isn, 192, .inl u.2.2.2.2.2.2.2.2.2.2.2.2.2.2.2.2.2.2.2.2.2.2.2.2.1)), (h_tem, .inl (cy_tem, 192, .inl u.2.2.2.2.2.2.2.2.2.2.2.2.2.2.2.2.2.2.2.2.2.2.2.2.2.1))]) A) ([.ref h_mm] : List Value).toArray s 0 0 A) (F0 m 103 ls []) := by
            clear hP hD hS hl
            intro n
            induction n with
            | zero => intro x71 f72 f73 f74 f75 f76 H locs ls klp77_0 hf72 hf75 hf76 klp77_4 klp77_5 klp77_6 klp77_7 hm hP hD hS hl; exact False.elim (by omega)
            | succ n ih => 
              intro x71 f72 f73 f74 f75 f76 H locs ls klp77_0 hf72 hf75 hf76 klp77_4 klp77_5 klp77_6 klp77_7 hm hP hD hS hl
              have ih78 := ih
              clear ih
              refine lv_iload_n hx hb dX11_clauses_103 rfl (lv_at hl 2 rfl) ?_
              refine lv_aload_n hx hb dX11_clauses_104 rfl (lv_at hl 0 rfl) ?_
              refine va_get (D := (dC, dI)) (ci := 8) (v := .int z69) (C := RX11) (T := TX11) (N := 71) hx hb hw iwX11 hown hK hP 4 rfl rfl 7 (by decide) (hw _ w_f_X11_164) (fun _ h9 => h9) rfl dX11_clauses_105 ?_
              refine lv_icmp_ge (tgt := 126) hx hb dX11_clauses_108 (by decide) (fun c79 => ?_) (fun c79 => ?_)
              · have kc79 := (cv_le (rfl : (z69).toInt = (z69).toInt) (rfl : (x71).toInt = (x71).toInt)).mp c79
                have tm80 : TM 0 (z58).toInt (hsh gh34 (x_mm_nodes).toInt) 0 (z69).toInt f75 f76 := tm_cast klp77_6 rfl rfl rfl (by omega)
                refine lv_aload_n hx hb dX11_clauses_126 rfl (lv_at hl 0 rfl) ?_
                obtain ⟨vq81, evq81⟩ := mq134_103 v_mm (.int 0) (.ref h_nv) (.ref h_nn) (.ref h_na) (.ref h_nb) (.ref h_nc) (.int z58) (.int z69) (.ref h_mny) (.ref h_vrs) (.ref h_let) (.ref h_isn) (.ref h_tem) (.ref h_tap) (.int 0) (.int x25) (.int x26) (.int x27) (.int x28) (.long x29) (.int x30) (.int x31) (.int x32) (.int 0) (.int x33)
                replace hP : va_P (dC, dI) cls [(h_vrs, .inl (cy_vrs, 32, .inl f72)), (h_let, .inl (cy_let, 256, .inl f73)), (h_isn, .inl (cy_isn, 192, .inl f74)), (h_tap, .inl (cy_tap, 600, .inl f_tap)), (h_mm, .inr (8, (mo103 vq81 (.int x_mm_isProof) (.int x_mm_answers)))), (h_nv, .inl (cy_nv, 8000, .inl f59)), (h_nn, .inl (cy_nn, 8000, .inr (.inl f60))), (h_na, .inl (cy_na, 8000, .inl f61)), (h_nb, .inl (cy_nb, 8000, .inl f62)), (h_nc, .inl (cy_nc, 8000, .inl f63)), (h_mny, .inl (cy_mny, 32, .inl f75)), (h_tem, .inl (cy_tem, 192, .inl f76))] H := by rw [evq81]; exact hP
                replace hD : va_D A [(h_vrs, .inl (cy_vrs, 32, .inl f72)), (h_let, .inl (cy_let, 256, .inl f73)), (h_isn, .inl (cy_isn, 192, .inl f74)), (h_tap, .inl (cy_tap, 600, .inl f_tap)), (h_mm, .inr (8, (mo103 vq81 (.int x_mm_isProof) (.int x_mm_answers)))), (h_nv, .inl (cy_nv, 8000, .inl f59)), (h_nn, .inl (cy_nn, 8000, .inr (.inl f60))), (h_na, .inl (cy_na, 8000, .inl f61)), (h_nb, .inl (cy_nb, 8000, .inl f62)), (h_nc, .inl (cy_nc, 8000, .inl f63)), (h_mny, .inl (cy_mny, 32, .inl f75)), (h_tem, .inl (cy_tem, 192, .inl f76))] := by rw [evq81]; exact hD
                have hPc := hP.sub (ws' := [(h_mm, .inr (8, (mo103 vq81 (.int x_mm_isProof) (.int x_mm_answers))))]) [4] rfl
                have hDc := hD.sub (ws' := [(h_mm, .inr (8, (mo103 vq81 (.int x_mm_isProof) (.int x_mm_answers))))]) [4] (by decide) rfl
                have hKc := hK.sub (tys' := []) [] rfl
                have hFc := va_free (wc := [(h_mm, .inr (8, (mo103 vq81 (.int x_mm_isProof) (.int x_mm_answers))))]) hD hS hA [4] rfl
                refine va_callv (va_runV (As := []) (rest := []) ⟨hx, hb, hml, hown, hts⟩ (c_X11_forgets_e l dC dI H.size h_mm vq81 x_mm_isProof x_mm_answers (by first | exact hx_mm_isProof | omega) (by first | exact hx_mm_answers | omega)) (cwV 0 hts (gv hT w_m_X11_171 w_instanceMethod_X11_forgets ws_sel_X11_forgets w_ini_X11 w_code_X11_forgets) rfl rfl rfl (by decide +kernel) ⟨(Nat.le_of_ble_eq_true rfl), (Nat.le_of_ble_eq_true rfl)⟩) ⟨pre_blind, va_recv hK hP (ci := 8) (q0 := 4) rfl rfl, pre_of hPc hKc hDc hN⟩ rfl rfl hl.1 rfl (lv_room (Nat.le_of_ble_eq_true rfl)) dX11_clauses_127 ⟨(Nat.le_of_ble_eq_true rfl), (Nat.le_of_ble_eq_true rfl)⟩) hS (fun q _ h => hFc q h) hFc (fun u t H locs ht hvm hq hB hz1 hk1 hS9 => ?_)
                obtain ⟨z83, z84⟩ := u
                obtain ⟨hP1, hD1⟩ := hB
                rw [ht] at hP1
                obtain ⟨hP9, hD9⟩ := va_join (wr := [(h_vrs, .inl (cy_vrs, 32, .inl f72)), (h_let, .inl (cy_let, 256, .inl f73)), (h_isn, .inl (cy_isn, 192, .inl f74)), (h_tap, .inl (cy_tap, 600, .inl f_tap)), (h_nv, .inl (cy_nv, 8000, .inl f59)), (h_nn, .inl (cy_nn, 8000, .inr (.inl f60))), (h_na, .inl (cy_na, 8000, .inl f61)), (h_nb, .inl (cy_nb, 8000, .inl f62)), (h_nc, .inl (cy_nc, 8000, .inl f63)), (h_mny, .inl (cy_mny, 32, .inl f75)), (h_tem, .inl (cy_tem, 192, .inl f76))]) (w1 := [(h_mm, .inr (8, (mo103 vq81 (.int z83) (.int z84))))]) hP hD [4] [0, 1, 2, 3, 5, 6, 7, 8, 9, 10, 11] rfl rfl (by decide) (by decide) hk1 hFc hP1 hD1
                clear hP hD hS hPc hDc hKc hFc hP1 hD1 hk1 hz1 ht hvm
                have hP : va_P (dC, dI) cls [(h_vrs, .inl (cy_vrs, 32, .inl f72)), (h_let, .inl (cy_let, 256, .inl f73)), (h_isn, .inl (cy_isn, 192, .inl f74)), (h_tap, .inl (cy_tap, 600, .inl f_tap)), (h_nv, .inl (cy_nv, 8000, .inl f59)), (h_nn, .inl (cy_nn, 8000, .inr (.inl f60))), (h_na, .inl (cy_na, 8000, .inl f61)), (h_nb, .inl (cy_nb, 8000, .inl f62)), (h_nc, .inl (cy_nc, 8000, .inl f63)), (h_mny, .inl (cy_mny, 32, .inl f75)), (h_tem, .inl (cy_tem, 192, .inl f76)), (h_mm, .inr (8, (mo103 vq81 (.int z83) (.int z84))))] H := hP9
                have hD : va_D A [(h_vrs, .inl (cy_vrs, 32, .inl f72)), (h_let, .inl (cy_let, 256, .inl f73)), (h_isn, .inl (cy_isn, 192, .inl f74)), (h_tap, .inl (cy_tap, 600, .inl f_tap)), (h_nv, .inl (cy_nv, 8000, .inl f59)), (h_nn, .inl (cy_nn, 8000, .inr (.inl f60))), (h_na, .inl (cy_na, 8000, .inl f61)), (h_nb, .inl (cy_nb, 8000, .inl f62)), (h_nc, .inl (cy_nc, 8000, .inl f63)), (h_mny, .inl (cy_mny, 32, .inl f75)), (h_tem, .inl (cy_tem, 192, .inl f76)), (h_mm, .inr (8, (mo103 vq81 (.int z83) (.int z84))))] := hD9
                have hS := hS9
                clear hP9 hD9 hS9
                rw [evq81] at hP hD
                replace hP : va_P (dC, dI) cls [(h_vrs, .inl (cy_vrs, 32, .inl f72)), (h_let, .inl (cy_let, 256, .inl f73)), (h_isn, .inl (cy_isn, 192, .inl f74)), (h_tap, .inl (cy_tap, 600, .inl f_tap)), (h_nv, .inl (cy_nv, 8000, .inl f59)), (h_nn, .inl (cy_nn, 8000, .inr (.inl f60))), (h_na, .inl (cy_na, 8000, .inl f61)), (h_nb, .inl (cy_nb, 8000, .inl f62)), (h_nc, .inl (cy_nc, 8000, .inl f63)), (h_mny, .inl (cy_mny, 32, .inl f75)), (h_tem, .inl (cy_tem, 192, .inl f76)), (h_mm, .inr (8, (mo134 v_mm (.int 0) (.ref h_nv) (.ref h_nn) (.ref h_na) (.ref h_nb) (.ref h_nc) (.int z58) (.int z69) (.ref h_mny) (.ref h_vrs) (.ref h_let) (.ref h_isn) (.ref h_tem) (.ref h_tap) (.int 0) (.int x25) (.int x26) (.int x27) (.int x28) (.long x29) (.int x30) (.int x31) (.int x32) (.int 0) (.int x33) (.int z83) (.int z84))))] H := hP
                replace hD : va_D A [(h_vrs, .inl (cy_vrs, 32, .inl f72)), (h_let, .inl (cy_let, 256, .inl f73)), (h_isn, .inl (cy_isn, 192, .inl f74)), (h_tap, .inl (cy_tap, 600, .inl f_tap)), (h_nv, .inl (cy_nv, 8000, .inl f59)), (h_nn, .inl (cy_nn, 8000, .inr (.inl f60))), (h_na, .inl (cy_na, 8000, .inl f61)), (h_nb, .inl (cy_nb, 8000, .inl f62)), (h_nc, .inl (cy_nc, 8000, .inl f63)), (h_mny, .inl (cy_mny, 32, .inl f75)), (h_tem, .inl (cy_tem, 192, .inl f76)), (h_mm, .inr (8, (mo134 v_mm (.int 0) (.ref h_nv) (.ref h_nn) (.ref h_na) (.ref h_nb) (.ref h_nc) (.int z58) (.int z69) (.ref h_mny) (.ref h_vrs) (.ref h_let) (.ref h_isn) (.ref h_tem) (.ref h_tap) (.int 0) (.int x25) (.int x26) (.int x27) (.int x28) (.long x29) (.int x30) (.int x31) (.int x32) (.int 0) (.int x33) (.int z83) (.int z84))))] := hD
                clear evq81 
                obtain ⟨k85, k86, k87, k88⟩ := hq
                have k85 : 0 ≤ ((z83)).toInt ∧ ((z83)).toInt ≤ 1 := k85
                have k86 : 0 ≤ ((z84)).toInt ∧ ((z84)).toInt ≤ 8 := k86
                have k87 : ((z83)).toInt = 0 := k87
                have k88 : ((z84)).toInt = 0 := k88
                refine lv_aload_n hx hb dX11_clauses_130 rfl (lv_at hl 0 rfl) ?_
                refine va_get (D := (dC, dI)) (ci := 8) (v := .int z69) (C := RX11) (T := TX11) (N := 71) hx hb hw iwX11 hown hK hP 11 rfl rfl 7 (by decide) (hw _ w_f_X11_164) (fun _ h9 => h9) rfl dX11_clauses_131 ?_
                replace hP : va_P (dC, dI) cls [(h_mm, .inr (8, (mo134 v_mm (.int 0) (.ref h_nv) (.ref h_nn) (.ref h_na) (.ref h_nb) (.ref h_nc) (.int z58) (.int z69) (.ref h_mny) (.ref h_vrs) (.ref h_let) (.ref h_isn) (.ref h_tem) (.ref h_tap) (.int 0) (.int x25) (.int x26) (.int x27) (.int x28) (.long x29) (.int x30) (.int x31) (.int x32) (.int 0) (.int x33) (.int z83) (.int z84)))), (h_tap, .inl (cy_tap, 600, .inl f_tap)), (h_nv, .inl (cy_nv, 8000, .inl f59)), (h_nn, .inl (cy_nn, 8000, .inr (.inl f60))), (h_na, .inl (cy_na, 8000, .inl f61)), (h_nb, .inl (cy_nb, 8000, .inl f62)), (h_nc, .inl (cy_nc, 8000, .inl f63)), (h_vrs, .inl (cy_vrs, 32, .inl f72)), (h_let, .inl (cy_let, 256, .inl f73)), (h_mny, .inl (cy_mny, 32, .inl f75)), (h_isn, .inl (cy_isn, 192, .inl f74)), (h_tem, .inl (cy_tem, 192, .inl f76))] H := hP.sub [11, 3, 4, 5, 6, 7, 8, 0, 1, 9, 2, 10] rfl
                replace hD : va_D A [(h_mm, .inr (8, (mo134 v_mm (.int 0) (.ref h_nv) (.ref h_nn) (.ref h_na) (.ref h_nb) (.ref h_nc) (.int z58) (.int z69) (.ref h_mny) (.ref h_vrs) (.ref h_let) (.ref h_isn) (.ref h_tem) (.ref h_tap) (.int 0) (.int x25) (.int x26) (.int x27) (.int x28) (.long x29) (.int x30) (.int x31) (.int x32) (.int 0) (.int x33) (.int z83) (.int z84)))), (h_tap, .inl (cy_tap, 600, .inl f_tap)), (h_nv, .inl (cy_nv, 8000, .inl f59)), (h_nn, .inl (cy_nn, 8000, .inr (.inl f60))), (h_na, .inl (cy_na, 8000, .inl f61)), (h_nb, .inl (cy_nb, 8000, .inl f62)), (h_nc, .inl (cy_nc, 8000, .inl f63)), (h_vrs, .inl (cy_vrs, 32, .inl f72)), (h_let, .inl (cy_let, 256, .inl f73)), (h_mny, .inl (cy_mny, 32, .inl f75)), (h_isn, .inl (cy_isn, 192, .inl f74)), (h_tem, .inl (cy_tem, 192, .inl f76))] := hD.sub [11, 3, 4, 5, 6, 7, 8, 0, 1, 9, 2, 10] (by decide) rfl
                refine W.widen (k := 0) (n := 0) (Nat.le_of_ble_eq_true rfl) (Nat.le_of_ble_eq_true rfl) ?_
                have cst0 : (0 : Int32).toInt = 0 := by decide
                have w89 : 0 ≤ ((z58)).toInt ∧ ((z58)).toInt ≤ 1200 := by first | exact k65 | omega
                have w90 : 0 ≤ ((z69)).toInt ∧ ((z69)).toInt ≤ 16 := by omega
                have w91 : 0 ≤ ((0 : Int32)).toInt ∧ ((0 : Int32)).toInt ≤ 600 := by omega
                have w92 : 0 ≤ ((x25)).toInt ∧ ((x25)).toInt ≤ 600 := by first | exact klp35_8 | omega
                have w93 : 0 ≤ ((x26)).toInt ∧ ((x26)).toInt ≤ 600 := by first | exact klp35_9 | omega
                have w94 : 0 ≤ ((x27)).toInt ∧ ((x27)).toInt ≤ 4 := by first | exact klp35_10 | omega
                have w95 : 0 ≤ ((x30)).toInt ∧ ((x30)).toInt ≤ 1 := by first | exact klp35_11 | omega
                have w96 : 16 ≤ ((x33)).toInt ∧ ((x33)).toInt ≤ 32 := by first | exact klp35_12 | omega
                have w97 : 0 ≤ ((z83)).toInt ∧ ((z83)).toInt ≤ 1 := by first | exact k85 | omega
                have w98 : 0 ≤ ((z84)).toInt ∧ ((z84)).toInt ≤ 8 := by first | exact k86 | omega
                have w99 : ((z58)).toInt ≤ 600 := by omega
                have w100 : ND 0 ((z58)).toInt ((hsh gh34 (x_mm_nodes).toInt)) (f61) (f62) (f63) := k67
                have w101 : TM 0 ((z58)).toInt ((hsh gh34 (x_mm_nodes).toInt)) 0 ((z69)).toInt (f75) (f76) := tm80
                have w102 : (((z83)).toInt = 0) ∨ (EQ0 (x_mm_nodes).toInt f_na f_nb f_nc f_nv (f61) (f62) (f63) (f59) ∧ (z58) = x_mm_nodes ∧ ((hsh gh34 (x_mm_nodes).toInt)) = hz ∧ (z83) = x_mm_isProof ∧ (z69) = x_mm_clauses) := (Or.inl (by omega))
                exact W.iret (v := z69) hx hb hr (fun t ht hW => ⟨⟨z69, (0, z58, z69, 0, x25, x26, x27, x28, x29, x30, x31, x32, 0, x33, z83, z84, f59, f60, f61, f62, f63, f72, f73, f75, f74, f76, (hsh gh34 (x_mm_nodes).toInt)), rfl, ⟨w89, w90, w91, w92, w93, w94, w95, w96, w97, w98, hf59, hf61, hf62, hf63, hf72, hf75, hf76, w99, w100, w101, w102⟩, by rw [ht]; exact hP, hD⟩, hS.F ht⟩) hS.2.2 dX11_clauses_134
              · have kc79 := (not_congr (cv_le (rfl : (z69).toInt = (z69).toInt) (rfl : (x71).toInt = (x71).toInt))).mp c79
                refine lv_aload_n hx hb dX11_clauses_111 rfl (lv_at hl 0 rfl) ?_
                refine lv_bipush (v := 16) hx hb dX11_clauses_112 (by decide) ?_
                refine lv_iload_n hx hb dX11_clauses_114 rfl (lv_at hl 2 rfl) ?_
                refine lv_iadd hx hb dX11_clauses_115 ?_
                refine lv_topi (fun z103 ez103 => ?_)
                have tz103 : (z103).toInt = 16 + (x71).toInt := by rw [ez103]; exact i_add (by decide) rfl (by omega)
                refine lv_iload_n hx hb dX11_clauses_116 rfl (lv_at hl 2 rfl) ?_
                obtain ⟨vq104, evq104⟩ := mq134_101 v_mm (.int 0) (.ref h_nv) (.ref h_nn) (.ref h_na) (.ref h_nb) (.ref h_nc) (.int z58) (.int z69) (.ref h_tap) (.int 0) (.int x25) (.int x26) (.int x27) (.int x28) (.long x29) (.int x30) (.int x31) (.int x32) (.int 0) (.int x33) (.int x_mm_isProof) (.int x_mm_answers)
                replace hP : va_P (dC, dI) cls [(h_vrs, .inl (cy_vrs, 32, .inl f72)), (h_let, .inl (cy_let, 256, .inl f73)), (h_isn, .inl (cy_isn, 192, .inl f74)), (h_tap, .inl (cy_tap, 600, .inl f_tap)), (h_mm, .inr (8, (mo101 vq104 (.ref h_mny) (.ref h_vrs) (.ref h_let) (.ref h_isn) (.ref h_tem)))), (h_nv, .inl (cy_nv, 8000, .inl f59)), (h_nn, .inl (cy_nn, 8000, .inr (.inl f60))), (h_na, .inl (cy_na, 8000, .inl f61)), (h_nb, .inl (cy_nb, 8000, .inl f62)), (h_nc, .inl (cy_nc, 8000, .inl f63)), (h_mny, .inl (cy_mny, 32, .inl f75)), (h_tem, .inl (cy_tem, 192, .inl f76))] H := by rw [evq104]; exact hP
                replace hD : va_D A [(h_vrs, .inl (cy_vrs, 32, .inl f72)), (h_let, .inl (cy_let, 256, .inl f73)), (h_isn, .inl (cy_isn, 192, .inl f74)), (h_tap, .inl (cy_tap, 600, .inl f_tap)), (h_mm, .inr (8, (mo101 vq104 (.ref h_mny) (.ref h_vrs) (.ref h_let) (.ref h_isn) (.ref h_tem)))), (h_nv, .inl (cy_nv, 8000, .inl f59)), (h_nn, .inl (cy_nn, 8000, .inr (.inl f60))), (h_na, .inl (cy_na, 8000, .inl f61)), (h_nb, .inl (cy_nb, 8000, .inl f62)), (h_nc, .inl (cy_nc, 8000, .inl f63)), (h_mny, .inl (cy_mny, 32, .inl f75)), (h_tem, .inl (cy_tem, 192, .inl f76))] := by rw [evq104]; exact hD
                have hPc := hP.sub (ws' := [(h_mm, .inr (8, (mo101 vq104 (.ref h_mny) (.ref h_vrs) (.ref h_let) (.ref h_isn) (.ref h_tem)))), (h_mny, .inl (cy_mny, 32, .inl f75)), (h_vrs, .inl (cy_vrs, 32, .inl f72)), (h_let, .inl (cy_let, 256, .inl f73)), (h_isn, .inl (cy_isn, 192, .inl f74)), (h_tem, .inl (cy_tem, 192, .inl f76))]) [4, 10, 0, 1, 2, 11] rfl
                have hDc := hD.sub (ws' := [(h_mm, .inr (8, (mo101 vq104 (.ref h_mny) (.ref h_vrs) (.ref h_let) (.ref h_isn) (.ref h_tem)))), (h_mny, .inl (cy_mny, 32, .inl f75)), (h_vrs, .inl (cy_vrs, 32, .inl f72)), (h_let, .inl (cy_let, 256, .inl f73)), (h_isn, .inl (cy_isn, 192, .inl f74)), (h_tem, .inl (cy_tem, 192, .inl f76))]) [4, 10, 0, 1, 2, 11] (by decide) rfl
                have hKc := hK.sub (tys' := [(cy_mny, .int), (cy_vrs, .int), (cy_let, .int), (cy_isn, .boolean), (cy_tem, .int)]) [8, 6, 7, 9, 10] rfl
                have hFc := va_free (wc := [(h_mm, .inr (8, (mo101 vq104 (.ref h_mny) (.ref h_vrs) (.ref h_let) (.ref h_isn) (.ref h_tem)))), (h_mny, .inl (cy_mny, 32, .inl f75)), (h_vrs, .inl (cy_vrs, 32, .inl f72)), (h_let, .inl (cy_let, 256, .inl f73)), (h_isn, .inl (cy_isn, 192, .inl f74)), (h_tem, .inl (cy_tem, 192, .inl f76))]) hD hS hA [4, 10, 0, 1, 2, 11] rfl
                refine va_callv (va_runV (As := [.int z103, .int x71]) (rest := []) ⟨hx, hb, hml, hown, hts⟩ (c_X11_copiesClause_e l dC dI H.size h_mm h_mny h_vrs h_let h_isn h_tem vq104 cy_mny f75 cy_vrs f72 cy_let f73 cy_isn f74 cy_tem f76 z103 x71 hf75 hf72 hf76 (by omega) (by omega)) (cwV 2 hts (gv hT w_m_X11_167 w_instanceMethod_X11_copiesClause ws_sel_X11_copiesClause w_ini_X11 w_code_X11_copiesClause) rfl rfl rfl (by decide +kernel) ⟨(Nat.le_of_ble_eq_true rfl), (Nat.le_of_ble_eq_true rfl)⟩) ⟨pre_blind, va_recv hK hP (ci := 8) (q0 := 4) rfl rfl, pre_of hPc hKc hDc hN⟩ rfl rfl hl.1 rfl (lv_room (Nat.le_of_ble_eq_true rfl)) dX11_clauses_117 ⟨(Nat.le_of_ble_eq_true rfl), (Nat.le_of_ble_eq_true rfl)⟩) hS (fun q _ h => hFc q h) hFc (fun u t H locs ht hvm hq hB hz1 hk1 hS9 => ?_)
                obtain ⟨f106, f107, f108, f109, f110⟩ := u
                obtain ⟨hP1, hD1⟩ := hB
                rw [ht] at hP1
                obtain ⟨hP9, hD9⟩ := va_join (wr := [(h_tap, .inl (cy_tap, 600, .inl f_tap)), (h_nv, .inl (cy_nv, 8000, .inl f59)), (h_nn, .inl (cy_nn, 8000, .inr (.inl f60))), (h_na, .inl (cy_na, 8000, .inl f61)), (h_nb, .inl (cy_nb, 8000, .inl f62)), (h_nc, .inl (cy_nc, 8000, .inl f63))]) (w1 := [(h_mm, .inr (8, (mo101 vq104 (.ref h_mny) (.ref h_vrs) (.ref h_let) (.ref h_isn) (.ref h_tem)))), (h_mny, .inl (cy_mny, 32, .inl f106)), (h_vrs, .inl (cy_vrs, 32, .inl f107)), (h_let, .inl (cy_let, 256, .inl f108)), (h_isn, .inl (cy_isn, 192, .inl f109)), (h_tem, .inl (cy_tem, 192, .inl f110))]) hP hD [4, 10, 0, 1, 2, 11] [3, 5, 6, 7, 8, 9] rfl rfl (by decide) (by decide) hk1 hFc hP1 hD1
                clear hP hD hS hPc hDc hKc hFc hP1 hD1 hk1 hz1 ht hvm
                have hP : va_P (dC, dI) cls [(h_tap, .inl (cy_tap, 600, .inl f_tap)), (h_nv, .inl (cy_nv, 8000, .inl f59)), (h_nn, .inl (cy_nn, 8000, .inr (.inl f60))), (h_na, .inl (cy_na, 8000, .inl f61)), (h_nb, .inl (cy_nb, 8000, .inl f62)), (h_nc, .inl (cy_nc, 8000, .inl f63)), (h_mm, .inr (8, (mo101 vq104 (.ref h_mny) (.ref h_vrs) (.ref h_let) (.ref h_isn) (.ref h_tem)))), (h_mny, .inl (cy_mny, 32, .inl f106)), (h_vrs, .inl (cy_vrs, 32, .inl f107)), (h_let, .inl (cy_let, 256, .inl f108)), (h_isn, .inl (cy_isn, 192, .inl f109)), (h_tem, .inl (cy_tem, 192, .inl f110))] H := hP9
                have hD : va_D A [(h_tap, .inl (cy_tap, 600, .inl f_tap)), (h_nv, .inl (cy_nv, 8000, .inl f59)), (h_nn, .inl (cy_nn, 8000, .inr (.inl f60))), (h_na, .inl (cy_na, 8000, .inl f61)), (h_nb, .inl (cy_nb, 8000, .inl f62)), (h_nc, .inl (cy_nc, 8000, .inl f63)), (h_mm, .inr (8, (mo101 vq104 (.ref h_mny) (.ref h_vrs) (.ref h_let) (.ref h_isn) (.ref h_tem)))), (h_mny, .inl (cy_mny, 32, .inl f106)), (h_vrs, .inl (cy_vrs, 32, .inl f107)), (h_let, .inl (cy_let, 256, .inl f108)), (h_isn, .inl (cy_isn, 192, .inl f109)), (h_tem, .inl (cy_tem, 192, .inl f110))] := hD9
                have hS := hS9
                clear hP9 hD9 hS9
                rw [evq104] at hP hD
                replace hP : va_P (dC, dI) cls [(h_tap, .inl (cy_tap, 600, .inl f_tap)), (h_nv, .inl (cy_nv, 8000, .inl f59)), (h_nn, .inl (cy_nn, 8000, .inr (.inl f60))), (h_na, .inl (cy_na, 8000, .inl f61)), (h_nb, .inl (cy_nb, 8000, .inl f62)), (h_nc, .inl (cy_nc, 8000, .inl f63)), (h_mm, .inr (8, (mo134 v_mm (.int 0) (.ref h_nv) (.ref h_nn) (.ref h_na) (.ref h_nb) (.ref h_nc) (.int z58) (.int z69) (.ref h_mny) (.ref h_vrs) (.ref h_let) (.ref h_isn) (.ref h_tem) (.ref h_tap) (.int 0) (.int x25) (.int x26) (.int x27) (.int x28) (.long x29) (.int x30) (.int x31) (.int x32) (.int 0) (.int x33) (.int x_mm_isProof) (.int x_mm_answers)))), (h_mny, .inl (cy_mny, 32, .inl f106)), (h_vrs, .inl (cy_vrs, 32, .inl f107)), (h_let, .inl (cy_let, 256, .inl f108)), (h_isn, .inl (cy_isn, 192, .inl f109)), (h_tem, .inl (cy_tem, 192, .inl f110))] H := hP
                replace hD : va_D A [(h_tap, .inl (cy_tap, 600, .inl f_tap)), (h_nv, .inl (cy_nv, 8000, .inl f59)), (h_nn, .inl (cy_nn, 8000, .inr (.inl f60))), (h_na, .inl (cy_na, 8000, .inl f61)), (h_nb, .inl (cy_nb, 8000, .inl f62)), (h_nc, .inl (cy_nc, 8000, .inl f63)), (h_mm, .inr (8, (mo134 v_mm (.int 0) (.ref h_nv) (.ref h_nn) (.ref h_na) (.ref h_nb) (.ref h_nc) (.int z58) (.int z69) (.ref h_mny) (.ref h_vrs) (.ref h_let) (.ref h_isn) (.ref h_tem) (.ref h_tap) (.int 0) (.int x25) (.int x26) (.int x27) (.int x28) (.long x29) (.int x30) (.int x31) (.int x32) (.int 0) (.int x33) (.int x_mm_isProof) (.int x_mm_answers)))), (h_mny, .inl (cy_mny, 32, .inl f106)), (h_vrs, .inl (cy_vrs, 32, .inl f107)), (h_let, .inl (cy_let, 256, .inl f108)), (h_isn, .inl (cy_isn, 192, .inl f109)), (h_tem, .inl (cy_tem, 192, .inl f110))] := hD
                clear evq104 
                obtain ⟨hf106, hf107, hf110, k111, k112⟩ := hq
                have hf106 : Rg 0 6 (f106) := hf106
                have hf107 : Rg 0 8 (f107) := hf107
                have hf110 : Rg 0 7999 (f110) := hf110
                have k111 : (f106) = upd (f75) (Int32.toNatClampNeg (x71)) ((f75) (Int32.toNatClampNeg (z103))) := k111
                have k112 : CPT 6 (f76) (f110) (z103) (x71) := k112
                have ckp := clamp_nat (i := z103) (by omega)
                have tc113 : TMc 0 (z58).toInt (hsh gh34 (x_mm_nodes).toInt) f75 f76 (Int32.toNatClampNeg z103) := tm_at klp77_7 (by omega) (by omega)
                have tm114 : TM 0 (z58).toInt (hsh gh34 (x_mm_nodes).toInt) 0 ((x71).toInt + 1) f106 f110 := tm_copy klp77_6 (by omega) (by omega) tc113 k111 k112 (Or.inr ⟨rfl, rfl⟩)
                have tm115 : TM 0 (z58).toInt (hsh gh34 (x_mm_nodes).toInt) 16 (x33).toInt f106 f110 := tm_copy klp77_7 (by omega) (by omega) tc113 k111 k112 (Or.inl (by omega))
                obtain ⟨z116, ez116⟩ : ∃ y : Int32, y = x71 + 1 := ⟨_, rfl⟩
                have tz116 : (z116).toInt = (x71).toInt + 1 := by rw [ez116]; exact i_add rfl (by decide) (by omega)
                refine lv_iinc (v := z116) (lv' := [(2, .int z116), (0, .ref h_mm), (1, .int x_mm_nodes)]) hx hb dX11_clauses_120 hl (k := 2) rfl (by rw [ez116]; rfl) (by decide) rfl (fun ls hl => ?_)
                refine lv_goto (tgt := 103) hx hb dX11_clauses_123 (by decide) ?_
                replace hP : va_P (dC, dI) cls [(h_vrs, .inl (cy_vrs, 32, .inl f107)), (h_let, .inl (cy_let, 256, .inl f108)), (h_isn, .inl (cy_isn, 192, .inl f109)), (h_tap, .inl (cy_tap, 600, .inl f_tap)), (h_mm, .inr (8, (mo134 v_mm (.int 0) (.ref h_nv) (.ref h_nn) (.ref h_na) (.ref h_nb) (.ref h_nc) (.int z58) (.int z69) (.ref h_mny) (.ref h_vrs) (.ref h_let) (.ref h_isn) (.ref h_tem) (.ref h_tap) (.int 0) (.int x25) (.int x26) (.int x27) (.int x28) (.long x29) (.int x30) (.int x31) (.int x32) (.int 0) (.int x33) (.int x_mm_isProof) (.int x_mm_answers)))), (h_nv, .inl (cy_nv, 8000, .inl f59)), (h_nn, .inl (cy_nn, 8000, .inr (.inl f60))), (h_na, .inl (cy_na, 8000, .inl f61)), (h_nb, .inl (cy_nb, 8000, .inl f62)), (h_nc, .inl (cy_nc, 8000, .inl f63)), (h_mny, .inl (cy_mny, 32, .inl f106)), (h_tem, .inl (cy_tem, 192, .inl f110))] H := hP.sub [8, 9, 10, 0, 6, 1, 2, 3, 4, 5, 7, 11] rfl
                replace hD : va_D A [(h_vrs, .inl (cy_vrs, 32, .inl f107)), (h_let, .inl (cy_let, 256, .inl f108)), (h_isn, .inl (cy_isn, 192, .inl f109)), (h_tap, .inl (cy_tap, 600, .inl f_tap)), (h_mm, .inr (8, (mo134 v_mm (.int 0) (.ref h_nv) (.ref h_nn) (.ref h_na) (.ref h_nb) (.ref h_nc) (.int z58) (.int z69) (.ref h_mny) (.ref h_vrs) (.ref h_let) (.ref h_isn) (.ref h_tem) (.ref h_tap) (.int 0) (.int x25) (.int x26) (.int x27) (.int x28) (.long x29) (.int x30) (.int x31) (.int x32) (.int 0) (.int x33) (.int x_mm_isProof) (.int x_mm_answers)))), (h_nv, .inl (cy_nv, 8000, .inl f59)), (h_nn, .inl (cy_nn, 8000, .inr (.inl f60))), (h_na, .inl (cy_na, 8000, .inl f61)), (h_nb, .inl (cy_nb, 8000, .inl f62)), (h_nc, .inl (cy_nc, 8000, .inl f63)), (h_mny, .inl (cy_mny, 32, .inl f106)), (h_tem, .inl (cy_tem, 192, .inl f110))] := hD.sub [8, 9, 10, 0, 6, 1, 2, 3, 4, 5, 7, 11] (by decide) rfl
                exact ih78 (z116) (f107) (f108) (f109) (f106) (f110) _ _ _ (by omega) hf107 hf106 hf110 (by omega) (by first | exact klp77_5 | omega) (tm_cast tm114 rfl (by omega) rfl (by omega)) (tm_cast tm115 rfl (by omega) rfl (by omega)) (by omega) hP hD hS (lv_sub hl [1, 2, 0] rfl)
          have cst0 : (0 : Int32).toInt = 0 := by decide
          exact lp77 _ (0) (f19) (f20) (f22) (f21) (f64) _ _ _ (by decide) hf19 hf21 hf64 (by omega) (by omega) (tm_cast tm70 rfl (by omega) rfl (by omega)) (tm_cast k68 rfl (by omega) rfl (by omega)) (Nat.le_refl _) hP hD hS (lv_sub hl [1, 2, 0] rfl)
        · have kc54 := (not_congr (cv_eq (rfl : (x27).toInt = (x27).toInt) (by decide : (0 : Int32).toInt = 0))).mp c54
          refine lv_aload_n hx hb dX11_clauses_59 rfl (lv_at hl 0 rfl) ?_
          obtain ⟨vq117, evq117⟩ := mq134_126 v_mm (.int 0) (.int x_mm_clauses) (.int x_mm_isProof) (.int x_mm_answers)
          replace hP : va_P (dC, dI) cls [(h_nv, .inl (cy_nv, 8000, .inl f14)), (h_nn, .inl (cy_nn, 8000, .inr (.inl f15))), (h_na, .inl (cy_na, 8000, .inl f16)), (h_nb, .inl (cy_nb, 8000, .inl f17)), (h_nc, .inl (cy_nc, 8000, .inl f18)), (h_vrs, .inl (cy_vrs, 32, .inl f19)), (h_let, .inl (cy_let, 256, .inl f20)), (h_mny, .inl (cy_mny, 32, .inl f21)), (h_isn, .inl (cy_isn, 192, .inl f22)), (h_tem, .inl (cy_tem, 192, .inl f23)), (h_mm, .inr (8, (mo126 vq117 (.ref h_nv) (.ref h_nn) (.ref h_na) (.ref h_nb) (.ref h_nc) (.int x24) (.ref h_mny) (.ref h_vrs) (.ref h_let) (.ref h_isn) (.ref h_tem) (.ref h_tap) (.int x_mm_taped) (.int x25) (.int x26) (.int x27) (.int x28) (.long x29) (.int x30) (.int x31) (.int x32) (.int 0) (.int x33)))), (h_tap, .inl (cy_tap, 600, .inl f_tap))] H := by rw [evq117]; exact hP
          replace hD : va_D A [(h_nv, .inl (cy_nv, 8000, .inl f14)), (h_nn, .inl (cy_nn, 8000, .inr (.inl f15))), (h_na, .inl (cy_na, 8000, .inl f16)), (h_nb, .inl (cy_nb, 8000, .inl f17)), (h_nc, .inl (cy_nc, 8000, .inl f18)), (h_vrs, .inl (cy_vrs, 32, .inl f19)), (h_let, .inl (cy_let, 256, .inl f20)), (h_mny, .inl (cy_mny, 32, .inl f21)), (h_isn, .inl (cy_isn, 192, .inl f22)), (h_tem, .inl (cy_tem, 192, .inl f23)), (h_mm, .inr (8, (mo126 vq117 (.ref h_nv) (.ref h_nn) (.ref h_na) (.ref h_nb) (.ref h_nc) (.int x24) (.ref h_mny) (.ref h_vrs) (.ref h_let) (.ref h_isn) (.ref h_tem) (.ref h_tap) (.int x_mm_taped) (.int x25) (.int x26) (.int x27) (.int x28) (.long x29) (.int x30) (.int x31) (.int x32) (.int 0) (.int x33)))), (h_tap, .inl (cy_tap, 600, .inl f_tap))] := by rw [evq117]; exact hD
          have hPc := hP.sub (ws' := [(h_mm, .inr (8, (mo126 vq117 (.ref h_nv) (.ref h_nn) (.ref h_na) (.ref h_nb) (.ref h_nc) (.int x24) (.ref h_mny) (.ref h_vrs) (.ref h_let) (.ref h_isn) (.ref h_tem) (.ref h_tap) (.int x_mm_taped) (.int x25) (.int x26) (.int x27) (.int x28) (.long x29) (.int x30) (.int x31) (.int x32) (.int 0) (.int x33)))), (h_tap, .inl (cy_tap, 600, .inl f_tap)), (h_nv, .inl (cy_nv, 8000, .inl f14)), (h_nn, .inl (cy_nn, 8000, .inr (.inl f15))), (h_na, .inl (cy_na, 8000, .inl f16)), (h_nb, .inl (cy_nb, 8000, .inl f17)), (h_nc, .inl (cy_nc, 8000, .inl f18)), (h_vrs, .inl (cy_vrs, 32, .inl f19)), (h_let, .inl (cy_let, 256, .inl f20)), (h_mny, .inl (cy_mny, 32, .inl f21)), (h_isn, .inl (cy_isn, 192, .inl f22)), (h_tem, .inl (cy_tem, 192, .inl f23))]) [10, 11, 0, 1, 2, 3, 4, 5, 6, 7, 8, 9] rfl
          have hDc := hD.sub (ws' := [(h_mm, .inr (8, (mo126 vq117 (.ref h_nv) (.ref h_nn) (.ref h_na) (.ref h_nb) (.ref h_nc) (.int x24) (.ref h_mny) (.ref h_vrs) (.ref h_let) (.ref h_isn) (.ref h_tem) (.ref h_tap) (.int x_mm_taped) (.int x25) (.int x26) (.int x27) (.int x28) (.long x29) (.int x30) (.int x31) (.int x32) (.int 0) (.int x33)))), (h_tap, .inl (cy_tap, 600, .inl f_tap)), (h_nv, .inl (cy_nv, 8000, .inl f14)), (h_nn, .inl (cy_nn, 8000, .inr (.inl f15))), (h_na, .inl (cy_na, 8000, .inl f16)), (h_nb, .inl (cy_nb, 8000, .inl f17)), (h_nc, .inl (cy_nc, 8000, .inl f18)), (h_vrs, .inl (cy_vrs, 32, .inl f19)), (h_let, .inl (cy_let, 256, .inl f20)), (h_mny, .inl (cy_mny, 32, .inl f21)), (h_isn, .inl (cy_isn, 192, .inl f22)), (h_tem, .inl (cy_tem, 192, .inl f23))]) [10, 11, 0, 1, 2, 3, 4, 5, 6, 7, 8, 9] (by decide) rfl
          have hKc := hK.sub (tys' := [(cy_tap, .byte), (cy_nv, .int), (cy_nn, .long), (cy_na, .int), (cy_nb, .int), (cy_nc, .int), (cy_vrs, .int), (cy_let, .int), (cy_mny, .int), (cy_isn, .boolean), (cy_tem, .int)]) [0, 1, 2, 3, 4, 5, 6, 7, 8, 9, 10] rfl
          have hFc := va_free (wc := [(h_mm, .inr (8, (mo126 vq117 (.ref h_nv) (.ref h_nn) (.ref h_na) (.ref h_nb) (.ref h_nc) (.int x24) (.ref h_mny) (.ref h_vrs) (.ref h_let) (.ref h_isn) (.ref h_tem) (.ref h_tap) (.int x_mm_taped) (.int x25) (.int x26) (.int x27) (.int x28) (.long x29) (.int x30) (.int x31) (.int x32) (.int 0) (.int x33)))), (h_tap, .inl (cy_tap, 600, .inl f_tap)), (h_nv, .inl (cy_nv, 8000, .inl f14)), (h_nn, .inl (cy_nn, 8000, .inr (.inl f15))), (h_na, .inl (cy_na, 8000, .inl f16)), (h_nb, .inl (cy_nb, 8000, .inl f17)), (h_nc, .inl (cy_nc, 8000, .inl f18)), (h_vrs, .inl (cy_vrs, 32, .inl f19)), (h_let, .inl (cy_let, 256, .inl f20)), (h_mny, .inl (cy_mny, 32, .inl f21)), (h_isn, .inl (cy_isn, 192, .inl f22)), (h_tem, .inl (cy_tem, 192, .inl f23))]) hD hS hA [10, 11, 0, 1, 2, 3, 4, 5, 6, 7, 8, 9] rfl
          refine va_callv (va_runV (As := []) (rest := []) ⟨hx, hb, hml, hown, hts⟩ (c_X11_readsClause l dC dI H.size h_mm h_tap h_nv h_nn h_na h_nb h_nc h_vrs h_let h_mny h_isn h_tem vq117 x24 x_mm_taped x25 x26 x27 x28 x29 x30 x31 x32 x33 cy_tap f_tap cy_nv f14 cy_nn f15 cy_na f16 cy_nb f17 cy_nc f18 cy_vrs f19 cy_let f20 cy_mny f21 cy_isn f22 cy_tem f23 (x_mm_nodes).toInt gh34 f_na f_nb f_nc f_nv hz (x_mm_clauses).toInt (by first | exact klp35_7 | omega) (by first | exact hx_mm_taped | omega) (by first | exact klp35_8 | omega) (by first | exact klp35_9 | omega) (by first | exact klp35_10 | omega) (by first | exact klp35_11 | omega) (by first | exact klp35_12 | omega) hf14 hf16 hf17 hf18 hf19 hf21 hf23 (by first | exact klp35_13 | omega) (by first | exact klp35_14 | omega) (by first | exact klp35_15 | omega) (by omega) (by first | exact hx_mm_clauses | omega) klp35_17 (nd_cast klp35_18 (by omega)) (tm_mono2 klp35_19 (by omega) (by omega) (by omega) (fun y hy => rfl)) klp35_20) (cwV 0 hts (gv hT w_m_X11_158 w_instanceMethod_X11_readsClause ws_sel_X11_readsClause w_ini_X11 w_code_X11_readsClause) rfl rfl rfl (by decide +kernel) ⟨(Nat.le_of_ble_eq_true rfl), (Nat.le_of_ble_eq_true rfl)⟩) ⟨pre_blind, va_recv hK hP (ci := 8) (q0 := 10) rfl rfl, pre_of hPc hKc hDc hN⟩ rfl rfl hl.1 rfl (lv_room (Nat.le_of_ble_eq_true rfl)) dX11_clauses_60 ⟨(Nat.le_of_ble_eq_true rfl), (Nat.le_of_ble_eq_true rfl)⟩) hS (fun q _ h => hFc q h) hFc (fun u t H locs ht hvm hq hB hz1 hk1 hS9 => ?_)
          obtain ⟨z119, z120, z121, z122, z123, z124, z125, z126, z127, z128, f129, f130, f131, f132, f133, f134, f135, f136, f137, f138, gh139⟩ := u
          obtain ⟨hP1, hD1⟩ := hB
          rw [ht] at hP1
          obtain ⟨hP9, hD9⟩ := va_join (wr := []) (w1 := [(h_mm, .inr (8, (mo126 vq117 (.ref h_nv) (.ref h_nn) (.ref h_na) (.ref h_nb) (.ref h_nc) (.int z119) (.ref h_mny) (.ref h_vrs) (.ref h_let) (.ref h_isn) (.ref h_tem) (.ref h_tap) (.int x_mm_taped) (.int z120) (.int z121) (.int z122) (.int z123) (.long z124) (.int z125) (.int z126) (.int z127) (.int 0) (.int z128)))), (h_tap, .inl (cy_tap, 600, .inl f_tap)), (h_nv, .inl (cy_nv, 8000, .inl f129)), (h_nn, .inl (cy_nn, 8000, .inr (.inl f130))), (h_na, .inl (cy_na, 8000, .inl f131)), (h_nb, .inl (cy_nb, 8000, .inl f132)), (h_nc, .inl (cy_nc, 8000, .inl f133)), (h_vrs, .inl (cy_vrs, 32, .inl f134)), (h_let, .inl (cy_let, 256, .inl f135)), (h_mny, .inl (cy_mny, 32, .inl f136)), (h_isn, .inl (cy_isn, 192, .inl f137)), (h_tem, .inl (cy_tem, 192, .inl f138))]) hP hD [10, 11, 0, 1, 2, 3, 4, 5, 6, 7, 8, 9] [] rfl rfl (by decide) (by decide) hk1 hFc hP1 hD1
          clear hP hD hS hPc hDc hKc hFc hP1 hD1 hk1 hz1 ht hvm
          have hP : va_P (dC, dI) cls [(h_mm, .inr (8, (mo126 vq117 (.ref h_nv) (.ref h_nn) (.ref h_na) (.ref h_nb) (.ref h_nc) (.int z119) (.ref h_mny) (.ref h_vrs) (.ref h_let) (.ref h_isn) (.ref h_tem) (.ref h_tap) (.int x_mm_taped) (.int z120) (.int z121) (.int z122) (.int z123) (.long z124) (.int z125) (.int z126) (.int z127) (.int 0) (.int z128)))), (h_tap, .inl (cy_tap, 600, .inl f_tap)), (h_nv, .inl (cy_nv, 8000, .inl f129)), (h_nn, .inl (cy_nn, 8000, .inr (.inl f130))), (h_na, .inl (cy_na, 8000, .inl f131)), (h_nb, .inl (cy_nb, 8000, .inl f132)), (h_nc, .inl (cy_nc, 8000, .inl f133)), (h_vrs, .inl (cy_vrs, 32, .inl f134)), (h_let, .inl (cy_let, 256, .inl f135)), (h_mny, .inl (cy_mny, 32, .inl f136)), (h_isn, .inl (cy_isn, 192, .inl f137)), (h_tem, .inl (cy_tem, 192, .inl f138))] H := hP9
          have hD : va_D A [(h_mm, .inr (8, (mo126 vq117 (.ref h_nv) (.ref h_nn) (.ref h_na) (.ref h_nb) (.ref h_nc) (.int z119) (.ref h_mny) (.ref h_vrs) (.ref h_let) (.ref h_isn) (.ref h_tem) (.ref h_tap) (.int x_mm_taped) (.int z120) (.int z121) (.int z122) (.int z123) (.long z124) (.int z125) (.int z126) (.int z127) (.int 0) (.int z128)))), (h_tap, .inl (cy_tap, 600, .inl f_tap)), (h_nv, .inl (cy_nv, 8000, .inl f129)), (h_nn, .inl (cy_nn, 8000, .inr (.inl f130))), (h_na, .inl (cy_na, 8000, .inl f131)), (h_nb, .inl (cy_nb, 8000, .inl f132)), (h_nc, .inl (cy_nc, 8000, .inl f133)), (h_vrs, .inl (cy_vrs, 32, .inl f134)), (h_let, .inl (cy_let, 256, .inl f135)), (h_mny, .inl (cy_mny, 32, .inl f136)), (h_isn, .inl (cy_isn, 192, .inl f137)), (h_tem, .inl (cy_tem, 192, .inl f138))] := hD9
          have hS := hS9
          clear hP9 hD9 hS9
          rw [evq117] at hP hD
          replace hP : va_P (dC, dI) cls [(h_mm, .inr (8, (mo134 v_mm (.int 0) (.ref h_nv) (.ref h_nn) (.ref h_na) (.ref h_nb) (.ref h_nc) (.int z119) (.int x_mm_clauses) (.ref h_mny) (.ref h_vrs) (.ref h_let) (.ref h_isn) (.ref h_tem) (.ref h_tap) (.int x_mm_taped) (.int z120) (.int z121) (.int z122) (.int z123) (.long z124) (.int z125) (.int z126) (.int z127) (.int 0) (.int z128) (.int x_mm_isProof) (.int x_mm_answers)))), (h_tap, .inl (cy_tap, 600, .inl f_tap)), (h_nv, .inl (cy_nv, 8000, .inl f129)), (h_nn, .inl (cy_nn, 8000, .inr (.inl f130))), (h_na, .inl (cy_na, 8000, .inl f131)), (h_nb, .inl (cy_nb, 8000, .inl f132)), (h_nc, .inl (cy_nc, 8000, .inl f133)), (h_vrs, .inl (cy_vrs, 32, .inl f134)), (h_let, .inl (cy_let, 256, .inl f135)), (h_mny, .inl (cy_mny, 32, .inl f136)), (h_isn, .inl (cy_isn, 192, .inl f137)), (h_tem, .inl (cy_tem, 192, .inl f138))] H := hP
          replace hD : va_D A [(h_mm, .inr (8, (mo134 v_mm (.int 0) (.ref h_nv) (.ref h_nn) (.ref h_na) (.ref h_nb) (.ref h_nc) (.int z119) (.int x_mm_clauses) (.ref h_mny) (.ref h_vrs) (.ref h_let) (.ref h_isn) (.ref h_tem) (.ref h_tap) (.int x_mm_taped) (.int z120) (.int z121) (.int z122) (.int z123) (.long z124) (.int z125) (.int z126) (.int z127) (.int 0) (.int z128) (.int x_mm_isProof) (.int x_mm_answers)))), (h_tap, .inl (cy_tap, 600, .inl f_tap)), (h_nv, .inl (cy_nv, 8000, .inl f129)), (h_nn, .inl (cy_nn, 8000, .inr (.inl f130))), (h_na, .inl (cy_na, 8000, .inl f131)), (h_nb, .inl (cy_nb, 8000, .inl f132)), (h_nc, .inl (cy_nc, 8000, .inl f133)), (h_vrs, .inl (cy_vrs, 32, .inl f134)), (h_let, .inl (cy_let, 256, .inl f135)), (h_mny, .inl (cy_mny, 32, .inl f136)), (h_isn, .inl (cy_isn, 192, .inl f137)), (h_tem, .inl (cy_tem, 192, .inl f138))] := hD
          clear evq117 
          obtain ⟨k140, k141, k142, k143, k144, k145, hf129, hf131, hf132, hf133, hf134, hf136, hf138, k146, k147, k148, k149, k150, k151, k152, k153, k154, k155, k156, k157, k158⟩ := hq
          have k140 : 0 ≤ ((z119)).toInt ∧ ((z119)).toInt ≤ 1200 := k140
          have k141 : 0 ≤ ((z120)).toInt ∧ ((z120)).toInt ≤ 600 := k141
          have k142 : 0 ≤ ((z121)).toInt ∧ ((z121)).toInt ≤ 600 := k142
          have k143 : 0 ≤ ((z122)).toInt ∧ ((z122)).toInt ≤ 4 := k143
          have k144 : 0 ≤ ((z125)).toInt ∧ ((z125)).toInt ≤ 1 := k144
          have k145 : 16 ≤ ((z128)).toInt ∧ ((z128)).toInt ≤ 32 := k145
          have hf129 : Rg (-1) 7 (f129) := hf129
          have hf131 : Rg (-1) 7999 (f131) := hf131
          have hf132 : Rg (-1) 7999 (f132) := hf132
          have hf133 : Rg (-1) 7999 (f133) := hf133
          have hf134 : Rg 0 8 (f134) := hf134
          have hf136 : Rg 0 6 (f136) := hf136
          have hf138 : Rg 0 7999 (f138) := hf138
          have k146 : ((z121)).toInt ≤ ((z120)).toInt := k146
          have k147 : ((z122)).toInt = 0 ∨ ((z121)).toInt + 1 ≤ ((z120)).toInt := k147
          have k148 : ((z125)).toInt = 1 ∨ ((z119)).toInt ≤ ((x_mm_nodes).toInt) + ((z121)).toInt := k148
          have k149 : ((x24)).toInt ≤ ((z119)).toInt := k149
          have k150 : ((x26)).toInt ≤ ((z121)).toInt := k150
          have k151 : ((x30)).toInt ≤ ((z125)).toInt := k151
          have k152 : ((z125)).toInt = 1 ∨ ((x26)).toInt + 1 ≤ ((z121)).toInt := k152
          have k153 : ((x33)).toInt ≤ ((z128)).toInt := k153
          have k154 : EQ0 ((x_mm_nodes).toInt) (f_na) (f_nb) (f_nc) (f_nv) (f131) (f132) (f133) (f129) := k154
          have k155 : ND ((x_mm_nodes).toInt) ((z119)).toInt (gh139) (f131) (f132) (f133) := k155
          have k156 : ∀ y : Nat, (y : Int) < ((x24)).toInt → (gh139) y = (gh34) y := k156
          have k157 : TM ((x_mm_nodes).toInt) ((z119)).toInt (gh139) 16 (((z128)).toInt) (f136) (f138) := k157
          have k158 : TM 0 ((x_mm_nodes).toInt) (hz) 0 ((x_mm_clauses).toInt) (f136) (f138) := k158
          refine lv_goto (tgt := 45) hx hb dX11_clauses_63 (by decide) ?_
          replace hP : va_P (dC, dI) cls [(h_nv, .inl (cy_nv, 8000, .inl f129)), (h_nn, .inl (cy_nn, 8000, .inr (.inl f130))), (h_na, .inl (cy_na, 8000, .inl f131)), (h_nb, .inl (cy_nb, 8000, .inl f132)), (h_nc, .inl (cy_nc, 8000, .inl f133)), (h_vrs, .inl (cy_vrs, 32, .inl f134)), (h_let, .inl (cy_let, 256, .inl f135)), (h_mny, .inl (cy_mny, 32, .inl f136)), (h_isn, .inl (cy_isn, 192, .inl f137)), (h_tem, .inl (cy_tem, 192, .inl f138)), (h_mm, .inr (8, (mo134 v_mm (.int 0) (.ref h_nv) (.ref h_nn) (.ref h_na) (.ref h_nb) (.ref h_nc) (.int z119) (.int x_mm_clauses) (.ref h_mny) (.ref h_vrs) (.ref h_let) (.ref h_isn) (.ref h_tem) (.ref h_tap) (.int x_mm_taped) (.int z120) (.int z121) (.int z122) (.int z123) (.long z124) (.int z125) (.int z126) (.int z127) (.int 0) (.int z128) (.int x_mm_isProof) (.int x_mm_answers)))), (h_tap, .inl (cy_tap, 600, .inl f_tap))] H := hP.sub [2, 3, 4, 5, 6, 7, 8, 9, 10, 11, 0, 1] rfl
          replace hD : va_D A [(h_nv, .inl (cy_nv, 8000, .inl f129)), (h_nn, .inl (cy_nn, 8000, .inr (.inl f130))), (h_na, .inl (cy_na, 8000, .inl f131)), (h_nb, .inl (cy_nb, 8000, .inl f132)), (h_nc, .inl (cy_nc, 8000, .inl f133)), (h_vrs, .inl (cy_vrs, 32, .inl f134)), (h_let, .inl (cy_let, 256, .inl f135)), (h_mny, .inl (cy_mny, 32, .inl f136)), (h_isn, .inl (cy_isn, 192, .inl f137)), (h_tem, .inl (cy_tem, 192, .inl f138)), (h_mm, .inr (8, (mo134 v_mm (.int 0) (.ref h_nv) (.ref h_nn) (.ref h_na) (.ref h_nb) (.ref h_nc) (.int z119) (.int x_mm_clauses) (.ref h_mny) (.ref h_vrs) (.ref h_let) (.ref h_isn) (.ref h_tem) (.ref h_tap) (.int x_mm_taped) (.int z120) (.int z121) (.int z122) (.int z123) (.long z124) (.int z125) (.int z126) (.int z127) (.int 0) (.int z128) (.int x_mm_isProof) (.int x_mm_answers)))), (h_tap, .inl (cy_tap, 600, .inl f_tap))] := hD.sub [2, 3, 4, 5, 6, 7, 8, 9, 10, 11, 0, 1] (by decide) rfl
          exact ih36 (f129) (f130) (f131) (f132) (f133) (f134) (f135) (f136) (f137) (f138) (z119) (z120) (z121) (z122) (z123) (z124) (z125) (z126) (z127) (z128) (gh139) _ _ _ hf129 hf131 hf132 hf133 hf134 hf136 hf138 (by first | exact k140 | omega) (by first | exact k141 | omega) (by first | exact k142 | omega) (by first | exact k143 | omega) (by first | exact k144 | omega) (by first | exact k145 | omega) (by first | exact k146 | omega) (by first | exact k147 | omega) (by first | exact k148 | omega) (by omega) k154 (nd_cast k155 (by omega)) (tm_mono2 k157 (by omega) (by omega) (by omega) (fun y hy => rfl)) k158 (by omega) hP hD hS (lv_sub hl [0, 1] rfl)
  have cstm1 : ((-1) : Int32).toInt = -1 := by decide
  have cst0 : (0 : Int32).toInt = 0 := by decide
  have cst16 : (16 : Int32).toInt = 16 := by decide
  exact lp35 _ (f_nv) (f_nn) (f_na) (f_nb) (f_nc) (f_vrs) (f_let) (f_mny) (f_isn) (f_tem) (x_mm_nodes) (z3) (z4) (z5) (z6) (z7) (0) (0) ((-1)) (16) (hz) _ _ _ hf_nv hf_na hf_nb hf_nc hf_vrs hf_mny hf_tem (by first | exact hx_mm_nodes | omega) (by first | exact k8 | omega) (by first | exact k9 | omega) (by first | exact k10 | omega) (by decide) (by decide) (by first | exact k12 | omega) (by first | exact k13 | omega) (by omega) (by omega) eqi (nd_cast ndi (by omega)) (tm_mono2 tmi (by omega) (by omega) (by omega) (fun y hy => rfl)) hn_tms (Nat.le_refl _) hP hD hS (lv_sub hl [1, 0] rfl)

set_option maxHeartbeats 8000000 in
set_option maxRecDepth 100000 in
theorem c_X11_drop_e (l : Launch) (dC : Nat → ClassId) (dI : Nat → Nat → Nat) (sz : Nat) (h_mm : Nat) (h_mny : Nat) (h_vrs : Nat) (h_let : Nat) (h_isn : Nat) (h_tem : Nat) (v_mm : Nat → Value) (x_mm_clauses : Int32) (x_mm_isProof : Int32) (x_mm_answers : Int32) (cy_mny : ClassId) (f_mny : Nat → Int32) (cy_vrs : ClassId) (f_vrs : Nat → Int32) (cy_let : ClassId) (f_let : Nat → Int32) (cy_isn : ClassId) (f_isn : Nat → Int32) (cy_tem : ClassId) (f_tem : Nat → Int32) (p1 : Int32) (N : Int) (hz : Nat → Nat) (hx_mm_clauses : 0 ≤ (x_mm_clauses).toInt ∧ (x_mm_clauses).toInt ≤ 16) (hx_mm_isProof : 0 ≤ (x_mm_isProof).toInt ∧ (x_mm_isProof).toInt ≤ 1) (hx_mm_answers : 0 ≤ (x_mm_answers).toInt ∧ (x_mm_answers).toInt ≤ 8) (hf_mny : Rg 0 6 f_mny) (hf_vrs : Rg 0 8 f_vrs) (hf_tem : Rg 0 7999 f_tem) (hn_tms : TM 0 N hz 0 (x_mm_clauses).toInt f_mny f_tem) : Met l yX11_drop (Ws yX11_drop cX11_drop 3 (some .boolean)) (({ frames := 2, cells := 0, slots := 0, locals := 47 } : Room)) (PRE (dC, dI) cls [(cy_mny, .int), (cy_vrs, .int), (cy_let, .int), (cy_isn, .boolean), (cy_tem, .int)] [(h_mm, .inr (8, (mo104 v_mm (.int x_mm_clauses) (.ref h_mny) (.ref h_vrs) (.ref h_let) (.ref h_isn) (.ref h_tem) (.int x_mm_isProof) (.int x_mm_answers)))), (h_mny, .inl (cy_mny, 32, .inl f_mny)), (h_vrs, .inl (cy_vrs, 32, .inl f_vrs)), (h_let, .inl (cy_let, 256, .inl f_let)), (h_isn, .inl (cy_isn, 192, .inl f_isn)), (h_tem, .inl (cy_tem, 192, .inl f_tem))] sz [.ref h_mm, .int p1]) (va_Qi (fun (r : Int32) (u : (Int32) × (Int32) × (Int32) × (Int32) × (Nat → Int32) × (Nat → Int32) × (Nat → Int32) × (Nat → Int32) × (Nat → Int32)) => (0 ≤ (u.2.1).toInt ∧ (u.2.1).toInt ≤ 16) ∧ (0 ≤ (u.2.2.1).toInt ∧ (u.2.2.1).toInt ≤ 1) ∧ (0 ≤ (u.2.2.2.1).toInt ∧ (u.2.2.2.1).toInt ≤ 8) ∧ (Rg 0 6 u.2.2.2.2.1) ∧ (Rg 0 8 u.2.2.2.2.2.1) ∧ (Rg 0 7999 u.2.2.2.2.2.2.2.2) ∧ (0 ≤ r.toInt ∧ r.toInt ≤ 1) ∧ ((u.2.2.1).toInt = 0 ∨ ((u.2.2.1).toInt = (x_mm_isProof).toInt ∧ (u.2.1).toInt = (x_mm_clauses).toInt)) ∧ (TM 0 N hz 0 (u.2.1).toInt u.2.2.2.2.1 u.2.2.2.2.2.2.2.2)) (fun (u : (Int32) × (Int32) × (Int32) × (Int32) × (Nat → Int32) × (Nat → Int32) × (Nat → Int32) × (Nat → Int32) × (Nat → Int32)) (t : State) => va_P (dC, dI) cls [(h_mm, .inr (8, (mo105 v_mm (.int u.1) (.int u.2.1) (.ref h_mny) (.ref h_vrs) (.ref h_let) (.ref h_isn) (.ref h_tem) (.int u.2.2.1) (.int u.2.2.2.1)))), (h_mny, .inl (cy_mny, 32, .inl u.2.2.2.2.1)), (h_vrs, .inl (cy_vrs, 32, .inl u.2.2.2.2.2.1)), (h_let, .inl (cy_let, 256, .inl u.2.2.2.2.2.2.1)), (h_isn, .inl (cy_isn, 192, .inl u.2.2.2.2.2.2.2.1)), (h_tem, .inl (cy_tem, 192, .inl u.2.2.2.2.2.2.2.2))] t.heap ∧ va_D (va_A [(h_mm, .inr (8, (mo104 v_mm (.int x_mm_clauses) (.ref h_mny) (.ref h_vrs) (.ref h_let) (.ref h_isn) (.ref h_tem) (.int x_mm_isProof) (.int x_mm_answers)))), (h_mny, .inl (cy_mny, 32, .inl f_mny)), (h_vrs, .inl (cy_vrs, 32, .inl f_vrs)), (h_let, .inl (cy_let, 256, .inl f_let)), (h_isn, .inl (cy_isn, 192, .inl f_isn)), (h_tem, .inl (cy_tem, 192, .inl f_tem))] sz) [(h_mm, .inr (8, (mo105 v_mm (.int u.1) (.int u.2.1) (.ref h_mny) (.ref h_vrs) (.ref h_let) (.ref h_isn) (.ref h_tem) (.int u.2.2.1) (.int u.2.2.2.1)))), (h_mny, .inl (cy_mny, 32, .inl u.2.2.2.2.1)), (h_vrs, .inl (cy_vrs, 32, .inl u.2.2.2.2.2.1)), (h_let, .inl (cy_let, 256, .inl u.2.2.2.2.2.2.1)), (h_isn, .inl (cy_isn, 192, .inl u.2.2.2.2.2.2.2.1)), (h_tem, .inl (cy_tem, 192, .inl u.2.2.2.2.2.2.2.2))]) (va_A [(h_mm, .inr (8, (mo104 v_mm (.int x_mm_clauses) (.ref h_mny) (.ref h_vrs) (.ref h_let) (.ref h_isn) (.ref h_tem) (.int x_mm_isProof) (.int x_mm_answers)))), (h_mny, .inl (cy_mny, 32, .inl f_mny)), (h_vrs, .inl (cy_vrs, 32, .inl f_vrs)), (h_let, .inl (cy_let, 256, .inl f_let)), (h_isn, .inl (cy_isn, 192, .inl f_isn)), (h_tem, .inl (cy_tem, 192, .inl f_tem))] sz)) 0 0 (va_A [(h_mm, .inr (8, (mo104 v_mm (.int x_mm_clauses) (.ref h_mny) (.ref h_vrs) (.ref h_let) (.ref h_isn) (.ref h_tem) (.int x_mm_isProof) (.int x_mm_answers)))), (h_mny, .inl (cy_mny, 32, .inl f_mny)), (h_vrs, .inl (cy_vrs, 32, .inl f_vrs)), (h_let, .inl (cy_let, 256, .inl f_let)), (h_isn, .inl (cy_isn, 192, .inl f_isn)), (h_tem, .inl (cy_tem, 192, .inl f_tem))] sz) := by
  refine Met.ofW (cc := cX11_drop) (maxL := 3) (ret := (some .boolean)) (by decide) rfl ?_
  intro p e s m args below meth c s₁ B hml hv
  obtain ⟨rfl, hsz, hP, hK, hD0, hN⟩ := hv
  have hx := B.exec
  have hb := B.bytes
  have hr := B.returns
  have hts := atoms_spec (ws := Ws yX11_drop cX11_drop 3 (some .boolean)) B.pre
  have hT : ∀ w ∈ WALL, w ∈ Ws yX11_drop cX11_drop 3 (some .boolean) := fun w h => List.mem_cons_of_mem _ h
  have hw := fun w (h : w ∈ WALL) => hts w (hT w h)
  have hown : s.vm.findClass RX11 = some m.cls := findClass_of_methodNamed B.named
  have hlocks := B.notSynchronized
  subst hsz
  have hD := hD0.self (sz := s.heap.size)
  generalize hAe : va_A [(h_mm, .inr (8, (mo104 v_mm (.int x_mm_clauses) (.ref h_mny) (.ref h_vrs) (.ref h_let) (.ref h_isn) (.ref h_tem) (.int x_mm_isProof) (.int x_mm_answers)))), (h_mny, .inl (cy_mny, 32, .inl f_mny)), (h_vrs, .inl (cy_vrs, 32, .inl f_vrs)), (h_let, .inl (cy_let, 256, .inl f_let)), (h_isn, .inl (cy_isn, 192, .inl f_isn)), (h_tem, .inl (cy_tem, 192, .inl f_tem))] s.heap.size = A at hD ⊢
  have hA : ∀ q : Nat, s.heap.size ≤ q → A q := fun q h => by rw [← hAe]; exact Or.inr h
  have hS : va_S A s.heap s.heap [] := va_S.rf
  have hl := lv_entry ([.ref h_mm, .int p1]) (n := 3) (Nat.le_of_ble_eq_true rfl)
  rw [lg_entry_eq]
  generalize (lg_sl ([.ref h_mm, .int p1]) ++ List.replicate (3 - (lg_sl ([.ref h_mm, .int p1])).length) Slot.unset).toArray = ls at hl ⊢
  have hl : lv_has ls 3 [(0, .ref h_mm), (1, .int p1)] := hl
  refine lv_aload_n hx hb dX11_drop_0 rfl (lv_at hl 0 rfl) ?_
  refine lv_iconst (v := 0) hx hb dX11_drop_1 (by decide) ?_
  refine va_put (D := (dC, dI)) (ci := 8) (v := .int 0) (ty := tyX11 0) (C := RX11) (T := TX11) (N := 71) hx hb hw iwX11 tyX11 tyX11_ok nmX11 hown hK hP hD hS 0 rfl rfl 0 (by decide) (hw _ w_f_X11_1) (fun _ h9 => h9) rfl (tyX11_ok 0 (by decide)) rfl rfl (Nat.le_of_ble_eq_true rfl) dX11_drop_2 (fun H locs hP9 hD9 hS9 => ?_)
  clear hP hD hS
  have hP : va_P (dC, dI) cls [(h_mm, .inr (8, (mo105 v_mm (.int 0) (.int x_mm_clauses) (.ref h_mny) (.ref h_vrs) (.ref h_let) (.ref h_isn) (.ref h_tem) (.int x_mm_isProof) (.int x_mm_answers)))), (h_mny, .inl (cy_mny, 32, .inl f_mny)), (h_vrs, .inl (cy_vrs, 32, .inl f_vrs)), (h_let, .inl (cy_let, 256, .inl f_let)), (h_isn, .inl (cy_isn, 192, .inl f_isn)), (h_tem, .inl (cy_tem, 192, .inl f_tem))] H := hP9
  have hD : va_D A [(h_mm, .inr (8, (mo105 v_mm (.int 0) (.int x_mm_clauses) (.ref h_mny) (.ref h_vrs) (.ref h_let) (.ref h_isn) (.ref h_tem) (.int x_mm_isProof) (.int x_mm_answers)))), (h_mny, .inl (cy_mny, 32, .inl f_mny)), (h_vrs, .inl (cy_vrs, 32, .inl f_vrs)), (h_let, .inl (cy_let, 256, .inl f_let)), (h_isn, .inl (cy_isn, 192, .inl f_isn)), (h_tem, .inl (cy_tem, 192, .inl f_tem))] := hD9
  have hS := hS9
  clear hP9 hD9 hS9
  refine lv_aload_n hx hb dX11_drop_5 rfl (lv_at hl 0 rfl) ?_
  refine lv_iload_n hx hb dX11_drop_6 rfl (lv_at hl 1 rfl) ?_
  obtain ⟨vq1, evq1⟩ := mq105_99 v_mm (.int 0) (.ref h_mny) (.ref h_vrs) (.ref h_let) (.ref h_isn) (.ref h_tem) (.int x_mm_isProof) (.int x_mm_answers)
  replace hP : va_P (dC, dI) cls [(h_mm, .inr (8, (mo99 vq1 (.int x_mm_clauses)))), (h_mny, .inl (cy_mny, 32, .inl f_mny)), (h_vrs, .inl (cy_vrs, 32, .inl f_vrs)), (h_let, .inl (cy_let, 256, .inl f_let)), (h_isn, .inl (cy_isn, 192, .inl f_isn)), (h_tem, .inl (cy_tem, 192, .inl f_tem))] H := by rw [evq1]; exact hP
  replace hD : va_D A [(h_mm, .inr (8, (mo99 vq1 (.int x_mm_clauses)))), (h_mny, .inl (cy_mny, 32, .inl f_mny)), (h_vrs, .inl (cy_vrs, 32, .inl f_vrs)), (h_let, .inl (cy_let, 256, .inl f_let)), (h_isn, .inl (cy_isn, 192, .inl f_isn)), (h_tem, .inl (cy_tem, 192, .inl f_tem))] := by rw [evq1]; exact hD
  have hPc := hP.sub (ws' := [(h_mm, .inr (8, (mo99 vq1 (.int x_mm_clauses))))]) [0] rfl
  have hDc := hD.sub (ws' := [(h_mm, .inr (8, (mo99 vq1 (.int x_mm_clauses))))]) [0] (by decide) rfl
  have hKc := hK.sub (tys' := []) [] rfl
  have hFc := va_free (wc := [(h_mm, .inr (8, (mo99 vq1 (.int x_mm_clauses))))]) hD hS hA [0] rfl
  refine va_calli (va_runV (As := [.int p1]) (rest := []) ⟨hx, hb, hml, hown, hts⟩ (c_X11_isClause l dC dI H.size h_mm vq1 x_mm_clauses p1 (by first | exact hx_mm_clauses | omega)) (cwV 1 hts (gv hT w_m_X11_174 w_instanceMethod_X11_isClause ws_sel_X11_isClause w_ini_X11 w_code_X11_isClause) rfl rfl rfl (by decide +kernel) ⟨(Nat.le_of_ble_eq_true rfl), (Nat.le_of_ble_eq_true rfl)⟩) ⟨pre_blind, va_recv hK hP (ci := 8) (q0 := 0) rfl rfl, pre_of hPc hKc hDc hN⟩ rfl rfl hl.1 rfl (lv_room (Nat.le_of_ble_eq_true rfl)) dX11_drop_7 ⟨(Nat.le_of_ble_eq_true rfl), (Nat.le_of_ble_eq_true rfl)⟩) hS (fun q _ h => hFc q h) hFc (fun r2 u t H locs ht hvm hq hB hz1 hk1 hS9 => ?_)
  obtain ⟨hP1, hD1⟩ := hB
  rw [ht] at hP1
  obtain ⟨hP9, hD9⟩ := va_join (wr := [(h_mny, .inl (cy_mny, 32, .inl f_mny)), (h_vrs, .inl (cy_vrs, 32, .inl f_vrs)), (h_let, .inl (cy_let, 256, .inl f_let)), (h_isn, .inl (cy_isn, 192, .inl f_isn)), (h_tem, .inl (cy_tem, 192, .inl f_tem))]) (w1 := [(h_mm, .inr (8, (mo99 vq1 (.int x_mm_clauses))))]) hP hD [0] [1, 2, 3, 4, 5] rfl rfl (by decide) (by decide) hk1 hFc hP1 hD1
  clear hP hD hS hPc hDc hKc hFc hP1 hD1 hk1 hz1 ht hvm
  have hP : va_P (dC, dI) cls [(h_mny, .inl (cy_mny, 32, .inl f_mny)), (h_vrs, .inl (cy_vrs, 32, .inl f_vrs)), (h_let, .inl (cy_let, 256, .inl f_let)), (h_isn, .inl (cy_isn, 192, .inl f_isn)), (h_tem, .inl (cy_tem, 192, .inl f_tem)), (h_mm, .inr (8, (mo99 vq1 (.int x_mm_clauses))))] H := hP9
  have hD : va_D A [(h_mny, .inl (cy_mny, 32, .inl f_mny)), (h_vrs, .inl (cy_vrs, 32, .inl f_vrs)), (h_let, .inl (cy_let, 256, .inl f_let)), (h_isn, .inl (cy_isn, 192, .inl f_isn)), (h_tem, .inl (cy_tem, 192, .inl f_tem)), (h_mm, .inr (8, (mo99 vq1 (.int x_mm_clauses))))] := hD9
  have hS := hS9
  clear hP9 hD9 hS9
  rw [evq1] at hP hD
  replace hP : va_P (dC, dI) cls [(h_mny, .inl (cy_mny, 32, .inl f_mny)), (h_vrs, .inl (cy_vrs, 32, .inl f_vrs)), (h_let, .inl (cy_let, 256, .inl f_let)), (h_isn, .inl (cy_isn, 192, .inl f_isn)), (h_tem, .inl (cy_tem, 192, .inl f_tem)), (h_mm, .inr (8, (mo105 v_mm (.int 0) (.int x_mm_clauses) (.ref h_mny) (.ref h_vrs) (.ref h_let) (.ref h_isn) (.ref h_tem) (.int x_mm_isProof) (.int x_mm_answers))))] H := hP
  replace hD : va_D A [(h_mny, .inl (cy_mny, 32, .inl f_mny)), (h_vrs, .inl (cy_vrs, 32, .inl f_vrs)), (h_let, .inl (cy_let, 256, .inl f_let)), (h_isn, .inl (cy_isn, 192, .inl f_isn)), (h_tem, .inl (cy_tem, 192, .inl f_tem)), (h_mm, .inr (8, (mo105 v_mm (.int 0) (.int x_mm_clauses) (.ref h_mny) (.ref h_vrs) (.ref h_let) (.ref h_isn) (.ref h_tem) (.int x_mm_isProof) (.int x_mm_answers))))] := hD
  clear evq1 
  rcases hq with ⟨rfl, hq⟩ | rfl
  · have hq : (0 ≤ ((p1)).toInt) ∧ (((p1)).toInt < ((x_mm_clauses)).toInt) := hq
    refine lv_if_ne (tgt := 15) hx hb dX11_drop_10 (by decide) (fun _ => ?_) (fun c9 => absurd c9 (by decide))
    refine lv_iload_n hx hb dX11_drop_15 rfl (lv_at hl 1 rfl) ?_
    refine lv_istore_n (lv' := [(2, .int p1), (0, .ref h_mm), (1, .int p1)]) hx hb dX11_drop_16 rfl hl (by decide) rfl (fun ls hl => ?_)
    have lp9 : ∀ (n : Nat) (x3 : Int32) (f4 : Nat → Int32) (f5 : Nat → Int32) (f6 : Nat → Int32) (f7 : Nat → Int32) (f8 : Nat → Int32) (H : Heap) (locs : List Loc) (ls : Array Slot), (0 ≤ (x3).toInt ∧ (x3).toInt ≤ 15) → (Rg 0 6 f4) → (Rg 0 8 f5) → (Rg 0 7999 f8) → ((x3).toInt < (x_mm_clauses).toInt) → (TM 0 N hz 0 (x_mm_clauses).toInt f4 f8) → (16 - (x3).toInt).toNat + 1 ≤ n → va_P (dC, dI) cls [(h_mny, .inl (cy_mny, 32, .inl f4)), (h_vrs, .inl (cy_vrs, 32, .inl f5)), (h_let, .inl (cy_let, 256, .inl f6)), (h_isn, .inl (cy_isn, 192, .inl f7)), (h_tem, .inl (cy_tem, 192, .inl f8)), (h_mm, .inr (8, (mo105 v_mm (.int 0) (.int x_mm_clauses) (.ref h_mny) (.ref h_vrs) (.ref h_let) (.ref h_isn) (.ref h_tem) (.int x_mm_isProof) (.int x_mm_answers))))] H → va_D A [(h_mny, .inl (cy_mny, 32, .inl f4)), (h_vrs, .inl (cy_vrs, 32, .inl f5)), (h_let, .inl (cy_let, 256, .inl f6)), (h_isn, .inl (cy_isn, 192, .inl f7)), (h_tem, .inl (cy_tem, 192, .inl f8)), (h_mm, .inr (8, (mo105 v_mm (.int 0) (.int x_mm_clauses) (.ref h_mny) (.ref h_vrs) (.ref h_let) (.ref h_isn) (.ref h_tem) (.int x_mm_isProof) (.int x_mm_answers))))] → va_S A s.heap H locs → lv_has ls 3 [(0, .ref h_mm), (1, .int p1), (2, .int x3)] → W p l e ({ frames := 2, cells := 0, slots := 0, locals := 47 } : Room) s m ([.ref h_mm, .int p1] : List Value).toArray below meth c H locs 0 0 (MQ below (va_Qi (fun (r : Int32) (u : (Int32) × (Int32) × (Int32) × (Int32) × (Nat → Int32) × (Nat → Int32) × (Nat → Int32) × (Nat → Int32) × (Nat → Int32)) => (0 ≤ (u.2.1).toInt ∧ (u.2.1).toInt ≤ 16) ∧ (0 ≤ (u.2.2.1).toInt ∧ (u.2.2.1).toInt ≤ 1) ∧ (0 ≤ (u.2.2.2.1).toInt ∧ (u.2.2.2.1).toInt ≤ 8) ∧ (Rg 0 6 u.2.2.2.2.1) ∧ (Rg 0 8 u.2.2.2.2.2.1) ∧ (Rg 0 7999 u.2.2.2.2.2.2.2.2) ∧ (0 ≤ r.toInt ∧ r.toInt ≤ 1) ∧ ((u.2.2.1).toInt = 0 ∨ ((u.2.2.1).toInt = (x_mm_isProof).toInt ∧ (u.2.1).toInt = (x_mm_clauses).toInt)) ∧ (TM 0 N hz 0 (u.2.1).toInt u.2.2.2.2.1 u.2.2.2.2.2.2.2.2)) (fun (u : (Int32) × (Int32) × (Int32) × (Int32) × (Nat → Int32) × (Nat → Int32) × (Nat → Int32) × (Nat → Int32) × (Nat → Int32)) (t : State) => va_P (dC, dI) cls [(h_mm, .inr (8, (mo105 v_mm (.int u.1) (.int u.2.1) (.ref h_mny) (.ref h_vrs) (.ref h_let) (.ref h_isn) (.ref h_tem) (.int u.2.2.1) (.int u.2.2.2.1)))), (h_mny, .inl (cy_mny, 32, .inl u.2.2.2.2.1)), (h_vrs, .inl (cy_vrs, 32, .inl u.2.2.2.2.2.1)), (h_let, .inl (cy_let, 256, .inl u.2.2.2.2.2.2.1)), (h_isn, .inl (cy_isn, 192, .inl u.2.2.2.2.2.2.2.1)), (h_tem, .inl (cy_tem, 192, .inl u.2.2.2.2.2.2.2.2))] t.heap ∧ va_D A [(h_mm, .inr (8, (mo105 v_mm (.int u.1) (.int u.2.1) (.ref h_mny) (.ref h_vrs) (.ref h_let) (.ref h_isn) (.ref h_tem) (.int u.2.2.1) (.int u.2.2.2.1)))), (h_mny, .inl (cy_mny, 32, .inl u.2.2.2.2.1)), (h_vrs, .inl (cy_vrs, 32, .inl u.2.2.2.2.2.1)), (h_let, .inl (cy_let, 256, .inl u.2.2.2.2.2.2.1)), (h_isn, .inl (cy_isn, 192, .inl u.2.2.2.2.2.2.2.1)), (h_tem, .inl (cy_tem, 192, .inl u.2.2.2.2.2.2.2.2))]) A) ([.ref h_mm, .int p1] : List Value).toArray s 0 0 A) (F0 m 17 ls []) := by
      clear hP hD hS hl
      intro n
      induction n with
      | zero => intro x3 f4 f5 f6 f7 f8 H locs ls klp9_0 hf4 hf5 hf8 klp9_4 klp9_5 hm hP hD hS hl; exact False.elim (by omega)
      | succ n ih => 
        intro x3 f4 f5 f6 f7 f8 H locs ls klp9_0 hf4 hf5 hf8 klp9_4 klp9_5 hm hP hD hS hl
        have ih10 := ih
        clear ih
        refine lv_iload_n hx hb dX11_drop_17 rfl (lv_at hl 2 rfl) ?_
        refine lv_iconst (v := 1) hx hb dX11_drop_18 (by decide) ?_
        refine lv_iadd hx hb dX11_drop_19 ?_
        refine lv_topi (fun z11 ez11 => ?_)
        have tz11 : (z11).toInt = (x3).toInt + 1 := by rw [ez11]; exact i_add rfl (by decide) (by omega)
        refine lv_aload_n hx hb dX11_drop_20 rfl (lv_at hl 0 rfl) ?_
        refine va_get (D := (dC, dI)) (ci := 8) (v := .int x_mm_clauses) (C := RX11) (T := TX11) (N := 71) hx hb hw iwX11 hown hK hP 5 rfl rfl 7 (by decide) (hw _ w_f_X11_164) (fun _ h9 => h9) rfl dX11_drop_21 ?_
        refine lv_icmp_ge (tgt := 41) hx hb dX11_drop_24 (by decide) (fun c12 => ?_) (fun c12 => ?_)
        · have kc12 := (cv_le (rfl : (x_mm_clauses).toInt = (x_mm_clauses).toInt) (rfl : (z11).toInt = (z11).toInt)).mp c12
          refine lv_aload_n hx hb dX11_drop_41 rfl (lv_at hl 0 rfl) ?_
          refine lv_aload_n hx hb dX11_drop_42 rfl (lv_at hl 0 rfl) ?_
          refine va_get (D := (dC, dI)) (ci := 8) (v := .int x_mm_clauses) (C := RX11) (T := TX11) (N := 71) hx hb hw iwX11 hown hK hP 5 rfl rfl 7 (by decide) (hw _ w_f_X11_164) (fun _ h9 => h9) rfl dX11_drop_43 ?_
          refine lv_iconst (v := 1) hx hb dX11_drop_46 (by decide) ?_
          refine lv_isub hx hb dX11_drop_47 ?_
          refine lv_topi (fun z13 ez13 => ?_)
          have tz13 : (z13).toInt = (x_mm_clauses).toInt - 1 := by rw [ez13]; exact i_sub rfl (by decide) (by omega)
          refine va_put (D := (dC, dI)) (ci := 8) (v := .int z13) (ty := tyX11 7) (C := RX11) (T := TX11) (N := 71) hx hb hw iwX11 tyX11 tyX11_ok nmX11 hown hK hP hD hS 5 rfl rfl 7 (by decide) (hw _ w_f_X11_164) (fun _ h9 => h9) rfl (tyX11_ok 7 (by decide)) rfl rfl (Nat.le_of_ble_eq_true rfl) dX11_drop_48 (fun H locs hP9 hD9 hS9 => ?_)
          clear hP hD hS
          have hP : va_P (dC, dI) cls [(h_mny, .inl (cy_mny, 32, .inl f4)), (h_vrs, .inl (cy_vrs, 32, .inl f5)), (h_let, .inl (cy_let, 256, .inl f6)), (h_isn, .inl (cy_isn, 192, .inl f7)), (h_tem, .inl (cy_tem, 192, .inl f8)), (h_mm, .inr (8, (mo105 v_mm (.int 0) (.int z13) (.ref h_mny) (.ref h_vrs) (.ref h_let) (.ref h_isn) (.ref h_tem) (.int x_mm_isProof) (.int x_mm_answers))))] H := hP9
          have hD : va_D A [(h_mny, .inl (cy_mny, 32, .inl f4)), (h_vrs, .inl (cy_vrs, 32, .inl f5)), (h_let, .inl (cy_let, 256, .inl f6)), (h_isn, .inl (cy_isn, 192, .inl f7)), (h_tem, .inl (cy_tem, 192, .inl f8)), (h_mm, .inr (8, (mo105 v_mm (.int 0) (.int z13) (.ref h_mny) (.ref h_vrs) (.ref h_let) (.ref h_isn) (.ref h_tem) (.int x_mm_isProof) (.int x_mm_answers))))] := hD9
          have hS := hS9
          clear hP9 hD9 hS9
          have tm14 : TM 0 N hz 0 (z13).toInt f4 f8 := tm_less klp9_5 (by omega)
          refine lv_aload_n hx hb dX11_drop_51 rfl (lv_at hl 0 rfl) ?_
          obtain ⟨vq15, evq15⟩ := mq105_103 v_mm (.int 0) (.int z13) (.ref h_mny) (.ref h_vrs) (.ref h_let) (.ref h_isn) (.ref h_tem)
          replace hP : va_P (dC, dI) cls [(h_mny, .inl (cy_mny, 32, .inl f4)), (h_vrs, .inl (cy_vrs, 32, .inl f5)), (h_let, .inl (cy_let, 256, .inl f6)), (h_isn, .inl (cy_isn, 192, .inl f7)), (h_tem, .inl (cy_tem, 192, .inl f8)), (h_mm, .inr (8, (mo103 vq15 (.int x_mm_isProof) (.int x_mm_answers))))] H := by rw [evq15]; exact hP
          replace hD : va_D A [(h_mny, .inl (cy_mny, 32, .inl f4)), (h_vrs, .inl (cy_vrs, 32, .inl f5)), (h_let, .inl (cy_let, 256, .inl f6)), (h_isn, .inl (cy_isn, 192, .inl f7)), (h_tem, .inl (cy_tem, 192, .inl f8)), (h_mm, .inr (8, (mo103 vq15 (.int x_mm_isProof) (.int x_mm_answers))))] := by rw [evq15]; exact hD
          have hPc := hP.sub (ws' := [(h_mm, .inr (8, (mo103 vq15 (.int x_mm_isProof) (.int x_mm_answers))))]) [5] rfl
          have hDc := hD.sub (ws' := [(h_mm, .inr (8, (mo103 vq15 (.int x_mm_isProof) (.int x_mm_answers))))]) [5] (by decide) rfl
          have hKc := hK.sub (tys' := []) [] rfl
          have hFc := va_free (wc := [(h_mm, .inr (8, (mo103 vq15 (.int x_mm_isProof) (.int x_mm_answers))))]) hD hS hA [5] rfl
          refine va_callv (va_runV (As := []) (rest := []) ⟨hx, hb, hml, hown, hts⟩ (c_X11_forgets_e l dC dI H.size h_mm vq15 x_mm_isProof x_mm_answers (by first | exact hx_mm_isProof | omega) (by first | exact hx_mm_answers | omega)) (cwV 0 hts (gv hT w_m_X11_171 w_instanceMethod_X11_forgets ws_sel_X11_forgets w_ini_X11 w_code_X11_forgets) rfl rfl rfl (by decide +kernel) ⟨(Nat.le_of_ble_eq_true rfl), (Nat.le_of_ble_eq_true rfl)⟩) ⟨pre_blind, va_recv hK hP (ci := 8) (q0 := 5) rfl rfl, pre_of hPc hKc hDc hN⟩ rfl rfl hl.1 rfl (lv_room (Nat.le_of_ble_eq_true rfl)) dX11_drop_52 ⟨(Nat.le_of_ble_eq_true rfl), (Nat.le_of_ble_eq_true rfl)⟩) hS (fun q _ h => hFc q h) hFc (fun u t H locs ht hvm hq hB hz1 hk1 hS9 => ?_)
          obtain ⟨z17, z18⟩ := u
          obtain ⟨hP1, hD1⟩ := hB
          rw [ht] at hP1
          obtain ⟨hP9, hD9⟩ := va_join (wr := [(h_mny, .inl (cy_mny, 32, .inl f4)), (h_vrs, .inl (cy_vrs, 32, .inl f5)), (h_let, .inl (cy_let, 256, .inl f6)), (h_isn, .inl (cy_isn, 192, .inl f7)), (h_tem, .inl (cy_tem, 192, .inl f8))]) (w1 := [(h_mm, .inr (8, (mo103 vq15 (.int z17) (.int z18))))]) hP hD [5] [0, 1, 2, 3, 4] rfl rfl (by decide) (by decide) hk1 hFc hP1 hD1
          clear hP hD hS hPc hDc hKc hFc hP1 hD1 hk1 hz1 ht hvm
          have hP : va_P (dC, dI) cls [(h_mny, .inl (cy_mny, 32, .inl f4)), (h_vrs, .inl (cy_vrs, 32, .inl f5)), (h_let, .inl (cy_let, 256, .inl f6)), (h_isn, .inl (cy_isn, 192, .inl f7)), (h_tem, .inl (cy_tem, 192, .inl f8)), (h_mm, .inr (8, (mo103 vq15 (.int z17) (.int z18))))] H := hP9
          have hD : va_D A [(h_mny, .inl (cy_mny, 32, .inl f4)), (h_vrs, .inl (cy_vrs, 32, .inl f5)), (h_let, .inl (cy_let, 256, .inl f6)), (h_isn, .inl (cy_isn, 192, .inl f7)), (h_tem, .inl (cy_tem, 192, .inl f8)), (h_mm, .inr (8, (mo103 vq15 (.int z17) (.int z18))))] := hD9
          have hS := hS9
          clear hP9 hD9 hS9
          rw [evq15] at hP hD
          replace hP : va_P (dC, dI) cls [(h_mny, .inl (cy_mny, 32, .inl f4)), (h_vrs, .inl (cy_vrs, 32, .inl f5)), (h_let, .inl (cy_let, 256, .inl f6)), (h_isn, .inl (cy_isn, 192, .inl f7)), (h_tem, .inl (cy_tem, 192, .inl f8)), (h_mm, .inr (8, (mo105 v_mm (.int 0) (.int z13) (.ref h_mny) (.ref h_vrs) (.ref h_let) (.ref h_isn) (.ref h_tem) (.int z17) (.int z18))))] H := hP
          replace hD : va_D A [(h_mny, .inl (cy_mny, 32, .inl f4)), (h_vrs, .inl (cy_vrs, 32, .inl f5)), (h_let, .inl (cy_let, 256, .inl f6)), (h_isn, .inl (cy_isn, 192, .inl f7)), (h_tem, .inl (cy_tem, 192, .inl f8)), (h_mm, .inr (8, (mo105 v_mm (.int 0) (.int z13) (.ref h_mny) (.ref h_vrs) (.ref h_let) (.ref h_isn) (.ref h_tem) (.int z17) (.int z18))))] := hD
          clear evq15 
          obtain ⟨k19, k20, k21, k22⟩ := hq
          have k19 : 0 ≤ ((z17)).toInt ∧ ((z17)).toInt ≤ 1 := k19
          have k20 : 0 ≤ ((z18)).toInt ∧ ((z18)).toInt ≤ 8 := k20
          have k21 : ((z17)).toInt = 0 := k21
          have k22 : ((z18)).toInt = 0 := k22
          refine lv_iconst (v := 1) hx hb dX11_drop_55 (by decide) ?_
          replace hP : va_P (dC, dI) cls [(h_mm, .inr (8, (mo105 v_mm (.int 0) (.int z13) (.ref h_mny) (.ref h_vrs) (.ref h_let) (.ref h_isn) (.ref h_tem) (.int z17) (.int z18)))), (h_mny, .inl (cy_mny, 32, .inl f4)), (h_vrs, .inl (cy_vrs, 32, .inl f5)), (h_let, .inl (cy_let, 256, .inl f6)), (h_isn, .inl (cy_isn, 192, .inl f7)), (h_tem, .inl (cy_tem, 192, .inl f8))] H := hP.sub [5, 0, 1, 2, 3, 4] rfl
          replace hD : va_D A [(h_mm, .inr (8, (mo105 v_mm (.int 0) (.int z13) (.ref h_mny) (.ref h_vrs) (.ref h_let) (.ref h_isn) (.ref h_tem) (.int z17) (.int z18)))), (h_mny, .inl (cy_mny, 32, .inl f4)), (h_vrs, .inl (cy_vrs, 32, .inl f5)), (h_let, .inl (cy_let, 256, .inl f6)), (h_isn, .inl (cy_isn, 192, .inl f7)), (h_tem, .inl (cy_tem, 192, .inl f8))] := hD.sub [5, 0, 1, 2, 3, 4] (by decide) rfl
          refine W.widen (k := 0) (n := 0) (Nat.le_of_ble_eq_true rfl) (Nat.le_of_ble_eq_true rfl) ?_
          have cst1 : (1 : Int32).toInt = 1 := by decide
          have cst0 : (0 : Int32).toInt = 0 := by decide
          have w23 : 0 ≤ ((z13)).toInt ∧ ((z13)).toInt ≤ 16 := by omega
          have w24 : 0 ≤ ((z17)).toInt ∧ ((z17)).toInt ≤ 1 := by first | exact k19 | omega
          have w25 : 0 ≤ ((z18)).toInt ∧ ((z18)).toInt ≤ 8 := by first | exact k20 | omega
          have w26 : 0 ≤ (1 : Int32).toInt ∧ (1 : Int32).toInt ≤ 1 := by omega
          have w27 : ((z17)).toInt = 0 ∨ (((z17)).toInt = (x_mm_isProof).toInt ∧ ((z13)).toInt = (x_mm_clauses).toInt) := by omega
          have w28 : TM 0 N hz 0 ((z13)).toInt (f4) (f8) := tm14
          exact W.zret (v := 1) (ty := .boolean) hx hb hr (by decide) (fun t ht hW => ⟨⟨1, (0, z13, z17, z18, f4, f5, f6, f7, f8), rfl, ⟨w23, w24, w25, hf4, hf5, hf8, w26, w27, w28⟩, by rw [ht]; exact hP, hD⟩, hS.F ht⟩) hS.2.2 dX11_drop_56
        · have kc12 := (not_congr (cv_le (rfl : (x_mm_clauses).toInt = (x_mm_clauses).toInt) (rfl : (z11).toInt = (z11).toInt))).mp c12
          refine lv_aload_n hx hb dX11_drop_27 rfl (lv_at hl 0 rfl) ?_
          refine lv_iload_n hx hb dX11_drop_28 rfl (lv_at hl 2 rfl) ?_
          refine lv_iconst (v := 1) hx hb dX11_drop_29 (by decide) ?_
          refine lv_iadd hx hb dX11_drop_30 ?_
          refine lv_topi (fun z29 ez29 => ?_)
          have qz29 : (z29).toInt = (z11).toInt := by rw [ez29, ez11]
          have tz29 : (z29).toInt = (x3).toInt + 1 := by rw [ez29]; exact i_add rfl (by decide) (by omega)
          refine lv_iload_n hx hb dX11_drop_31 rfl (lv_at hl 2 rfl) ?_
          obtain ⟨vq30, evq30⟩ := mq105_101 v_mm (.int 0) (.int x_mm_clauses) (.int x_mm_isProof) (.int x_mm_answers)
          replace hP : va_P (dC, dI) cls [(h_mny, .inl (cy_mny, 32, .inl f4)), (h_vrs, .inl (cy_vrs, 32, .inl f5)), (h_let, .inl (cy_let, 256, .inl f6)), (h_isn, .inl (cy_isn, 192, .inl f7)), (h_tem, .inl (cy_tem, 192, .inl f8)), (h_mm, .inr (8, (mo101 vq30 (.ref h_mny) (.ref h_vrs) (.ref h_let) (.ref h_isn) (.ref h_tem))))] H := by rw [evq30]; exact hP
          replace hD : va_D A [(h_mny, .inl (cy_mny, 32, .inl f4)), (h_vrs, .inl (cy_vrs, 32, .inl f5)), (h_let, .inl (cy_let, 256, .inl f6)), (h_isn, .inl (cy_isn, 192, .inl f7)), (h_tem, .inl (cy_tem, 192, .inl f8)), (h_mm, .inr (8, (mo101 vq30 (.ref h_mny) (.ref h_vrs) (.ref h_let) (.ref h_isn) (.ref h_tem))))] := by rw [evq30]; exact hD
          have hPc := hP.sub (ws' := [(h_mm, .inr (8, (mo101 vq30 (.ref h_mny) (.ref h_vrs) (.ref h_let) (.ref h_isn) (.ref h_tem)))), (h_mny, .inl (cy_mny, 32, .inl f4)), (h_vrs, .inl (cy_vrs, 32, .inl f5)), (h_let, .inl (cy_let, 256, .inl f6)), (h_isn, .inl (cy_isn, 192, .inl f7)), (h_tem, .inl (cy_tem, 192, .inl f8))]) [5, 0, 1, 2, 3, 4] rfl
          have hDc := hD.sub (ws' := [(h_mm, .inr (8, (mo101 vq30 (.ref h_mny) (.ref h_vrs) (.ref h_let) (.ref h_isn) (.ref h_tem)))), (h_mny, .inl (cy_mny, 32, .inl f4)), (h_vrs, .inl (cy_vrs, 32, .inl f5)), (h_let, .inl (cy_let, 256, .inl f6)), (h_isn, .inl (cy_isn, 192, .inl f7)), (h_tem, .inl (cy_tem, 192, .inl f8))]) [5, 0, 1, 2, 3, 4] (by decide) rfl
          have hKc := hK.sub (tys' := [(cy_mny, .int), (cy_vrs, .int), (cy_let, .int), (cy_isn, .boolean), (cy_tem, .int)]) [0, 1, 2, 3, 4] rfl
          have hFc := va_free (wc := [(h_mm, .inr (8, (mo101 vq30 (.ref h_mny) (.ref h_vrs) (.ref h_let) (.ref h_isn) (.ref h_tem)))), (h_mny, .inl (cy_mny, 32, .inl f4)), (h_vrs, .inl (cy_vrs, 32, .inl f5)), (h_let, .inl (cy_let, 256, .inl f6)), (h_isn, .inl (cy_isn, 192, .inl f7)), (h_tem, .inl (cy_tem, 192, .inl f8))]) hD hS hA [5, 0, 1, 2, 3, 4] rfl
          refine va_callv (va_runV (As := [.int z29, .int x3]) (rest := []) ⟨hx, hb, hml, hown, hts⟩ (c_X11_copiesClause_e l dC dI H.size h_mm h_mny h_vrs h_let h_isn h_tem vq30 cy_mny f4 cy_vrs f5 cy_let f6 cy_isn f7 cy_tem f8 z29 x3 hf4 hf5 hf8 (by omega) (by omega)) (cwV 2 hts (gv hT w_m_X11_167 w_instanceMethod_X11_copiesClause ws_sel_X11_copiesClause w_ini_X11 w_code_X11_copiesClause) rfl rfl rfl (by decide +kernel) ⟨(Nat.le_of_ble_eq_true rfl), (Nat.le_of_ble_eq_true rfl)⟩) ⟨pre_blind, va_recv hK hP (ci := 8) (q0 := 5) rfl rfl, pre_of hPc hKc hDc hN⟩ rfl rfl hl.1 rfl (lv_room (Nat.le_of_ble_eq_true rfl)) dX11_drop_32 ⟨(Nat.le_of_ble_eq_true rfl), (Nat.le_of_ble_eq_true rfl)⟩) hS (fun q _ h => hFc q h) hFc (fun u t H locs ht hvm hq hB hz1 hk1 hS9 => ?_)
          obtain ⟨f32, f33, f34, f35, f36⟩ := u
          obtain ⟨hP1, hD1⟩ := hB
          rw [ht] at hP1
          obtain ⟨hP9, hD9⟩ := va_join (wr := []) (w1 := [(h_mm, .inr (8, (mo101 vq30 (.ref h_mny) (.ref h_vrs) (.ref h_let) (.ref h_isn) (.ref h_tem)))), (h_mny, .inl (cy_mny, 32, .inl f32)), (h_vrs, .inl (cy_vrs, 32, .inl f33)), (h_let, .inl (cy_let, 256, .inl f34)), (h_isn, .inl (cy_isn, 192, .inl f35)), (h_tem, .inl (cy_tem, 192, .inl f36))]) hP hD [5, 0, 1, 2, 3, 4] [] rfl rfl (by decide) (by decide) hk1 hFc hP1 hD1
          clear hP hD hS hPc hDc hKc hFc hP1 hD1 hk1 hz1 ht hvm
          have hP : va_P (dC, dI) cls [(h_mm, .inr (8, (mo101 vq30 (.ref h_mny) (.ref h_vrs) (.ref h_let) (.ref h_isn) (.ref h_tem)))), (h_mny, .inl (cy_mny, 32, .inl f32)), (h_vrs, .inl (cy_vrs, 32, .inl f33)), (h_let, .inl (cy_let, 256, .inl f34)), (h_isn, .inl (cy_isn, 192, .inl f35)), (h_tem, .inl (cy_tem, 192, .inl f36))] H := hP9
          have hD : va_D A [(h_mm, .inr (8, (mo101 vq30 (.ref h_mny) (.ref h_vrs) (.ref h_let) (.ref h_isn) (.ref h_tem)))), (h_mny, .inl (cy_mny, 32, .inl f32)), (h_vrs, .inl (cy_vrs, 32, .inl f33)), (h_let, .inl (cy_let, 256, .inl f34)), (h_isn, .inl (cy_isn, 192, .inl f35)), (h_tem, .inl (cy_tem, 192, .inl f36))] := hD9
          have hS := hS9
          clear hP9 hD9 hS9
          rw [evq30] at hP hD
          replace hP : va_P (dC, dI) cls [(h_mm, .inr (8, (mo105 v_mm (.int 0) (.int x_mm_clauses) (.ref h_mny) (.ref h_vrs) (.ref h_let) (.ref h_isn) (.ref h_tem) (.int x_mm_isProof) (.int x_mm_answers)))), (h_mny, .inl (cy_mny, 32, .inl f32)), (h_vrs, .inl (cy_vrs, 32, .inl f33)), (h_let, .inl (cy_let, 256, .inl f34)), (h_isn, .inl (cy_isn, 192, .inl f35)), (h_tem, .inl (cy_tem, 192, .inl f36))] H := hP
          replace hD : va_D A [(h_mm, .inr (8, (mo105 v_mm (.int 0) (.int x_mm_clauses) (.ref h_mny) (.ref h_vrs) (.ref h_let) (.ref h_isn) (.ref h_tem) (.int x_mm_isProof) (.int x_mm_answers)))), (h_mny, .inl (cy_mny, 32, .inl f32)), (h_vrs, .inl (cy_vrs, 32, .inl f33)), (h_let, .inl (cy_let, 256, .inl f34)), (h_isn, .inl (cy_isn, 192, .inl f35)), (h_tem, .inl (cy_tem, 192, .inl f36))] := hD
          clear evq30 
          obtain ⟨hf32, hf33, hf36, k37, k38⟩ := hq
          have hf32 : Rg 0 6 (f32) := hf32
          have hf33 : Rg 0 8 (f33) := hf33
          have hf36 : Rg 0 7999 (f36) := hf36
          have k37 : (f32) = upd (f4) (Int32.toNatClampNeg (x3)) ((f4) (Int32.toNatClampNeg (z29))) := k37
          have k38 : CPT 6 (f8) (f36) (z29) (x3) := k38
          have ckp := clamp_nat (i := z29) (by omega)
          have tc39 : TMc 0 N hz f4 f8 (Int32.toNatClampNeg z29) := tm_at klp9_5 (by omega) (by omega)
          have tm40 : TM 0 N hz 0 (x_mm_clauses).toInt f32 f36 := tm_copy klp9_5 (by omega) (by omega) tc39 k37 k38 (Or.inl (by omega))
          obtain ⟨z41, ez41⟩ : ∃ y : Int32, y = x3 + 1 := ⟨_, rfl⟩
          have tz41 : (z41).toInt = (x3).toInt + 1 := by rw [ez41]; exact i_add rfl (by decide) (by omega)
          refine lv_iinc (v := z41) (lv' := [(2, .int z41), (0, .ref h_mm), (1, .int p1)]) hx hb dX11_drop_35 hl (k := 2) rfl (by rw [ez41]; rfl) (by decide) rfl (fun ls hl => ?_)
          refine lv_goto (tgt := 17) hx hb dX11_drop_38 (by decide) ?_
          replace hP : va_P (dC, dI) cls [(h_mny, .inl (cy_mny, 32, .inl f32)), (h_vrs, .inl (cy_vrs, 32, .inl f33)), (h_let, .inl (cy_let, 256, .inl f34)), (h_isn, .inl (cy_isn, 192, .inl f35)), (h_tem, .inl (cy_tem, 192, .inl f36)), (h_mm, .inr (8, (mo105 v_mm (.int 0) (.int x_mm_clauses) (.ref h_mny) (.ref h_vrs) (.ref h_let) (.ref h_isn) (.ref h_tem) (.int x_mm_isProof) (.int x_mm_answers))))] H := hP.sub [1, 2, 3, 4, 5, 0] rfl
          replace hD : va_D A [(h_mny, .inl (cy_mny, 32, .inl f32)), (h_vrs, .inl (cy_vrs, 32, .inl f33)), (h_let, .inl (cy_let, 256, .inl f34)), (h_isn, .inl (cy_isn, 192, .inl f35)), (h_tem, .inl (cy_tem, 192, .inl f36)), (h_mm, .inr (8, (mo105 v_mm (.int 0) (.int x_mm_clauses) (.ref h_mny) (.ref h_vrs) (.ref h_let) (.ref h_isn) (.ref h_tem) (.int x_mm_isProof) (.int x_mm_answers))))] := hD.sub [1, 2, 3, 4, 5, 0] (by decide) rfl
          exact ih10 (z41) (f32) (f33) (f34) (f35) (f36) _ _ _ (by omega) hf32 hf33 hf36 (by omega) tm40 (by omega) hP hD hS (lv_sub hl [1, 2, 0] rfl)
    exact lp9 _ (p1) (f_mny) (f_vrs) (f_let) (f_isn) (f_tem) _ _ _ (by omega) hf_mny hf_vrs hf_tem (by omega) hn_tms (Nat.le_refl _) hP hD hS (lv_sub hl [1, 2, 0] rfl)
  · have hq : True := trivial
    refine lv_if_ne (tgt := 15) hx hb dX11_drop_10 (by decide) (fun c9 => absurd c9 (by decide)) (fun _ => ?_)
    refine lv_iconst (v := 0) hx hb dX11_drop_13 (by decide) ?_
    replace hP : va_P (dC, dI) cls [(h_mm, .inr (8, (mo105 v_mm (.int 0) (.int x_mm_clauses) (.ref h_mny) (.ref h_vrs) (.ref h_let) (.ref h_isn) (.ref h_tem) (.int x_mm_isProof) (.int x_mm_answers)))), (h_mny, .inl (cy_mny, 32, .inl f_mny)), (h_vrs, .inl (cy_vrs, 32, .inl f_vrs)), (h_let, .inl (cy_let, 256, .inl f_let)), (h_isn, .inl (cy_isn, 192, .inl f_isn)), (h_tem, .inl (cy_tem, 192, .inl f_tem))] H := hP.sub [5, 0, 1, 2, 3, 4] rfl
    replace hD : va_D A [(h_mm, .inr (8, (mo105 v_mm (.int 0) (.int x_mm_clauses) (.ref h_mny) (.ref h_vrs) (.ref h_let) (.ref h_isn) (.ref h_tem) (.int x_mm_isProof) (.int x_mm_answers)))), (h_mny, .inl (cy_mny, 32, .inl f_mny)), (h_vrs, .inl (cy_vrs, 32, .inl f_vrs)), (h_let, .inl (cy_let, 256, .inl f_let)), (h_isn, .inl (cy_isn, 192, .inl f_isn)), (h_tem, .inl (cy_tem, 192, .inl f_tem))] := hD.sub [5, 0, 1, 2, 3, 4] (by decide) rfl
    refine W.widen (k := 0) (n := 0) (Nat.le_of_ble_eq_true rfl) (Nat.le_of_ble_eq_true rfl) ?_
    have cst0 : (0 : Int32).toInt = 0 := by decide
    have w42 : 0 ≤ ((x_mm_clauses)).toInt ∧ ((x_mm_clauses)).toInt ≤ 16 := by first | exact hx_mm_clauses | omega
    have w43 : 0 ≤ ((x_mm_isProof)).toInt ∧ ((x_mm_isProof)).toInt ≤ 1 := by first | exact hx_mm_isProof | omega
    have w44 : 0 ≤ ((x_mm_answers)).toInt ∧ ((x_mm_answers)).toInt ≤ 8 := by first | exact hx_mm_answers | omega
    have w45 : 0 ≤ (0 : Int32).toInt ∧ (0 : Int32).toInt ≤ 1 := by omega
    have w46 : ((x_mm_isProof)).toInt = 0 ∨ (((x_mm_isProof)).toInt = (x_mm_isProof).toInt ∧ ((x_mm_clauses)).toInt = (x_mm_clauses).toInt) := by omega
    have w47 : TM 0 N hz 0 ((x_mm_clauses)).toInt (f_mny) (f_tem) := hn_tms
    exact W.zret (v := 0) (ty := .boolean) hx hb hr (by decide) (fun t ht hW => ⟨⟨0, (0, x_mm_clauses, x_mm_isProof, x_mm_answers, f_mny, f_vrs, f_let, f_isn, f_tem), rfl, ⟨w42, w43, w44, hf_mny, hf_vrs, hf_tem, w45, w46, w47⟩, by rw [ht]; exact hP, hD⟩, hS.F ht⟩) hS.2.2 dX11_drop_14

