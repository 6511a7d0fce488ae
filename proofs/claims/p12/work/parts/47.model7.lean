theorem w_code_X11_areAlike : Cond.code yX11_areAlike prog_13_method_43_code 10 (some .boolean) ∈ WALL := wall_t (tb_6 231 (by decide +kernel)) rfl
theorem w_code_X11_binds : Cond.code yX11_binds prog_13_method_38_code 4 none ∈ WALL := wall_t (tb_6 145 (by decide +kernel)) rfl
theorem w_code_X11_counts : Cond.code yX11_counts prog_13_method_44_code 7 none ∈ WALL := wall_t (tb_6 223 (by decide +kernel)) rfl
theorem w_code_X11_goesTo : Cond.code yX11_goesTo prog_13_method_40_code 4 none ∈ WALL := wall_t (tb_6 133 (by decide +kernel)) rfl
theorem w_code_X11_holds : Cond.code yX11_holds prog_13_method_41_code 7 (some .boolean) ∈ WALL := wall_t (tb_6 141 (by decide +kernel)) rfl
theorem w_code_X11_slotOf : Cond.code yX11_slotOf prog_13_method_39_code 3 (some .int) ∈ WALL := wall_t (tb_6 137 (by decide +kernel)) rfl
theorem w_code_X11_unifies : Cond.code yX11_unifies prog_13_method_42_code 10 (some .boolean) ∈ WALL := wall_t (tb_6 129 (by decide +kernel)) rfl
theorem w_f_X11_198 : Cond.fieldLink "OppositePairsModel" 198 "OppositePairsModel" "boundIn" "[I" ∈ WALL := wall_t (tb_5 166 (by decide +kernel)) rfl
theorem w_f_X11_264 : Cond.fieldLink "OppositePairsModel" 264 "OppositePairsModel" "goneTo" "I" ∈ WALL := wall_t (tb_5 169 (by decide +kernel)) rfl
theorem w_f_X11_267 : Cond.fieldLink "OppositePairsModel" 267 "OppositePairsModel" "goneIn" "I" ∈ WALL := wall_t (tb_5 170 (by decide +kernel)) rfl
theorem w_f_X11_291 : Cond.fieldLink "OppositePairsModel" 291 "OppositePairsModel" "counted" "I" ∈ WALL := wall_t (tb_5 171 (by decide +kernel)) rfl
theorem w_instanceMethod_X11_areAlike : Cond.instanceMethod yX11_areAlike ∈ WALL := wall_t (tb_6 230 (by decide +kernel)) rfl
theorem w_instanceMethod_X11_binds : Cond.instanceMethod yX11_binds ∈ WALL := wall_t (tb_6 144 (by decide +kernel)) rfl
theorem w_instanceMethod_X11_counts : Cond.instanceMethod yX11_counts ∈ WALL := wall_t (tb_6 222 (by decide +kernel)) rfl
theorem w_instanceMethod_X11_goesTo : Cond.instanceMethod yX11_goesTo ∈ WALL := wall_t (tb_6 132 (by decide +kernel)) rfl
theorem w_instanceMethod_X11_holds : Cond.instanceMethod yX11_holds ∈ WALL := wall_t (tb_6 140 (by decide +kernel)) rfl
theorem w_instanceMethod_X11_slotOf : Cond.instanceMethod yX11_slotOf ∈ WALL := wall_t (tb_6 136 (by decide +kernel)) rfl
theorem w_instanceMethod_X11_unifies : Cond.instanceMethod yX11_unifies ∈ WALL := wall_t (tb_6 128 (by decide +kernel)) rfl
theorem w_m_X11_270 : Cond.methodLink "OppositePairsModel" 270 yX11_slotOf ∈ WALL := wall_t (tb_6 134 (by decide +kernel)) rfl
theorem w_m_X11_273 : Cond.methodLink "OppositePairsModel" 273 yX11_goesTo ∈ WALL := wall_t (tb_6 130 (by decide +kernel)) rfl
theorem w_m_X11_276 : Cond.methodLink "OppositePairsModel" 276 yX11_holds ∈ WALL := wall_t (tb_6 138 (by decide +kernel)) rfl
theorem w_m_X11_280 : Cond.methodLink "OppositePairsModel" 280 yX11_binds ∈ WALL := wall_t (tb_6 142 (by decide +kernel)) rfl
theorem w_m_X11_284 : Cond.methodLink "OppositePairsModel" 284 yX11_unifies ∈ WALL := wall_t (tb_6 126 (by decide +kernel)) rfl
theorem w_m_X11_288 : Cond.methodLink "OppositePairsModel" 288 yX11_areAlike ∈ WALL := wall_t (tb_6 228 (by decide +kernel)) rfl
theorem w_m_X11_294 : Cond.methodLink "OppositePairsModel" 294 yX11_counts ∈ WALL := wall_t (tb_6 220 (by decide +kernel)) rfl
theorem ws_sel_X11_areAlike : Cond.selects "OppositePairsModel" yX11_areAlike yX11_areAlike ∈ WALL := wall_s 134 (by decide +kernel) rfl
theorem ws_sel_X11_binds : Cond.selects "OppositePairsModel" yX11_binds yX11_binds ∈ WALL := wall_s 116 (by decide +kernel) rfl
theorem ws_sel_X11_counts : Cond.selects "OppositePairsModel" yX11_counts yX11_counts ∈ WALL := wall_s 132 (by decide +kernel) rfl
theorem ws_sel_X11_goesTo : Cond.selects "OppositePairsModel" yX11_goesTo yX11_goesTo ∈ WALL := wall_s 113 (by decide +kernel) rfl
theorem ws_sel_X11_holds : Cond.selects "OppositePairsModel" yX11_holds yX11_holds ∈ WALL := wall_s 115 (by decide +kernel) rfl
theorem ws_sel_X11_slotOf : Cond.selects "OppositePairsModel" yX11_slotOf yX11_slotOf ∈ WALL := wall_s 114 (by decide +kernel) rfl
theorem ws_sel_X11_unifies : Cond.selects "OppositePairsModel" yX11_unifies yX11_unifies ∈ WALL := wall_s 112 (by decide +kernel) rfl
theorem dX11_areAlike_0 : decode cX11_areAlike 0 = .ok (.aload_n 0, 1) := by decide +kernel
theorem dX11_areAlike_1 : decode cX11_areAlike 1 = .ok (.iload_n 1, 1) := by decide +kernel
theorem dX11_areAlike_10 : decode cX11_areAlike 10 = .ok (.istore 5, 2) := by decide +kernel
theorem dX11_areAlike_100 : decode cX11_areAlike 100 = .ok (.iconst 1, 1) := by decide +kernel
theorem dX11_areAlike_101 : decode cX11_areAlike 101 = .ok (.goto 4, 3) := by decide +kernel
theorem dX11_areAlike_104 : decode cX11_areAlike 104 = .ok (.iconst 0, 1) := by decide +kernel
theorem dX11_areAlike_105 : decode cX11_areAlike 105 = .ok (.ireturn, 1) := by decide +kernel
theorem dX11_areAlike_106 : decode cX11_areAlike 106 = .ok (.aload_n 0, 1) := by decide +kernel
theorem dX11_areAlike_107 : decode cX11_areAlike 107 = .ok (.getfield 23, 3) := by decide +kernel
theorem dX11_areAlike_110 : decode cX11_areAlike 110 = .ok (.iload 5, 2) := by decide +kernel
theorem dX11_areAlike_112 : decode cX11_areAlike 112 = .ok (.laload, 1) := by decide +kernel
theorem dX11_areAlike_113 : decode cX11_areAlike 113 = .ok (.aload_n 0, 1) := by decide +kernel
theorem dX11_areAlike_114 : decode cX11_areAlike 114 = .ok (.getfield 23, 3) := by decide +kernel
theorem dX11_areAlike_117 : decode cX11_areAlike 117 = .ok (.iload 7, 2) := by decide +kernel
theorem dX11_areAlike_119 : decode cX11_areAlike 119 = .ok (.laload, 1) := by decide +kernel
theorem dX11_areAlike_12 : decode cX11_areAlike 12 = .ok (.aload_n 0, 1) := by decide +kernel
theorem dX11_areAlike_120 : decode cX11_areAlike 120 = .ok (.lcmp, 1) := by decide +kernel
theorem dX11_areAlike_121 : decode cX11_areAlike 121 = .ok (.ifCond .ne 18, 3) := by decide +kernel
theorem dX11_areAlike_124 : decode cX11_areAlike 124 = .ok (.aload_n 0, 1) := by decide +kernel
theorem dX11_areAlike_125 : decode cX11_areAlike 125 = .ok (.iload 5, 2) := by decide +kernel
theorem dX11_areAlike_127 : decode cX11_areAlike 127 = .ok (.invokevirtual 27, 3) := by decide +kernel
theorem dX11_areAlike_13 : decode cX11_areAlike 13 = .ok (.getfield 267, 3) := by decide +kernel
theorem dX11_areAlike_130 : decode cX11_areAlike 130 = .ok (.aload_n 0, 1) := by decide +kernel
theorem dX11_areAlike_131 : decode cX11_areAlike 131 = .ok (.iload 7, 2) := by decide +kernel
theorem dX11_areAlike_133 : decode cX11_areAlike 133 = .ok (.invokevirtual 27, 3) := by decide +kernel
theorem dX11_areAlike_136 : decode cX11_areAlike 136 = .ok (.if_icmp .eq 5, 3) := by decide +kernel
theorem dX11_areAlike_139 : decode cX11_areAlike 139 = .ok (.iconst 0, 1) := by decide +kernel
theorem dX11_areAlike_140 : decode cX11_areAlike 140 = .ok (.ireturn, 1) := by decide +kernel
theorem dX11_areAlike_141 : decode cX11_areAlike 141 = .ok (.iconst 0, 1) := by decide +kernel
theorem dX11_areAlike_142 : decode cX11_areAlike 142 = .ok (.istore 9, 2) := by decide +kernel
theorem dX11_areAlike_144 : decode cX11_areAlike 144 = .ok (.iload 9, 2) := by decide +kernel
theorem dX11_areAlike_146 : decode cX11_areAlike 146 = .ok (.aload_n 0, 1) := by decide +kernel
theorem dX11_areAlike_147 : decode cX11_areAlike 147 = .ok (.iload 5, 2) := by decide +kernel
theorem dX11_areAlike_149 : decode cX11_areAlike 149 = .ok (.invokevirtual 27, 3) := by decide +kernel
theorem dX11_areAlike_152 : decode cX11_areAlike 152 = .ok (.if_icmp .ge 38, 3) := by decide +kernel
theorem dX11_areAlike_155 : decode cX11_areAlike 155 = .ok (.aload_n 0, 1) := by decide +kernel
theorem dX11_areAlike_156 : decode cX11_areAlike 156 = .ok (.aload_n 0, 1) := by decide +kernel
theorem dX11_areAlike_157 : decode cX11_areAlike 157 = .ok (.iload 5, 2) := by decide +kernel
theorem dX11_areAlike_159 : decode cX11_areAlike 159 = .ok (.iload 9, 2) := by decide +kernel
theorem dX11_areAlike_16 : decode cX11_areAlike 16 = .ok (.istore 6, 2) := by decide +kernel
theorem dX11_areAlike_161 : decode cX11_areAlike 161 = .ok (.invokevirtual 31, 3) := by decide +kernel
theorem dX11_areAlike_164 : decode cX11_areAlike 164 = .ok (.iload 6, 2) := by decide +kernel
theorem dX11_areAlike_166 : decode cX11_areAlike 166 = .ok (.aload_n 0, 1) := by decide +kernel
theorem dX11_areAlike_167 : decode cX11_areAlike 167 = .ok (.iload 7, 2) := by decide +kernel
theorem dX11_areAlike_169 : decode cX11_areAlike 169 = .ok (.iload 9, 2) := by decide +kernel
theorem dX11_areAlike_171 : decode cX11_areAlike 171 = .ok (.invokevirtual 31, 3) := by decide +kernel
theorem dX11_areAlike_174 : decode cX11_areAlike 174 = .ok (.iload 8, 2) := by decide +kernel
theorem dX11_areAlike_176 : decode cX11_areAlike 176 = .ok (.invokevirtual 288, 3) := by decide +kernel
theorem dX11_areAlike_179 : decode cX11_areAlike 179 = .ok (.ifCond .ne 5, 3) := by decide +kernel
theorem dX11_areAlike_18 : decode cX11_areAlike 18 = .ok (.aload_n 0, 1) := by decide +kernel
theorem dX11_areAlike_182 : decode cX11_areAlike 182 = .ok (.iconst 0, 1) := by decide +kernel
theorem dX11_areAlike_183 : decode cX11_areAlike 183 = .ok (.ireturn, 1) := by decide +kernel
theorem dX11_areAlike_184 : decode cX11_areAlike 184 = .ok (.iinc 9 1, 3) := by decide +kernel
theorem dX11_areAlike_187 : decode cX11_areAlike 187 = .ok (.goto (-43), 3) := by decide +kernel
theorem dX11_areAlike_19 : decode cX11_areAlike 19 = .ok (.iload_n 3, 1) := by decide +kernel
theorem dX11_areAlike_190 : decode cX11_areAlike 190 = .ok (.iconst 1, 1) := by decide +kernel
theorem dX11_areAlike_191 : decode cX11_areAlike 191 = .ok (.ireturn, 1) := by decide +kernel
theorem dX11_areAlike_2 : decode cX11_areAlike 2 = .ok (.iload_n 2, 1) := by decide +kernel
theorem dX11_areAlike_20 : decode cX11_areAlike 20 = .ok (.iload 4, 2) := by decide +kernel
theorem dX11_areAlike_22 : decode cX11_areAlike 22 = .ok (.invokevirtual 273, 3) := by decide +kernel
theorem dX11_areAlike_25 : decode cX11_areAlike 25 = .ok (.aload_n 0, 1) := by decide +kernel
theorem dX11_areAlike_26 : decode cX11_areAlike 26 = .ok (.getfield 264, 3) := by decide +kernel
theorem dX11_areAlike_29 : decode cX11_areAlike 29 = .ok (.istore 7, 2) := by decide +kernel
theorem dX11_areAlike_3 : decode cX11_areAlike 3 = .ok (.invokevirtual 273, 3) := by decide +kernel
theorem dX11_areAlike_31 : decode cX11_areAlike 31 = .ok (.aload_n 0, 1) := by decide +kernel
theorem dX11_areAlike_32 : decode cX11_areAlike 32 = .ok (.getfield 267, 3) := by decide +kernel
theorem dX11_areAlike_35 : decode cX11_areAlike 35 = .ok (.istore 8, 2) := by decide +kernel
theorem dX11_areAlike_37 : decode cX11_areAlike 37 = .ok (.aload_n 0, 1) := by decide +kernel
theorem dX11_areAlike_38 : decode cX11_areAlike 38 = .ok (.getfield 17, 3) := by decide +kernel
theorem dX11_areAlike_41 : decode cX11_areAlike 41 = .ok (.iload 5, 2) := by decide +kernel
theorem dX11_areAlike_43 : decode cX11_areAlike 43 = .ok (.iaload, 1) := by decide +kernel
theorem dX11_areAlike_44 : decode cX11_areAlike 44 = .ok (.iconst (-1), 1) := by decide +kernel
theorem dX11_areAlike_45 : decode cX11_areAlike 45 = .ok (.if_icmp .ne 14, 3) := by decide +kernel
theorem dX11_areAlike_48 : decode cX11_areAlike 48 = .ok (.aload_n 0, 1) := by decide +kernel
theorem dX11_areAlike_49 : decode cX11_areAlike 49 = .ok (.getfield 17, 3) := by decide +kernel
theorem dX11_areAlike_52 : decode cX11_areAlike 52 = .ok (.iload 7, 2) := by decide +kernel
theorem dX11_areAlike_54 : decode cX11_areAlike 54 = .ok (.iaload, 1) := by decide +kernel
theorem dX11_areAlike_55 : decode cX11_areAlike 55 = .ok (.iconst (-1), 1) := by decide +kernel
theorem dX11_areAlike_56 : decode cX11_areAlike 56 = .ok (.if_icmp .eq 50, 3) := by decide +kernel
theorem dX11_areAlike_59 : decode cX11_areAlike 59 = .ok (.aload_n 0, 1) := by decide +kernel
theorem dX11_areAlike_6 : decode cX11_areAlike 6 = .ok (.aload_n 0, 1) := by decide +kernel
theorem dX11_areAlike_60 : decode cX11_areAlike 60 = .ok (.getfield 17, 3) := by decide +kernel
theorem dX11_areAlike_63 : decode cX11_areAlike 63 = .ok (.iload 5, 2) := by decide +kernel
theorem dX11_areAlike_65 : decode cX11_areAlike 65 = .ok (.iaload, 1) := by decide +kernel
theorem dX11_areAlike_66 : decode cX11_areAlike 66 = .ok (.iconst (-1), 1) := by decide +kernel
theorem dX11_areAlike_67 : decode cX11_areAlike 67 = .ok (.if_icmp .eq 37, 3) := by decide +kernel
theorem dX11_areAlike_7 : decode cX11_areAlike 7 = .ok (.getfield 264, 3) := by decide +kernel
theorem dX11_areAlike_70 : decode cX11_areAlike 70 = .ok (.aload_n 0, 1) := by decide +kernel
theorem dX11_areAlike_71 : decode cX11_areAlike 71 = .ok (.getfield 17, 3) := by decide +kernel
theorem dX11_areAlike_74 : decode cX11_areAlike 74 = .ok (.iload 7, 2) := by decide +kernel
theorem dX11_areAlike_76 : decode cX11_areAlike 76 = .ok (.iaload, 1) := by decide +kernel
theorem dX11_areAlike_77 : decode cX11_areAlike 77 = .ok (.iconst (-1), 1) := by decide +kernel
theorem dX11_areAlike_78 : decode cX11_areAlike 78 = .ok (.if_icmp .eq 26, 3) := by decide +kernel
theorem dX11_areAlike_81 : decode cX11_areAlike 81 = .ok (.aload_n 0, 1) := by decide +kernel
theorem dX11_areAlike_82 : decode cX11_areAlike 82 = .ok (.iload 5, 2) := by decide +kernel
theorem dX11_areAlike_84 : decode cX11_areAlike 84 = .ok (.iload 6, 2) := by decide +kernel
theorem dX11_areAlike_86 : decode cX11_areAlike 86 = .ok (.invokevirtual 270, 3) := by decide +kernel
theorem dX11_areAlike_89 : decode cX11_areAlike 89 = .ok (.aload_n 0, 1) := by decide +kernel
theorem dX11_areAlike_90 : decode cX11_areAlike 90 = .ok (.iload 7, 2) := by decide +kernel
theorem dX11_areAlike_92 : decode cX11_areAlike 92 = .ok (.iload 8, 2) := by decide +kernel
theorem dX11_areAlike_94 : decode cX11_areAlike 94 = .ok (.invokevirtual 270, 3) := by decide +kernel
theorem dX11_areAlike_97 : decode cX11_areAlike 97 = .ok (.if_icmp .ne 7, 3) := by decide +kernel
theorem dX11_binds_0 : decode cX11_binds 0 = .ok (.aload_n 0, 1) := by decide +kernel
theorem dX11_binds_1 : decode cX11_binds 1 = .ok (.getfield 195, 3) := by decide +kernel
theorem dX11_binds_11 : decode cX11_binds 11 = .ok (.iload_n 1, 1) := by decide +kernel
theorem dX11_binds_12 : decode cX11_binds 12 = .ok (.iload_n 3, 1) := by decide +kernel
theorem dX11_binds_13 : decode cX11_binds 13 = .ok (.iastore, 1) := by decide +kernel
theorem dX11_binds_14 : decode cX11_binds 14 = .ok (.aload_n 0, 1) := by decide +kernel
theorem dX11_binds_15 : decode cX11_binds 15 = .ok (.getfield 201, 3) := by decide +kernel
theorem dX11_binds_18 : decode cX11_binds 18 = .ok (.aload_n 0, 1) := by decide +kernel
theorem dX11_binds_19 : decode cX11_binds 19 = .ok (.getfield 261, 3) := by decide +kernel
theorem dX11_binds_22 : decode cX11_binds 22 = .ok (.iload_n 1, 1) := by decide +kernel
theorem dX11_binds_23 : decode cX11_binds 23 = .ok (.iastore, 1) := by decide +kernel
theorem dX11_binds_24 : decode cX11_binds 24 = .ok (.aload_n 0, 1) := by decide +kernel
theorem dX11_binds_25 : decode cX11_binds 25 = .ok (.aload_n 0, 1) := by decide +kernel
theorem dX11_binds_26 : decode cX11_binds 26 = .ok (.getfield 261, 3) := by decide +kernel
theorem dX11_binds_29 : decode cX11_binds 29 = .ok (.iconst 1, 1) := by decide +kernel
theorem dX11_binds_30 : decode cX11_binds 30 = .ok (.iadd, 1) := by decide +kernel
theorem dX11_binds_31 : decode cX11_binds 31 = .ok (.putfield 261, 3) := by decide +kernel
theorem dX11_binds_34 : decode cX11_binds 34 = .ok (.return_, 1) := by decide +kernel
theorem dX11_binds_4 : decode cX11_binds 4 = .ok (.iload_n 1, 1) := by decide +kernel
theorem dX11_binds_5 : decode cX11_binds 5 = .ok (.iload_n 2, 1) := by decide +kernel
theorem dX11_binds_6 : decode cX11_binds 6 = .ok (.iastore, 1) := by decide +kernel
theorem dX11_binds_7 : decode cX11_binds 7 = .ok (.aload_n 0, 1) := by decide +kernel
theorem dX11_binds_8 : decode cX11_binds 8 = .ok (.getfield 198, 3) := by decide +kernel
theorem dX11_counts_0 : decode cX11_counts 0 = .ok (.aload_n 0, 1) := by decide +kernel
theorem dX11_counts_1 : decode cX11_counts 1 = .ok (.getfield 291, 3) := by decide +kernel
theorem dX11_counts_10 : decode cX11_counts 10 = .ok (.aload_n 0, 1) := by decide +kernel
theorem dX11_counts_11 : decode cX11_counts 11 = .ok (.getfield 291, 3) := by decide +kernel
theorem dX11_counts_14 : decode cX11_counts 14 = .ok (.iconst 1, 1) := by decide +kernel
theorem dX11_counts_15 : decode cX11_counts 15 = .ok (.iadd, 1) := by decide +kernel
theorem dX11_counts_16 : decode cX11_counts 16 = .ok (.putfield 291, 3) := by decide +kernel
theorem dX11_counts_19 : decode cX11_counts 19 = .ok (.aload_n 0, 1) := by decide +kernel
theorem dX11_counts_20 : decode cX11_counts 20 = .ok (.iload_n 1, 1) := by decide +kernel
theorem dX11_counts_21 : decode cX11_counts 21 = .ok (.iload_n 2, 1) := by decide +kernel
theorem dX11_counts_22 : decode cX11_counts 22 = .ok (.invokevirtual 273, 3) := by decide +kernel
theorem dX11_counts_25 : decode cX11_counts 25 = .ok (.aload_n 0, 1) := by decide +kernel
theorem dX11_counts_26 : decode cX11_counts 26 = .ok (.getfield 264, 3) := by decide +kernel
theorem dX11_counts_29 : decode cX11_counts 29 = .ok (.istore 4, 2) := by decide +kernel
theorem dX11_counts_31 : decode cX11_counts 31 = .ok (.aload_n 0, 1) := by decide +kernel
theorem dX11_counts_32 : decode cX11_counts 32 = .ok (.getfield 267, 3) := by decide +kernel
theorem dX11_counts_35 : decode cX11_counts 35 = .ok (.istore 5, 2) := by decide +kernel
theorem dX11_counts_37 : decode cX11_counts 37 = .ok (.iconst 0, 1) := by decide +kernel
theorem dX11_counts_38 : decode cX11_counts 38 = .ok (.istore 6, 2) := by decide +kernel
theorem dX11_counts_4 : decode cX11_counts 4 = .ok (.iload_n 3, 1) := by decide +kernel
theorem dX11_counts_40 : decode cX11_counts 40 = .ok (.iload 6, 2) := by decide +kernel
theorem dX11_counts_42 : decode cX11_counts 42 = .ok (.aload_n 0, 1) := by decide +kernel
theorem dX11_counts_43 : decode cX11_counts 43 = .ok (.iload 4, 2) := by decide +kernel
theorem dX11_counts_45 : decode cX11_counts 45 = .ok (.invokevirtual 27, 3) := by decide +kernel
theorem dX11_counts_48 : decode cX11_counts 48 = .ok (.if_icmp .ge 32, 3) := by decide +kernel
theorem dX11_counts_5 : decode cX11_counts 5 = .ok (.if_icmp .le 4, 3) := by decide +kernel
theorem dX11_counts_51 : decode cX11_counts 51 = .ok (.aload_n 0, 1) := by decide +kernel
theorem dX11_counts_52 : decode cX11_counts 52 = .ok (.getfield 291, 3) := by decide +kernel
theorem dX11_counts_55 : decode cX11_counts 55 = .ok (.iload_n 3, 1) := by decide +kernel
theorem dX11_counts_56 : decode cX11_counts 56 = .ok (.if_icmp .gt 24, 3) := by decide +kernel
theorem dX11_counts_59 : decode cX11_counts 59 = .ok (.aload_n 0, 1) := by decide +kernel
theorem dX11_counts_60 : decode cX11_counts 60 = .ok (.aload_n 0, 1) := by decide +kernel
theorem dX11_counts_61 : decode cX11_counts 61 = .ok (.iload 4, 2) := by decide +kernel
theorem dX11_counts_63 : decode cX11_counts 63 = .ok (.iload 6, 2) := by decide +kernel
theorem dX11_counts_65 : decode cX11_counts 65 = .ok (.invokevirtual 31, 3) := by decide +kernel
theorem dX11_counts_68 : decode cX11_counts 68 = .ok (.iload 5, 2) := by decide +kernel
theorem dX11_counts_70 : decode cX11_counts 70 = .ok (.iload_n 3, 1) := by decide +kernel
theorem dX11_counts_71 : decode cX11_counts 71 = .ok (.invokevirtual 294, 3) := by decide +kernel
theorem dX11_counts_74 : decode cX11_counts 74 = .ok (.iinc 6 1, 3) := by decide +kernel
theorem dX11_counts_77 : decode cX11_counts 77 = .ok (.goto (-37), 3) := by decide +kernel
theorem dX11_counts_8 : decode cX11_counts 8 = .ok (.return_, 1) := by decide +kernel
theorem dX11_counts_80 : decode cX11_counts 80 = .ok (.return_, 1) := by decide +kernel
theorem dX11_counts_9 : decode cX11_counts 9 = .ok (.aload_n 0, 1) := by decide +kernel
theorem dX11_goesTo_0 : decode cX11_goesTo 0 = .ok (.aload_n 0, 1) := by decide +kernel
theorem dX11_goesTo_1 : decode cX11_goesTo 1 = .ok (.iload_n 1, 1) := by decide +kernel
theorem dX11_goesTo_10 : decode cX11_goesTo 10 = .ok (.aload_n 0, 1) := by decide +kernel
theorem dX11_goesTo_11 : decode cX11_goesTo 11 = .ok (.getfield 17, 3) := by decide +kernel
theorem dX11_goesTo_14 : decode cX11_goesTo 14 = .ok (.aload_n 0, 1) := by decide +kernel
theorem dX11_goesTo_15 : decode cX11_goesTo 15 = .ok (.getfield 264, 3) := by decide +kernel
theorem dX11_goesTo_18 : decode cX11_goesTo 18 = .ok (.iaload, 1) := by decide +kernel
theorem dX11_goesTo_19 : decode cX11_goesTo 19 = .ok (.iconst (-1), 1) := by decide +kernel
theorem dX11_goesTo_2 : decode cX11_goesTo 2 = .ok (.putfield 264, 3) := by decide +kernel
theorem dX11_goesTo_20 : decode cX11_goesTo 20 = .ok (.if_icmp .eq 60, 3) := by decide +kernel
theorem dX11_goesTo_23 : decode cX11_goesTo 23 = .ok (.aload_n 0, 1) := by decide +kernel
theorem dX11_goesTo_24 : decode cX11_goesTo 24 = .ok (.getfield 195, 3) := by decide +kernel
theorem dX11_goesTo_27 : decode cX11_goesTo 27 = .ok (.aload_n 0, 1) := by decide +kernel
theorem dX11_goesTo_28 : decode cX11_goesTo 28 = .ok (.aload_n 0, 1) := by decide +kernel
theorem dX11_goesTo_29 : decode cX11_goesTo 29 = .ok (.getfield 264, 3) := by decide +kernel
theorem dX11_goesTo_32 : decode cX11_goesTo 32 = .ok (.aload_n 0, 1) := by decide +kernel
theorem dX11_goesTo_33 : decode cX11_goesTo 33 = .ok (.getfield 267, 3) := by decide +kernel
theorem dX11_goesTo_36 : decode cX11_goesTo 36 = .ok (.invokevirtual 270, 3) := by decide +kernel
theorem dX11_goesTo_39 : decode cX11_goesTo 39 = .ok (.iaload, 1) := by decide +kernel
theorem dX11_goesTo_40 : decode cX11_goesTo 40 = .ok (.iconst (-1), 1) := by decide +kernel
theorem dX11_goesTo_41 : decode cX11_goesTo 41 = .ok (.if_icmp .eq 39, 3) := by decide +kernel
theorem dX11_goesTo_44 : decode cX11_goesTo 44 = .ok (.aload_n 0, 1) := by decide +kernel
theorem dX11_goesTo_45 : decode cX11_goesTo 45 = .ok (.aload_n 0, 1) := by decide +kernel
theorem dX11_goesTo_46 : decode cX11_goesTo 46 = .ok (.getfield 264, 3) := by decide +kernel
theorem dX11_goesTo_49 : decode cX11_goesTo 49 = .ok (.aload_n 0, 1) := by decide +kernel
theorem dX11_goesTo_5 : decode cX11_goesTo 5 = .ok (.aload_n 0, 1) := by decide +kernel
theorem dX11_goesTo_50 : decode cX11_goesTo 50 = .ok (.getfield 267, 3) := by decide +kernel
theorem dX11_goesTo_53 : decode cX11_goesTo 53 = .ok (.invokevirtual 270, 3) := by decide +kernel
theorem dX11_goesTo_56 : decode cX11_goesTo 56 = .ok (.istore_n 3, 1) := by decide +kernel
theorem dX11_goesTo_57 : decode cX11_goesTo 57 = .ok (.aload_n 0, 1) := by decide +kernel
theorem dX11_goesTo_58 : decode cX11_goesTo 58 = .ok (.aload_n 0, 1) := by decide +kernel
theorem dX11_goesTo_59 : decode cX11_goesTo 59 = .ok (.getfield 195, 3) := by decide +kernel
theorem dX11_goesTo_6 : decode cX11_goesTo 6 = .ok (.iload_n 2, 1) := by decide +kernel
theorem dX11_goesTo_62 : decode cX11_goesTo 62 = .ok (.iload_n 3, 1) := by decide +kernel
theorem dX11_goesTo_63 : decode cX11_goesTo 63 = .ok (.iaload, 1) := by decide +kernel
theorem dX11_goesTo_64 : decode cX11_goesTo 64 = .ok (.putfield 264, 3) := by decide +kernel
theorem dX11_goesTo_67 : decode cX11_goesTo 67 = .ok (.aload_n 0, 1) := by decide +kernel
theorem dX11_goesTo_68 : decode cX11_goesTo 68 = .ok (.aload_n 0, 1) := by decide +kernel
theorem dX11_goesTo_69 : decode cX11_goesTo 69 = .ok (.getfield 198, 3) := by decide +kernel
theorem dX11_goesTo_7 : decode cX11_goesTo 7 = .ok (.putfield 267, 3) := by decide +kernel
theorem dX11_goesTo_72 : decode cX11_goesTo 72 = .ok (.iload_n 3, 1) := by decide +kernel
theorem dX11_goesTo_73 : decode cX11_goesTo 73 = .ok (.iaload, 1) := by decide +kernel
theorem dX11_goesTo_74 : decode cX11_goesTo 74 = .ok (.putfield 267, 3) := by decide +kernel
theorem dX11_goesTo_77 : decode cX11_goesTo 77 = .ok (.goto (-67), 3) := by decide +kernel
theorem dX11_goesTo_80 : decode cX11_goesTo 80 = .ok (.return_, 1) := by decide +kernel
theorem dX11_holds_0 : decode cX11_holds 0 = .ok (.aload_n 0, 1) := by decide +kernel
theorem dX11_holds_1 : decode cX11_holds 1 = .ok (.iload_n 1, 1) := by decide +kernel
theorem dX11_holds_10 : decode cX11_holds 10 = .ok (.istore 4, 2) := by decide +kernel
theorem dX11_holds_12 : decode cX11_holds 12 = .ok (.aload_n 0, 1) := by decide +kernel
theorem dX11_holds_13 : decode cX11_holds 13 = .ok (.getfield 267, 3) := by decide +kernel
theorem dX11_holds_16 : decode cX11_holds 16 = .ok (.istore 5, 2) := by decide +kernel
theorem dX11_holds_18 : decode cX11_holds 18 = .ok (.aload_n 0, 1) := by decide +kernel
theorem dX11_holds_19 : decode cX11_holds 19 = .ok (.getfield 17, 3) := by decide +kernel
theorem dX11_holds_2 : decode cX11_holds 2 = .ok (.iload_n 2, 1) := by decide +kernel
theorem dX11_holds_22 : decode cX11_holds 22 = .ok (.iload 4, 2) := by decide +kernel
theorem dX11_holds_24 : decode cX11_holds 24 = .ok (.iaload, 1) := by decide +kernel
theorem dX11_holds_25 : decode cX11_holds 25 = .ok (.iconst (-1), 1) := by decide +kernel
theorem dX11_holds_26 : decode cX11_holds 26 = .ok (.if_icmp .eq 21, 3) := by decide +kernel
theorem dX11_holds_29 : decode cX11_holds 29 = .ok (.aload_n 0, 1) := by decide +kernel
theorem dX11_holds_3 : decode cX11_holds 3 = .ok (.invokevirtual 273, 3) := by decide +kernel
theorem dX11_holds_30 : decode cX11_holds 30 = .ok (.iload 4, 2) := by decide +kernel
theorem dX11_holds_32 : decode cX11_holds 32 = .ok (.iload 5, 2) := by decide +kernel
theorem dX11_holds_34 : decode cX11_holds 34 = .ok (.invokevirtual 270, 3) := by decide +kernel
theorem dX11_holds_37 : decode cX11_holds 37 = .ok (.iload_n 3, 1) := by decide +kernel
theorem dX11_holds_38 : decode cX11_holds 38 = .ok (.if_icmp .ne 7, 3) := by decide +kernel
theorem dX11_holds_41 : decode cX11_holds 41 = .ok (.iconst 1, 1) := by decide +kernel
theorem dX11_holds_42 : decode cX11_holds 42 = .ok (.goto 4, 3) := by decide +kernel
theorem dX11_holds_45 : decode cX11_holds 45 = .ok (.iconst 0, 1) := by decide +kernel
theorem dX11_holds_46 : decode cX11_holds 46 = .ok (.ireturn, 1) := by decide +kernel
theorem dX11_holds_47 : decode cX11_holds 47 = .ok (.iconst 0, 1) := by decide +kernel
theorem dX11_holds_48 : decode cX11_holds 48 = .ok (.istore 6, 2) := by decide +kernel
theorem dX11_holds_50 : decode cX11_holds 50 = .ok (.iload 6, 2) := by decide +kernel
theorem dX11_holds_52 : decode cX11_holds 52 = .ok (.aload_n 0, 1) := by decide +kernel
theorem dX11_holds_53 : decode cX11_holds 53 = .ok (.iload 4, 2) := by decide +kernel
theorem dX11_holds_55 : decode cX11_holds 55 = .ok (.invokevirtual 27, 3) := by decide +kernel
theorem dX11_holds_58 : decode cX11_holds 58 = .ok (.if_icmp .ge 29, 3) := by decide +kernel
theorem dX11_holds_6 : decode cX11_holds 6 = .ok (.aload_n 0, 1) := by decide +kernel
theorem dX11_holds_61 : decode cX11_holds 61 = .ok (.aload_n 0, 1) := by decide +kernel
theorem dX11_holds_62 : decode cX11_holds 62 = .ok (.aload_n 0, 1) := by decide +kernel
theorem dX11_holds_63 : decode cX11_holds 63 = .ok (.iload 4, 2) := by decide +kernel
theorem dX11_holds_65 : decode cX11_holds 65 = .ok (.iload 6, 2) := by decide +kernel
theorem dX11_holds_67 : decode cX11_holds 67 = .ok (.invokevirtual 31, 3) := by decide +kernel
theorem dX11_holds_7 : decode cX11_holds 7 = .ok (.getfield 264, 3) := by decide +kernel
theorem dX11_holds_70 : decode cX11_holds 70 = .ok (.iload 5, 2) := by decide +kernel
theorem dX11_holds_72 : decode cX11_holds 72 = .ok (.iload_n 3, 1) := by decide +kernel
theorem dX11_holds_73 : decode cX11_holds 73 = .ok (.invokevirtual 276, 3) := by decide +kernel
theorem dX11_holds_76 : decode cX11_holds 76 = .ok (.ifCond .eq 5, 3) := by decide +kernel
theorem dX11_holds_79 : decode cX11_holds 79 = .ok (.iconst 1, 1) := by decide +kernel
theorem dX11_holds_80 : decode cX11_holds 80 = .ok (.ireturn, 1) := by decide +kernel
theorem dX11_holds_81 : decode cX11_holds 81 = .ok (.iinc 6 1, 3) := by decide +kernel
theorem dX11_holds_84 : decode cX11_holds 84 = .ok (.goto (-34), 3) := by decide +kernel
theorem dX11_holds_87 : decode cX11_holds 87 = .ok (.iconst 0, 1) := by decide +kernel
theorem dX11_holds_88 : decode cX11_holds 88 = .ok (.ireturn, 1) := by decide +kernel
theorem dX11_isShort_0 : decode cX11_isShort 0 = .ok (.aload_n 0, 1) := by decide +kernel
theorem dX11_isShort_1 : decode cX11_isShort 1 = .ok (.iconst 0, 1) := by decide +kernel
theorem dX11_isShort_12 : decode cX11_isShort 12 = .ok (.aload_n 0, 1) := by decide +kernel
theorem dX11_isShort_13 : decode cX11_isShort 13 = .ok (.getfield 291, 3) := by decide +kernel
theorem dX11_isShort_16 : decode cX11_isShort 16 = .ok (.iload_n 3, 1) := by decide +kernel
theorem dX11_isShort_17 : decode cX11_isShort 17 = .ok (.if_icmp .gt 7, 3) := by decide +kernel
theorem dX11_isShort_2 : decode cX11_isShort 2 = .ok (.putfield 291, 3) := by decide +kernel
theorem dX11_isShort_20 : decode cX11_isShort 20 = .ok (.iconst 1, 1) := by decide +kernel
theorem dX11_isShort_21 : decode cX11_isShort 21 = .ok (.goto 4, 3) := by decide +kernel
theorem dX11_isShort_24 : decode cX11_isShort 24 = .ok (.iconst 0, 1) := by decide +kernel
theorem dX11_isShort_25 : decode cX11_isShort 25 = .ok (.ireturn, 1) := by decide +kernel
theorem dX11_isShort_5 : decode cX11_isShort 5 = .ok (.aload_n 0, 1) := by decide +kernel
theorem dX11_isShort_6 : decode cX11_isShort 6 = .ok (.iload_n 1, 1) := by decide +kernel
theorem dX11_isShort_7 : decode cX11_isShort 7 = .ok (.iload_n 2, 1) := by decide +kernel
theorem dX11_isShort_8 : decode cX11_isShort 8 = .ok (.iload_n 3, 1) := by decide +kernel
theorem dX11_isShort_9 : decode cX11_isShort 9 = .ok (.invokevirtual 294, 3) := by decide +kernel
theorem dX11_unifies_0 : decode cX11_unifies 0 = .ok (.aload_n 0, 1) := by decide +kernel
theorem dX11_unifies_1 : decode cX11_unifies 1 = .ok (.iload_n 1, 1) := by decide +kernel
theorem dX11_unifies_10 : decode cX11_unifies 10 = .ok (.istore 5, 2) := by decide +kernel
theorem dX11_unifies_100 : decode cX11_unifies 100 = .ok (.iload 9, 2) := by decide +kernel
theorem dX11_unifies_102 : decode cX11_unifies 102 = .ok (.iload 7, 2) := by decide +kernel
theorem dX11_unifies_104 : decode cX11_unifies 104 = .ok (.iload 8, 2) := by decide +kernel
theorem dX11_unifies_106 : decode cX11_unifies 106 = .ok (.invokevirtual 280, 3) := by decide +kernel
theorem dX11_unifies_109 : decode cX11_unifies 109 = .ok (.iconst 1, 1) := by decide +kernel
theorem dX11_unifies_110 : decode cX11_unifies 110 = .ok (.ireturn, 1) := by decide +kernel
theorem dX11_unifies_111 : decode cX11_unifies 111 = .ok (.aload_n 0, 1) := by decide +kernel
theorem dX11_unifies_112 : decode cX11_unifies 112 = .ok (.getfield 17, 3) := by decide +kernel
theorem dX11_unifies_115 : decode cX11_unifies 115 = .ok (.iload 7, 2) := by decide +kernel
theorem dX11_unifies_117 : decode cX11_unifies 117 = .ok (.iaload, 1) := by decide +kernel
theorem dX11_unifies_118 : decode cX11_unifies 118 = .ok (.iconst (-1), 1) := by decide +kernel
theorem dX11_unifies_119 : decode cX11_unifies 119 = .ok (.if_icmp .eq 40, 3) := by decide +kernel
theorem dX11_unifies_12 : decode cX11_unifies 12 = .ok (.aload_n 0, 1) := by decide +kernel
theorem dX11_unifies_122 : decode cX11_unifies 122 = .ok (.aload_n 0, 1) := by decide +kernel
theorem dX11_unifies_123 : decode cX11_unifies 123 = .ok (.iload 7, 2) := by decide +kernel
theorem dX11_unifies_125 : decode cX11_unifies 125 = .ok (.iload 8, 2) := by decide +kernel
theorem dX11_unifies_127 : decode cX11_unifies 127 = .ok (.invokevirtual 270, 3) := by decide +kernel
theorem dX11_unifies_13 : decode cX11_unifies 13 = .ok (.getfield 267, 3) := by decide +kernel
theorem dX11_unifies_130 : decode cX11_unifies 130 = .ok (.istore 9, 2) := by decide +kernel
theorem dX11_unifies_132 : decode cX11_unifies 132 = .ok (.aload_n 0, 1) := by decide +kernel
theorem dX11_unifies_133 : decode cX11_unifies 133 = .ok (.iload 5, 2) := by decide +kernel
theorem dX11_unifies_135 : decode cX11_unifies 135 = .ok (.iload 6, 2) := by decide +kernel
theorem dX11_unifies_137 : decode cX11_unifies 137 = .ok (.iload 9, 2) := by decide +kernel
theorem dX11_unifies_139 : decode cX11_unifies 139 = .ok (.invokevirtual 276, 3) := by decide +kernel
theorem dX11_unifies_142 : decode cX11_unifies 142 = .ok (.ifCond .eq 5, 3) := by decide +kernel
theorem dX11_unifies_145 : decode cX11_unifies 145 = .ok (.iconst 0, 1) := by decide +kernel
theorem dX11_unifies_146 : decode cX11_unifies 146 = .ok (.ireturn, 1) := by decide +kernel
theorem dX11_unifies_147 : decode cX11_unifies 147 = .ok (.aload_n 0, 1) := by decide +kernel
theorem dX11_unifies_148 : decode cX11_unifies 148 = .ok (.iload 9, 2) := by decide +kernel
theorem dX11_unifies_150 : decode cX11_unifies 150 = .ok (.iload 5, 2) := by decide +kernel
theorem dX11_unifies_152 : decode cX11_unifies 152 = .ok (.iload 6, 2) := by decide +kernel
theorem dX11_unifies_154 : decode cX11_unifies 154 = .ok (.invokevirtual 280, 3) := by decide +kernel
theorem dX11_unifies_157 : decode cX11_unifies 157 = .ok (.iconst 1, 1) := by decide +kernel
theorem dX11_unifies_158 : decode cX11_unifies 158 = .ok (.ireturn, 1) := by decide +kernel
theorem dX11_unifies_159 : decode cX11_unifies 159 = .ok (.aload_n 0, 1) := by decide +kernel
theorem dX11_unifies_16 : decode cX11_unifies 16 = .ok (.istore 6, 2) := by decide +kernel
theorem dX11_unifies_160 : decode cX11_unifies 160 = .ok (.getfield 23, 3) := by decide +kernel
theorem dX11_unifies_163 : decode cX11_unifies 163 = .ok (.iload 5, 2) := by decide +kernel
theorem dX11_unifies_165 : decode cX11_unifies 165 = .ok (.laload, 1) := by decide +kernel
theorem dX11_unifies_166 : decode cX11_unifies 166 = .ok (.aload_n 0, 1) := by decide +kernel
theorem dX11_unifies_167 : decode cX11_unifies 167 = .ok (.getfield 23, 3) := by decide +kernel
theorem dX11_unifies_170 : decode cX11_unifies 170 = .ok (.iload 7, 2) := by decide +kernel
theorem dX11_unifies_172 : decode cX11_unifies 172 = .ok (.laload, 1) := by decide +kernel
theorem dX11_unifies_173 : decode cX11_unifies 173 = .ok (.lcmp, 1) := by decide +kernel
theorem dX11_unifies_174 : decode cX11_unifies 174 = .ok (.ifCond .ne 18, 3) := by decide +kernel
theorem dX11_unifies_177 : decode cX11_unifies 177 = .ok (.aload_n 0, 1) := by decide +kernel
theorem dX11_unifies_178 : decode cX11_unifies 178 = .ok (.iload 5, 2) := by decide +kernel
theorem dX11_unifies_18 : decode cX11_unifies 18 = .ok (.aload_n 0, 1) := by decide +kernel
theorem dX11_unifies_180 : decode cX11_unifies 180 = .ok (.invokevirtual 27, 3) := by decide +kernel
theorem dX11_unifies_183 : decode cX11_unifies 183 = .ok (.aload_n 0, 1) := by decide +kernel
theorem dX11_unifies_184 : decode cX11_unifies 184 = .ok (.iload 7, 2) := by decide +kernel
theorem dX11_unifies_186 : decode cX11_unifies 186 = .ok (.invokevirtual 27, 3) := by decide +kernel
theorem dX11_unifies_189 : decode cX11_unifies 189 = .ok (.if_icmp .eq 5, 3) := by decide +kernel
theorem dX11_unifies_19 : decode cX11_unifies 19 = .ok (.iload_n 3, 1) := by decide +kernel
theorem dX11_unifies_192 : decode cX11_unifies 192 = .ok (.iconst 0, 1) := by decide +kernel
theorem dX11_unifies_193 : decode cX11_unifies 193 = .ok (.ireturn, 1) := by decide +kernel
theorem dX11_unifies_194 : decode cX11_unifies 194 = .ok (.iconst 0, 1) := by decide +kernel
theorem dX11_unifies_195 : decode cX11_unifies 195 = .ok (.istore 9, 2) := by decide +kernel
theorem dX11_unifies_197 : decode cX11_unifies 197 = .ok (.iload 9, 2) := by decide +kernel
theorem dX11_unifies_199 : decode cX11_unifies 199 = .ok (.aload_n 0, 1) := by decide +kernel
theorem dX11_unifies_2 : decode cX11_unifies 2 = .ok (.iload_n 2, 1) := by decide +kernel
theorem dX11_unifies_20 : decode cX11_unifies 20 = .ok (.iload 4, 2) := by decide +kernel
theorem dX11_unifies_200 : decode cX11_unifies 200 = .ok (.iload 5, 2) := by decide +kernel
theorem dX11_unifies_202 : decode cX11_unifies 202 = .ok (.invokevirtual 27, 3) := by decide +kernel
theorem dX11_unifies_205 : decode cX11_unifies 205 = .ok (.if_icmp .ge 38, 3) := by decide +kernel
theorem dX11_unifies_208 : decode cX11_unifies 208 = .ok (.aload_n 0, 1) := by decide +kernel
theorem dX11_unifies_209 : decode cX11_unifies 209 = .ok (.aload_n 0, 1) := by decide +kernel
theorem dX11_unifies_210 : decode cX11_unifies 210 = .ok (.iload 5, 2) := by decide +kernel
theorem dX11_unifies_212 : decode cX11_unifies 212 = .ok (.iload 9, 2) := by decide +kernel
theorem dX11_unifies_214 : decode cX11_unifies 214 = .ok (.invokevirtual 31, 3) := by decide +kernel
theorem dX11_unifies_217 : decode cX11_unifies 217 = .ok (.iload 6, 2) := by decide +kernel
theorem dX11_unifies_219 : decode cX11_unifies 219 = .ok (.aload_n 0, 1) := by decide +kernel
theorem dX11_unifies_22 : decode cX11_unifies 22 = .ok (.invokevirtual 273, 3) := by decide +kernel
theorem dX11_unifies_220 : decode cX11_unifies 220 = .ok (.iload 7, 2) := by decide +kernel
theorem dX11_unifies_222 : decode cX11_unifies 222 = .ok (.iload 9, 2) := by decide +kernel
theorem dX11_unifies_224 : decode cX11_unifies 224 = .ok (.invokevirtual 31, 3) := by decide +kernel
theorem dX11_unifies_227 : decode cX11_unifies 227 = .ok (.iload 8, 2) := by decide +kernel
theorem dX11_unifies_229 : decode cX11_unifies 229 = .ok (.invokevirtual 284, 3) := by decide +kernel
theorem dX11_unifies_232 : decode cX11_unifies 232 = .ok (.ifCond .ne 5, 3) := by decide +kernel
theorem dX11_unifies_235 : decode cX11_unifies 235 = .ok (.iconst 0, 1) := by decide +kernel
theorem dX11_unifies_236 : decode cX11_unifies 236 = .ok (.ireturn, 1) := by decide +kernel
theorem dX11_unifies_237 : decode cX11_unifies 237 = .ok (.iinc 9 1, 3) := by decide +kernel
theorem dX11_unifies_240 : decode cX11_unifies 240 = .ok (.goto (-43), 3) := by decide +kernel
theorem dX11_unifies_243 : decode cX11_unifies 243 = .ok (.iconst 1, 1) := by decide +kernel
theorem dX11_unifies_244 : decode cX11_unifies 244 = .ok (.ireturn, 1) := by decide +kernel
theorem dX11_unifies_25 : decode cX11_unifies 25 = .ok (.aload_n 0, 1) := by decide +kernel
theorem dX11_unifies_26 : decode cX11_unifies 26 = .ok (.getfield 264, 3) := by decide +kernel
theorem dX11_unifies_29 : decode cX11_unifies 29 = .ok (.istore 7, 2) := by decide +kernel
theorem dX11_unifies_3 : decode cX11_unifies 3 = .ok (.invokevirtual 273, 3) := by decide +kernel
theorem dX11_unifies_31 : decode cX11_unifies 31 = .ok (.aload_n 0, 1) := by decide +kernel
theorem dX11_unifies_32 : decode cX11_unifies 32 = .ok (.getfield 267, 3) := by decide +kernel
theorem dX11_unifies_35 : decode cX11_unifies 35 = .ok (.istore 8, 2) := by decide +kernel
theorem dX11_unifies_37 : decode cX11_unifies 37 = .ok (.aload_n 0, 1) := by decide +kernel
theorem dX11_unifies_38 : decode cX11_unifies 38 = .ok (.getfield 17, 3) := by decide +kernel
theorem dX11_unifies_41 : decode cX11_unifies 41 = .ok (.iload 5, 2) := by decide +kernel
theorem dX11_unifies_43 : decode cX11_unifies 43 = .ok (.iaload, 1) := by decide +kernel
theorem dX11_unifies_44 : decode cX11_unifies 44 = .ok (.iconst (-1), 1) := by decide +kernel
theorem dX11_unifies_45 : decode cX11_unifies 45 = .ok (.if_icmp .eq 66, 3) := by decide +kernel
theorem dX11_unifies_48 : decode cX11_unifies 48 = .ok (.aload_n 0, 1) := by decide +kernel
theorem dX11_unifies_49 : decode cX11_unifies 49 = .ok (.iload 5, 2) := by decide +kernel
theorem dX11_unifies_51 : decode cX11_unifies 51 = .ok (.iload 6, 2) := by decide +kernel
theorem dX11_unifies_53 : decode cX11_unifies 53 = .ok (.invokevirtual 270, 3) := by decide +kernel
theorem dX11_unifies_56 : decode cX11_unifies 56 = .ok (.istore 9, 2) := by decide +kernel
theorem dX11_unifies_58 : decode cX11_unifies 58 = .ok (.aload_n 0, 1) := by decide +kernel
theorem dX11_unifies_59 : decode cX11_unifies 59 = .ok (.getfield 17, 3) := by decide +kernel
theorem dX11_unifies_6 : decode cX11_unifies 6 = .ok (.aload_n 0, 1) := by decide +kernel
theorem dX11_unifies_62 : decode cX11_unifies 62 = .ok (.iload 7, 2) := by decide +kernel
theorem dX11_unifies_64 : decode cX11_unifies 64 = .ok (.iaload, 1) := by decide +kernel
theorem dX11_unifies_65 : decode cX11_unifies 65 = .ok (.iconst (-1), 1) := by decide +kernel
theorem dX11_unifies_66 : decode cX11_unifies 66 = .ok (.if_icmp .eq 18, 3) := by decide +kernel
theorem dX11_unifies_69 : decode cX11_unifies 69 = .ok (.aload_n 0, 1) := by decide +kernel
theorem dX11_unifies_7 : decode cX11_unifies 7 = .ok (.getfield 264, 3) := by decide +kernel
theorem dX11_unifies_70 : decode cX11_unifies 70 = .ok (.iload 7, 2) := by decide +kernel
theorem dX11_unifies_72 : decode cX11_unifies 72 = .ok (.iload 8, 2) := by decide +kernel
theorem dX11_unifies_74 : decode cX11_unifies 74 = .ok (.invokevirtual 270, 3) := by decide +kernel
theorem dX11_unifies_77 : decode cX11_unifies 77 = .ok (.iload 9, 2) := by decide +kernel
theorem dX11_unifies_79 : decode cX11_unifies 79 = .ok (.if_icmp .ne 5, 3) := by decide +kernel
theorem dX11_unifies_82 : decode cX11_unifies 82 = .ok (.iconst 1, 1) := by decide +kernel
theorem dX11_unifies_83 : decode cX11_unifies 83 = .ok (.ireturn, 1) := by decide +kernel
theorem dX11_unifies_84 : decode cX11_unifies 84 = .ok (.aload_n 0, 1) := by decide +kernel
theorem dX11_unifies_85 : decode cX11_unifies 85 = .ok (.iload 7, 2) := by decide +kernel
theorem dX11_unifies_87 : decode cX11_unifies 87 = .ok (.iload 8, 2) := by decide +kernel
theorem dX11_unifies_89 : decode cX11_unifies 89 = .ok (.iload 9, 2) := by decide +kernel
theorem dX11_unifies_91 : decode cX11_unifies 91 = .ok (.invokevirtual 276, 3) := by decide +kernel
theorem dX11_unifies_94 : decode cX11_unifies 94 = .ok (.ifCond .eq 5, 3) := by decide +kernel
theorem dX11_unifies_97 : decode cX11_unifies 97 = .ok (.iconst 0, 1) := by decide +kernel
theorem dX11_unifies_98 : decode cX11_unifies 98 = .ok (.ireturn, 1) := by decide +kernel
theorem dX11_unifies_99 : decode cX11_unifies 99 = .ok (.aload_n 0, 1) := by decide +kernel
abbrev mo134 (v : Nat → Value) (a1 a3 a4 a5 a27 a28 a31 a32 : Value) : List Value := ((v 0) :: a1 :: (v 2) :: a3 :: a4 :: a5 :: (v 6) :: (v 7) :: (v 8) :: (v 9) :: (v 10) :: (v 11) :: (v 12) :: (v 13) :: (v 14) :: (v 15) :: (v 16) :: (v 17) :: (v 18) :: (v 19) :: (v 20) :: (v 21) :: (v 22) :: (v 23) :: (v 24) :: (v 25) :: (v 26) :: a27 :: a28 :: (v 29) :: (v 30) :: a31 :: a32 :: (v 33) :: (v 34) :: (v 35) :: (v 36) :: (v 37) :: (v 38) :: (v 39) :: (v 40) :: (v 41) :: (v 42) :: [(v 43), (v 44), (v 45), (v 46), (v 47), (v 48), (v 49), (v 50), (v 51), (v 52), (v 53), (v 54), (v 55), (v 56), (v 57), (v 58), (v 59), (v 60), (v 61), (v 62), (v 63), (v 64), (v 65), (v 66), (v 67), (v 68), (v 69), (v 70)])
abbrev mo135 (v : Nat → Value) (a27 a28 a29 a30 : Value) : List Value := ((v 0) :: (v 1) :: (v 2) :: (v 3) :: (v 4) :: (v 5) :: (v 6) :: (v 7) :: (v 8) :: (v 9) :: (v 10) :: (v 11) :: (v 12) :: (v 13) :: (v 14) :: (v 15) :: (v 16) :: (v 17) :: (v 18) :: (v 19) :: (v 20) :: (v 21) :: (v 22) :: (v 23) :: (v 24) :: (v 25) :: (v 26) :: a27 :: a28 :: a29 :: a30 :: (v 31) :: (v 32) :: (v 33) :: (v 34) :: (v 35) :: (v 36) :: (v 37) :: (v 38) :: (v 39) :: (v 40) :: (v 41) :: (v 42) :: [(v 43), (v 44), (v 45), (v 46), (v 47), (v 48), (v 49), (v 50), (v 51), (v 52), (v 53), (v 54), (v 55), (v 56), (v 57), (v 58), (v 59), (v 60), (v 61), (v 62), (v 63), (v 64), (v 65), (v 66), (v 67), (v 68), (v 69), (v 70)])
abbrev mo136 (v : Nat → Value) (a1 a2 a3 a4 a5 a27 a28 a29 a30 a31 a32 : Value) : List Value := ((v 0) :: a1 :: a2 :: a3 :: a4 :: a5 :: (v 6) :: (v 7) :: (v 8) :: (v 9) :: (v 10) :: (v 11) :: (v 12) :: (v 13) :: (v 14) :: (v 15) :: (v 16) :: (v 17) :: (v 18) :: (v 19) :: (v 20) :: (v 21) :: (v 22) :: (v 23) :: (v 24) :: (v 25) :: (v 26) :: a27 :: a28 :: a29 :: a30 :: a31 :: a32 :: (v 33) :: (v 34) :: (v 35) :: (v 36) :: (v 37) :: (v 38) :: (v 39) :: (v 40) :: (v 41) :: (v 42) :: [(v 43), (v 44), (v 45), (v 46), (v 47), (v 48), (v 49), (v 50), (v 51), (v 52), (v 53), (v 54), (v 55), (v 56), (v 57), (v 58), (v 59), (v 60), (v 61), (v 62), (v 63), (v 64), (v 65), (v 66), (v 67), (v 68), (v 69), (v 70)])
abbrev mo137 (v : Nat → Value) (a1 a2 a3 a4 a5 a27 a28 a31 a32 : Value) : List Value := ((v 0) :: a1 :: a2 :: a3 :: a4 :: a5 :: (v 6) :: (v 7) :: (v 8) :: (v 9) :: (v 10) :: (v 11) :: (v 12) :: (v 13) :: (v 14) :: (v 15) :: (v 16) :: (v 17) :: (v 18) :: (v 19) :: (v 20) :: (v 21) :: (v 22) :: (v 23) :: (v 24) :: (v 25) :: (v 26) :: a27 :: a28 :: (v 29) :: (v 30) :: a31 :: a32 :: (v 33) :: (v 34) :: (v 35) :: (v 36) :: (v 37) :: (v 38) :: (v 39) :: (v 40) :: (v 41) :: (v 42) :: [(v 43), (v 44), (v 45), (v 46), (v 47), (v 48), (v 49), (v 50), (v 51), (v 52), (v 53), (v 54), (v 55), (v 56), (v 57), (v 58), (v 59), (v 60), (v 61), (v 62), (v 63), (v 64), (v 65), (v 66), (v 67), (v 68), (v 69), (v 70)])
abbrev mo138 (v : Nat → Value) (a1 a3 a4 a5 a27 a28 a31 a32 a33 : Value) : List Value := ((v 0) :: a1 :: (v 2) :: a3 :: a4 :: a5 :: (v 6) :: (v 7) :: (v 8) :: (v 9) :: (v 10) :: (v 11) :: (v 12) :: (v 13) :: (v 14) :: (v 15) :: (v 16) :: (v 17) :: (v 18) :: (v 19) :: (v 20) :: (v 21) :: (v 22) :: (v 23) :: (v 24) :: (v 25) :: (v 26) :: a27 :: a28 :: (v 29) :: (v 30) :: a31 :: a32 :: a33 :: (v 34) :: (v 35) :: (v 36) :: (v 37) :: (v 38) :: (v 39) :: (v 40) :: (v 41) :: (v 42) :: [(v 43), (v 44), (v 45), (v 46), (v 47), (v 48), (v 49), (v 50), (v 51), (v 52), (v 53), (v 54), (v 55), (v 56), (v 57), (v 58), (v 59), (v 60), (v 61), (v 62), (v 63), (v 64), (v 65), (v 66), (v 67), (v 68), (v 69), (v 70)])
set_option maxRecDepth 100000 in
theorem mq134_129 (v : Nat → Value) (b3 b4 b5 b27 b28 b31 b32 : Value) : ∃ w : Nat → Value, ∀ (a1 : Value), mo129 w a1 = (mo134 v a1 b3 b4 b5 b27 b28 b31 b32) := ⟨fun k => List.getD (mo134 v .null b3 b4 b5 b27 b28 b31 b32) k .null, fun _ => rfl⟩
set_option maxRecDepth 100000 in
theorem mq134_86 (v : Nat → Value) (b27 b28 b31 b32 : Value) : ∃ w : Nat → Value, ∀ (a1 a3 a4 a5 : Value), mo86 w a1 a3 a4 a5 = (mo134 v a1 a3 a4 a5 b27 b28 b31 b32) := ⟨fun k => List.getD (mo134 v .null .null .null .null b27 b28 b31 b32) k .null, fun _ _ _ _ => rfl⟩
set_option maxRecDepth 100000 in
theorem mq134_85 (v : Nat → Value) (b1 b27 b28 b31 b32 : Value) : ∃ w : Nat → Value, ∀ (a3 a4 a5 : Value), mo85 w a3 a4 a5 = (mo134 v b1 a3 a4 a5 b27 b28 b31 b32) := ⟨fun k => List.getD (mo134 v b1 .null .null .null b27 b28 b31 b32) k .null, fun _ _ _ => rfl⟩
set_option maxRecDepth 100000 in
theorem mq136_134 (v : Nat → Value) (b2 b29 b30 : Value) : ∃ w : Nat → Value, ∀ (a1 a3 a4 a5 a27 a28 a31 a32 : Value), mo134 w a1 a3 a4 a5 a27 a28 a31 a32 = (mo136 v a1 b2 a3 a4 a5 a27 a28 b29 b30 a31 a32) := ⟨fun k => List.getD (mo136 v .null b2 .null .null .null .null .null b29 b30 .null .null) k .null, fun _ _ _ _ _ _ _ _ => rfl⟩
set_option maxRecDepth 100000 in
theorem mq136_86 (v : Nat → Value) (b2 b27 b28 b29 b30 b31 b32 : Value) : ∃ w : Nat → Value, ∀ (a1 a3 a4 a5 : Value), mo86 w a1 a3 a4 a5 = (mo136 v a1 b2 a3 a4 a5 b27 b28 b29 b30 b31 b32) := ⟨fun k => List.getD (mo136 v .null b2 .null .null .null b27 b28 b29 b30 b31 b32) k .null, fun _ _ _ _ => rfl⟩
set_option maxRecDepth 100000 in
theorem mq136_85 (v : Nat → Value) (b1 b2 b27 b28 b29 b30 b31 b32 : Value) : ∃ w : Nat → Value, ∀ (a3 a4 a5 : Value), mo85 w a3 a4 a5 = (mo136 v b1 b2 a3 a4 a5 b27 b28 b29 b30 b31 b32) := ⟨fun k => List.getD (mo136 v b1 b2 .null .null .null b27 b28 b29 b30 b31 b32) k .null, fun _ _ _ => rfl⟩
set_option maxRecDepth 100000 in
theorem mq136_129 (v : Nat → Value) (b2 b3 b4 b5 b27 b28 b29 b30 b31 b32 : Value) : ∃ w : Nat → Value, ∀ (a1 : Value), mo129 w a1 = (mo136 v a1 b2 b3 b4 b5 b27 b28 b29 b30 b31 b32) := ⟨fun k => List.getD (mo136 v .null b2 b3 b4 b5 b27 b28 b29 b30 b31 b32) k .null, fun _ => rfl⟩
set_option maxRecDepth 100000 in
theorem mq136_135 (v : Nat → Value) (b1 b2 b3 b4 b5 b31 b32 : Value) : ∃ w : Nat → Value, ∀ (a27 a28 a29 a30 : Value), mo135 w a27 a28 a29 a30 = (mo136 v b1 b2 b3 b4 b5 a27 a28 a29 a30 b31 b32) := ⟨fun k => List.getD (mo136 v b1 b2 b3 b4 b5 .null .null .null .null b31 b32) k .null, fun _ _ _ _ => rfl⟩
set_option maxRecDepth 100000 in
theorem mq137_134 (v : Nat → Value) (b2 : Value) : ∃ w : Nat → Value, ∀ (a1 a3 a4 a5 a27 a28 a31 a32 : Value), mo134 w a1 a3 a4 a5 a27 a28 a31 a32 = (mo137 v a1 b2 a3 a4 a5 a27 a28 a31 a32) := ⟨fun k => List.getD (mo137 v .null b2 .null .null .null .null .null .null .null) k .null, fun _ _ _ _ _ _ _ _ => rfl⟩
set_option maxRecDepth 100000 in
theorem mq137_129 (v : Nat → Value) (b2 b3 b4 b5 b27 b28 b31 b32 : Value) : ∃ w : Nat → Value, ∀ (a1 : Value), mo129 w a1 = (mo137 v a1 b2 b3 b4 b5 b27 b28 b31 b32) := ⟨fun k => List.getD (mo137 v .null b2 b3 b4 b5 b27 b28 b31 b32) k .null, fun _ => rfl⟩
set_option maxRecDepth 100000 in
theorem mq137_86 (v : Nat → Value) (b2 b27 b28 b31 b32 : Value) : ∃ w : Nat → Value, ∀ (a1 a3 a4 a5 : Value), mo86 w a1 a3 a4 a5 = (mo137 v a1 b2 a3 a4 a5 b27 b28 b31 b32) := ⟨fun k => List.getD (mo137 v .null b2 .null .null .null b27 b28 b31 b32) k .null, fun _ _ _ _ => rfl⟩
set_option maxRecDepth 100000 in
theorem mq137_85 (v : Nat → Value) (b1 b2 b27 b28 b31 b32 : Value) : ∃ w : Nat → Value, ∀ (a3 a4 a5 : Value), mo85 w a3 a4 a5 = (mo137 v b1 b2 a3 a4 a5 b27 b28 b31 b32) := ⟨fun k => List.getD (mo137 v b1 b2 .null .null .null b27 b28 b31 b32) k .null, fun _ _ _ => rfl⟩
set_option maxRecDepth 100000 in
theorem mq138_134 (v : Nat → Value) (b33 : Value) : ∃ w : Nat → Value, ∀ (a1 a3 a4 a5 a27 a28 a31 a32 : Value), mo134 w a1 a3 a4 a5 a27 a28 a31 a32 = (mo138 v a1 a3 a4 a5 a27 a28 a31 a32 b33) := ⟨fun k => List.getD (mo138 v .null .null .null .null .null .null .null .null b33) k .null, fun _ _ _ _ _ _ _ _ => rfl⟩
set_option maxRecDepth 100000 in
theorem mq138_86 (v : Nat → Value) (b27 b28 b31 b32 b33 : Value) : ∃ w : Nat → Value, ∀ (a1 a3 a4 a5 : Value), mo86 w a1 a3 a4 a5 = (mo138 v a1 a3 a4 a5 b27 b28 b31 b32 b33) := ⟨fun k => List.getD (mo138 v .null .null .null .null b27 b28 b31 b32 b33) k .null, fun _ _ _ _ => rfl⟩
set_option maxRecDepth 100000 in
theorem mq138_85 (v : Nat → Value) (b1 b27 b28 b31 b32 b33 : Value) : ∃ w : Nat → Value, ∀ (a3 a4 a5 : Value), mo85 w a3 a4 a5 = (mo138 v b1 a3 a4 a5 b27 b28 b31 b32 b33) := ⟨fun k => List.getD (mo138 v b1 .null .null .null b27 b28 b31 b32 b33) k .null, fun _ _ _ => rfl⟩
set_option maxHeartbeats 8000000 in
set_option maxRecDepth 100000 in
theorem c_X11_goesTo (l : Launch) (dC : Nat → ClassId) (dI : Nat → Nat → Nat) (sz : Nat) (h_mm : Nat) (h_nv : Nat) (h_na : Nat) (h_nb : Nat) (h_nc : Nat) (h_bto : Nat) (h_bin : Nat) (v_mm : Nat → Value) (x_mm_goneTo : Int32) (x_mm_goneIn : Int32) (cy_nv : ClassId) (f_nv : Nat → Int32) (cy_na : ClassId) (f_na : Nat → Int32) (cy_nb : ClassId) (f_nb : Nat → Int32) (cy_nc : ClassId) (f_nc : Nat → Int32) (cy_bto : ClassId) (f_bto : Nat → Int32) (cy_bin : ClassId) (f_bin : Nat → Int32) (p1 : Int32) (p2 : Int32) (i0 : Int) (i1 : Int) (N : Int) (hz : Nat → Nat) (g : GVT) (P : List Nat) (fu : Nat) (hx_mm_goneTo : 0 ≤ (x_mm_goneTo).toInt ∧ (x_mm_goneTo).toInt ≤ 7999) (hx_mm_goneIn : 0 ≤ (x_mm_goneIn).toInt ∧ (x_mm_goneIn).toInt ≤ 31) (hf_nv : Rg (-1) 7 f_nv) (hf_na : Rg (-1) 7999 f_na) (hf_nb : Rg (-1) 7999 f_nb) (hf_nc : Rg (-1) 7999 f_nc) (hf_bto : Rg (-1) 7999 f_bto) (hf_bin : Rg 0 31 f_bin) (q0 : 0 ≤ i0 ∧ i0 ≤ i1 ∧ i1 ≤ 31) (q1 : N ≤ 8000) (q2 : 0 ≤ (p1).toInt ∧ (p1).toInt < N) (q3 : i0 ≤ (p2).toInt ∧ (p2).toInt ≤ i1) (q4 : hz (p1).toInt.toNat + 6 * (256 - (P).length) + 1 ≤ fu) (hn_bi : BI i0 i1 N hz f_nv f_na f_nb f_nc f_bto f_bin) (hn_pa : PA i0 P f_nv f_na f_nb f_nc f_bto f_bin (p1).toInt.toNat (p2).toInt) (hn_grv : GRV g f_nv f_na f_nb f_nc) : Met l yX11_goesTo (Ws yX11_goesTo cX11_goesTo 4 none) (({ frames := 1, cells := 0, slots := 0, locals := 22 } : Room)) (PRE (dC, dI) cls [(cy_nv, .int), (cy_na, .int), (cy_nb, .int), (cy_nc, .int), (cy_bto, .int), (cy_bin, .int)] [(h_mm, .inr (8, (mo134 v_mm (.ref h_nv) (.ref h_na) (.ref h_nb) (.ref h_nc) (.ref h_bto) (.ref h_bin) (.int x_mm_goneTo) (.int x_mm_goneIn)))), (h_nv, .inl (cy_nv, 8000, .inl f_nv)), (h_na, .inl (cy_na, 8000, .inl f_na)), (h_nb, .inl (cy_nb, 8000, .inl f_nb)), (h_nc, .inl (cy_nc, 8000, .inl f_nc)), (h_bto, .inl (cy_bto, 256, .inl f_bto)), (h_bin, .inl (cy_bin, 256, .inl f_bin))] sz [.ref h_mm, .int p1, .int p2]) (va_Qv (fun (u : (Int32) × (Int32) × (List Nat)) => (0 ≤ (u.1).toInt ∧ (u.1).toInt ≤ 7999) ∧ (0 ≤ (u.2.1).toInt ∧ (u.2.1).toInt ≤ 31) ∧ (0 ≤ (u.1).toInt ∧ (u.1).toInt < N) ∧ (i0 ≤ (u.2.1).toInt ∧ (u.2.1).toInt ≤ i1) ∧ (hz (u.1).toInt.toNat + 6 * (256 - (u.2.2).length) + 1 ≤ fu) ∧ (PA i0 u.2.2 f_nv f_na f_nb f_nc f_bto f_bin (u.1).toInt.toNat (u.2.1).toInt) ∧ ((f_nv (u.1).toInt.toNat).toInt = -1 ∨ (f_bto (8 * (u.2.1).toInt + (f_nv (u.1).toInt.toNat).toInt).toNat).toInt = -1) ∧ (∀ tt : Nat, (f_bto tt).toInt = -1 → NR f_nv f_na f_nb f_nc f_bto f_bin (u.1).toInt.toNat (u.2.1).toInt tt → NR f_nv f_na f_nb f_nc f_bto f_bin (p1).toInt.toNat (p2).toInt tt) ∧ (BRE g (BDW f_bto f_bin) (PLR p1 p2) (PLR u.1 u.2.1))) (fun (u : (Int32) × (Int32) × (List Nat)) (t : State) => va_P (dC, dI) cls [(h_mm, .inr (8, (mo134 v_mm (.ref h_nv) (.ref h_na) (.ref h_nb) (.ref h_nc) (.ref h_bto) (.ref h_bin) (.int u.1) (.int u.2.1)))), (h_nv, .inl (cy_nv, 8000, .inl f_nv)), (h_na, .inl (cy_na, 8000, .inl f_na)), (h_nb, .inl (cy_nb, 8000, .inl f_nb)), (h_nc, .inl (cy_nc, 8000, .inl f_nc)), (h_bto, .inl (cy_bto, 256, .inl f_bto)), (h_bin, .inl (cy_bin, 256, .inl f_bin))] t.heap ∧ va_D (va_A [(h_mm, .inr (8, (mo134 v_mm (.ref h_nv) (.ref h_na) (.ref h_nb) (.ref h_nc) (.ref h_bto) (.ref h_bin) (.int x_mm_goneTo) (.int x_mm_goneIn)))), (h_nv, .inl (cy_nv, 8000, .inl f_nv)), (h_na, .inl (cy_na, 8000, .inl f_na)), (h_nb, .inl (cy_nb, 8000, .inl f_nb)), (h_nc, .inl (cy_nc, 8000, .inl f_nc)), (h_bto, .inl (cy_bto, 256, .inl f_bto)), (h_bin, .inl (cy_bin, 256, .inl f_bin))] sz) [(h_mm, .inr (8, (mo134 v_mm (.ref h_nv) (.ref h_na) (.ref h_nb) (.ref h_nc) (.ref h_bto) (.ref h_bin) (.int u.1) (.int u.2.1)))), (h_nv, .inl (cy_nv, 8000, .inl f_nv)), (h_na, .inl (cy_na, 8000, .inl f_na)), (h_nb, .inl (cy_nb, 8000, .inl f_nb)), (h_nc, .inl (cy_nc, 8000, .inl f_nc)), (h_bto, .inl (cy_bto, 256, .inl f_bto)), (h_bin, .inl (cy_bin, 256, .inl f_bin))]) (va_A [(h_mm, .inr (8, (mo134 v_mm (.ref h_nv) (.ref h_na) (.ref h_nb) (.ref h_nc) (.ref h_bto) (.ref h_bin) (.int x_mm_goneTo) (.int x_mm_goneIn)))), (h_nv, .inl (cy_nv, 8000, .inl f_nv)), (h_na, .inl (cy_na, 8000, .inl f_na)), (h_nb, .inl (cy_nb, 8000, .inl f_nb)), (h_nc, .inl (cy_nc, 8000, .inl f_nc)), (h_bto, .inl (cy_bto, 256, .inl f_bto)), (h_bin, .inl (cy_bin, 256, .inl f_bin))] sz)) 0 0 (va_A [(h_mm, .inr (8, (mo134 v_mm (.ref h_nv) (.ref h_na) (.ref h_nb) (.ref h_nc) (.ref h_bto) (.ref h_bin) (.int x_mm_goneTo) (.int x_mm_goneIn)))), (h_nv, .inl (cy_nv, 8000, .inl f_nv)), (h_na, .inl (cy_na, 8000, .inl f_na)), (h_nb, .inl (cy_nb, 8000, .inl f_nb)), (h_nc, .inl (cy_nc, 8000, .inl f_nc)), (h_bto, .inl (cy_bto, 256, .inl f_bto)), (h_bin, .inl (cy_bin, 256, .inl f_bin))] sz) := by
  refine Met.ofW (cc := cX11_goesTo) (maxL := 4) (ret := none) (by decide) rfl ?_
  intro p e s m args below meth c s₁ B hml hv
  obtain ⟨rfl, hsz, hP, hK, hD0, hN⟩ := hv
  have hx := B.exec
  have hb := B.bytes
  have hr := B.returns
  have hts := atoms_spec (ws := Ws yX11_goesTo cX11_goesTo 4 none) B.pre
  have hT : ∀ w ∈ WALL, w ∈ Ws yX11_goesTo cX11_goesTo 4 none := fun w h => List.mem_cons_of_mem _ h
  have hw := fun w (h : w ∈ WALL) => hts w (hT w h)
  have hown : s.vm.findClass RX11 = some m.cls := findClass_of_methodNamed B.named
  have hlocks := B.notSynchronized
  subst hsz
  have hD := hD0.self (sz := s.heap.size)
  generalize hAe : va_A [(h_mm, .inr (8, (mo134 v_mm (.ref h_nv) (.ref h_na) (.ref h_nb) (.ref h_nc) (.ref h_bto) (.ref h_bin) (.int x_mm_goneTo) (.int x_mm_goneIn)))), (h_nv, .inl (cy_nv, 8000, .inl f_nv)), (h_na, .inl (cy_na, 8000, .inl f_na)), (h_nb, .inl (cy_nb, 8000, .inl f_nb)), (h_nc, .inl (cy_nc, 8000, .inl f_nc)), (h_bto, .inl (cy_bto, 256, .inl f_bto)), (h_bin, .inl (cy_bin, 256, .inl f_bin))] s.heap.size = A at hD ⊢
  have hA : ∀ q : Nat, s.heap.size ≤ q → A q := fun q h => by rw [← hAe]; exact Or.inr h
  have hS : va_S A s.heap s.heap [] := va_S.rf
  have hl := lv_entry ([.ref h_mm, .int p1, .int p2]) (n := 4) (Nat.le_of_ble_eq_true rfl)
  rw [lg_entry_eq]
  generalize (lg_sl ([.ref h_mm, .int p1, .int p2]) ++ List.replicate (4 - (lg_sl ([.ref h_mm, .int p1, .int p2])).length) Slot.unset).toArray = ls at hl ⊢
  have hl : lv_has ls 4 [(0, .ref h_mm), (1, .int p1), (2, .int p2)] := hl
  refine lv_aload_n hx hb dX11_goesTo_0 rfl (lv_at hl 0 rfl) ?_
  refine lv_iload_n hx hb dX11_goesTo_1 rfl (lv_at hl 1 rfl) ?_
  refine va_put (D := (dC, dI)) (ci := 8) (v := .int p1) (ty := tyX11 31) (C := RX11) (T := TX11) (N := 71) hx hb hw iwX11 tyX11 tyX11_ok nmX11 hown hK hP hD hS 0 rfl rfl 31 (by decide) (hw _ w_f_X11_264) (fun _ h9 => h9) rfl (tyX11_ok 31 (by decide)) rfl rfl (Nat.le_of_ble_eq_true rfl) dX11_goesTo_2 (fun H locs hP9 hD9 hS9 => ?_)
  clear hP hD hS
  have hP : va_P (dC, dI) cls [(h_mm, .inr (8, (mo134 v_mm (.ref h_nv) (.ref h_na) (.ref h_nb) (.ref h_nc) (.ref h_bto) (.ref h_bin) (.int p1) (.int x_mm_goneIn)))), (h_nv, .inl (cy_nv, 8000, .inl f_nv)), (h_na, .inl (cy_na, 8000, .inl f_na)), (h_nb, .inl (cy_nb, 8000, .inl f_nb)), (h_nc, .inl (cy_nc, 8000, .inl f_nc)), (h_bto, .inl (cy_bto, 256, .inl f_bto)), (h_bin, .inl (cy_bin, 256, .inl f_bin))] H := hP9
  have hD : va_D A [(h_mm, .inr (8, (mo134 v_mm (.ref h_nv) (.ref h_na) (.ref h_nb) (.ref h_nc) (.ref h_bto) (.ref h_bin) (.int p1) (.int x_mm_goneIn)))), (h_nv, .inl (cy_nv, 8000, .inl f_nv)), (h_na, .inl (cy_na, 8000, .inl f_na)), (h_nb, .inl (cy_nb, 8000, .inl f_nb)), (h_nc, .inl (cy_nc, 8000, .inl f_nc)), (h_bto, .inl (cy_bto, 256, .inl f_bto)), (h_bin, .inl (cy_bin, 256, .inl f_bin))] := hD9
  have hS := hS9
  clear hP9 hD9 hS9
  refine lv_aload_n hx hb dX11_goesTo_5 rfl (lv_at hl 0 rfl) ?_
  refine lv_iload_n hx hb dX11_goesTo_6 rfl (lv_at hl 2 rfl) ?_
  refine va_put (D := (dC, dI)) (ci := 8) (v := .int p2) (ty := tyX11 32) (C := RX11) (T := TX11) (N := 71) hx hb hw iwX11 tyX11 tyX11_ok nmX11 hown hK hP hD hS 0 rfl rfl 32 (by decide) (hw _ w_f_X11_267) (fun _ h9 => h9) rfl (tyX11_ok 32 (by decide)) rfl rfl (Nat.le_of_ble_eq_true rfl) dX11_goesTo_7 (fun H locs hP9 hD9 hS9 => ?_)
  clear hP hD hS
  have hP : va_P (dC, dI) cls [(h_mm, .inr (8, (mo134 v_mm (.ref h_nv) (.ref h_na) (.ref h_nb) (.ref h_nc) (.ref h_bto) (.ref h_bin) (.int p1) (.int p2)))), (h_nv, .inl (cy_nv, 8000, .inl f_nv)), (h_na, .inl (cy_na, 8000, .inl f_na)), (h_nb, .inl (cy_nb, 8000, .inl f_nb)), (h_nc, .inl (cy_nc, 8000, .inl f_nc)), (h_bto, .inl (cy_bto, 256, .inl f_bto)), (h_bin, .inl (cy_bin, 256, .inl f_bin))] H := hP9
  have hD : va_D A [(h_mm, .inr (8, (mo134 v_mm (.ref h_nv) (.ref h_na) (.ref h_nb) (.ref h_nc) (.ref h_bto) (.ref h_bin) (.int p1) (.int p2)))), (h_nv, .inl (cy_nv, 8000, .inl f_nv)), (h_na, .inl (cy_na, 8000, .inl f_na)), (h_nb, .inl (cy_nb, 8000, .inl f_nb)), (h_nc, .inl (cy_nc, 8000, .inl f_nc)), (h_bto, .inl (cy_bto, 256, .inl f_bto)), (h_bin, .inl (cy_bin, 256, .inl f_bin))] := hD9
  have hS := hS9
  clear hP9 hD9 hS9
  have lp4 : ∀ (n : Nat) (x1 : Int32) (x2 : Int32) (gh3 : List Nat) (H : Heap) (locs : List Loc) (ls : Array Slot), (0 ≤ (x1).toInt ∧ (x1).toInt ≤ 7999) → (0 ≤ (x2).toInt ∧ (x2).toInt ≤ 31) → (0 ≤ (x1).toInt ∧ (x1).toInt < N) → (i0 ≤ (x2).toInt ∧ (x2).toInt ≤ i1) → (hz ((x1).toInt).toNat + 6 * (256 - (gh3).length) + 1 ≤ fu) → (PA i0 gh3 f_nv f_na f_nb f_nc f_bto f_bin ((x1).toInt).toNat (x2).toInt) → (∀ tt : Nat, (f_bto tt).toInt = -1 → NR f_nv f_na f_nb f_nc f_bto f_bin ((x1).toInt).toNat (x2).toInt tt → NR f_nv f_na f_nb f_nc f_bto f_bin (p1).toInt.toNat (p2).toInt tt) → (∀ q9 : Nat, BRE g (BDW f_bto f_bin) (PLR x1 x2) q9 → BRE g (BDW f_bto f_bin) (PLR p1 p2) q9) → (256 - ((gh3).length : Int)).toNat + 1 ≤ n → va_P (dC, dI) cls [(h_mm, .inr (8, (mo134 v_mm (.ref h_nv) (.ref h_na) (.ref h_nb) (.ref h_nc) (.ref h_bto) (.ref h_bin) (.int x1) (.int x2)))), (h_nv, .inl (cy_nv, 8000, .inl f_nv)), (h_na, .inl (cy_na, 8000, .inl f_na)), (h_nb, .inl (cy_nb, 8000, .inl f_nb)), (h_nc, .inl (cy_nc, 8000, .inl f_nc)), (h_bto, .inl (cy_bto, 256, .inl f_bto)), (h_bin, .inl (cy_bin, 256, .inl f_bin))] H → va_D A [(h_mm, .inr (8, (mo134 v_mm (.ref h_nv) (.ref h_na) (.ref h_nb) (.ref h_nc) (.ref h_bto) (.ref h_bin) (.int x1) (.int x2)))), (h_nv, .inl (cy_nv, 8000, .inl f_nv)), (h_na, .inl (cy_na, 8000, .inl f_na)), (h_nb, .inl (cy_nb, 8000, .inl f_nb)), (h_nc, .inl (cy_nc, 8000, .inl f_nc)), (h_bto, .inl (cy_bto, 256, .inl f_bto)), (h_bin, .inl (cy_bin, 256, .inl f_bin))] → va_S A s.heap H locs → lv_has ls 4 [(0, .ref h_mm), (1, .int p1), (2, .int p2)] → W p l e ({ frames := 1, cells := 0, slots := 0, locals := 22 } : Room) s m ([.ref h_mm, .int p1, .int p2] : List Value).toArray below meth c H locs 0 0 (MQ below (va_Qv (fun (u : (Int32) × (Int32) × (List Nat)) => (0 ≤ (u.1).toInt ∧ (u.1).toInt ≤ 7999) ∧ (0 ≤ (u.2.1).toInt ∧ (u.2.1).toInt ≤ 31) ∧ (0 ≤ (u.1).toInt ∧ (u.1).toInt < N) ∧ (i0 ≤ (u.2.1).toInt ∧ (u.2.1).toInt ≤ i1) ∧ (hz (u.1).toInt.toNat + 6 * (256 - (u.2.2).length) + 1 ≤ fu) ∧ (PA i0 u.2.2 f_nv f_na f_nb f_nc f_bto f_bin (u.1).toInt.toNat (u.2.1).toInt) ∧ ((f_nv (u.1).toInt.toNat).toInt = -1 ∨ (f_bto (8 * (u.2.1).toInt + (f_nv (u.1).toInt.toNat).toInt).toNat).toInt = -1) ∧ (∀ tt : Nat, (f_bto tt).toInt = -1 → NR f_nv f_na f_nb f_nc f_bto f_bin (u.1).toInt.toNat (u.2.1).toInt tt → NR f_nv f_na f_nb f_nc f_bto f_bin (p1).toInt.toNat (p2).toInt tt) ∧ (BRE g (BDW f_bto f_bin) (PLR p1 p2) (PLR u.1 u.2.1))) (fun (u : (Int32) × (Int32) × (List Nat)) (t : State) => va_P (dC, dI) cls [(h_mm, .inr (8, (mo134 v_mm (.ref h_nv) (.ref h_na) (.ref h_nb) (.ref h_nc) (.ref h_bto) (.ref h_bin) (.int u.1) (.int u.2.1)))), (h_nv, .inl (cy_nv, 8000, .inl f_nv)), (h_na, .inl (cy_na, 8000, .inl f_na)), (h_nb, .inl (cy_nb, 8000, .inl f_nb)), (h_nc, .inl (cy_nc, 8000, .inl f_nc)), (h_bto, .inl (cy_bto, 256, .inl f_bto)), (h_bin, .inl (cy_bin, 256, .inl f_bin))] t.heap ∧ va_D A [(h_mm, .inr (8, (mo134 v_mm (.ref h_nv) (.ref h_na) (.ref h_nb) (.ref h_nc) (.ref h_bto) (.ref h_bin) (.int u.1) (.int u.2.1)))), (h_nv, .inl (cy_nv, 8000, .inl f_nv)), (h_na, .inl (cy_na, 8000, .inl f_na)), (h_nb, .inl (cy_nb, 8000, .inl f_nb)), (h_nc, .inl (cy_nc, 8000, .inl f_nc)), (h_bto, .inl (cy_bto, 256, .inl f_bto)), (h_bin, .inl (cy_bin, 256, .inl f_bin))]) A) ([.ref h_mm, .int p1, .int p2] : List Value).toArray s 0 0 A) (F0 m 10 ls []) := by
    clear hP hD hS hl
    intro n
    induction n with
    | zero => intro x1 x2 gh3 H locs ls klp4_0 klp4_1 klp4_2 klp4_3 klp4_4 klp4_5 klp4_6 klp4_7 hm hP hD hS hl; exact False.elim (by omega)
    | succ n ih => 
      intro x1 x2 gh3 H locs ls klp4_0 klp4_1 klp4_2 klp4_3 klp4_4 klp4_5 klp4_6 klp4_7 hm hP hD hS hl
      have ih5 := ih
      clear ih
      refine lv_aload_n hx hb dX11_goesTo_10 rfl (lv_at hl 0 rfl) ?_
      refine va_get (D := (dC, dI)) (ci := 8) (v := .ref h_nv) (C := RX11) (T := TX11) (N := 71) hx hb hw iwX11 hown hK hP 0 rfl rfl 1 (by decide) (hw _ w_f_X11_17) (fun _ h9 => h9) rfl dX11_goesTo_11 ?_
      refine lv_aload_n hx hb dX11_goesTo_14 rfl (lv_at hl 0 rfl) ?_
      refine va_get (D := (dC, dI)) (ci := 8) (v := .int x1) (C := RX11) (T := TX11) (N := 71) hx hb hw iwX11 hown hK hP 0 rfl rfl 31 (by decide) (hw _ w_f_X11_264) (fun _ h9 => h9) rfl dX11_goesTo_15 ?_
      refine va_iald hx hb hK hP 1 0 rfl rfl (i := x1) (vp_in_iff.mpr (by omega)) dX11_goesTo_18 ?_
      refine lv_topi (fun z6 ez6 => ?_)
      have rz6 : -1 ≤ (z6).toInt ∧ (z6).toInt ≤ 7 := by rw [ez6]; exact hf_nv _
      refine lv_iconst (v := (-1)) hx hb dX11_goesTo_19 (by decide) ?_
      refine lv_icmp_eq (tgt := 80) hx hb dX11_goesTo_20 (by decide) (fun c7 => ?_) (fun c7 => ?_)
      · have kc7 := (cv_eq (rfl : (z6).toInt = (z6).toInt) (by decide : ((-1) : Int32).toInt = -1)).mp c7
        have hvz6 : (f_nv (x1).toInt.toNat).toInt = (z6).toInt := by rw [ez6, (clamp_nat (i := x1) (by omega))]
        refine W.widen (k := 0) (n := 0) (Nat.le_of_ble_eq_true rfl) (Nat.le_of_ble_eq_true rfl) ?_
        have w8 : 0 ≤ ((x1)).toInt ∧ ((x1)).toInt ≤ 7999 := by first | exact klp4_0 | omega
        have w9 : 0 ≤ ((x2)).toInt ∧ ((x2)).toInt ≤ 31 := by first | exact klp4_1 | omega
        have w10 : 0 ≤ ((x1)).toInt ∧ ((x1)).toInt < N := by first | exact klp4_2 | omega
        have w11 : i0 ≤ ((x2)).toInt ∧ ((x2)).toInt ≤ i1 := by first | exact klp4_3 | omega
        have w12 : hz ((x1)).toInt.toNat + 6 * (256 - ((gh3)).length) + 1 ≤ fu := by first | exact klp4_4 | omega
        have w13 : PA i0 (gh3) f_nv f_na f_nb f_nc f_bto f_bin ((x1)).toInt.toNat ((x2)).toInt := klp4_5
        have w14 : (f_nv ((x1)).toInt.toNat).toInt = -1 ∨ (f_bto (8 * ((x2)).toInt + (f_nv ((x1)).toInt.toNat).toInt).toNat).toInt = -1 := (Or.inl (by omega))
        have w15 : ∀ tt : Nat, (f_bto tt).toInt = -1 → NR f_nv f_na f_nb f_nc f_bto f_bin ((x1)).toInt.toNat ((x2)).toInt tt → NR f_nv f_na f_nb f_nc f_bto f_bin (p1).toInt.toNat (p2).toInt tt := klp4_6
        have w16 : BRE g (BDW f_bto f_bin) (PLR p1 p2) (PLR (x1) (x2)) := (klp4_7 _ (bre_ter (grv_ter hn_grv (by omega) (by omega) (Or.inl (by omega)))))
        exact W.vret hx hb hr (fun t ht hW => ⟨⟨(x1, x2, gh3), rfl, ⟨w8, w9, w10, w11, w12, w13, w14, w15, w16⟩, by rw [ht]; exact hP, hD⟩, hS.F ht⟩) hS.2.2 dX11_goesTo_80
      · have kc7 := (not_congr (cv_eq (rfl : (z6).toInt = (z6).toInt) (by decide : ((-1) : Int32).toInt = -1))).mp c7
        have hvz6 : (f_nv (x1).toInt.toNat).toInt = (z6).toInt := by rw [ez6, (clamp_nat (i := x1) (by omega))]
        refine lv_aload_n hx hb dX11_goesTo_23 rfl (lv_at hl 0 rfl) ?_
        refine va_get (D := (dC, dI)) (ci := 8) (v := .ref h_bto) (C := RX11) (T := TX11) (N := 71) hx hb hw iwX11 hown hK hP 0 rfl rfl 27 (by decide) (hw _ w_f_X11_195) (fun _ h9 => h9) rfl dX11_goesTo_24 ?_
        refine lv_aload_n hx hb dX11_goesTo_27 rfl (lv_at hl 0 rfl) ?_
        refine lv_aload_n hx hb dX11_goesTo_28 rfl (lv_at hl 0 rfl) ?_
        refine va_get (D := (dC, dI)) (ci := 8) (v := .int x1) (C := RX11) (T := TX11) (N := 71) hx hb hw iwX11 hown hK hP 0 rfl rfl 31 (by decide) (hw _ w_f_X11_264) (fun _ h9 => h9) rfl dX11_goesTo_29 ?_
        refine lv_aload_n hx hb dX11_goesTo_32 rfl (lv_at hl 0 rfl) ?_
        refine va_get (D := (dC, dI)) (ci := 8) (v := .int x2) (C := RX11) (T := TX11) (N := 71) hx hb hw iwX11 hown hK hP 0 rfl rfl 32 (by decide) (hw _ w_f_X11_267) (fun _ h9 => h9) rfl dX11_goesTo_33 ?_
        obtain ⟨vq17, evq17⟩ := mq134_129 v_mm (.ref h_na) (.ref h_nb) (.ref h_nc) (.ref h_bto) (.ref h_bin) (.int x1) (.int x2)
        replace hP : va_P (dC, dI) cls [(h_mm, .inr (8, (mo129 vq17 (.ref h_nv)))), (h_nv, .inl (cy_nv, 8000, .inl f_nv)), (h_na, .inl (cy_na, 8000, .inl f_na)), (h_nb, .inl (cy_nb, 8000, .inl f_nb)), (h_nc, .inl (cy_nc, 8000, .inl f_nc)), (h_bto, .inl (cy_bto, 256, .inl f_bto)), (h_bin, .inl (cy_bin, 256, .inl f_bin))] H := by rw [evq17]; exact hP
        replace hD : va_D A [(h_mm, .inr (8, (mo129 vq17 (.ref h_nv)))), (h_nv, .inl (cy_nv, 8000, .inl f_nv)), (h_na, .inl (cy_na, 8000, .inl f_na)), (h_nb, .inl (cy_nb, 8000, .inl f_nb)), (h_nc, .inl (cy_nc, 8000, .inl f_nc)), (h_bto, .inl (cy_bto, 256, .inl f_bto)), (h_bin, .inl (cy_bin, 256, .inl f_bin))] := by rw [evq17]; exact hD
        have hPc := hP.sub (ws' := [(h_mm, .inr (8, (mo129 vq17 (.ref h_nv)))), (h_nv, .inl (cy_nv, 8000, .inl f_nv))]) [0, 1] rfl
        have hDc := hD.sub (ws' := [(h_mm, .inr (8, (mo129 vq17 (.ref h_nv)))), (h_nv, .inl (cy_nv, 8000, .inl f_nv))]) [0, 1] (by decide) rfl
        have hKc := hK.sub (tys' := [(cy_nv, .int)]) [0] rfl
        have hFc := va_free (wc := [(h_mm, .inr (8, (mo129 vq17 (.ref h_nv)))), (h_nv, .inl (cy_nv, 8000, .inl f_nv))]) hD hS hA [0, 1] rfl
        refine va_calli (va_runV (As := [.int x1, .int x2]) (rest := [.ref h_bto]) ⟨hx, hb, hml, hown, hts⟩ (c_X11_slotOf l dC dI H.size h_mm h_nv vq17 cy_nv f_nv x1 x2 hf_nv (by first | exact klp4_0 | omega) (by first | exact klp4_1 | omega)) (cwV 2 hts (gv hT w_m_X11_270 w_instanceMethod_X11_slotOf ws_sel_X11_slotOf w_ini_X11 w_code_X11_slotOf) rfl rfl rfl (by decide +kernel) ⟨(Nat.le_of_ble_eq_true rfl), (Nat.le_of_ble_eq_true rfl)⟩) ⟨pre_blind, va_recv hK hP (ci := 8) (q0 := 0) rfl rfl, pre_of hPc hKc hDc hN⟩ rfl rfl hl.1 rfl (lv_room (Nat.le_of_ble_eq_true rfl)) dX11_goesTo_36 ⟨(Nat.le_of_ble_eq_true rfl), (Nat.le_of_ble_eq_true rfl)⟩) hS (fun q _ h => hFc q h) hFc (fun r18 u t H locs ht hvm hq hB hz1 hk1 hS9 => ?_)
        obtain ⟨hP1, hD1⟩ := hB
        rw [ht] at hP1
        obtain ⟨hP9, hD9⟩ := va_join (wr := [(h_na, .inl (cy_na, 8000, .inl f_na)), (h_nb, .inl (cy_nb, 8000, .inl f_nb)), (h_nc, .inl (cy_nc, 8000, .inl f_nc)), (h_bto, .inl (cy_bto, 256, .inl f_bto)), (h_bin, .inl (cy_bin, 256, .inl f_bin))]) (w1 := [(h_mm, .inr (8, (mo129 vq17 (.ref h_nv)))), (h_nv, .inl (cy_nv, 8000, .inl f_nv))]) hP hD [0, 1] [2, 3, 4, 5, 6] rfl rfl (by decide) (by decide) hk1 hFc hP1 hD1
        clear hP hD hS hPc hDc hKc hFc hP1 hD1 hk1 hz1 ht hvm
        have hP : va_P (dC, dI) cls [(h_na, .inl (cy_na, 8000, .inl f_na)), (h_nb, .inl (cy_nb, 8000, .inl f_nb)), (h_nc, .inl (cy_nc, 8000, .inl f_nc)), (h_bto, .inl (cy_bto, 256, .inl f_bto)), (h_bin, .inl (cy_bin, 256, .inl f_bin)), (h_mm, .inr (8, (mo129 vq17 (.ref h_nv)))), (h_nv, .inl (cy_nv, 8000, .inl f_nv))] H := hP9
        have hD : va_D A [(h_na, .inl (cy_na, 8000, .inl f_na)), (h_nb, .inl (cy_nb, 8000, .inl f_nb)), (h_nc, .inl (cy_nc, 8000, .inl f_nc)), (h_bto, .inl (cy_bto, 256, .inl f_bto)), (h_bin, .inl (cy_bin, 256, .inl f_bin)), (h_mm, .inr (8, (mo129 vq17 (.ref h_nv)))), (h_nv, .inl (cy_nv, 8000, .inl f_nv))] := hD9
        have hS := hS9
        clear hP9 hD9 hS9
        rw [evq17] at hP hD
        replace hP : va_P (dC, dI) cls [(h_na, .inl (cy_na, 8000, .inl f_na)), (h_nb, .inl (cy_nb, 8000, .inl f_nb)), (h_nc, .inl (cy_nc, 8000, .inl f_nc)), (h_bto, .inl (cy_bto, 256, .inl f_bto)), (h_bin, .inl (cy_bin, 256, .inl f_bin)), (h_mm, .inr (8, (mo134 v_mm (.ref h_nv) (.ref h_na) (.ref h_nb) (.ref h_nc) (.ref h_bto) (.ref h_bin) (.int x1) (.int x2)))), (h_nv, .inl (cy_nv, 8000, .inl f_nv))] H := hP
        replace hD : va_D A [(h_na, .inl (cy_na, 8000, .inl f_na)), (h_nb, .inl (cy_nb, 8000, .inl f_nb)), (h_nc, .inl (cy_nc, 8000, .inl f_nc)), (h_bto, .inl (cy_bto, 256, .inl f_bto)), (h_bin, .inl (cy_bin, 256, .inl f_bin)), (h_mm, .inr (8, (mo134 v_mm (.ref h_nv) (.ref h_na) (.ref h_nb) (.ref h_nc) (.ref h_bto) (.ref h_bin) (.int x1) (.int x2)))), (h_nv, .inl (cy_nv, 8000, .inl f_nv))] := hD
        clear evq17 
        obtain ⟨k19, k20⟩ := hq
        replace k19 : -1 ≤ (r18).toInt ∧ (r18).toInt ≤ 255 := k19
        replace k20 : ((r18)).toInt = 8 * ((x2)).toInt + (f_nv ((x1)).toInt.toNat).toInt := k20
        refine va_iald hx hb hK hP 3 4 rfl rfl (i := r18) (vp_in_iff.mpr (by omega)) dX11_goesTo_39 ?_
        refine lv_topi (fun z21 ez21 => ?_)
        have rz21 : -1 ≤ (z21).toInt ∧ (z21).toInt ≤ 7999 := by rw [ez21]; exact hf_bto _
        refine lv_iconst (v := (-1)) hx hb dX11_goesTo_40 (by decide) ?_
        refine lv_icmp_eq (tgt := 80) hx hb dX11_goesTo_41 (by decide) (fun c22 => ?_) (fun c22 => ?_)
        · have kc22 := (cv_eq (rfl : (z21).toInt = (z21).toInt) (by decide : ((-1) : Int32).toInt = -1)).mp c22
          have hvz6 : (f_nv (x1).toInt.toNat).toInt = (z6).toInt := by rw [ez6, (clamp_nat (i := x1) (by omega))]
          have ez9 : (8 * (x2).toInt + (f_nv (x1).toInt.toNat).toInt).toNat = (r18).toInt.toNat := by omega
          have tb9 : (f_bto (8 * (x2).toInt + (f_nv (x1).toInt.toNat).toInt).toNat).toInt = -1 := by rw [ez9, ← clamp_nat (i := r18) (by omega), ← ez21]; omega
          replace hP : va_P (dC, dI) cls [(h_mm, .inr (8, (mo134 v_mm (.ref h_nv) (.ref h_na) (.ref h_nb) (.ref h_nc) (.ref h_bto) (.ref h_bin) (.int x1) (.int x2)))), (h_nv, .inl (cy_nv, 8000, .inl f_nv)), (h_na, .inl (cy_na, 8000, .inl f_na)), (h_nb, .inl (cy_nb, 8000, .inl f_nb)), (h_nc, .inl (cy_nc, 8000, .inl f_nc)), (h_bto, .inl (cy_bto, 256, .inl f_bto)), (h_bin, .inl (cy_bin, 256, .inl f_bin))] H := hP.sub [5, 6, 0, 1, 2, 3, 4] rfl
          replace hD : va_D A [(h_mm, .inr (8, (mo134 v_mm (.ref h_nv) (.ref h_na) (.ref h_nb) (.ref h_nc) (.ref h_bto) (.ref h_bin) (.int x1) (.int x2)))), (h_nv, .inl (cy_nv, 8000, .inl f_nv)), (h_na, .inl (cy_na, 8000, .inl f_na)), (h_nb, .inl (cy_nb, 8000, .inl f_nb)), (h_nc, .inl (cy_nc, 8000, .inl f_nc)), (h_bto, .inl (cy_bto, 256, .inl f_bto)), (h_bin, .inl (cy_bin, 256, .inl f_bin))] := hD.sub [5, 6, 0, 1, 2, 3, 4] (by decide) rfl
          refine W.widen (k := 0) (n := 0) (Nat.le_of_ble_eq_true rfl) (Nat.le_of_ble_eq_true rfl) ?_
          have w23 : 0 ≤ ((x1)).toInt ∧ ((x1)).toInt ≤ 7999 := by first | exact klp4_0 | omega
          have w24 : 0 ≤ ((x2)).toInt ∧ ((x2)).toInt ≤ 31 := by first | exact klp4_1 | omega
          have w25 : 0 ≤ ((x1)).toInt ∧ ((x1)).toInt < N := by first | exact klp4_2 | omega
          have w26 : i0 ≤ ((x2)).toInt ∧ ((x2)).toInt ≤ i1 := by first | exact klp4_3 | omega
          have w27 : hz ((x1)).toInt.toNat + 6 * (256 - ((gh3)).length) + 1 ≤ fu := by first | exact klp4_4 | omega
          have w28 : PA i0 (gh3) f_nv f_na f_nb f_nc f_bto f_bin ((x1)).toInt.toNat ((x2)).toInt := klp4_5
          have w29 : (f_nv ((x1)).toInt.toNat).toInt = -1 ∨ (f_bto (8 * ((x2)).toInt + (f_nv ((x1)).toInt.toNat).toInt).toNat).toInt = -1 := (Or.inr tb9)
          have w30 : ∀ tt : Nat, (f_bto tt).toInt = -1 → NR f_nv f_na f_nb f_nc f_bto f_bin ((x1)).toInt.toNat ((x2)).toInt tt → NR f_nv f_na f_nb f_nc f_bto f_bin (p1).toInt.toNat (p2).toInt tt := klp4_6
          have w31 : BRE g (BDW f_bto f_bin) (PLR p1 p2) (PLR (x1) (x2)) := (klp4_7 _ (bre_ter (grv_ter hn_grv (by omega) (by omega) (Or.inr tb9))))
          exact W.vret hx hb hr (fun t ht hW => ⟨⟨(x1, x2, gh3), rfl, ⟨w23, w24, w25, w26, w27, w28, w29, w30, w31⟩, by rw [ht]; exact hP, hD⟩, hS.F ht⟩) hS.2.2 dX11_goesTo_80
        · have kc22 := (not_congr (cv_eq (rfl : (z21).toInt = (z21).toInt) (by decide : ((-1) : Int32).toInt = -1))).mp c22
          refine lv_aload_n hx hb dX11_goesTo_44 rfl (lv_at hl 0 rfl) ?_
          refine lv_aload_n hx hb dX11_goesTo_45 rfl (lv_at hl 0 rfl) ?_
          refine va_get (D := (dC, dI)) (ci := 8) (v := .int x1) (C := RX11) (T := TX11) (N := 71) hx hb hw iwX11 hown hK hP 5 rfl rfl 31 (by decide) (hw _ w_f_X11_264) (fun _ h9 => h9) rfl dX11_goesTo_46 ?_
          refine lv_aload_n hx hb dX11_goesTo_49 rfl (lv_at hl 0 rfl) ?_
          refine va_get (D := (dC, dI)) (ci := 8) (v := .int x2) (C := RX11) (T := TX11) (N := 71) hx hb hw iwX11 hown hK hP 5 rfl rfl 32 (by decide) (hw _ w_f_X11_267) (fun _ h9 => h9) rfl dX11_goesTo_50 ?_
          obtain ⟨vq32, evq32⟩ := mq134_129 v_mm (.ref h_na) (.ref h_nb) (.ref h_nc) (.ref h_bto) (.ref h_bin) (.int x1) (.int x2)
          replace hP : va_P (dC, dI) cls [(h_na, .inl (cy_na, 8000, .inl f_na)), (h_nb, .inl (cy_nb, 8000, .inl f_nb)), (h_nc, .inl (cy_nc, 8000, .inl f_nc)), (h_bto, .inl (cy_bto, 256, .inl f_bto)), (h_bin, .inl (cy_bin, 256, .inl f_bin)), (h_mm, .inr (8, (mo129 vq32 (.ref h_nv)))), (h_nv, .inl (cy_nv, 8000, .inl f_nv))] H := by rw [evq32]; exact hP
          replace hD : va_D A [(h_na, .inl (cy_na, 8000, .inl f_na)), (h_nb, .inl (cy_nb, 8000, .inl f_nb)), (h_nc, .inl (cy_nc, 8000, .inl f_nc)), (h_bto, .inl (cy_bto, 256, .inl f_bto)), (h_bin, .inl (cy_bin, 256, .inl f_bin)), (h_mm, .inr (8, (mo129 vq32 (.ref h_nv)))), (h_nv, .inl (cy_nv, 8000, .inl f_nv))] := by rw [evq32]; exact hD
          have hPc := hP.sub (ws' := [(h_mm, .inr (8, (mo129 vq32 (.ref h_nv)))), (h_nv, .inl (cy_nv, 8000, .inl f_nv))]) [5, 6] rfl
          have hDc := hD.sub (ws' := [(h_mm, .inr (8, (mo129 vq32 (.ref h_nv)))), (h_nv, .inl (cy_nv, 8000, .inl f_nv))]) [5, 6] (by decide) rfl
          have hKc := hK.sub (tys' := [(cy_nv, .int)]) [0] rfl
          have hFc := va_free (wc := [(h_mm, .inr (8, (mo129 vq32 (.ref h_nv)))), (h_nv, .inl (cy_nv, 8000, .inl f_nv))]) hD hS hA [5, 6] rfl
          refine va_calli (va_runV (As := [.int x1, .int x2]) (rest := []) ⟨hx, hb, hml, hown, hts⟩ (c_X11_slotOf l dC dI H.size h_mm h_nv vq32 cy_nv f_nv x1 x2 hf_nv (by first | exact klp4_0 | omega) (by first | exact klp4_1 | omega)) (cwV 2 hts (gv hT w_m_X11_270 w_instanceMethod_X11_slotOf ws_sel_X11_slotOf w_ini_X11 w_code_X11_slotOf) rfl rfl rfl (by decide +kernel) ⟨(Nat.le_of_ble_eq_true rfl), (Nat.le_of_ble_eq_true rfl)⟩) ⟨pre_blind, va_recv hK hP (ci := 8) (q0 := 5) rfl rfl, pre_of hPc hKc hDc hN⟩ rfl rfl hl.1 rfl (lv_room (Nat.le_of_ble_eq_true rfl)) dX11_goesTo_53 ⟨(Nat.le_of_ble_eq_true rfl), (Nat.le_of_ble_eq_true rfl)⟩) hS (fun q _ h => hFc q h) hFc (fun r33 u t H locs ht hvm hq hB hz1 hk1 hS9 => ?_)
          obtain ⟨hP1, hD1⟩ := hB
          rw [ht] at hP1
          obtain ⟨hP9, hD9⟩ := va_join (wr := [(h_na, .inl (cy_na, 8000, .inl f_na)), (h_nb, .inl (cy_nb, 8000, .inl f_nb)), (h_nc, .inl (cy_nc, 8000, .inl f_nc)), (h_bto, .inl (cy_bto, 256, .inl f_bto)), (h_bin, .inl (cy_bin, 256, .inl f_bin))]) (w1 := [(h_mm, .inr (8, (mo129 vq32 (.ref h_nv)))), (h_nv, .inl (cy_nv, 8000, .inl f_nv))]) hP hD [5, 6] [0, 1, 2, 3, 4] rfl rfl (by decide) (by decide) hk1 hFc hP1 hD1
          clear hP hD hS hPc hDc hKc hFc hP1 hD1 hk1 hz1 ht hvm
          have hP : va_P (dC, dI) cls [(h_na, .inl (cy_na, 8000, .inl f_na)), (h_nb, .inl (cy_nb, 8000, .inl f_nb)), (h_nc, .inl (cy_nc, 8000, .inl f_nc)), (h_bto, .inl (cy_bto, 256, .inl f_bto)), (h_bin, .inl (cy_bin, 256, .inl f_bin)), (h_mm, .inr (8, (mo129 vq32 (.ref h_nv)))), (h_nv, .inl (cy_nv, 8000, .inl f_nv))] H := hP9
          have hD : va_D A [(h_na, .inl (cy_na, 8000, .inl f_na)), (h_nb, .inl (cy_nb, 8000, .inl f_nb)), (h_nc, .inl (cy_nc, 8000, .inl f_nc)), (h_bto, .inl (cy_bto, 256, .inl f_bto)), (h_bin, .inl (cy_bin, 256, .inl f_bin)), (h_mm, .inr (8, (mo129 vq32 (.ref h_nv)))), (h_nv, .inl (cy_nv, 8000, .inl f_nv))] := hD9
          have hS := hS9
          clear hP9 hD9 hS9
          rw [evq32] at hP hD
          replace hP : va_P (dC, dI) cls [(h_na, .inl (cy_na, 8000, .inl f_na)), (h_nb, .inl (cy_nb, 8000, .inl f_nb)), (h_nc, .inl (cy_nc, 8000, .inl f_nc)), (h_bto, .inl (cy_bto, 256, .inl f_bto)), (h_bin, .inl (cy_bin, 256, .inl f_bin)), (h_mm, .inr (8, (mo134 v_mm (.ref h_nv) (.ref h_na) (.ref h_nb) (.ref h_nc) (.ref h_bto) (.ref h_bin) (.int x1) (.int x2)))), (h_nv, .inl (cy_nv, 8000, .inl f_nv))] H := hP
          replace hD : va_D A [(h_na, .inl (cy_na, 8000, .inl f_na)), (h_nb, .inl (cy_nb, 8000, .inl f_nb)), (h_nc, .inl (cy_nc, 8000, .inl f_nc)), (h_bto, .inl (cy_bto, 256, .inl f_bto)), (h_bin, .inl (cy_bin, 256, .inl f_bin)), (h_mm, .inr (8, (mo134 v_mm (.ref h_nv) (.ref h_na) (.ref h_nb) (.ref h_nc) (.ref h_bto) (.ref h_bin) (.int x1) (.int x2)))), (h_nv, .inl (cy_nv, 8000, .inl f_nv))] := hD
          clear evq32 
          obtain ⟨k34, k35⟩ := hq
          replace k34 : -1 ≤ (r33).toInt ∧ (r33).toInt ≤ 255 := k34
          replace k35 : ((r33)).toInt = 8 * ((x2)).toInt + (f_nv ((x1)).toInt.toNat).toInt := k35
          refine lv_istore_n (lv' := [(3, .int r33), (0, .ref h_mm), (1, .int p1), (2, .int p2)]) hx hb dX11_goesTo_56 rfl hl (by decide) rfl (fun ls hl => ?_)
          refine lv_aload_n hx hb dX11_goesTo_57 rfl (lv_at hl 1 rfl) ?_
          refine lv_aload_n hx hb dX11_goesTo_58 rfl (lv_at hl 1 rfl) ?_
          refine va_get (D := (dC, dI)) (ci := 8) (v := .ref h_bto) (C := RX11) (T := TX11) (N := 71) hx hb hw iwX11 hown hK hP 5 rfl rfl 27 (by decide) (hw _ w_f_X11_195) (fun _ h9 => h9) rfl dX11_goesTo_59 ?_
          refine lv_iload_n hx hb dX11_goesTo_62 rfl (lv_at hl 0 rfl) ?_
          refine va_iald hx hb hK hP 3 4 rfl rfl (i := r33) (vp_in_iff.mpr (by omega)) dX11_goesTo_63 ?_
          refine lv_topi (fun z36 ez36 => ?_)
          have rz36 : -1 ≤ (z36).toInt ∧ (z36).toInt ≤ 7999 := by rw [ez36]; exact hf_bto _
          refine va_put (D := (dC, dI)) (ci := 8) (v := .int z36) (ty := tyX11 31) (C := RX11) (T := TX11) (N := 71) hx hb hw iwX11 tyX11 tyX11_ok nmX11 hown hK hP hD hS 5 rfl rfl 31 (by decide) (hw _ w_f_X11_264) (fun _ h9 => h9) rfl (tyX11_ok 31 (by decide)) rfl rfl (Nat.le_of_ble_eq_true rfl) dX11_goesTo_64 (fun H locs hP9 hD9 hS9 => ?_)
          clear hP hD hS
          have hP : va_P (dC, dI) cls [(h_na, .inl (cy_na, 8000, .inl f_na)), (h_nb, .inl (cy_nb, 8000, .inl f_nb)), (h_nc, .inl (cy_nc, 8000, .inl f_nc)), (h_bto, .inl (cy_bto, 256, .inl f_bto)), (h_bin, .inl (cy_bin, 256, .inl f_bin)), (h_mm, .inr (8, (mo134 v_mm (.ref h_nv) (.ref h_na) (.ref h_nb) (.ref h_nc) (.ref h_bto) (.ref h_bin) (.int z36) (.int x2)))), (h_nv, .inl (cy_nv, 8000, .inl f_nv))] H := hP9
          have hD : va_D A [(h_na, .inl (cy_na, 8000, .inl f_na)), (h_nb, .inl (cy_nb, 8000, .inl f_nb)), (h_nc, .inl (cy_nc, 8000, .inl f_nc)), (h_bto, .inl (cy_bto, 256, .inl f_bto)), (h_bin, .inl (cy_bin, 256, .inl f_bin)), (h_mm, .inr (8, (mo134 v_mm (.ref h_nv) (.ref h_na) (.ref h_nb) (.ref h_nc) (.ref h_bto) (.ref h_bin) (.int z36) (.int x2)))), (h_nv, .inl (cy_nv, 8000, .inl f_nv))] := hD9
          have hS := hS9
          clear hP9 hD9 hS9
          refine lv_aload_n hx hb dX11_goesTo_67 rfl (lv_at hl 1 rfl) ?_
          refine lv_aload_n hx hb dX11_goesTo_68 rfl (lv_at hl 1 rfl) ?_
          refine va_get (D := (dC, dI)) (ci := 8) (v := .ref h_bin) (C := RX11) (T := TX11) (N := 71) hx hb hw iwX11 hown hK hP 5 rfl rfl 28 (by decide) (hw _ w_f_X11_198) (fun _ h9 => h9) rfl dX11_goesTo_69 ?_
          refine lv_iload_n hx hb dX11_goesTo_72 rfl (lv_at hl 0 rfl) ?_
          refine va_iald hx hb hK hP 4 5 rfl rfl (i := r33) (vp_in_iff.mpr (by omega)) dX11_goesTo_73 ?_
          refine lv_topi (fun z37 ez37 => ?_)
          have rz37 : 0 ≤ (z37).toInt ∧ (z37).toInt ≤ 31 := by rw [ez37]; exact hf_bin _
          refine va_put (D := (dC, dI)) (ci := 8) (v := .int z37) (ty := tyX11 32) (C := RX11) (T := TX11) (N := 71) hx hb hw iwX11 tyX11 tyX11_ok nmX11 hown hK hP hD hS 5 rfl rfl 32 (by decide) (hw _ w_f_X11_267) (fun _ h9 => h9) rfl (tyX11_ok 32 (by decide)) rfl rfl (Nat.le_of_ble_eq_true rfl) dX11_goesTo_74 (fun H locs hP9 hD9 hS9 => ?_)
          clear hP hD hS
          have hP : va_P (dC, dI) cls [(h_na, .inl (cy_na, 8000, .inl f_na)), (h_nb, .inl (cy_nb, 8000, .inl f_nb)), (h_nc, .inl (cy_nc, 8000, .inl f_nc)), (h_bto, .inl (cy_bto, 256, .inl f_bto)), (h_bin, .inl (cy_bin, 256, .inl f_bin)), (h_mm, .inr (8, (mo134 v_mm (.ref h_nv) (.ref h_na) (.ref h_nb) (.ref h_nc) (.ref h_bto) (.ref h_bin) (.int z36) (.int z37)))), (h_nv, .inl (cy_nv, 8000, .inl f_nv))] H := hP9
          have hD : va_D A [(h_na, .inl (cy_na, 8000, .inl f_na)), (h_nb, .inl (cy_nb, 8000, .inl f_nb)), (h_nc, .inl (cy_nc, 8000, .inl f_nc)), (h_bto, .inl (cy_bto, 256, .inl f_bto)), (h_bin, .inl (cy_bin, 256, .inl f_bin)), (h_mm, .inr (8, (mo134 v_mm (.ref h_nv) (.ref h_na) (.ref h_nb) (.ref h_nc) (.ref h_bto) (.ref h_bin) (.int z36) (.int z37)))), (h_nv, .inl (cy_nv, 8000, .inl f_nv))] := hD9
          have hS := hS9
          clear hP9 hD9 hS9
          have hvz6 : (f_nv (x1).toInt.toNat).toInt = (z6).toInt := by rw [ez6, (clamp_nat (i := x1) (by omega))]
          have er9 : r33 = r18 := Int32.toInt_inj.mp (by omega)
          have qb9 : (z36).toInt = (z21).toInt := by rw [ez36, ez21, er9]
          have cz9 := clamp_nat (i := r33) (by omega)
          have fb9 : f_bto (r33).toInt.toNat = z36 := by rw [← cz9, ← ez36]
          have fi9 : f_bin (r33).toInt.toNat = z37 := by rw [← cz9, ← ez37]
          have hb9 : ¬ (f_bto (r33).toInt.toNat).toInt = -1 := by rw [fb9]; omega
          have wb9 := wb_at (s := (r33).toInt.toNat) hn_bi (by omega) hb9
          rw [fb9, fi9] at wb9
          have pg9 := pa_go (s := (r33).toInt.toNat) (i := (x2).toInt) hn_bi klp4_5 (by omega) (by omega) (by omega) (by omega) hb9
          rw [fb9, fi9] at pg9
          have hh8 := (hn_bi.1 (x1).toInt.toNat (by omega) (by omega)).2.2.2
          have hh9 := (hn_bi.1 (z36).toInt.toNat (by omega) (by omega)).2.2.2
          have hl9 : (((r33).toInt.toNat :: gh3)).length = (gh3).length + 1 := rfl
          have pl9 := pg9.2
          have ng38 : ∀ tt : Nat, (f_bto tt).toInt = -1 → NR f_nv f_na f_nb f_nc f_bto f_bin (z36).toInt.toNat (z37).toInt tt → NR f_nv f_na f_nb f_nc f_bto f_bin (p1).toInt.toNat (p2).toInt tt := fun tt h1 h2 => klp4_6 tt h1 (nr_go (s := (r33).toInt.toNat) (by omega) (by omega) hb9 h1 (by rw [fb9, fi9]; exact h2))
          have bl39 : ∀ q9 : Nat, BRE g (BDW f_bto f_bin) (PLR z36 z37) q9 → BRE g (BDW f_bto f_bin) (PLR p1 p2) q9 := fun q9 h9 => klp4_7 q9 (grv_go (s := r33) hn_grv (by omega) (by omega) (by omega) (by omega) fb9 fi9 (by omega) (by omega) h9)
          refine lv_goto (tgt := 10) hx hb dX11_goesTo_77 (by decide) ?_
          replace hP : va_P (dC, dI) cls [(h_mm, .inr (8, (mo134 v_mm (.ref h_nv) (.ref h_na) (.ref h_nb) (.ref h_nc) (.ref h_bto) (.ref h_bin) (.int z36) (.int z37)))), (h_nv, .inl (cy_nv, 8000, .inl f_nv)), (h_na, .inl (cy_na, 8000, .inl f_na)), (h_nb, .inl (cy_nb, 8000, .inl f_nb)), (h_nc, .inl (cy_nc, 8000, .inl f_nc)), (h_bto, .inl (cy_bto, 256, .inl f_bto)), (h_bin, .inl (cy_bin, 256, .inl f_bin))] H := hP.sub [5, 6, 0, 1, 2, 3, 4] rfl
          replace hD : va_D A [(h_mm, .inr (8, (mo134 v_mm (.ref h_nv) (.ref h_na) (.ref h_nb) (.ref h_nc) (.ref h_bto) (.ref h_bin) (.int z36) (.int z37)))), (h_nv, .inl (cy_nv, 8000, .inl f_nv)), (h_na, .inl (cy_na, 8000, .inl f_na)), (h_nb, .inl (cy_nb, 8000, .inl f_nb)), (h_nc, .inl (cy_nc, 8000, .inl f_nc)), (h_bto, .inl (cy_bto, 256, .inl f_bto)), (h_bin, .inl (cy_bin, 256, .inl f_bin))] := hD.sub [5, 6, 0, 1, 2, 3, 4] (by decide) rfl
          exact ih5 (z36) (z37) (((r33).toInt.toNat :: gh3)) _ _ _ (by omega) (by omega) (by omega) (by omega) (by omega) pg9.1 ng38 bl39 (by omega) hP hD hS (lv_sub hl [1, 2, 3] rfl)
  exact lp4 _ (p1) (p2) (P) _ _ _ (by omega) (by omega) (by first | exact q2 | omega) (by first | exact q3 | omega) (by first | exact q4 | omega) hn_pa (fun tt _ h => h) (fun _ h => h) (Nat.le_refl _) hP hD hS (lv_sub hl [0, 1, 2] rfl)

def K_X11_holds (l : Launch) (fu : Nat) : Prop := ∀ (dC : Nat → ClassId) (dI : Nat → Nat → Nat) (sz : Nat) (h_mm : Nat) (h_nv : Nat) (h_na : Nat) (h_nb : Nat) (h_nc : Nat) (h_bto : Nat) (h_bin : Nat) (v_mm : Nat → Value) (x_mm_goneTo : Int32) (x_mm_goneIn : Int32) (cy_nv : ClassId) (f_nv : Nat → Int32) (cy_na : ClassId) (f_na : Nat → Int32) (cy_nb : ClassId) (f_nb : Nat → Int32) (cy_nc : ClassId) (f_nc : Nat → Int32) (cy_bto : ClassId) (f_bto : Nat → Int32) (cy_bin : ClassId) (f_bin : Nat → Int32) (p1 : Int32) (p2 : Int32) (p3 : Int32) (i0 : Int) (i1 : Int) (N : Int) (hz : Nat → Nat) (g : GVT) (P : List Nat) (hx_mm_goneTo : 0 ≤ (x_mm_goneTo).toInt ∧ (x_mm_goneTo).toInt ≤ 7999) (hx_mm_goneIn : 0 ≤ (x_mm_goneIn).toInt ∧ (x_mm_goneIn).toInt ≤ 31) (hf_nv : Rg (-1) 7 f_nv) (hf_na : Rg (-1) 7999 f_na) (hf_nb : Rg (-1) 7999 f_nb) (hf_nc : Rg (-1) 7999 f_nc) (hf_bto : Rg (-1) 7999 f_bto) (hf_bin : Rg 0 31 f_bin) (q0 : 0 ≤ i0 ∧ i0 ≤ i1 ∧ i1 ≤ 31) (q1 : N ≤ 8000) (q2 : 0 ≤ (p1).toInt ∧ (p1).toInt < N) (q3 : i0 ≤ (p2).toInt ∧ (p2).toInt ≤ i1) (q4 : 0 ≤ (p3).toInt ∧ (p3).toInt ≤ 255) (q5 : hz (p1).toInt.toNat + 6 * (256 - (P).length) + 1 ≤ fu) (q6 : (f_bto (p3).toInt.toNat).toInt = -1) (hn_bi : BI i0 i1 N hz f_nv f_na f_nb f_nc f_bto f_bin) (hn_pa : PA i0 P f_nv f_na f_nb f_nc f_bto f_bin (p1).toInt.toNat (p2).toInt) (hn_grv : GRV g f_nv f_na f_nb f_nc), Met l yX11_holds (Ws yX11_holds cX11_holds 7 (some .boolean)) (({ frames := fu + 2, cells := 0, slots := 0, locals := 26 * fu + 45 } : Room)) (PRE (dC, dI) cls [(cy_nv, .int), (cy_na, .int), (cy_nb, .int), (cy_nc, .int), (cy_bto, .int), (cy_bin, .int)] [(h_mm, .inr (8, (mo134 v_mm (.ref h_nv) (.ref h_na) (.ref h_nb) (.ref h_nc) (.ref h_bto) (.ref h_bin) (.int x_mm_goneTo) (.int x_mm_goneIn)))), (h_nv, .inl (cy_nv, 8000, .inl f_nv)), (h_na, .inl (cy_na, 8000, .inl f_na)), (h_nb, .inl (cy_nb, 8000, .inl f_nb)), (h_nc, .inl (cy_nc, 8000, .inl f_nc)), (h_bto, .inl (cy_bto, 256, .inl f_bto)), (h_bin, .inl (cy_bin, 256, .inl f_bin))] sz [.ref h_mm, .int p1, .int p2, .int p3]) (va_Qi (fun (r : Int32) (u : (Int32) × (Int32)) => (0 ≤ (u.1).toInt ∧ (u.1).toInt ≤ 7999) ∧ (0 ≤ (u.2).toInt ∧ (u.2).toInt ≤ 31) ∧ (0 ≤ r.toInt ∧ r.toInt ≤ 1) ∧ ((r).toInt = 1 ∨ NR f_nv f_na f_nb f_nc f_bto f_bin (p1).toInt.toNat (p2).toInt (p3).toInt.toNat) ∧ (((r).toInt = 1 ∧ OCC g (BDW f_bto f_bin) (PLR p1 p2) (p3).toInt.toNat) ∨ ((r).toInt = 0 ∧ ¬ OCC g (BDW f_bto f_bin) (PLR p1 p2) (p3).toInt.toNat))) (fun (u : (Int32) × (Int32)) (t : State) => va_P (dC, dI) cls [(h_mm, .inr (8, (mo134 v_mm (.ref h_nv) (.ref h_na) (.ref h_nb) (.ref h_nc) (.ref h_bto) (.ref h_bin) (.int u.1) (.int u.2)))), (h_nv, .inl (cy_nv, 8000, .inl f_nv)), (h_na, .inl (cy_na, 8000, .inl f_na)), (h_nb, .inl (cy_nb, 8000, .inl f_nb)), (h_nc, .inl (cy_nc, 8000, .inl f_nc)), (h_bto, .inl (cy_bto, 256, .inl f_bto)), (h_bin, .inl (cy_bin, 256, .inl f_bin))] t.heap ∧ va_D (va_A [(h_mm, .inr (8, (mo134 v_mm (.ref h_nv) (.ref h_na) (.ref h_nb) (.ref h_nc) (.ref h_bto) (.ref h_bin) (.int x_mm_goneTo) (.int x_mm_goneIn)))), (h_nv, .inl (cy_nv, 8000, .inl f_nv)), (h_na, .inl (cy_na, 8000, .inl f_na)), (h_nb, .inl (cy_nb, 8000, .inl f_nb)), (h_nc, .inl (cy_nc, 8000, .inl f_nc)), (h_bto, .inl (cy_bto, 256, .inl f_bto)), (h_bin, .inl (cy_bin, 256, .inl f_bin))] sz) [(h_mm, .inr (8, (mo134 v_mm (.ref h_nv) (.ref h_na) (.ref h_nb) (.ref h_nc) (.ref h_bto) (.ref h_bin) (.int u.1) (.int u.2)))), (h_nv, .inl (cy_nv, 8000, .inl f_nv)), (h_na, .inl (cy_na, 8000, .inl f_na)), (h_nb, .inl (cy_nb, 8000, .inl f_nb)), (h_nc, .inl (cy_nc, 8000, .inl f_nc)), (h_bto, .inl (cy_bto, 256, .inl f_bto)), (h_bin, .inl (cy_bin, 256, .inl f_bin))]) (va_A [(h_mm, .inr (8, (mo134 v_mm (.ref h_nv) (.ref h_na) (.ref h_nb) (.ref h_nc) (.ref h_bto) (.ref h_bin) (.int x_mm_goneTo) (.int x_mm_goneIn)))), (h_nv, .inl (cy_nv, 8000, .inl f_nv)), (h_na, .inl (cy_na, 8000, .inl f_na)), (h_nb, .inl (cy_nb, 8000, .inl f_nb)), (h_nc, .inl (cy_nc, 8000, .inl f_nc)), (h_bto, .inl (cy_bto, 256, .inl f_bto)), (h_bin, .inl (cy_bin, 256, .inl f_bin))] sz)) 0 0 (va_A [(h_mm, .inr (8, (mo134 v_mm (.ref h_nv) (.ref h_na) (.ref h_nb) (.ref h_nc) (.ref h_bto) (.ref h_bin) (.int x_mm_goneTo) (.int x_mm_goneIn)))), (h_nv, .inl (cy_nv, 8000, .inl f_nv)), (h_na, .inl (cy_na, 8000, .inl f_na)), (h_nb, .inl (cy_nb, 8000, .inl f_nb)), (h_nc, .inl (cy_nc, 8000, .inl f_nc)), (h_bto, .inl (cy_bto, 256, .inl f_bto)), (h_bin, .inl (cy_bin, 256, .inl f_bin))] sz)
set_option maxHeartbeats 8000000 in
set_option maxRecDepth 100000 in
theorem c_X11_holds (l : Launch) (fu : Nat) : K_X11_holds l fu := by
  refine Nat.rec (motive := fun fu => K_X11_holds l fu) ?_ ?_ fu
  · intro dC dI sz h_mm h_nv h_na h_nb h_nc h_bto h_bin v_mm x_mm_goneTo x_mm_goneIn cy_nv f_nv cy_na f_na cy_nb f_nb cy_nc f_nc cy_bto f_bto cy_bin f_bin p1 p2 p3 i0 i1 N hz g P hx_mm_goneTo hx_mm_goneIn hf_nv hf_na hf_nb hf_nc hf_bto hf_bin q0 q1 q2 q3 q4 q5 q6 hn_bi hn_pa hn_grv
    have h09 : Nat.zero = 0 := rfl
    exact False.elim (by omega)
  intro fu ihf
  intro dC dI sz h_mm h_nv h_na h_nb h_nc h_bto h_bin v_mm x_mm_goneTo x_mm_goneIn cy_nv f_nv cy_na f_na cy_nb f_nb cy_nc f_nc cy_bto f_bto cy_bin f_bin p1 p2 p3 i0 i1 N hz g P hx_mm_goneTo hx_mm_goneIn hf_nv hf_na hf_nb hf_nc hf_bto hf_bin q0 q1 q2 q3 q4 q5 q6 hn_bi hn_pa hn_grv
  refine Met.ofW (cc := cX11_holds) (maxL := 7) (ret := (some .boolean)) (by decide) rfl ?_
  intro p e s m args below meth c s₁ B hml hv
  obtain ⟨rfl, hsz, hP, hK, hD0, hN⟩ := hv
  have hx := B.exec
  have hb := B.bytes
  have hr := B.returns
  have hts := atoms_spec (ws := Ws yX11_holds cX11_holds 7 (some .boolean)) B.pre
  have hT : ∀ w ∈ WALL, w ∈ Ws yX11_holds cX11_holds 7 (some .boolean) := fun w h => List.mem_cons_of_mem _ h
  have hw := fun w (h : w ∈ WALL) => hts w (hT w h)
  have hown : s.vm.findClass RX11 = some m.cls := findClass_of_methodNamed B.named
  have hlocks := B.notSynchronized
  subst hsz
  have hD := hD0.self (sz := s.heap.size)
  generalize hAe : va_A [(h_mm, .inr (8, (mo134 v_mm (.ref h_nv) (.ref h_na) (.ref h_nb) (.ref h_nc) (.ref h_bto) (.ref h_bin) (.int x_mm_goneTo) (.int x_mm_goneIn)))), (h_nv, .inl (cy_nv, 8000, .inl f_nv)), (h_na, .inl (cy_na, 8000, .inl f_na)), (h_nb, .inl (cy_nb, 8000, .inl f_nb)), (h_nc, .inl (cy_nc, 8000, .inl f_nc)), (h_bto, .inl (cy_bto, 256, .inl f_bto)), (h_bin, .inl (cy_bin, 256, .inl f_bin))] s.heap.size = A at hD ⊢
  have hA : ∀ q : Nat, s.heap.size ≤ q → A q := fun q h => by rw [← hAe]; exact Or.inr h
  have hS : va_S A s.heap s.heap [] := va_S.rf
  have hl := lv_entry ([.ref h_mm, .int p1, .int p2, .int p3]) (n := 7) (Nat.le_of_ble_eq_true rfl)
  rw [lg_entry_eq]
  generalize (lg_sl ([.ref h_mm, .int p1, .int p2, .int p3]) ++ List.replicate (7 - (lg_sl ([.ref h_mm, .int p1, .int p2, .int p3])).length) Slot.unset).toArray = ls at hl ⊢
  have hl : lv_has ls 7 [(0, .ref h_mm), (1, .int p1), (2, .int p2), (3, .int p3)] := hl
  refine lv_aload_n hx hb dX11_holds_0 rfl (lv_at hl 0 rfl) ?_
  refine lv_iload_n hx hb dX11_holds_1 rfl (lv_at hl 1 rfl) ?_
  refine lv_iload_n hx hb dX11_holds_2 rfl (lv_at hl 2 rfl) ?_
  have hPc := hP.sub (ws' := [(h_mm, .inr (8, (mo134 v_mm (.ref h_nv) (.ref h_na) (.ref h_nb) (.ref h_nc) (.ref h_bto) (.ref h_bin) (.int x_mm_goneTo) (.int x_mm_goneIn)))), (h_nv, .inl (cy_nv, 8000, .inl f_nv)), (h_na, .inl (cy_na, 8000, .inl f_na)), (h_nb, .inl (cy_nb, 8000, .inl f_nb)), (h_nc, .inl (cy_nc, 8000, .inl f_nc)), (h_bto, .inl (cy_bto, 256, .inl f_bto)), (h_bin, .inl (cy_bin, 256, .inl f_bin))]) [0, 1, 2, 3, 4, 5, 6] rfl
  have hDc := hD.sub (ws' := [(h_mm, .inr (8, (mo134 v_mm (.ref h_nv) (.ref h_na) (.ref h_nb) (.ref h_nc) (.ref h_bto) (.ref h_bin) (.int x_mm_goneTo) (.int x_mm_goneIn)))), (h_nv, .inl (cy_nv, 8000, .inl f_nv)), (h_na, .inl (cy_na, 8000, .inl f_na)), (h_nb, .inl (cy_nb, 8000, .inl f_nb)), (h_nc, .inl (cy_nc, 8000, .inl f_nc)), (h_bto, .inl (cy_bto, 256, .inl f_bto)), (h_bin, .inl (cy_bin, 256, .inl f_bin))]) [0, 1, 2, 3, 4, 5, 6] (by decide) rfl
  have hKc := hK.sub (tys' := [(cy_nv, .int), (cy_na, .int), (cy_nb, .int), (cy_nc, .int), (cy_bto, .int), (cy_bin, .int)]) [0, 1, 2, 3, 4, 5] rfl
  have hFc := va_free (wc := [(h_mm, .inr (8, (mo134 v_mm (.ref h_nv) (.ref h_na) (.ref h_nb) (.ref h_nc) (.ref h_bto) (.ref h_bin) (.int x_mm_goneTo) (.int x_mm_goneIn)))), (h_nv, .inl (cy_nv, 8000, .inl f_nv)), (h_na, .inl (cy_na, 8000, .inl f_na)), (h_nb, .inl (cy_nb, 8000, .inl f_nb)), (h_nc, .inl (cy_nc, 8000, .inl f_nc)), (h_bto, .inl (cy_bto, 256, .inl f_bto)), (h_bin, .inl (cy_bin, 256, .inl f_bin))]) hD hS hA [0, 1, 2, 3, 4, 5, 6] rfl
  refine va_callv (va_runV (As := [.int p1, .int p2]) (rest := []) ⟨hx, hb, hml, hown, hts⟩ (c_X11_goesTo l dC dI s.heap.size h_mm h_nv h_na h_nb h_nc h_bto h_bin v_mm x_mm_goneTo x_mm_goneIn cy_nv f_nv cy_na f_na cy_nb f_nb cy_nc f_nc cy_bto f_bto cy_bin f_bin p1 p2 i0 i1 N hz g P (fu + 1) (by first | exact hx_mm_goneTo | omega) (by first | exact hx_mm_goneIn | omega) hf_nv hf_na hf_nb hf_nc hf_bto hf_bin (by first | exact q0 | omega) (by first | exact q1 | omega) (by first | exact q2 | omega) (by first | exact q3 | omega) (by omega) hn_bi hn_pa hn_grv) (cwV 2 hts (gv hT w_m_X11_273 w_instanceMethod_X11_goesTo ws_sel_X11_goesTo w_ini_X11 w_code_X11_goesTo) rfl rfl rfl (by decide +kernel) ⟨(by dsimp only [headSpec]; omega), (by dsimp only [headSpec]; omega)⟩) ⟨pre_blind, va_recv hK hP (ci := 8) (q0 := 0) rfl rfl, pre_of hPc hKc hDc hN⟩ rfl rfl hl.1 rfl (lv_room (Nat.le_of_ble_eq_true rfl)) dX11_holds_3 ⟨(Nat.le_of_ble_eq_true rfl), (Nat.le_of_ble_eq_true rfl)⟩) hS (fun q _ h => hFc q h) hFc (fun u t H locs ht hvm hq hB hz1 hk1 hS9 => ?_)
  obtain ⟨z2, z3, z4⟩ := u
  obtain ⟨hP1, hD1⟩ := hB
  rw [ht] at hP1
  obtain ⟨hP9, hD9⟩ := va_join (wr := []) (w1 := [(h_mm, .inr (8, (mo134 v_mm (.ref h_nv) (.ref h_na) (.ref h_nb) (.ref h_nc) (.ref h_bto) (.ref h_bin) (.int z2) (.int z3)))), (h_nv, .inl (cy_nv, 8000, .inl f_nv)), (h_na, .inl (cy_na, 8000, .inl f_na)), (h_nb, .inl (cy_nb, 8000, .inl f_nb)), (h_nc, .inl (cy_nc, 8000, .inl f_nc)), (h_bto, .inl (cy_bto, 256, .inl f_bto)), (h_bin, .inl (cy_bin, 256, .inl f_bin))]) hP hD [0, 1, 2, 3, 4, 5, 6] [] rfl rfl (by decide) (by decide) hk1 hFc hP1 hD1
  clear hP hD hS hPc hDc hKc hFc hP1 hD1 hk1 hz1 ht hvm
  have hP : va_P (dC, dI) cls [(h_mm, .inr (8, (mo134 v_mm (.ref h_nv) (.ref h_na) (.ref h_nb) (.ref h_nc) (.ref h_bto) (.ref h_bin) (.int z2) (.int z3)))), (h_nv, .inl (cy_nv, 8000, .inl f_nv)), (h_na, .inl (cy_na, 8000, .inl f_na)), (h_nb, .inl (cy_nb, 8000, .inl f_nb)), (h_nc, .inl (cy_nc, 8000, .inl f_nc)), (h_bto, .inl (cy_bto, 256, .inl f_bto)), (h_bin, .inl (cy_bin, 256, .inl f_bin))] H := hP9
  have hD : va_D A [(h_mm, .inr (8, (mo134 v_mm (.ref h_nv) (.ref h_na) (.ref h_nb) (.ref h_nc) (.ref h_bto) (.ref h_bin) (.int z2) (.int z3)))), (h_nv, .inl (cy_nv, 8000, .inl f_nv)), (h_na, .inl (cy_na, 8000, .inl f_na)), (h_nb, .inl (cy_nb, 8000, .inl f_nb)), (h_nc, .inl (cy_nc, 8000, .inl f_nc)), (h_bto, .inl (cy_bto, 256, .inl f_bto)), (h_bin, .inl (cy_bin, 256, .inl f_bin))] := hD9
  have hS := hS9
  clear hP9 hD9 hS9
  obtain ⟨k5, k6, k7, k8, k9, k10, k11, k12, k13⟩ := hq
  replace k5 : 0 ≤ ((z2)).toInt ∧ ((z2)).toInt ≤ 7999 := k5
  replace k6 : 0 ≤ ((z3)).toInt ∧ ((z3)).toInt ≤ 31 := k6
  replace k7 : 0 ≤ ((z2)).toInt ∧ ((z2)).toInt < (N) := k7
  replace k8 : (i0) ≤ ((z3)).toInt ∧ ((z3)).toInt ≤ (i1) := k8
  replace k9 : (hz) ((z2)).toInt.toNat + 6 * (256 - ((z4)).length) + 1 ≤ ((fu + 1)) := k9
  replace k10 : PA (i0) (z4) f_nv f_na f_nb f_nc f_bto f_bin ((z2)).toInt.toNat ((z3)).toInt := k10
  replace k11 : (f_nv ((z2)).toInt.toNat).toInt = -1 ∨ (f_bto (8 * ((z3)).toInt + (f_nv ((z2)).toInt.toNat).toInt).toNat).toInt = -1 := k11
  replace k12 : ∀ tt : Nat, (f_bto tt).toInt = -1 → NR f_nv f_na f_nb f_nc f_bto f_bin ((z2)).toInt.toNat ((z3)).toInt tt → NR f_nv f_na f_nb f_nc f_bto f_bin ((p1)).toInt.toNat ((p2)).toInt tt := k12
  replace k13 : BRE (g) (BDW f_bto f_bin) (PLR (p1) (p2)) (PLR (z2) (z3)) := k13
  refine lv_aload_n hx hb dX11_holds_6 rfl (lv_at hl 0 rfl) ?_
  refine va_get (D := (dC, dI)) (ci := 8) (v := .int z2) (C := RX11) (T := TX11) (N := 71) hx hb hw iwX11 hown hK hP 0 rfl rfl 31 (by decide) (hw _ w_f_X11_264) (fun _ h9 => h9) rfl dX11_holds_7 ?_
  refine lv_istore (lv' := [(4, .int z2), (0, .ref h_mm), (1, .int p1), (2, .int p2), (3, .int p3)]) hx hb dX11_holds_10 hl (by decide) rfl (fun ls hl => ?_)
  refine lv_aload_n hx hb dX11_holds_12 rfl (lv_at hl 1 rfl) ?_
  refine va_get (D := (dC, dI)) (ci := 8) (v := .int z3) (C := RX11) (T := TX11) (N := 71) hx hb hw iwX11 hown hK hP 0 rfl rfl 32 (by decide) (hw _ w_f_X11_267) (fun _ h9 => h9) rfl dX11_holds_13 ?_
  refine lv_istore (lv' := [(5, .int z3), (4, .int z2), (0, .ref h_mm), (1, .int p1), (2, .int p2), (3, .int p3)]) hx hb dX11_holds_16 hl (by decide) rfl (fun ls hl => ?_)
  refine lv_aload_n hx hb dX11_holds_18 rfl (lv_at hl 2 rfl) ?_
  refine va_get (D := (dC, dI)) (ci := 8) (v := .ref h_nv) (C := RX11) (T := TX11) (N := 71) hx hb hw iwX11 hown hK hP 0 rfl rfl 1 (by decide) (hw _ w_f_X11_17) (fun _ h9 => h9) rfl dX11_holds_19 ?_
  refine lv_iload hx hb dX11_holds_22 (lv_at hl 1 rfl) ?_
  refine va_iald hx hb hK hP 1 0 rfl rfl (i := z2) (vp_in_iff.mpr (by omega)) dX11_holds_24 ?_
  refine lv_topi (fun z14 ez14 => ?_)
  have rz14 : -1 ≤ (z14).toInt ∧ (z14).toInt ≤ 7 := by rw [ez14]; exact hf_nv _
  refine lv_iconst (v := (-1)) hx hb dX11_holds_25 (by decide) ?_
  refine lv_icmp_eq (tgt := 47) hx hb dX11_holds_26 (by decide) (fun c15 => ?_) (fun c15 => ?_)
  · have kc15 := (cv_eq (rfl : (z14).toInt = (z14).toInt) (by decide : ((-1) : Int32).toInt = -1)).mp c15
    have hvz14 : (f_nv (z2).toInt.toNat).toInt = (z14).toInt := by rw [ez14, (clamp_nat (i := z2) (by omega))]
    have nk0 : ∀ j : Int, 0 ≤ j → j < 0 → NR f_nv f_na f_nb f_nc f_bto f_bin (ptx f_na f_nb f_nc (z2).toInt.toNat j).toInt.toNat (z3).toInt (p3).toInt.toNat := fun j h1 h2 => absurd h2 (by omega)
    have gv9 := grv_v (i := z3) hn_grv (show 0 ≤ (z2).toInt ∧ (z2).toInt < 8000 by omega)
    have ga9 := grv_a (i := z3) hn_grv (show 0 ≤ (z2).toInt ∧ (z2).toInt < 8000 by omega)
    have np9 : 0 ≤ npx f_nv f_na f_nb f_nc (z2).toInt.toNat := npx_nn
    have cst0 : (0 : Int32).toInt = 0 := by decide
    refine lv_iconst (v := 0) hx hb dX11_holds_47 (by decide) ?_
    refine lv_istore (lv' := [(6, .int 0), (5, .int z3), (4, .int z2), (0, .ref h_mm), (1, .int p1), (2, .int p2), (3, .int p3)]) hx hb dX11_holds_48 hl (by decide) rfl (fun ls hl => ?_)
    have lp19 : ∀ (n : Nat) (x16 : Int32) (x17 : Int32) (x18 : Int32) (H : Heap) (locs : List Loc) (ls : Array Slot), (0 ≤ (x16).toInt ∧ (x16).toInt ≤ 3) → (0 ≤ (x17).toInt ∧ (x17).toInt ≤ 7999) → (0 ≤ (x18).toInt ∧ (x18).toInt ≤ 31) → ((x16).toInt ≤ npx f_nv f_na f_nb f_nc ((z2).toInt).toNat) → (∀ j : Int, 0 ≤ j → j < (x16).toInt → NR f_nv f_na f_nb f_nc f_bto f_bin (ptx f_na f_nb f_nc ((z2).toInt).toNat j).toInt.toNat (z3).toInt (p3).toInt.toNat) → (OCK g (BDW f_bto f_bin) (PLR z2 z3) (p3).toInt.toNat ((x16).toInt)) → (3 - (x16).toInt).toNat + 1 ≤ n → va_P (dC, dI) cls [(h_mm, .inr (8, (mo134 v_mm (.ref h_nv) (.ref h_na) (.ref h_nb) (.ref h_nc) (.ref h_bto) (.ref h_bin) (.int x17) (.int x18)))), (h_nv, .inl (cy_nv, 8000, .inl f_nv)), (h_na, .inl (cy_na, 8000, .inl f_na)), (h_nb, .inl (cy_nb, 8000, .inl f_nb)), (h_nc, .inl (cy_nc, 8000, .inl f_nc)), (h_bto, .inl (cy_bto, 256, .inl f_bto)), (h_bin, .inl (cy_bin, 256, .inl f_bin))] H → va_D A [(h_mm, .inr (8, (mo134 v_mm (.ref h_nv) (.ref h_na) (.ref h_nb) (.ref h_nc) (.ref h_bto) (.ref h_bin) (.int x17) (.int x18)))), (h_nv, .inl (cy_nv, 8000, .inl f_nv)), (h_na, .inl (cy_na, 8000, .inl f_na)), (h_nb, .inl (cy_nb, 8000, .inl f_nb)), (h_nc, .inl (cy_nc, 8000, .inl f_nc)), (h_bto, .inl (cy_bto, 256, .inl f_bto)), (h_bin, .inl (cy_bin, 256, .inl f_bin))] → va_S A s.heap H locs → lv_has ls 7 [(0, .ref h_mm), (1, .int p1), (2, .int p2), (3, .int p3), (4, .int z2), (5, .int z3), (6, .int x16)] → W p l e ({ frames := (fu + 1) + 2, cells := 0, slots := 0, locals := 26 * (fu + 1) + 45 } : Room) s m ([.ref h_mm, .int p1, .int p2, .int p3] : List Value).toArray below meth c H locs 0 0 (MQ below (va_Qi (fun (r : Int32) (u : (Int32) × (Int32)) => (0 ≤ (u.1).toInt ∧ (u.1).toInt ≤ 7999) ∧ (0 ≤ (u.2).toInt ∧ (u.2).toInt ≤ 31) ∧ (0 ≤ r.toInt ∧ r.toInt ≤ 1) ∧ ((r).toInt = 1 ∨ NR f_nv f_na f_nb f_nc f_bto f_bin (p1).toInt.toNat (p2).toInt (p3).toInt.toNat) ∧ (((r).toInt = 1 ∧ OCC g (BDW f_bto f_bin) (PLR p1 p2) (p3).toInt.toNat) ∨ ((r).toInt = 0 ∧ ¬ OCC g (BDW f_bto f_bin) (PLR p1 p2) (p3).toInt.toNat))) (fun (u : (Int32) × (Int32)) (t : State) => va_P (dC, dI) cls [(h_mm, .inr (8, (mo134 v_mm (.ref h_nv) (.ref h_na) (.ref h_nb) (.ref h_nc) (.ref h_bto) (.ref h_bin) (.int u.1) (.int u.2)))), (h_nv, .inl (cy_nv, 8000, .inl f_nv)), (h_na, .inl (cy_na, 8000, .inl f_na)), (h_nb, .inl (cy_nb, 8000, .inl f_nb)), (h_nc, .inl (cy_nc, 8000, .inl f_nc)), (h_bto, .inl (cy_bto, 256, .inl f_bto)), (h_bin, .inl (cy_bin, 256, .inl f_bin))] t.heap ∧ va_D A [(h_mm, .inr (8, (mo134 v_mm (.ref h_nv) (.ref h_na) (.ref h_nb) (.ref h_nc) (.ref h_bto) (.ref h_bin) (.int u.1) (.int u.2)))), (h_nv, .inl (cy_nv, 8000, .inl f_nv)), (h_na, .inl (cy_na, 8000, .inl f_na)), (h_nb, .inl (cy_nb, 8000, .inl f_nb)), (h_nc, .inl (cy_nc, 8000, .inl f_nc)), (h_bto, .inl (cy_bto, 256, .inl f_bto)), (h_bin, .inl (cy_bin, 256, .inl f_bin))]) A) ([.ref h_mm, .int p1, .int p2, .int p3] : List Value).toArray s 0 0 A) (F0 m 50 ls []) := by
      clear hP hD hS hl
      intro n
      induction n with
      | zero => intro x16 x17 x18 H locs ls klp19_0 klp19_1 klp19_2 klp19_3 klp19_4 klp19_5 hm hP hD hS hl; exact False.elim (by omega)
      | succ n ih => 
        intro x16 x17 x18 H locs ls klp19_0 klp19_1 klp19_2 klp19_3 klp19_4 klp19_5 hm hP hD hS hl
        have ih20 := ih
        clear ih
        refine lv_iload hx hb dX11_holds_50 (lv_at hl 6 rfl) ?_
        refine lv_aload_n hx hb dX11_holds_52 rfl (lv_at hl 0 rfl) ?_
        refine lv_iload hx hb dX11_holds_53 (lv_at hl 4 rfl) ?_
        obtain ⟨vq21, evq21⟩ := mq134_86 v_mm (.ref h_bto) (.ref h_bin) (.int x17) (.int x18)
        replace hP : va_P (dC, dI) cls [(h_mm, .inr (8, (mo86 vq21 (.ref h_nv) (.ref h_na) (.ref h_nb) (.ref h_nc)))), (h_nv, .inl (cy_nv, 8000, .inl f_nv)), (h_na, .inl (cy_na, 8000, .inl f_na)), (h_nb, .inl (cy_nb, 8000, .inl f_nb)), (h_nc, .inl (cy_nc, 8000, .inl f_nc)), (h_bto, .inl (cy_bto, 256, .inl f_bto)), (h_bin, .inl (cy_bin, 256, .inl f_bin))] H := by rw [evq21]; exact hP
        replace hD : va_D A [(h_mm, .inr (8, (mo86 vq21 (.ref h_nv) (.ref h_na) (.ref h_nb) (.ref h_nc)))), (h_nv, .inl (cy_nv, 8000, .inl f_nv)), (h_na, .inl (cy_na, 8000, .inl f_na)), (h_nb, .inl (cy_nb, 8000, .inl f_nb)), (h_nc, .inl (cy_nc, 8000, .inl f_nc)), (h_bto, .inl (cy_bto, 256, .inl f_bto)), (h_bin, .inl (cy_bin, 256, .inl f_bin))] := by rw [evq21]; exact hD
        have hPc := hP.sub (ws' := [(h_mm, .inr (8, (mo86 vq21 (.ref h_nv) (.ref h_na) (.ref h_nb) (.ref h_nc)))), (h_nv, .inl (cy_nv, 8000, .inl f_nv)), (h_na, .inl (cy_na, 8000, .inl f_na)), (h_nb, .inl (cy_nb, 8000, .inl f_nb)), (h_nc, .inl (cy_nc, 8000, .inl f_nc))]) [0, 1, 2, 3, 4] rfl
        have hDc := hD.sub (ws' := [(h_mm, .inr (8, (mo86 vq21 (.ref h_nv) (.ref h_na) (.ref h_nb) (.ref h_nc)))), (h_nv, .inl (cy_nv, 8000, .inl f_nv)), (h_na, .inl (cy_na, 8000, .inl f_na)), (h_nb, .inl (cy_nb, 8000, .inl f_nb)), (h_nc, .inl (cy_nc, 8000, .inl f_nc))]) [0, 1, 2, 3, 4] (by decide) rfl
        have hKc := hK.sub (tys' := [(cy_nv, .int), (cy_na, .int), (cy_nb, .int), (cy_nc, .int)]) [0, 1, 2, 3] rfl
        have hFc := va_free (wc := [(h_mm, .inr (8, (mo86 vq21 (.ref h_nv) (.ref h_na) (.ref h_nb) (.ref h_nc)))), (h_nv, .inl (cy_nv, 8000, .inl f_nv)), (h_na, .inl (cy_na, 8000, .inl f_na)), (h_nb, .inl (cy_nb, 8000, .inl f_nb)), (h_nc, .inl (cy_nc, 8000, .inl f_nc))]) hD hS hA [0, 1, 2, 3, 4] rfl
        refine va_calli (va_runV (As := [.int z2]) (rest := [.int x16]) ⟨hx, hb, hml, hown, hts⟩ (c_X11_partsAt_e l dC dI H.size h_mm h_nv h_na h_nb h_nc vq21 cy_nv f_nv cy_na f_na cy_nb f_nb cy_nc f_nc z2 hf_nv hf_na hf_nb hf_nc (by first | exact k5 | omega)) (cwV 1 hts (gv hT w_m_X11_27 w_instanceMethod_X11_partsAt ws_sel_X11_partsAt w_ini_X11 w_code_X11_partsAt) rfl rfl rfl (by decide +kernel) ⟨(by dsimp only [headSpec]; omega), (by dsimp only [headSpec]; omega)⟩) ⟨pre_blind, va_recv hK hP (ci := 8) (q0 := 0) rfl rfl, pre_of hPc hKc hDc hN⟩ rfl rfl hl.1 rfl (lv_room (Nat.le_of_ble_eq_true rfl)) dX11_holds_55 ⟨(Nat.le_of_ble_eq_true rfl), (Nat.le_of_ble_eq_true rfl)⟩) hS (fun q _ h => hFc q h) hFc (fun r22 u t H locs ht hvm hq hB hz1 hk1 hS9 => ?_)
        obtain ⟨hP1, hD1⟩ := hB
        rw [ht] at hP1
        obtain ⟨hP9, hD9⟩ := va_join (wr := [(h_bto, .inl (cy_bto, 256, .inl f_bto)), (h_bin, .inl (cy_bin, 256, .inl f_bin))]) (w1 := [(h_mm, .inr (8, (mo86 vq21 (.ref h_nv) (.ref h_na) (.ref h_nb) (.ref h_nc)))), (h_nv, .inl (cy_nv, 8000, .inl f_nv)), (h_na, .inl (cy_na, 8000, .inl f_na)), (h_nb, .inl (cy_nb, 8000, .inl f_nb)), (h_nc, .inl (cy_nc, 8000, .inl f_nc))]) hP hD [0, 1, 2, 3, 4] [5, 6] rfl rfl (by decide) (by decide) hk1 hFc hP1 hD1
        clear hP hD hS hPc hDc hKc hFc hP1 hD1 hk1 hz1 ht hvm
        have hP : va_P (dC, dI) cls [(h_bto, .inl (cy_bto, 256, .inl f_bto)), (h_bin, .inl (cy_bin, 256, .inl f_bin)), (h_mm, .inr (8, (mo86 vq21 (.ref h_nv) (.ref h_na) (.ref h_nb) (.ref h_nc)))), (h_nv, .inl (cy_nv, 8000, .inl f_nv)), (h_na, .inl (cy_na, 8000, .inl f_na)), (h_nb, .inl (cy_nb, 8000, .inl f_nb)), (h_nc, .inl (cy_nc, 8000, .inl f_nc))] H := hP9
        have hD : va_D A [(h_bto, .inl (cy_bto, 256, .inl f_bto)), (h_bin, .inl (cy_bin, 256, .inl f_bin)), (h_mm, .inr (8, (mo86 vq21 (.ref h_nv) (.ref h_na) (.ref h_nb) (.ref h_nc)))), (h_nv, .inl (cy_nv, 8000, .inl f_nv)), (h_na, .inl (cy_na, 8000, .inl f_na)), (h_nb, .inl (cy_nb, 8000, .inl f_nb)), (h_nc, .inl (cy_nc, 8000, .inl f_nc))] := hD9
        have hS := hS9
        clear hP9 hD9 hS9
        rw [evq21] at hP hD
        replace hP : va_P (dC, dI) cls [(h_bto, .inl (cy_bto, 256, .inl f_bto)), (h_bin, .inl (cy_bin, 256, .inl f_bin)), (h_mm, .inr (8, (mo134 v_mm (.ref h_nv) (.ref h_na) (.ref h_nb) (.ref h_nc) (.ref h_bto) (.ref h_bin) (.int x17) (.int x18)))), (h_nv, .inl (cy_nv, 8000, .inl f_nv)), (h_na, .inl (cy_na, 8000, .inl f_na)), (h_nb, .inl (cy_nb, 8000, .inl f_nb)), (h_nc, .inl (cy_nc, 8000, .inl f_nc))] H := hP
        replace hD : va_D A [(h_bto, .inl (cy_bto, 256, .inl f_bto)), (h_bin, .inl (cy_bin, 256, .inl f_bin)), (h_mm, .inr (8, (mo134 v_mm (.ref h_nv) (.ref h_na) (.ref h_nb) (.ref h_nc) (.ref h_bto) (.ref h_bin) (.int x17) (.int x18)))), (h_nv, .inl (cy_nv, 8000, .inl f_nv)), (h_na, .inl (cy_na, 8000, .inl f_na)), (h_nb, .inl (cy_nb, 8000, .inl f_nb)), (h_nc, .inl (cy_nc, 8000, .inl f_nc))] := hD
        clear evq21 
        obtain ⟨k23, k24⟩ := hq
        replace k23 : 0 ≤ (r22).toInt ∧ (r22).toInt ≤ 3 := k23
        replace k24 : ((r22)).toInt = (npx f_nv f_na f_nb f_nc ((z2)).toInt.toNat) := k24
        refine lv_icmp_ge (tgt := 87) hx hb dX11_holds_58 (by decide) (fun c25 => ?_) (fun c25 => ?_)
        · have kc25 := (cv_le (rfl : (r22).toInt = (r22).toInt) (rfl : (x16).toInt = (x16).toInt)).mp c25
          have bt9 : (BDW f_bto f_bin) (p3).toInt.toNat < 0 := by unfold BDW; rw [if_pos q6]; decide
          refine lv_iconst (v := 0) hx hb dX11_holds_87 (by decide) ?_
          replace hP : va_P (dC, dI) cls [(h_mm, .inr (8, (mo134 v_mm (.ref h_nv) (.ref h_na) (.ref h_nb) (.ref h_nc) (.ref h_bto) (.ref h_bin) (.int x17) (.int x18)))), (h_nv, .inl (cy_nv, 8000, .inl f_nv)), (h_na, .inl (cy_na, 8000, .inl f_na)), (h_nb, .inl (cy_nb, 8000, .inl f_nb)), (h_nc, .inl (cy_nc, 8000, .inl f_nc)), (h_bto, .inl (cy_bto, 256, .inl f_bto)), (h_bin, .inl (cy_bin, 256, .inl f_bin))] H := hP.sub [2, 3, 4, 5, 6, 0, 1] rfl
          replace hD : va_D A [(h_mm, .inr (8, (mo134 v_mm (.ref h_nv) (.ref h_na) (.ref h_nb) (.ref h_nc) (.ref h_bto) (.ref h_bin) (.int x17) (.int x18)))), (h_nv, .inl (cy_nv, 8000, .inl f_nv)), (h_na, .inl (cy_na, 8000, .inl f_na)), (h_nb, .inl (cy_nb, 8000, .inl f_nb)), (h_nc, .inl (cy_nc, 8000, .inl f_nc)), (h_bto, .inl (cy_bto, 256, .inl f_bto)), (h_bin, .inl (cy_bin, 256, .inl f_bin))] := hD.sub [2, 3, 4, 5, 6, 0, 1] (by decide) rfl
          refine W.widen (k := 0) (n := 0) (Nat.le_of_ble_eq_true rfl) (Nat.le_of_ble_eq_true rfl) ?_
          have cst0 : (0 : Int32).toInt = 0 := by decide
          have w26 : 0 ≤ ((x17)).toInt ∧ ((x17)).toInt ≤ 7999 := by first | exact klp19_1 | omega
          have w27 : 0 ≤ ((x18)).toInt ∧ ((x18)).toInt ≤ 31 := by first | exact klp19_2 | omega
          have w28 : 0 ≤ (0 : Int32).toInt ∧ (0 : Int32).toInt ≤ 1 := by omega
          have w29 : ((0 : Int32)).toInt = 1 ∨ NR f_nv f_na f_nb f_nc f_bto f_bin (p1).toInt.toNat (p2).toInt (p3).toInt.toNat := (Or.inr (k12 _ q6 (nr_node (by omega) (fun j h1 h2 => klp19_4 j h1 (by omega)))))
          have w30 : (((0 : Int32)).toInt = 1 ∧ OCC g (BDW f_bto f_bin) (PLR p1 p2) (p3).toInt.toNat) ∨ (((0 : Int32)).toInt = 0 ∧ ¬ OCC g (BDW f_bto f_bin) (PLR p1 p2) (p3).toInt.toNat) := (Or.inr ⟨by decide, ock_end klp19_5 k13 bt9 (by rw [gv9]; omega) (by rw [ga9]; omega)⟩)
          exact W.zret (v := 0) (ty := .boolean) hx hb hr (by decide) (fun t ht hW => ⟨⟨0, (x17, x18), rfl, ⟨w26, w27, w28, w29, w30⟩, by rw [ht]; exact hP, hD⟩, hS.F ht⟩) hS.2.2 dX11_holds_88
        · have kc25 := (not_congr (cv_le (rfl : (r22).toInt = (r22).toInt) (rfl : (x16).toInt = (x16).toInt))).mp c25
          refine lv_aload_n hx hb dX11_holds_61 rfl (lv_at hl 0 rfl) ?_
          refine lv_aload_n hx hb dX11_holds_62 rfl (lv_at hl 0 rfl) ?_
          refine lv_iload hx hb dX11_holds_63 (lv_at hl 4 rfl) ?_
          refine lv_iload hx hb dX11_holds_65 (lv_at hl 6 rfl) ?_
          obtain ⟨vq31, evq31⟩ := mq134_85 v_mm (.ref h_nv) (.ref h_bto) (.ref h_bin) (.int x17) (.int x18)
          replace hP : va_P (dC, dI) cls [(h_bto, .inl (cy_bto, 256, .inl f_bto)), (h_bin, .inl (cy_bin, 256, .inl f_bin)), (h_mm, .inr (8, (mo85 vq31 (.ref h_na) (.ref h_nb) (.ref h_nc)))), (h_nv, .inl (cy_nv, 8000, .inl f_nv)), (h_na, .inl (cy_na, 8000, .inl f_na)), (h_nb, .inl (cy_nb, 8000, .inl f_nb)), (h_nc, .inl (cy_nc, 8000, .inl f_nc))] H := by rw [evq31]; exact hP
          replace hD : va_D A [(h_bto, .inl (cy_bto, 256, .inl f_bto)), (h_bin, .inl (cy_bin, 256, .inl f_bin)), (h_mm, .inr (8, (mo85 vq31 (.ref h_na) (.ref h_nb) (.ref h_nc)))), (h_nv, .inl (cy_nv, 8000, .inl f_nv)), (h_na, .inl (cy_na, 8000, .inl f_na)), (h_nb, .inl (cy_nb, 8000, .inl f_nb)), (h_nc, .inl (cy_nc, 8000, .inl f_nc))] := by rw [evq31]; exact hD
          have hPc := hP.sub (ws' := [(h_mm, .inr (8, (mo85 vq31 (.ref h_na) (.ref h_nb) (.ref h_nc)))), (h_na, .inl (cy_na, 8000, .inl f_na)), (h_nb, .inl (cy_nb, 8000, .inl f_nb)), (h_nc, .inl (cy_nc, 8000, .inl f_nc))]) [2, 4, 5, 6] rfl
          have hDc := hD.sub (ws' := [(h_mm, .inr (8, (mo85 vq31 (.ref h_na) (.ref h_nb) (.ref h_nc)))), (h_na, .inl (cy_na, 8000, .inl f_na)), (h_nb, .inl (cy_nb, 8000, .inl f_nb)), (h_nc, .inl (cy_nc, 8000, .inl f_nc))]) [2, 4, 5, 6] (by decide) rfl
          have hKc := hK.sub (tys' := [(cy_na, .int), (cy_nb, .int), (cy_nc, .int)]) [1, 2, 3] rfl
          have hFc := va_free (wc := [(h_mm, .inr (8, (mo85 vq31 (.ref h_na) (.ref h_nb) (.ref h_nc)))), (h_na, .inl (cy_na, 8000, .inl f_na)), (h_nb, .inl (cy_nb, 8000, .inl f_nb)), (h_nc, .inl (cy_nc, 8000, .inl f_nc))]) hD hS hA [2, 4, 5, 6] rfl
          refine va_calli (va_runV (As := [.int z2, .int x16]) (rest := [.ref h_mm]) ⟨hx, hb, hml, hown, hts⟩ (c_X11_part_e l dC dI H.size h_mm h_na h_nb h_nc vq31 cy_na f_na cy_nb f_nb cy_nc f_nc z2 x16 hf_na hf_nb hf_nc (by first | exact k5 | omega)) (cwV 2 hts (gv hT w_m_X11_31 w_instanceMethod_X11_part ws_sel_X11_part w_ini_X11 w_code_X11_part) rfl rfl rfl (by decide +kernel) ⟨(by dsimp only [headSpec]; omega), (by dsimp only [headSpec]; omega)⟩) ⟨pre_blind, va_recv hK hP (ci := 8) (q0 := 2) rfl rfl, pre_of hPc hKc hDc hN⟩ rfl rfl hl.1 rfl (lv_room (Nat.le_of_ble_eq_true rfl)) dX11_holds_67 ⟨(Nat.le_of_ble_eq_true rfl), (Nat.le_of_ble_eq_true rfl)⟩) hS (fun q _ h => hFc q h) hFc (fun r32 u t H locs ht hvm hq hB hz1 hk1 hS9 => ?_)
          obtain ⟨hP1, hD1⟩ := hB
          rw [ht] at hP1
          obtain ⟨hP9, hD9⟩ := va_join (wr := [(h_bto, .inl (cy_bto, 256, .inl f_bto)), (h_bin, .inl (cy_bin, 256, .inl f_bin)), (h_nv, .inl (cy_nv, 8000, .inl f_nv))]) (w1 := [(h_mm, .inr (8, (mo85 vq31 (.ref h_na) (.ref h_nb) (.ref h_nc)))), (h_na, .inl (cy_na, 8000, .inl f_na)), (h_nb, .inl (cy_nb, 8000, .inl f_nb)), (h_nc, .inl (cy_nc, 8000, .inl f_nc))]) hP hD [2, 4, 5, 6] [0, 1, 3] rfl rfl (by decide) (by decide) hk1 hFc hP1 hD1
          clear hP hD hS hPc hDc hKc hFc hP1 hD1 hk1 hz1 ht hvm
          have hP : va_P (dC, dI) cls [(h_bto, .inl (cy_bto, 256, .inl f_bto)), (h_bin, .inl (cy_bin, 256, .inl f_bin)), (h_nv, .inl (cy_nv, 8000, .inl f_nv)), (h_mm, .inr (8, (mo85 vq31 (.ref h_na) (.ref h_nb) (.ref h_nc)))), (h_na, .inl (cy_na, 8000, .inl f_na)), (h_nb, .inl (cy_nb, 8000, .inl f_nb)), (h_nc, .inl (cy_nc, 8000, .inl f_nc))] H := hP9
          have hD : va_D A [(h_bto, .inl (cy_bto, 256, .inl f_bto)), (h_bin, .inl (cy_bin, 256, .inl f_bin)), (h_nv, .inl (cy_nv, 8000, .inl f_nv)), (h_mm, .inr (8, (mo85 vq31 (.ref h_na) (.ref h_nb) (.ref h_nc)))), (h_na, .inl (cy_na, 8000, .inl f_na)), (h_nb, .inl (cy_nb, 8000, .inl f_nb)), (h_nc, .inl (cy_nc, 8000, .inl f_nc))] := hD9
          have hS := hS9
          clear hP9 hD9 hS9
          rw [evq31] at hP hD
          replace hP : va_P (dC, dI) cls [(h_bto, .inl (cy_bto, 256, .inl f_bto)), (h_bin, .inl (cy_bin, 256, .inl f_bin)), (h_nv, .inl (cy_nv, 8000, .inl f_nv)), (h_mm, .inr (8, (mo134 v_mm (.ref h_nv) (.ref h_na) (.ref h_nb) (.ref h_nc) (.ref h_bto) (.ref h_bin) (.int x17) (.int x18)))), (h_na, .inl (cy_na, 8000, .inl f_na)), (h_nb, .inl (cy_nb, 8000, .inl f_nb)), (h_nc, .inl (cy_nc, 8000, .inl f_nc))] H := hP
          replace hD : va_D A [(h_bto, .inl (cy_bto, 256, .inl f_bto)), (h_bin, .inl (cy_bin, 256, .inl f_bin)), (h_nv, .inl (cy_nv, 8000, .inl f_nv)), (h_mm, .inr (8, (mo134 v_mm (.ref h_nv) (.ref h_na) (.ref h_nb) (.ref h_nc) (.ref h_bto) (.ref h_bin) (.int x17) (.int x18)))), (h_na, .inl (cy_na, 8000, .inl f_na)), (h_nb, .inl (cy_nb, 8000, .inl f_nb)), (h_nc, .inl (cy_nc, 8000, .inl f_nc))] := hD
          clear evq31 
          obtain ⟨k33, k34⟩ := hq
          replace k33 : -1 ≤ (r32).toInt ∧ (r32).toInt ≤ 7999 := k33
          replace k34 : ((r32)).toInt = (ptx f_na f_nb f_nc ((z2)).toInt.toNat ((x16)).toInt).toInt := k34
          have cc9e : ptx f_na f_nb f_nc (z2).toInt.toNat (x16).toInt = r32 := Int32.toInt_inj.mp (by omega)
          have cc9c := ch_ok (nv := f_nv) (k := (x16).toInt) (x := (z2).toInt.toNat) hn_bi.1 (by omega) (by omega)
          rw [cc9e] at cc9c
          have cc9p := pa_ch (k := (x16).toInt) (k10) (by omega)
          rw [cc9e] at cc9p
          have kg9 := grv_k (i := z3) hn_grv (show 0 ≤ (z2).toInt ∧ (z2).toInt < 8000 by omega) (by omega) cc9e
          refine lv_iload hx hb dX11_holds_70 (lv_at hl 5 rfl) ?_
          refine lv_iload_n hx hb dX11_holds_72 rfl (lv_at hl 3 rfl) ?_
          have hPc := hP.sub (ws' := [(h_mm, .inr (8, (mo134 v_mm (.ref h_nv) (.ref h_na) (.ref h_nb) (.ref h_nc) (.ref h_bto) (.ref h_bin) (.int x17) (.int x18)))), (h_nv, .inl (cy_nv, 8000, .inl f_nv)), (h_na, .inl (cy_na, 8000, .inl f_na)), (h_nb, .inl (cy_nb, 8000, .inl f_nb)), (h_nc, .inl (cy_nc, 8000, .inl f_nc)), (h_bto, .inl (cy_bto, 256, .inl f_bto)), (h_bin, .inl (cy_bin, 256, .inl f_bin))]) [3, 2, 4, 5, 6, 0, 1] rfl
          have hDc := hD.sub (ws' := [(h_mm, .inr (8, (mo134 v_mm (.ref h_nv) (.ref h_na) (.ref h_nb) (.ref h_nc) (.ref h_bto) (.ref h_bin) (.int x17) (.int x18)))), (h_nv, .inl (cy_nv, 8000, .inl f_nv)), (h_na, .inl (cy_na, 8000, .inl f_na)), (h_nb, .inl (cy_nb, 8000, .inl f_nb)), (h_nc, .inl (cy_nc, 8000, .inl f_nc)), (h_bto, .inl (cy_bto, 256, .inl f_bto)), (h_bin, .inl (cy_bin, 256, .inl f_bin))]) [3, 2, 4, 5, 6, 0, 1] (by decide) rfl
          have hKc := hK.sub (tys' := [(cy_nv, .int), (cy_na, .int), (cy_nb, .int), (cy_nc, .int), (cy_bto, .int), (cy_bin, .int)]) [0, 1, 2, 3, 4, 5] rfl
          have hFc := va_free (wc := [(h_mm, .inr (8, (mo134 v_mm (.ref h_nv) (.ref h_na) (.ref h_nb) (.ref h_nc) (.ref h_bto) (.ref h_bin) (.int x17) (.int x18)))), (h_nv, .inl (cy_nv, 8000, .inl f_nv)), (h_na, .inl (cy_na, 8000, .inl f_na)), (h_nb, .inl (cy_nb, 8000, .inl f_nb)), (h_nc, .inl (cy_nc, 8000, .inl f_nc)), (h_bto, .inl (cy_bto, 256, .inl f_bto)), (h_bin, .inl (cy_bin, 256, .inl f_bin))]) hD hS hA [3, 2, 4, 5, 6, 0, 1] rfl
          refine va_calli (va_runV (As := [.int r32, .int z3, .int p3]) (rest := []) ⟨hx, hb, hml, hown, hts⟩ (ihf dC dI H.size h_mm h_nv h_na h_nb h_nc h_bto h_bin v_mm x17 x18 cy_nv f_nv cy_na f_na cy_nb f_nb cy_nc f_nc cy_bto f_bto cy_bin f_bin r32 z3 p3 i0 i1 N hz g z4 (by first | exact klp19_1 | omega) (by first | exact klp19_2 | omega) hf_nv hf_na hf_nb hf_nc hf_bto hf_bin (by first | exact q0 | omega) (by first | exact q1 | omega) (by omega) (by first | exact k8 | omega) (by first | exact q4 | omega) (by omega) (by first | exact q6 | omega) hn_bi cc9p hn_grv) (cwV 3 hts (gv hT w_m_X11_276 w_instanceMethod_X11_holds ws_sel_X11_holds w_ini_X11 w_code_X11_holds) rfl rfl rfl (by decide +kernel) ⟨(by dsimp only [headSpec]; omega), (by dsimp only [headSpec]; omega)⟩) ⟨pre_blind, va_recv hK hP (ci := 8) (q0 := 3) rfl rfl, pre_of hPc hKc hDc hN⟩ rfl rfl hl.1 rfl (lv_room (Nat.le_of_ble_eq_true rfl)) dX11_holds_73 ⟨(Nat.le_of_ble_eq_true rfl), (Nat.le_of_ble_eq_true rfl)⟩) hS (fun q _ h => hFc q h) hFc (fun r35 u t H locs ht hvm hq hB hz1 hk1 hS9 => ?_)
          obtain ⟨z36, z37⟩ := u
          obtain ⟨hP1, hD1⟩ := hB
          rw [ht] at hP1
          obtain ⟨hP9, hD9⟩ := va_join (wr := []) (w1 := [(h_mm, .inr (8, (mo134 v_mm (.ref h_nv) (.ref h_na) (.ref h_nb) (.ref h_nc) (.ref h_bto) (.ref h_bin) (.int z36) (.int z37)))), (h_nv, .inl (cy_nv, 8000, .inl f_nv)), (h_na, .inl (cy_na, 8000, .inl f_na)), (h_nb, .inl (cy_nb, 8000, .inl f_nb)), (h_nc, .inl (cy_nc, 8000, .inl f_nc)), (h_bto, .inl (cy_bto, 256, .inl f_bto)), (h_bin, .inl (cy_bin, 256, .inl f_bin))]) hP hD [3, 2, 4, 5, 6, 0, 1] [] rfl rfl (by decide) (by decide) hk1 hFc hP1 hD1
          clear hP hD hS hPc hDc hKc hFc hP1 hD1 hk1 hz1 ht hvm
          have hP : va_P (dC, dI) cls [(h_mm, .inr (8, (mo134 v_mm (.ref h_nv) (.ref h_na) (.ref h_nb) (.ref h_nc) (.ref h_bto) (.ref h_bin) (.int z36) (.int z37)))), (h_nv, .inl (cy_nv, 8000, .inl f_nv)), (h_na, .inl (cy_na, 8000, .inl f_na)), (h_nb, .inl (cy_nb, 8000, .inl f_nb)), (h_nc, .inl (cy_nc, 8000, .inl f_nc)), (h_bto, .inl (cy_bto, 256, .inl f_bto)), (h_bin, .inl (cy_bin, 256, .inl f_bin))] H := hP9
          have hD : va_D A [(h_mm, .inr (8, (mo134 v_mm (.ref h_nv) (.ref h_na) (.ref h_nb) (.ref h_nc) (.ref h_bto) (.ref h_bin) (.int z36) (.int z37)))), (h_nv, .inl (cy_nv, 8000, .inl f_nv)), (h_na, .inl (cy_na, 8000, .inl f_na)), (h_nb, .inl (cy_nb, 8000, .inl f_nb)), (h_nc, .inl (cy_nc, 8000, .inl f_nc)), (h_bto, .inl (cy_bto, 256, .inl f_bto)), (h_bin, .inl (cy_bin, 256, .inl f_bin))] := hD9
          have hS := hS9
          clear hP9 hD9 hS9
          obtain ⟨k38, k39, k40, k41, k42⟩ := hq
          replace k38 : 0 ≤ ((z36)).toInt ∧ ((z36)).toInt ≤ 7999 := k38
          replace k39 : 0 ≤ ((z37)).toInt ∧ ((z37)).toInt ≤ 31 := k39
          replace k40 : 0 ≤ (r35).toInt ∧ (r35).toInt ≤ 1 := k40
          replace k41 : ((r35)).toInt = 1 ∨ NR f_nv f_na f_nb f_nc f_bto f_bin ((r32)).toInt.toNat ((z3)).toInt ((p3)).toInt.toNat := k41
          replace k42 : (((r35)).toInt = 1 ∧ OCC (g) (BDW f_bto f_bin) (PLR (r32) (z3)) ((p3)).toInt.toNat) ∨ (((r35)).toInt = 0 ∧ ¬ OCC (g) (BDW f_bto f_bin) (PLR (r32) (z3)) ((p3)).toInt.toNat) := k42
          refine lv_if_eq (tgt := 81) hx hb dX11_holds_76 (by decide) (fun c43 => ?_) (fun c43 => ?_)
          · have kc43 := (cv_eq (rfl : (r35).toInt = (r35).toInt) (by decide : (0 : Int32).toInt = 0)).mp c43
            have nk44 : ∀ j : Int, 0 ≤ j → j < (x16).toInt + 1 → NR f_nv f_na f_nb f_nc f_bto f_bin (ptx f_na f_nb f_nc (z2).toInt.toNat j).toInt.toNat (z3).toInt (p3).toInt.toNat := nrk_step klp19_4 (by rw [cc9e]; exact (k41).resolve_left (by omega))
            obtain ⟨z45, ez45⟩ : ∃ y : Int32, y = x16 + 1 := ⟨_, rfl⟩
            have tz45 : (z45).toInt = (x16).toInt + 1 := by rw [ez45]; exact i_add rfl (by decide) (by omega)
            refine lv_iinc (v := z45) (lv' := [(6, .int z45), (0, .ref h_mm), (1, .int p1), (2, .int p2), (3, .int p3), (4, .int z2), (5, .int z3)]) hx hb dX11_holds_81 hl (k := 6) rfl (by rw [ez45]; rfl) (by decide) rfl (fun ls hl => ?_)
            refine lv_goto (tgt := 50) hx hb dX11_holds_84 (by decide) ?_
            exact ih20 (z45) (z36) (z37) _ _ _ (by omega) (by first | exact k38 | omega) (by first | exact k39 | omega) (by omega) (fun j h1 h2 => nk44 j h1 (by omega)) (ock_step klp19_5 kg9 ((k42.resolve_left (fun q9 => absurd q9.1 (by omega))).2) (by omega)) (by omega) hP hD hS (lv_sub hl [1, 2, 3, 4, 5, 6, 0] rfl)
          · have kc43 := (not_congr (cv_eq (rfl : (r35).toInt = (r35).toInt) (by decide : (0 : Int32).toInt = 0))).mp c43
            have oc9 := (k42.resolve_right (fun q9 => absurd q9.1 (by omega))).2
            rw [← kg9] at oc9
            have od9 := occ_bre k13 (occ_kid (by rw [gv9]; omega) (by rw [ga9]; omega) oc9)
            refine lv_iconst (v := 1) hx hb dX11_holds_79 (by decide) ?_
            refine W.widen (k := 0) (n := 0) (Nat.le_of_ble_eq_true rfl) (Nat.le_of_ble_eq_true rfl) ?_
            have cst1 : (1 : Int32).toInt = 1 := by decide
            have w46 : 0 ≤ ((z36)).toInt ∧ ((z36)).toInt ≤ 7999 := by first | exact k38 | omega
            have w47 : 0 ≤ ((z37)).toInt ∧ ((z37)).toInt ≤ 31 := by first | exact k39 | omega
            have w48 : 0 ≤ (1 : Int32).toInt ∧ (1 : Int32).toInt ≤ 1 := by omega
            have w49 : ((1 : Int32)).toInt = 1 ∨ NR f_nv f_na f_nb f_nc f_bto f_bin (p1).toInt.toNat (p2).toInt (p3).toInt.toNat := (Or.inl (by decide))
            have w50 : (((1 : Int32)).toInt = 1 ∧ OCC g (BDW f_bto f_bin) (PLR p1 p2) (p3).toInt.toNat) ∨ (((1 : Int32)).toInt = 0 ∧ ¬ OCC g (BDW f_bto f_bin) (PLR p1 p2) (p3).toInt.toNat) := (Or.inl ⟨by decide, od9⟩)
            exact W.zret (v := 1) (ty := .boolean) hx hb hr (by decide) (fun t ht hW => ⟨⟨1, (z36, z37), rfl, ⟨w46, w47, w48, w49, w50⟩, by rw [ht]; exact hP, hD⟩, hS.F ht⟩) hS.2.2 dX11_holds_80
    have cst0 : (0 : Int32).toInt = 0 := by decide
    exact lp19 _ (0) (z2) (z3) _ _ _ (by decide) (by first | exact k5 | omega) (by first | exact k6 | omega) (by omega) (fun j h1 h2 => nk0 j h1 (by omega)) (ock_zero (by decide)) (Nat.le_refl _) hP hD hS (lv_sub hl [3, 4, 5, 6, 2, 1, 0] rfl)
  · have kc15 := (not_congr (cv_eq (rfl : (z14).toInt = (z14).toInt) (by decide : ((-1) : Int32).toInt = -1))).mp c15
    refine lv_aload_n hx hb dX11_holds_29 rfl (lv_at hl 2 rfl) ?_
    refine lv_iload hx hb dX11_holds_30 (lv_at hl 1 rfl) ?_
    refine lv_iload hx hb dX11_holds_32 (lv_at hl 0 rfl) ?_
    obtain ⟨vq51, evq51⟩ := mq134_129 v_mm (.ref h_na) (.ref h_nb) (.ref h_nc) (.ref h_bto) (.ref h_bin) (.int z2) (.int z3)
    replace hP : va_P (dC, dI) cls [(h_mm, .inr (8, (mo129 vq51 (.ref h_nv)))), (h_nv, .inl (cy_nv, 8000, .inl f_nv)), (h_na, .inl (cy_na, 8000, .inl f_na)), (h_nb, .inl (cy_nb, 8000, .inl f_nb)), (h_nc, .inl (cy_nc, 8000, .inl f_nc)), (h_bto, .inl (cy_bto, 256, .inl f_bto)), (h_bin, .inl (cy_bin, 256, .inl f_bin))] H := by rw [evq51]; exact hP
    replace hD : va_D A [(h_mm, .inr (8, (mo129 vq51 (.ref h_nv)))), (h_nv, .inl (cy_nv, 8000, .inl f_nv)), (h_na, .inl (cy_na, 8000, .inl f_na)), (h_nb, .inl (cy_nb, 8000, .inl f_nb)), (h_nc, .inl (cy_nc, 8000, .inl f_nc)), (h_bto, .inl (cy_bto, 256, .inl f_bto)), (h_bin, .inl (cy_bin, 256, .inl f_bin))] := by rw [evq51]; exact hD
    have hPc := hP.sub (ws' := [(h_mm, .inr (8, (mo129 vq51 (.ref h_nv)))), (h_nv, .inl (cy_nv, 8000, .inl f_nv))]) [0, 1] rfl
    have hDc := hD.sub (ws' := [(h_mm, .inr (8, (mo129 vq51 (.ref h_nv)))), (h_nv, .inl (cy_nv, 8000, .inl f_nv))]) [0, 1] (by decide) rfl
    have hKc := hK.sub (tys' := [(cy_nv, .int)]) [0] rfl
    have hFc := va_free (wc := [(h_mm, .inr (8, (mo129 vq51 (.ref h_nv)))), (h_nv, .inl (cy_nv, 8000, .inl f_nv))]) hD hS hA [0, 1] rfl
    refine va_calli (va_runV (As := [.int z2, .int z3]) (rest := []) ⟨hx, hb, hml, hown, hts⟩ (c_X11_slotOf l dC dI H.size h_mm h_nv vq51 cy_nv f_nv z2 z3 hf_nv (by first | exact k5 | omega) (by first | exact k6 | omega)) (cwV 2 hts (gv hT w_m_X11_270 w_instanceMethod_X11_slotOf ws_sel_X11_slotOf w_ini_X11 w_code_X11_slotOf) rfl rfl rfl (by decide +kernel) ⟨(by dsimp only [headSpec]; omega), (by dsimp only [headSpec]; omega)⟩) ⟨pre_blind, va_recv hK hP (ci := 8) (q0 := 0) rfl rfl, pre_of hPc hKc hDc hN⟩ rfl rfl hl.1 rfl (lv_room (Nat.le_of_ble_eq_true rfl)) dX11_holds_34 ⟨(Nat.le_of_ble_eq_true rfl), (Nat.le_of_ble_eq_true rfl)⟩) hS (fun q _ h => hFc q h) hFc (fun r52 u t H locs ht hvm hq hB hz1 hk1 hS9 => ?_)
    obtain ⟨hP1, hD1⟩ := hB
    rw [ht] at hP1
    obtain ⟨hP9, hD9⟩ := va_join (wr := [(h_na, .inl (cy_na, 8000, .inl f_na)), (h_nb, .inl (cy_nb, 8000, .inl f_nb)), (h_nc, .inl (cy_nc, 8000, .inl f_nc)), (h_bto, .inl (cy_bto, 256, .inl f_bto)), (h_bin, .inl (cy_bin, 256, .inl f_bin))]) (w1 := [(h_mm, .inr (8, (mo129 vq51 (.ref h_nv)))), (h_nv, .inl (cy_nv, 8000, .inl f_nv))]) hP hD [0, 1] [2, 3, 4, 5, 6] rfl rfl (by decide) (by decide) hk1 hFc hP1 hD1
    clear hP hD hS hPc hDc hKc hFc hP1 hD1 hk1 hz1 ht hvm
    have hP : va_P (dC, dI) cls [(h_na, .inl (cy_na, 8000, .inl f_na)), (h_nb, .inl (cy_nb, 8000, .inl f_nb)), (h_nc, .inl (cy_nc, 8000, .inl f_nc)), (h_bto, .inl (cy_bto, 256, .inl f_bto)), (h_bin, .inl (cy_bin, 256, .inl f_bin)), (h_mm, .inr (8, (mo129 vq51 (.ref h_nv)))), (h_nv, .inl (cy_nv, 8000, .inl f_nv))] H := hP9
    have hD : va_D A [(h_na, .inl (cy_na, 8000, .inl f_na)), (h_nb, .inl (cy_nb, 8000, .inl f_nb)), (h_nc, .inl (cy_nc, 8000, .inl f_nc)), (h_bto, .inl (cy_bto, 256, .inl f_bto)), (h_bin, .inl (cy_bin, 256, .inl f_bin)), (h_mm, .inr (8, (mo129 vq51 (.ref h_nv)))), (h_nv, .inl (cy_nv, 8000, .inl f_nv))] := hD9
    have hS := hS9
    clear hP9 hD9 hS9
    rw [evq51] at hP hD
    replace hP : va_P (dC, dI) cls [(h_na, .inl (cy_na, 8000, .inl f_na)), (h_nb, .inl (cy_nb, 8000, .inl f_nb)), (h_nc, .inl (cy_nc, 8000, .inl f_nc)), (h_bto, .inl (cy_bto, 256, .inl f_bto)), (h_bin, .inl (cy_bin, 256, .inl f_bin)), (h_mm, .inr (8, (mo134 v_mm (.ref h_nv) (.ref h_na) (.ref h_nb) (.ref h_nc) (.ref h_bto) (.ref h_bin) (.int z2) (.int z3)))), (h_nv, .inl (cy_nv, 8000, .inl f_nv))] H := hP
    replace hD : va_D A [(h_na, .inl (cy_na, 8000, .inl f_na)), (h_nb, .inl (cy_nb, 8000, .inl f_nb)), (h_nc, .inl (cy_nc, 8000, .inl f_nc)), (h_bto, .inl (cy_bto, 256, .inl f_bto)), (h_bin, .inl (cy_bin, 256, .inl f_bin)), (h_mm, .inr (8, (mo134 v_mm (.ref h_nv) (.ref h_na) (.ref h_nb) (.ref h_nc) (.ref h_bto) (.ref h_bin) (.int z2) (.int z3)))), (h_nv, .inl (cy_nv, 8000, .inl f_nv))] := hD
    clear evq51 
    obtain ⟨k53, k54⟩ := hq
    replace k53 : -1 ≤ (r52).toInt ∧ (r52).toInt ≤ 255 := k53
    replace k54 : ((r52)).toInt = 8 * ((z3)).toInt + (f_nv ((z2)).toInt.toNat).toInt := k54
    refine lv_iload_n hx hb dX11_holds_37 rfl (lv_at hl 5 rfl) ?_
    refine lv_icmp_ne (tgt := 45) hx hb dX11_holds_38 (by decide) (fun c55 => ?_) (fun c55 => ?_)
    · have kc55 := (not_congr (cv_eq (rfl : (r52).toInt = (r52).toInt) (rfl : (p3).toInt = (p3).toInt))).mp c55
      have hvz14 : (f_nv (z2).toInt.toNat).toInt = (z14).toInt := by rw [ez14, (clamp_nat (i := z2) (by omega))]
      have tb9 := (k11).resolve_left (by omega)
      have gv9 := grv_v (i := z3) hn_grv (show 0 ≤ (z2).toInt ∧ (z2).toInt < 8000 by omega)
      have gc9 := grv_c (i := z3) hn_grv (show 0 ≤ (z2).toInt ∧ (z2).toInt < 8000 by omega) (by omega) (by omega)
      have bt9 : (BDW f_bto f_bin) (p3).toInt.toNat < 0 := by unfold BDW; rw [if_pos q6]; decide
      have no9 : ¬ OCC g (BDW f_bto f_bin) (PLR p1 p2) (p3).toInt.toNat := fun h9 => by have e9 := occ_tvar (bre_ter2 k13) (by omega) (occ_in k13 bt9 h9); omega
      refine lv_iconst (v := 0) hx hb dX11_holds_45 (by decide) ?_
      replace hP : va_P (dC, dI) cls [(h_mm, .inr (8, (mo134 v_mm (.ref h_nv) (.ref h_na) (.ref h_nb) (.ref h_nc) (.ref h_bto) (.ref h_bin) (.int z2) (.int z3)))), (h_nv, .inl (cy_nv, 8000, .inl f_nv)), (h_na, .inl (cy_na, 8000, .inl f_na)), (h_nb, .inl (cy_nb, 8000, .inl f_nb)), (h_nc, .inl (cy_nc, 8000, .inl f_nc)), (h_bto, .inl (cy_bto, 256, .inl f_bto)), (h_bin, .inl (cy_bin, 256, .inl f_bin))] H := hP.sub [5, 6, 0, 1, 2, 3, 4] rfl
      replace hD : va_D A [(h_mm, .inr (8, (mo134 v_mm (.ref h_nv) (.ref h_na) (.ref h_nb) (.ref h_nc) (.ref h_bto) (.ref h_bin) (.int z2) (.int z3)))), (h_nv, .inl (cy_nv, 8000, .inl f_nv)), (h_na, .inl (cy_na, 8000, .inl f_na)), (h_nb, .inl (cy_nb, 8000, .inl f_nb)), (h_nc, .inl (cy_nc, 8000, .inl f_nc)), (h_bto, .inl (cy_bto, 256, .inl f_bto)), (h_bin, .inl (cy_bin, 256, .inl f_bin))] := hD.sub [5, 6, 0, 1, 2, 3, 4] (by decide) rfl
      refine W.widen (k := 0) (n := 0) (Nat.le_of_ble_eq_true rfl) (Nat.le_of_ble_eq_true rfl) ?_
      have cst0 : (0 : Int32).toInt = 0 := by decide
      have w56 : 0 ≤ ((z2)).toInt ∧ ((z2)).toInt ≤ 7999 := by first | exact k5 | omega
      have w57 : 0 ≤ ((z3)).toInt ∧ ((z3)).toInt ≤ 31 := by first | exact k6 | omega
      have w58 : 0 ≤ (0 : Int32).toInt ∧ (0 : Int32).toInt ≤ 1 := by omega
      have w59 : ((0 : Int32)).toInt = 1 ∨ NR f_nv f_na f_nb f_nc f_bto f_bin (p1).toInt.toNat (p2).toInt (p3).toInt.toNat := (Or.inr (k12 _ q6 (nr_var (s := (8 * (z3).toInt + (f_nv (z2).toInt.toNat).toInt).toNat) (by omega) (by omega) tb9 (by omega))))
      have w60 : (((0 : Int32)).toInt = 1 ∧ OCC g (BDW f_bto f_bin) (PLR p1 p2) (p3).toInt.toNat) ∨ (((0 : Int32)).toInt = 0 ∧ ¬ OCC g (BDW f_bto f_bin) (PLR p1 p2) (p3).toInt.toNat) := (Or.inr ⟨by decide, no9⟩)
      exact W.zret (v := 0) (ty := .boolean) hx hb hr (by decide) (fun t ht hW => ⟨⟨0, (z2, z3), rfl, ⟨w56, w57, w58, w59, w60⟩, by rw [ht]; exact hP, hD⟩, hS.F ht⟩) hS.2.2 dX11_holds_46
    · have kc55 := (cv_eq (rfl : (r52).toInt = (r52).toInt) (rfl : (p3).toInt = (p3).toInt)).mp c55
      have hvz14 : (f_nv (z2).toInt.toNat).toInt = (z14).toInt := by rw [ez14, (clamp_nat (i := z2) (by omega))]
      have gv9 := grv_v (i := z3) hn_grv (show 0 ≤ (z2).toInt ∧ (z2).toInt < 8000 by omega)
      have gc9 := grv_c (i := z3) hn_grv (show 0 ≤ (z2).toInt ∧ (z2).toInt < 8000 by omega) (by omega) (by omega)
      have oc9 : OCC g (BDW f_bto f_bin) (PLR p1 p2) (p3).toInt.toNat := by have h9 := occ_bre k13 (occ_var (g := g) (b := (BDW f_bto f_bin)) (p := (PLR z2 z3)) (by omega)); rwa [show g.2.1 (PLR z2 z3) = (p3).toInt.toNat by omega] at h9
      refine lv_iconst (v := 1) hx hb dX11_holds_41 (by decide) ?_
      refine lv_goto (tgt := 46) hx hb dX11_holds_42 (by decide) ?_
      replace hP : va_P (dC, dI) cls [(h_mm, .inr (8, (mo134 v_mm (.ref h_nv) (.ref h_na) (.ref h_nb) (.ref h_nc) (.ref h_bto) (.ref h_bin) (.int z2) (.int z3)))), (h_nv, .inl (cy_nv, 8000, .inl f_nv)), (h_na, .inl (cy_na, 8000, .inl f_na)), (h_nb, .inl (cy_nb, 8000, .inl f_nb)), (h_nc, .inl (cy_nc, 8000, .inl f_nc)), (h_bto, .inl (cy_bto, 256, .inl f_bto)), (h_bin, .inl (cy_bin, 256, .inl f_bin))] H := hP.sub [5, 6, 0, 1, 2, 3, 4] rfl
      replace hD : va_D A [(h_mm, .inr (8, (mo134 v_mm (.ref h_nv) (.ref h_na) (.ref h_nb) (.ref h_nc) (.ref h_bto) (.ref h_bin) (.int z2) (.int z3)))), (h_nv, .inl (cy_nv, 8000, .inl f_nv)), (h_na, .inl (cy_na, 8000, .inl f_na)), (h_nb, .inl (cy_nb, 8000, .inl f_nb)), (h_nc, .inl (cy_nc, 8000, .inl f_nc)), (h_bto, .inl (cy_bto, 256, .inl f_bto)), (h_bin, .inl (cy_bin, 256, .inl f_bin))] := hD.sub [5, 6, 0, 1, 2, 3, 4] (by decide) rfl
      refine W.widen (k := 0) (n := 0) (Nat.le_of_ble_eq_true rfl) (Nat.le_of_ble_eq_true rfl) ?_
      have cst1 : (1 : Int32).toInt = 1 := by decide
      have w61 : 0 ≤ ((z2)).toInt ∧ ((z2)).toInt ≤ 7999 := by first | exact k5 | omega
      have w62 : 0 ≤ ((z3)).toInt ∧ ((z3)).toInt ≤ 31 := by first | exact k6 | omega
      have w63 : 0 ≤ (1 : Int32).toInt ∧ (1 : Int32).toInt ≤ 1 := by omega
      have w64 : ((1 : Int32)).toInt = 1 ∨ NR f_nv f_na f_nb f_nc f_bto f_bin (p1).toInt.toNat (p2).toInt (p3).toInt.toNat := (Or.inl (by decide))
      have w65 : (((1 : Int32)).toInt = 1 ∧ OCC g (BDW f_bto f_bin) (PLR p1 p2) (p3).toInt.toNat) ∨ (((1 : Int32)).toInt = 0 ∧ ¬ OCC g (BDW f_bto f_bin) (PLR p1 p2) (p3).toInt.toNat) := (Or.inl ⟨by decide, oc9⟩)
      exact W.zret (v := 1) (ty := .boolean) hx hb hr (by decide) (fun t ht hW => ⟨⟨1, (z2, z3), rfl, ⟨w61, w62, w63, w64, w65⟩, by rw [ht]; exact hP, hD⟩, hS.F ht⟩) hS.2.2 dX11_holds_46

set_option maxHeartbeats 8000000 in
set_option maxRecDepth 100000 in
theorem c_X11_binds (l : Launch) (dC : Nat → ClassId) (dI : Nat → Nat → Nat) (sz : Nat) (h_mm : Nat) (h_bto : Nat) (h_bin : Nat) (h_tra : Nat) (v_mm : Nat → Value) (x_mm_trailed : Int32) (cy_bto : ClassId) (f_bto : Nat → Int32) (cy_bin : ClassId) (f_bin : Nat → Int32) (cy_tra : ClassId) (f_tra : Nat → Int32) (p1 : Int32) (p2 : Int32) (p3 : Int32) (hx_mm_trailed : 0 ≤ (x_mm_trailed).toInt ∧ (x_mm_trailed).toInt ≤ 256) (hf_bto : Rg (-1) 7999 f_bto) (hf_bin : Rg 0 31 f_bin) (hf_tra : Rg 0 255 f_tra) (q0 : 0 ≤ (p1).toInt ∧ (p1).toInt ≤ 255) (q1 : 0 ≤ (p2).toInt ∧ (p2).toInt ≤ 7999) (q2 : 0 ≤ (p3).toInt ∧ (p3).toInt ≤ 31) (q3 : (x_mm_trailed).toInt ≤ 255) : Met l yX11_binds (Ws yX11_binds cX11_binds 4 none) (({ frames := 0, cells := 0, slots := 0, locals := 0 } : Room)) (PRE (dC, dI) cls [(cy_bto, .int), (cy_bin, .int), (cy_tra, .int)] [(h_mm, .inr (8, (mo135 v_mm (.ref h_bto) (.ref h_bin) (.ref h_tra) (.int x_mm_trailed)))), (h_bto, .inl (cy_bto, 256, .inl f_bto)), (h_bin, .inl (cy_bin, 256, .inl f_bin)), (h_tra, .inl (cy_tra, 256, .inl f_tra))] sz [.ref h_mm, .int p1, .int p2, .int p3]) (va_Qv (fun (u : (Int32) × (Nat → Int32) × (Nat → Int32) × (Nat → Int32)) => (0 ≤ (u.1).toInt ∧ (u.1).toInt ≤ 256) ∧ (Rg (-1) 7999 u.2.1) ∧ (Rg 0 31 u.2.2.1) ∧ (Rg 0 255 u.2.2.2) ∧ ((u.1).toInt = (x_mm_trailed).toInt + 1) ∧ (u.2.1 = upd f_bto (Int32.toNatClampNeg p1) p2 ∧ u.2.2.1 = upd f_bin (Int32.toNatClampNeg p1) p3 ∧ u.2.2.2 = upd f_tra (Int32.toNatClampNeg x_mm_trailed) p1)) (fun (u : (Int32) × (Nat → Int32) × (Nat → Int32) × (Nat → Int32)) (t : State) => va_P (dC, dI) cls [(h_mm, .inr (8, (mo135 v_mm (.ref h_bto) (.ref h_bin) (.ref h_tra) (.int u.1)))), (h_bto, .inl (cy_bto, 256, .inl u.2.1)), (h_bin, .inl (cy_bin, 256, .inl u.2.2.1)), (h_tra, .inl (cy_tra, 256, .inl u.2.2.2))] t.heap ∧ va_D (va_A [(h_mm, .inr (8, (mo135 v_mm (.ref h_bto) (.ref h_bin) (.ref h_tra) (.int x_mm_trailed)))), (h_bto, .inl (cy_bto, 256, .inl f_bto)), (h_bin, .inl (cy_bin, 256, .inl f_bin)), (h_tra, .inl (cy_tra, 256, .inl f_tra))] sz) [(h_mm, .inr (8, (mo135 v_mm (.ref h_bto) (.ref h_bin) (.ref h_tra) (.int u.1)))), (h_bto, .inl (cy_bto, 256, .inl u.2.1)), (h_bin, .inl (cy_bin, 256, .inl u.2.2.1)), (h_tra, .inl (cy_tra, 256, .inl u.2.2.2))]) (va_A [(h_mm, .inr (8, (mo135 v_mm (.ref h_bto) (.ref h_bin) (.ref h_tra) (.int x_mm_trailed)))), (h_bto, .inl (cy_bto, 256, .inl f_bto)), (h_bin, .inl (cy_bin, 256, .inl f_bin)), (h_tra, .inl (cy_tra, 256, .inl f_tra))] sz)) 0 0 (va_A [(h_mm, .inr (8, (mo135 v_mm (.ref h_bto) (.ref h_bin) (.ref h_tra) (.int x_mm_trailed)))), (h_bto, .inl (cy_bto, 256, .inl f_bto)), (h_bin, .inl (cy_bin, 256, .inl f_bin)), (h_tra, .inl (cy_tra, 256, .inl f_tra))] sz) := by
  refine Met.ofW (cc := cX11_binds) (maxL := 4) (ret := none) (by decide) rfl ?_
  intro p e s m args below meth c s₁ B hml hv
  obtain ⟨rfl, hsz, hP, hK, hD0, hN⟩ := hv
  have hx := B.exec
  have hb := B.bytes
  have hr := B.returns
  have hts := atoms_spec (ws := Ws yX11_binds cX11_binds 4 none) B.pre
  have hT : ∀ w ∈ WALL, w ∈ Ws yX11_binds cX11_binds 4 none := fun w h => List.mem_cons_of_mem _ h
  have hw := fun w (h : w ∈ WALL) => hts w (hT w h)
  have hown : s.vm.findClass RX11 = some m.cls := findClass_of_methodNamed B.named
  have hlocks := B.notSynchronized
  subst hsz
  have hD := hD0.self (sz := s.heap.size)
  generalize hAe : va_A [(h_mm, .inr (8, (mo135 v_mm (.ref h_bto) (.ref h_bin) (.ref h_tra) (.int x_mm_trailed)))), (h_bto, .inl (cy_bto, 256, .inl f_bto)), (h_bin, .inl (cy_bin, 256, .inl f_bin)), (h_tra, .inl (cy_tra, 256, .inl f_tra))] s.heap.size = A at hD ⊢
  have hA : ∀ q : Nat, s.heap.size ≤ q → A q := fun q h => by rw [← hAe]; exact Or.inr h
  have hS : va_S A s.heap s.heap [] := va_S.rf
  have hl := lv_entry ([.ref h_mm, .int p1, .int p2, .int p3]) (n := 4) (Nat.le_of_ble_eq_true rfl)
  rw [lg_entry_eq]
  generalize (lg_sl ([.ref h_mm, .int p1, .int p2, .int p3]) ++ List.replicate (4 - (lg_sl ([.ref h_mm, .int p1, .int p2, .int p3])).length) Slot.unset).toArray = ls at hl ⊢
  have hl : lv_has ls 4 [(0, .ref h_mm), (1, .int p1), (2, .int p2), (3, .int p3)] := hl
  refine lv_aload_n hx hb dX11_binds_0 rfl (lv_at hl 0 rfl) ?_
  refine va_get (D := (dC, dI)) (ci := 8) (v := .ref h_bto) (C := RX11) (T := TX11) (N := 71) hx hb hw iwX11 hown hK hP 0 rfl rfl 27 (by decide) (hw _ w_f_X11_195) (fun _ h9 => h9) rfl dX11_binds_1 ?_
  refine lv_iload_n hx hb dX11_binds_4 rfl (lv_at hl 1 rfl) ?_
  refine lv_iload_n hx hb dX11_binds_5 rfl (lv_at hl 2 rfl) ?_
  refine va_iast hx hb hK hP hD hS 1 0 rfl rfl (i := p1) (x := p2) (vp_in_iff.mpr (by omega)) dX11_binds_6 (fun H locs hP9 hD9 hS9 => ?_)
  obtain ⟨f1, ef1⟩ : ∃ g : Nat → Int32, g = upd f_bto (Int32.toNatClampNeg p1) p2 := ⟨_, rfl⟩
  clear hP hD hS
  have hP : va_P (dC, dI) cls [(h_mm, .inr (8, (mo135 v_mm (.ref h_bto) (.ref h_bin) (.ref h_tra) (.int x_mm_trailed)))), (h_bto, .inl (cy_bto, 256, .inl f1)), (h_bin, .inl (cy_bin, 256, .inl f_bin)), (h_tra, .inl (cy_tra, 256, .inl f_tra))] H := by rw [ef1]; exact hP9
  have hD : va_D A [(h_mm, .inr (8, (mo135 v_mm (.ref h_bto) (.ref h_bin) (.ref h_tra) (.int x_mm_trailed)))), (h_bto, .inl (cy_bto, 256, .inl f1)), (h_bin, .inl (cy_bin, 256, .inl f_bin)), (h_tra, .inl (cy_tra, 256, .inl f_tra))] := by rw [ef1]; exact hD9
  have hS := hS9
  clear hP9 hD9 hS9
  have hf1 : Rg (-1) 7999 f1 := by rw [ef1]; exact rg_upd hf_bto (by omega)
  refine lv_aload_n hx hb dX11_binds_7 rfl (lv_at hl 0 rfl) ?_
  refine va_get (D := (dC, dI)) (ci := 8) (v := .ref h_bin) (C := RX11) (T := TX11) (N := 71) hx hb hw iwX11 hown hK hP 0 rfl rfl 28 (by decide) (hw _ w_f_X11_198) (fun _ h9 => h9) rfl dX11_binds_8 ?_
  refine lv_iload_n hx hb dX11_binds_11 rfl (lv_at hl 1 rfl) ?_
  refine lv_iload_n hx hb dX11_binds_12 rfl (lv_at hl 3 rfl) ?_
  refine va_iast hx hb hK hP hD hS 2 1 rfl rfl (i := p1) (x := p3) (vp_in_iff.mpr (by omega)) dX11_binds_13 (fun H locs hP9 hD9 hS9 => ?_)
  obtain ⟨f2, ef2⟩ : ∃ g : Nat → Int32, g = upd f_bin (Int32.toNatClampNeg p1) p3 := ⟨_, rfl⟩
  clear hP hD hS
  have hP : va_P (dC, dI) cls [(h_mm, .inr (8, (mo135 v_mm (.ref h_bto) (.ref h_bin) (.ref h_tra) (.int x_mm_trailed)))), (h_bto, .inl (cy_bto, 256, .inl f1)), (h_bin, .inl (cy_bin, 256, .inl f2)), (h_tra, .inl (cy_tra, 256, .inl f_tra))] H := by rw [ef2]; exact hP9
  have hD : va_D A [(h_mm, .inr (8, (mo135 v_mm (.ref h_bto) (.ref h_bin) (.ref h_tra) (.int x_mm_trailed)))), (h_bto, .inl (cy_bto, 256, .inl f1)), (h_bin, .inl (cy_bin, 256, .inl f2)), (h_tra, .inl (cy_tra, 256, .inl f_tra))] := by rw [ef2]; exact hD9
  have hS := hS9
  clear hP9 hD9 hS9
  have hf2 : Rg 0 31 f2 := by rw [ef2]; exact rg_upd hf_bin (by omega)
  refine lv_aload_n hx hb dX11_binds_14 rfl (lv_at hl 0 rfl) ?_
  refine va_get (D := (dC, dI)) (ci := 8) (v := .ref h_tra) (C := RX11) (T := TX11) (N := 71) hx hb hw iwX11 hown hK hP 0 rfl rfl 29 (by decide) (hw _ w_f_X11_201) (fun _ h9 => h9) rfl dX11_binds_15 ?_
  refine lv_aload_n hx hb dX11_binds_18 rfl (lv_at hl 0 rfl) ?_
  refine va_get (D := (dC, dI)) (ci := 8) (v := .int x_mm_trailed) (C := RX11) (T := TX11) (N := 71) hx hb hw iwX11 hown hK hP 0 rfl rfl 30 (by decide) (hw _ w_f_X11_261) (fun _ h9 => h9) rfl dX11_binds_19 ?_
  refine lv_iload_n hx hb dX11_binds_22 rfl (lv_at hl 1 rfl) ?_
  refine va_iast hx hb hK hP hD hS 3 2 rfl rfl (i := x_mm_trailed) (x := p1) (vp_in_iff.mpr (by omega)) dX11_binds_23 (fun H locs hP9 hD9 hS9 => ?_)
  obtain ⟨f3, ef3⟩ : ∃ g : Nat → Int32, g = upd f_tra (Int32.toNatClampNeg x_mm_trailed) p1 := ⟨_, rfl⟩
  clear hP hD hS
  have hP : va_P (dC, dI) cls [(h_mm, .inr (8, (mo135 v_mm (.ref h_bto) (.ref h_bin) (.ref h_tra) (.int x_mm_trailed)))), (h_bto, .inl (cy_bto, 256, .inl f1)), (h_bin, .inl (cy_bin, 256, .inl f2)), (h_tra, .inl (cy_tra, 256, .inl f3))] H := by rw [ef3]; exact hP9
  have hD : va_D A [(h_mm, .inr (8, (mo135 v_mm (.ref h_bto) (.ref h_bin) (.ref h_tra) (.int x_mm_trailed)))), (h_bto, .inl (cy_bto, 256, .inl f1)), (h_bin, .inl (cy_bin, 256, .inl f2)), (h_tra, .inl (cy_tra, 256, .inl f3))] := by rw [ef3]; exact hD9
  have hS := hS9
  clear hP9 hD9 hS9
  have hf3 : Rg 0 255 f3 := by rw [ef3]; exact rg_upd hf_tra (by omega)
  refine lv_aload_n hx hb dX11_binds_24 rfl (lv_at hl 0 rfl) ?_
  refine lv_aload_n hx hb dX11_binds_25 rfl (lv_at hl 0 rfl) ?_
  refine va_get (D := (dC, dI)) (ci := 8) (v := .int x_mm_trailed) (C := RX11) (T := TX11) (N := 71) hx hb hw iwX11 hown hK hP 0 rfl rfl 30 (by decide) (hw _ w_f_X11_261) (fun _ h9 => h9) rfl dX11_binds_26 ?_
  refine lv_iconst (v := 1) hx hb dX11_binds_29 (by decide) ?_
  refine lv_iadd hx hb dX11_binds_30 ?_
  refine lv_topi (fun z4 ez4 => ?_)
  have tz4 : (z4).toInt = (x_mm_trailed).toInt + 1 := by rw [ez4]; exact i_add rfl (by decide) (by omega)
  refine va_put (D := (dC, dI)) (ci := 8) (v := .int z4) (ty := tyX11 30) (C := RX11) (T := TX11) (N := 71) hx hb hw iwX11 tyX11 tyX11_ok nmX11 hown hK hP hD hS 0 rfl rfl 30 (by decide) (hw _ w_f_X11_261) (fun _ h9 => h9) rfl (tyX11_ok 30 (by decide)) rfl rfl (Nat.le_of_ble_eq_true rfl) dX11_binds_31 (fun H locs hP9 hD9 hS9 => ?_)
  clear hP hD hS
  have hP : va_P (dC, dI) cls [(h_mm, .inr (8, (mo135 v_mm (.ref h_bto) (.ref h_bin) (.ref h_tra) (.int z4)))), (h_bto, .inl (cy_bto, 256, .inl f1)), (h_bin, .inl (cy_bin, 256, .inl f2)), (h_tra, .inl (cy_tra, 256, .inl f3))] H := hP9
  have hD : va_D A [(h_mm, .inr (8, (mo135 v_mm (.ref h_bto) (.ref h_bin) (.ref h_tra) (.int z4)))), (h_bto, .inl (cy_bto, 256, .inl f1)), (h_bin, .inl (cy_bin, 256, .inl f2)), (h_tra, .inl (cy_tra, 256, .inl f3))] := hD9
  have hS := hS9
  clear hP9 hD9 hS9
  refine W.widen (k := 0) (n := 0) (Nat.le_of_ble_eq_true rfl) (Nat.le_of_ble_eq_true rfl) ?_
  have w5 : 0 ≤ ((z4)).toInt ∧ ((z4)).toInt ≤ 256 := by omega
  have w6 : ((z4)).toInt = (x_mm_trailed).toInt + 1 := by omega
  have w7 : (f1) = upd f_bto (Int32.toNatClampNeg p1) p2 ∧ (f2) = upd f_bin (Int32.toNatClampNeg p1) p3 ∧ (f3) = upd f_tra (Int32.toNatClampNeg x_mm_trailed) p1 := ⟨ef1, ef2, ef3⟩
  exact W.vret hx hb hr (fun t ht hW => ⟨⟨(z4, f1, f2, f3), rfl, ⟨w5, hf1, hf2, hf3, w6, w7⟩, by rw [ht]; exact hP, hD⟩, hS.F ht⟩) hS.2.2 dX11_binds_34

def K_X11_unifies (l : Launch) (fu : Nat) : Prop := ∀ (dC : Nat → ClassId) (dI : Nat → Nat → Nat) (sz : Nat) (h_mm : Nat) (h_nv : Nat) (h_na : Nat) (h_nb : Nat) (h_nc : Nat) (h_bto : Nat) (h_bin : Nat) (h_nn : Nat) (h_tra : Nat) (v_mm : Nat → Value) (x_mm_trailed : Int32) (x_mm_goneTo : Int32) (x_mm_goneIn : Int32) (cy_nv : ClassId) (f_nv : Nat → Int32) (cy_na : ClassId) (f_na : Nat → Int32) (cy_nb : ClassId) (f_nb : Nat → Int32) (cy_nc : ClassId) (f_nc : Nat → Int32) (cy_bto : ClassId) (f_bto : Nat → Int32) (cy_bin : ClassId) (f_bin : Nat → Int32) (cy_nn : ClassId) (f_nn : Nat → Int64) (cy_tra : ClassId) (f_tra : Nat → Int32) (p1 : Int32) (p2 : Int32) (p3 : Int32) (p4 : Int32) (i0 : Int) (i1 : Int) (N : Int) (hz : Nat → Nat) (g : GVT) (P : List Nat) (Q : List Nat) (hx_mm_trailed : 0 ≤ (x_mm_trailed).toInt ∧ (x_mm_trailed).toInt ≤ 256) (hx_mm_goneTo : 0 ≤ (x_mm_goneTo).toInt ∧ (x_mm_goneTo).toInt ≤ 7999) (hx_mm_goneIn : 0 ≤ (x_mm_goneIn).toInt ∧ (x_mm_goneIn).toInt ≤ 31) (hf_nv : Rg (-1) 7 f_nv) (hf_na : Rg (-1) 7999 f_na) (hf_nb : Rg (-1) 7999 f_nb) (hf_nc : Rg (-1) 7999 f_nc) (hf_bto : Rg (-1) 7999 f_bto) (hf_bin : Rg 0 31 f_bin) (hf_tra : Rg 0 255 f_tra) (q0 : 0 ≤ i0 ∧ i0 ≤ i1 ∧ i1 ≤ 31) (q1 : N ≤ 8000) (q2 : 0 ≤ (p1).toInt ∧ (p1).toInt < N) (q3 : i0 ≤ (p2).toInt ∧ (p2).toInt ≤ i1) (q4 : 0 ≤ (p3).toInt ∧ (p3).toInt < N) (q5 : i0 ≤ (p4).toInt ∧ (p4).toInt ≤ i1) (q6 : hz (p1).toInt.toNat + 6 * (256 - (P).length) + 1 ≤ fu) (q7 : hz (p3).toInt.toNat + 6 * (256 - (Q).length) + 1 ≤ fu) (hn_bi : BI i0 i1 N hz f_nv f_na f_nb f_nc f_bto f_bin) (hn_trl : TRL (x_mm_trailed).toInt f_tra f_bto) (hn_pa : PA i0 P f_nv f_na f_nb f_nc f_bto f_bin (p1).toInt.toNat (p2).toInt) (hn_paq : PA i0 Q f_nv f_na f_nb f_nc f_bto f_bin (p3).toInt.toNat (p4).toInt) (hn_grv : GRV g f_nv f_na f_nb f_nc) (hn_grn : GRN g f_nn), Met l yX11_unifies (Ws yX11_unifies cX11_unifies 10 (some .boolean)) (({ frames := fu + 3, cells := 0, slots := 0, locals := 29 * fu + 71 } : Room)) (PRE (dC, dI) cls [(cy_nv, .int), (cy_na, .int), (cy_nb, .int), (cy_nc, .int), (cy_bto, .int), (cy_bin, .int), (cy_nn, .long), (cy_tra, .int)] [(h_mm, .inr (8, (mo136 v_mm (.ref h_nv) (.ref h_nn) (.ref h_na) (.ref h_nb) (.ref h_nc) (.ref h_bto) (.ref h_bin) (.ref h_tra) (.int x_mm_trailed) (.int x_mm_goneTo) (.int x_mm_goneIn)))), (h_nv, .inl (cy_nv, 8000, .inl f_nv)), (h_na, .inl (cy_na, 8000, .inl f_na)), (h_nb, .inl (cy_nb, 8000, .inl f_nb)), (h_nc, .inl (cy_nc, 8000, .inl f_nc)), (h_bto, .inl (cy_bto, 256, .inl f_bto)), (h_bin, .inl (cy_bin, 256, .inl f_bin)), (h_nn, .inl (cy_nn, 8000, .inr (.inl f_nn))), (h_tra, .inl (cy_tra, 256, .inl f_tra))] sz [.ref h_mm, .int p1, .int p2, .int p3, .int p4]) (va_Qi (fun (r : Int32) (u : (Int32) × (Int32) × (Int32) × (Nat → Int32) × (Nat → Int32) × (Nat → Int32)) => (0 ≤ (u.1).toInt ∧ (u.1).toInt ≤ 256) ∧ (0 ≤ (u.2.1).toInt ∧ (u.2.1).toInt ≤ 7999) ∧ (0 ≤ (u.2.2.1).toInt ∧ (u.2.2.1).toInt ≤ 31) ∧ (Rg (-1) 7999 u.2.2.2.1) ∧ (Rg 0 31 u.2.2.2.2.1) ∧ (Rg 0 255 u.2.2.2.2.2) ∧ (0 ≤ r.toInt ∧ r.toInt ≤ 1) ∧ (BI i0 i1 N hz f_nv f_na f_nb f_nc u.2.2.2.1 u.2.2.2.2.1) ∧ (TRL (u.1).toInt u.2.2.2.2.2 u.2.2.2.1) ∧ (GRW (x_mm_trailed).toInt (u.1).toInt f_bto f_bin f_tra u.2.2.2.1 u.2.2.2.2.1 u.2.2.2.2.2) ∧ (UNX g (BDW f_bto f_bin) (BDW u.2.2.2.1 u.2.2.2.2.1) (PLR p1 p2) (PLR p3 p4) (r).toInt)) (fun (u : (Int32) × (Int32) × (Int32) × (Nat → Int32) × (Nat → Int32) × (Nat → Int32)) (t : State) => va_P (dC, dI) cls [(h_mm, .inr (8, (mo136 v_mm (.ref h_nv) (.ref h_nn) (.ref h_na) (.ref h_nb) (.ref h_nc) (.ref h_bto) (.ref h_bin) (.ref h_tra) (.int u.1) (.int u.2.1) (.int u.2.2.1)))), (h_nv, .inl (cy_nv, 8000, .inl f_nv)), (h_na, .inl (cy_na, 8000, .inl f_na)), (h_nb, .inl (cy_nb, 8000, .inl f_nb)), (h_nc, .inl (cy_nc, 8000, .inl f_nc)), (h_bto, .inl (cy_bto, 256, .inl u.2.2.2.1)), (h_bin, .inl (cy_bin, 256, .inl u.2.2.2.2.1)), (h_nn, .inl (cy_nn, 8000, .inr (.inl f_nn))), (h_tra, .inl (cy_tra, 256, .inl u.2.2.2.2.2))] t.heap ∧ va_D (va_A [(h_mm, .inr (8, (mo136 v_mm (.ref h_nv) (.ref h_nn) (.ref h_na) (.ref h_nb) (.ref h_nc) (.ref h_bto) (.ref h_bin) (.ref h_tra) (.int x_mm_trailed) (.int x_mm_goneTo) (.int x_mm_goneIn)))), (h_nv, .inl (cy_nv, 8000, .inl f_nv)), (h_na, .inl (cy_na, 8000, .inl f_na)), (h_nb, .inl (cy_nb, 8000, .inl f_nb)), (h_nc, .inl (cy_nc, 8000, .inl f_nc)), (h_bto, .inl (cy_bto, 256, .inl f_bto)), (h_bin, .inl (cy_bin, 256, .inl f_bin)), (h_nn, .inl (cy_nn, 8000, .inr (.inl f_nn))), (h_tra, .inl (cy_tra, 256, .inl f_tra))] sz) [(h_mm, .inr (8, (mo136 v_mm (.ref h_nv) (.ref h_nn) (.ref h_na) (.ref h_nb) (.ref h_nc) (.ref h_bto) (.ref h_bin) (.ref h_tra) (.int u.1) (.int u.2.1) (.int u.2.2.1)))), (h_nv, .inl (cy_nv, 8000, .inl f_nv)), (h_na, .inl (cy_na, 8000, .inl f_na)), (h_nb, .inl (cy_nb, 8000, .inl f_nb)), (h_nc, .inl (cy_nc, 8000, .inl f_nc)), (h_bto, .inl (cy_bto, 256, .inl u.2.2.2.1)), (h_bin, .inl (cy_bin, 256, .inl u.2.2.2.2.1)), (h_nn, .inl (cy_nn, 8000, .inr (.inl f_nn))), (h_tra, .inl (cy_tra, 256, .inl u.2.2.2.2.2))]) (va_A [(h_mm, .inr (8, (mo136 v_mm (.ref h_nv) (.ref h_nn) (.ref h_na) (.ref h_nb) (.ref h_nc) (.ref h_bto) (.ref h_bin) (.ref h_tra) (.int x_mm_trailed) (.int x_mm_goneTo) (.int x_mm_goneIn)))), (h_nv, .inl (cy_nv, 8000, .inl f_nv)), (h_na, .inl (cy_na, 8000, .inl f_na)), (h_nb, .inl (cy_nb, 8000, .inl f_nb)), (h_nc, .inl (cy_nc, 8000, .inl f_nc)), (h_bto, .inl (cy_bto, 256, .inl f_bto)), (h_bin, .inl (cy_bin, 256, .inl f_bin)), (h_nn, .inl (cy_nn, 8000, .inr (.inl f_nn))), (h_tra, .inl (cy_tra, 256, .inl f_tra))] sz)) 0 0 (va_A [(h_mm, .inr (8, (mo136 v_mm (.ref h_nv) (.ref h_nn) (.ref h_na) (.ref h_nb) (.ref h_nc) (.ref h_bto) (.ref h_bin) (.ref h_tra) (.int x_mm_trailed) (.int x_mm_goneTo) (.int x_mm_goneIn)))), (h_nv, .inl (cy_nv, 8000, .inl f_nv)), (h_na, .inl (cy_na, 8000, .inl f_na)), (h_nb, .inl (cy_nb, 8000, .inl f_nb)), (h_nc, .inl (cy_nc, 8000, .inl f_nc)), (h_bto, .inl (cy_bto, 256, .inl f_bto)), (h_bin, .inl (cy_bin, 256, .inl f_bin)), (h_nn, .inl (cy_nn, 8000, .inr (.inl f_nn))), (h_tra, .inl (cy_tra, 256, .inl f_tra))] sz)
set_option maxHeartbeats 8000000 in
set_option maxRecDepth 100000 in
theorem c_X11_unifies (l : Launch) (fu : Nat) : K_X11_unifies l fu := by
  refine Nat.rec (motive := fun fu => K_X11_unifies l fu) ?_ ?_ fu
  · intro dC dI sz h_mm h_nv h_na h_nb h_nc h_bto h_bin h_nn h_tra v_mm x_mm_trailed x_mm_goneTo x_mm_goneIn cy_nv f_nv cy_na f_na cy_nb f_nb cy_nc f_nc cy_bto f_bto cy_bin f_bin cy_nn f_nn cy_tra f_tra p1 p2 p3 p4 i0 i1 N hz g P Q hx_mm_trailed hx_mm_goneTo hx_mm_goneIn hf_nv hf_na hf_nb hf_nc hf_bto hf_bin hf_tra q0 q1 q2 q3 q4 q5 q6 q7 hn_bi hn_trl hn_pa hn_paq hn_grv hn_grn
    have h09 : Nat.zero = 0 := rfl
    exact False.elim (by omega)
  intro fu ihf
  intro dC dI sz h_mm h_nv h_na h_nb h_nc h_bto h_bin h_nn h_tra v_mm x_mm_trailed x_mm_goneTo x_mm_goneIn cy_nv f_nv cy_na f_na cy_nb f_nb cy_nc f_nc cy_bto f_bto cy_bin f_bin cy_nn f_nn cy_tra f_tra p1 p2 p3 p4 i0 i1 N hz g P Q hx_mm_trailed hx_mm_goneTo hx_mm_goneIn hf_nv hf_na hf_nb hf_nc hf_bto hf_bin hf_tra q0 q1 q2 q3 q4 q5 q6 q7 hn_bi hn_trl hn_pa hn_paq hn_grv hn_grn
  refine Met.ofW (cc := cX11_unifies) (maxL := 10) (ret := (some .boolean)) (by decide) rfl ?_
  intro p e s m args below meth c s₁ B hml hv
  obtain ⟨rfl, hsz, hP, hK, hD0, hN⟩ := hv
  have hx := B.exec
  have hb := B.bytes
  have hr := B.returns
  have hts := atoms_spec (ws := Ws yX11_unifies cX11_unifies 10 (some .boolean)) B.pre
  have hT : ∀ w ∈ WALL, w ∈ Ws yX11_unifies cX11_unifies 10 (some .boolean) := fun w h => List.mem_cons_of_mem _ h
  have hw := fun w (h : w ∈ WALL) => hts w (hT w h)
  have hown : s.vm.findClass RX11 = some m.cls := findClass_of_methodNamed B.named
  have hlocks := B.notSynchronized
  subst hsz
  have hD := hD0.self (sz := s.heap.size)
  generalize hAe : va_A [(h_mm, .inr (8, (mo136 v_mm (.ref h_nv) (.ref h_nn) (.ref h_na) (.ref h_nb) (.ref h_nc) (.ref h_bto) (.ref h_bin) (.ref h_tra) (.int x_mm_trailed) (.int x_mm_goneTo) (.int x_mm_goneIn)))), (h_nv, .inl (cy_nv, 8000, .inl f_nv)), (h_na, .inl (cy_na, 8000, .inl f_na)), (h_nb, .inl (cy_nb, 8000, .inl f_nb)), (h_nc, .inl (cy_nc, 8000, .inl f_nc)), (h_bto, .inl (cy_bto, 256, .inl f_bto)), (h_bin, .inl (cy_bin, 256, .inl f_bin)), (h_nn, .inl (cy_nn, 8000, .inr (.inl f_nn))), (h_tra, .inl (cy_tra, 256, .inl f_tra))] s.heap.size = A at hD ⊢
  have hA : ∀ q : Nat, s.heap.size ≤ q → A q := fun q h => by rw [← hAe]; exact Or.inr h
  have hS : va_S A s.heap s.heap [] := va_S.rf
  have hl := lv_entry ([.ref h_mm, .int p1, .int p2, .int p3, .int p4]) (n := 10) (Nat.le_of_ble_eq_true rfl)
  rw [lg_entry_eq]
  generalize (lg_sl ([.ref h_mm, .int p1, .int p2, .int p3, .int p4]) ++ List.replicate (10 - (lg_sl ([.ref h_mm, .int p1, .int p2, .int p3, .int p4])).length) Slot.unset).toArray = ls at hl ⊢
  have hl : lv_has ls 10 [(0, .ref h_mm), (1, .int p1), (2, .int p2), (3, .int p3), (4, .int p4)] := hl
  have gr0 : GRW (x_mm_trailed).toInt (x_mm_trailed).toInt f_bto f_bin f_tra f_bto f_bin f_tra := gr_refl
  refine lv_aload_n hx hb dX11_unifies_0 rfl (lv_at hl 0 rfl) ?_
  refine lv_iload_n hx hb dX11_unifies_1 rfl (lv_at hl 1 rfl) ?_
  refine lv_iload_n hx hb dX11_unifies_2 rfl (lv_at hl 2 rfl) ?_
  obtain ⟨vq1, evq1⟩ := mq136_134 v_mm (.ref h_nn) (.ref h_tra) (.int x_mm_trailed)
  replace hP : va_P (dC, dI) cls [(h_mm, .inr (8, (mo134 vq1 (.ref h_nv) (.ref h_na) (.ref h_nb) (.ref h_nc) (.ref h_bto) (.ref h_bin) (.int x_mm_goneTo) (.int x_mm_goneIn)))), (h_nv, .inl (cy_nv, 8000, .inl f_nv)), (h_na, .inl (cy_na, 8000, .inl f_na)), (h_nb, .inl (cy_nb, 8000, .inl f_nb)), (h_nc, .inl (cy_nc, 8000, .inl f_nc)), (h_bto, .inl (cy_bto, 256, .inl f_bto)), (h_bin, .inl (cy_bin, 256, .inl f_bin)), (h_nn, .inl (cy_nn, 8000, .inr (.inl f_nn))), (h_tra, .inl (cy_tra, 256, .inl f_tra))] s.heap := by rw [evq1]; exact hP
  replace hD : va_D A [(h_mm, .inr (8, (mo134 vq1 (.ref h_nv) (.ref h_na) (.ref h_nb) (.ref h_nc) (.ref h_bto) (.ref h_bin) (.int x_mm_goneTo) (.int x_mm_goneIn)))), (h_nv, .inl (cy_nv, 8000, .inl f_nv)), (h_na, .inl (cy_na, 8000, .inl f_na)), (h_nb, .inl (cy_nb, 8000, .inl f_nb)), (h_nc, .inl (cy_nc, 8000, .inl f_nc)), (h_bto, .inl (cy_bto, 256, .inl f_bto)), (h_bin, .inl (cy_bin, 256, .inl f_bin)), (h_nn, .inl (cy_nn, 8000, .inr (.inl f_nn))), (h_tra, .inl (cy_tra, 256, .inl f_tra))] := by rw [evq1]; exact hD
  have hPc := hP.sub (ws' := [(h_mm, .inr (8, (mo134 vq1 (.ref h_nv) (.ref h_na) (.ref h_nb) (.ref h_nc) (.ref h_bto) (.ref h_bin) (.int x_mm_goneTo) (.int x_mm_goneIn)))), (h_nv, .inl (cy_nv, 8000, .inl f_nv)), (h_na, .inl (cy_na, 8000, .inl f_na)), (h_nb, .inl (cy_nb, 8000, .inl f_nb)), (h_nc, .inl (cy_nc, 8000, .inl f_nc)), (h_bto, .inl (cy_bto, 256, .inl f_bto)), (h_bin, .inl (cy_bin, 256, .inl f_bin))]) [0, 1, 2, 3, 4, 5, 6] rfl
  have hDc := hD.sub (ws' := [(h_mm, .inr (8, (mo134 vq1 (.ref h_nv) (.ref h_na) (.ref h_nb) (.ref h_nc) (.ref h_bto) (.ref h_bin) (.int x_mm_goneTo) (.int x_mm_goneIn)))), (h_nv, .inl (cy_nv, 8000, .inl f_nv)), (h_na, .inl (cy_na, 8000, .inl f_na)), (h_nb, .inl (cy_nb, 8000, .inl f_nb)), (h_nc, .inl (cy_nc, 8000, .inl f_nc)), (h_bto, .inl (cy_bto, 256, .inl f_bto)), (h_bin, .inl (cy_bin, 256, .inl f_bin))]) [0, 1, 2, 3, 4, 5, 6] (by decide) rfl
  have hKc := hK.sub (tys' := [(cy_nv, .int), (cy_na, .int), (cy_nb, .int), (cy_nc, .int), (cy_bto, .int), (cy_bin, .int)]) [0, 1, 2, 3, 4, 5] rfl
  have hFc := va_free (wc := [(h_mm, .inr (8, (mo134 vq1 (.ref h_nv) (.ref h_na) (.ref h_nb) (.ref h_nc) (.ref h_bto) (.ref h_bin) (.int x_mm_goneTo) (.int x_mm_goneIn)))), (h_nv, .inl (cy_nv, 8000, .inl f_nv)), (h_na, .inl (cy_na, 8000, .inl f_na)), (h_nb, .inl (cy_nb, 8000, .inl f_nb)), (h_nc, .inl (cy_nc, 8000, .inl f_nc)), (h_bto, .inl (cy_bto, 256, .inl f_bto)), (h_bin, .inl (cy_bin, 256, .inl f_bin))]) hD hS hA [0, 1, 2, 3, 4, 5, 6] rfl
  refine va_callv (va_runV (As := [.int p1, .int p2]) (rest := []) ⟨hx, hb, hml, hown, hts⟩ (c_X11_goesTo l dC dI s.heap.size h_mm h_nv h_na h_nb h_nc h_bto h_bin vq1 x_mm_goneTo x_mm_goneIn cy_nv f_nv cy_na f_na cy_nb f_nb cy_nc f_nc cy_bto f_bto cy_bin f_bin p1 p2 i0 i1 N hz g P (fu + 1) (by first | exact hx_mm_goneTo | omega) (by first | exact hx_mm_goneIn | omega) hf_nv hf_na hf_nb hf_nc hf_bto hf_bin (by first | exact q0 | omega) (by first | exact q1 | omega) (by first | exact q2 | omega) (by first | exact q3 | omega) (by omega) hn_bi hn_pa hn_grv) (cwV 2 hts (gv hT w_m_X11_273 w_instanceMethod_X11_goesTo ws_sel_X11_goesTo w_ini_X11 w_code_X11_goesTo) rfl rfl rfl (by decide +kernel) ⟨(by dsimp only [headSpec]; omega), (by dsimp only [headSpec]; omega)⟩) ⟨pre_blind, va_recv hK hP (ci := 8) (q0 := 0) rfl rfl, pre_of hPc hKc hDc hN⟩ rfl rfl hl.1 rfl (lv_room (Nat.le_of_ble_eq_true rfl)) dX11_unifies_3 ⟨(Nat.le_of_ble_eq_true rfl), (Nat.le_of_ble_eq_true rfl)⟩) hS (fun q _ h => hFc q h) hFc (fun u t H locs ht hvm hq hB hz1 hk1 hS9 => ?_)
  obtain ⟨z3, z4, z5⟩ := u
  obtain ⟨hP1, hD1⟩ := hB
  rw [ht] at hP1
  obtain ⟨hP9, hD9⟩ := va_join (wr := [(h_nn, .inl (cy_nn, 8000, .inr (.inl f_nn))), (h_tra, .inl (cy_tra, 256, .inl f_tra))]) (w1 := [(h_mm, .inr (8, (mo134 vq1 (.ref h_nv) (.ref h_na) (.ref h_nb) (.ref h_nc) (.ref h_bto) (.ref h_bin) (.int z3) (.int z4)))), (h_nv, .inl (cy_nv, 8000, .inl f_nv)), (h_na, .inl (cy_na, 8000, .inl f_na)), (h_nb, .inl (cy_nb, 8000, .inl f_nb)), (h_nc, .inl (cy_nc, 8000, .inl f_nc)), (h_bto, .inl (cy_bto, 256, .inl f_bto)), (h_bin, .inl (cy_bin, 256, .inl f_bin))]) hP hD [0, 1, 2, 3, 4, 5, 6] [7, 8] rfl rfl (by decide) (by decide) hk1 hFc hP1 hD1
  clear hP hD hS hPc hDc hKc hFc hP1 hD1 hk1 hz1 ht hvm
  have hP : va_P (dC, dI) cls [(h_nn, .inl (cy_nn, 8000, .inr (.inl f_nn))), (h_tra, .inl (cy_tra, 256, .inl f_tra)), (h_mm, .inr (8, (mo134 vq1 (.ref h_nv) (.ref h_na) (.ref h_nb) (.ref h_nc) (.ref h_bto) (.ref h_bin) (.int z3) (.int z4)))), (h_nv, .inl (cy_nv, 8000, .inl f_nv)), (h_na, .inl (cy_na, 8000, .inl f_na)), (h_nb, .inl (cy_nb, 8000, .inl f_nb)), (h_nc, .inl (cy_nc, 8000, .inl f_nc)), (h_bto, .inl (cy_bto, 256, .inl f_bto)), (h_bin, .inl (cy_bin, 256, .inl f_bin))] H := hP9
  have hD : va_D A [(h_nn, .inl (cy_nn, 8000, .inr (.inl f_nn))), (h_tra, .inl (cy_tra, 256, .inl f_tra)), (h_mm, .inr (8, (mo134 vq1 (.ref h_nv) (.ref h_na) (.ref h_nb) (.ref h_nc) (.ref h_bto) (.ref h_bin) (.int z3) (.int z4)))), (h_nv, .inl (cy_nv, 8000, .inl f_nv)), (h_na, .inl (cy_na, 8000, .inl f_na)), (h_nb, .inl (cy_nb, 8000, .inl f_nb)), (h_nc, .inl (cy_nc, 8000, .inl f_nc)), (h_bto, .inl (cy_bto, 256, .inl f_bto)), (h_bin, .inl (cy_bin, 256, .inl f_bin))] := hD9
  have hS := hS9
  clear hP9 hD9 hS9
  rw [evq1] at hP hD
  replace hP : va_P (dC, dI) cls [(h_nn, .inl (cy_nn, 8000, .inr (.inl f_nn))), (h_tra, .inl (cy_tra, 256, .inl f_tra)), (h_mm, .inr (8, (mo136 v_mm (.ref h_nv) (.ref h_nn) (.ref h_na) (.ref h_nb) (.ref h_nc) (.ref h_bto) (.ref h_bin) (.ref h_tra) (.int x_mm_trailed) (.int z3) (.int z4)))), (h_nv, .inl (cy_nv, 8000, .inl f_nv)), (h_na, .inl (cy_na, 8000, .inl f_na)), (h_nb, .inl (cy_nb, 8000, .inl f_nb)), (h_nc, .inl (cy_nc, 8000, .inl f_nc)), (h_bto, .inl (cy_bto, 256, .inl f_bto)), (h_bin, .inl (cy_bin, 256, .inl f_bin))] H := hP
  replace hD : va_D A [(h_nn, .inl (cy_nn, 8000, .inr (.inl f_nn))), (h_tra, .inl (cy_tra, 256, .inl f_tra)), (h_mm, .inr (8, (mo136 v_mm (.ref h_nv) (.ref h_nn) (.ref h_na) (.ref h_nb) (.ref h_nc) (.ref h_bto) (.ref h_bin) (.ref h_tra) (.int x_mm_trailed) (.int z3) (.int z4)))), (h_nv, .inl (cy_nv, 8000, .inl f_nv)), (h_na, .inl (cy_na, 8000, .inl f_na)), (h_nb, .inl (cy_nb, 8000, .inl f_nb)), (h_nc, .inl (cy_nc, 8000, .inl f_nc)), (h_bto, .inl (cy_bto, 256, .inl f_bto)), (h_bin, .inl (cy_bin, 256, .inl f_bin))] := hD
  clear evq1 
  obtain ⟨k6, k7, k8, k9, k10, k11, k12, k13, k14⟩ := hq
  replace k6 : 0 ≤ ((z3)).toInt ∧ ((z3)).toInt ≤ 7999 := k6
  replace k7 : 0 ≤ ((z4)).toInt ∧ ((z4)).toInt ≤ 31 := k7
  replace k8 : 0 ≤ ((z3)).toInt ∧ ((z3)).toInt < (N) := k8
  replace k9 : (i0) ≤ ((z4)).toInt ∧ ((z4)).toInt ≤ (i1) := k9
  replace k10 : (hz) ((z3)).toInt.toNat + 6 * (256 - ((z5)).length) + 1 ≤ ((fu + 1)) := k10
  replace k11 : PA (i0) (z5) f_nv f_na f_nb f_nc f_bto f_bin ((z3)).toInt.toNat ((z4)).toInt := k11
  replace k12 : (f_nv ((z3)).toInt.toNat).toInt = -1 ∨ (f_bto (8 * ((z4)).toInt + (f_nv ((z3)).toInt.toNat).toInt).toNat).toInt = -1 := k12
  replace k13 : ∀ tt : Nat, (f_bto tt).toInt = -1 → NR f_nv f_na f_nb f_nc f_bto f_bin ((z3)).toInt.toNat ((z4)).toInt tt → NR f_nv f_na f_nb f_nc f_bto f_bin ((p1)).toInt.toNat ((p2)).toInt tt := k13
  replace k14 : BRE (g) (BDW f_bto f_bin) (PLR (p1) (p2)) (PLR (z3) (z4)) := k14
  refine lv_aload_n hx hb dX11_unifies_6 rfl (lv_at hl 0 rfl) ?_
  refine va_get (D := (dC, dI)) (ci := 8) (v := .int z3) (C := RX11) (T := TX11) (N := 71) hx hb hw iwX11 hown hK hP 2 rfl rfl 31 (by decide) (hw _ w_f_X11_264) (fun _ h9 => h9) rfl dX11_unifies_7 ?_
  refine lv_istore (lv' := [(5, .int z3), (0, .ref h_mm), (1, .int p1), (2, .int p2), (3, .int p3), (4, .int p4)]) hx hb dX11_unifies_10 hl (by decide) rfl (fun ls hl => ?_)
  refine lv_aload_n hx hb dX11_unifies_12 rfl (lv_at hl 1 rfl) ?_
  refine va_get (D := (dC, dI)) (ci := 8) (v := .int z4) (C := RX11) (T := TX11) (N := 71) hx hb hw iwX11 hown hK hP 2 rfl rfl 32 (by decide) (hw _ w_f_X11_267) (fun _ h9 => h9) rfl dX11_unifies_13 ?_
  refine lv_istore (lv' := [(6, .int z4), (5, .int z3), (0, .ref h_mm), (1, .int p1), (2, .int p2), (3, .int p3), (4, .int p4)]) hx hb dX11_unifies_16 hl (by decide) rfl (fun ls hl => ?_)
  refine lv_aload_n hx hb dX11_unifies_18 rfl (lv_at hl 2 rfl) ?_
  refine lv_iload_n hx hb dX11_unifies_19 rfl (lv_at hl 5 rfl) ?_
  refine lv_iload hx hb dX11_unifies_20 (lv_at hl 6 rfl) ?_
  obtain ⟨vq15, evq15⟩ := mq136_134 v_mm (.ref h_nn) (.ref h_tra) (.int x_mm_trailed)
  replace hP : va_P (dC, dI) cls [(h_nn, .inl (cy_nn, 8000, .inr (.inl f_nn))), (h_tra, .inl (cy_tra, 256, .inl f_tra)), (h_mm, .inr (8, (mo134 vq15 (.ref h_nv) (.ref h_na) (.ref h_nb) (.ref h_nc) (.ref h_bto) (.ref h_bin) (.int z3) (.int z4)))), (h_nv, .inl (cy_nv, 8000, .inl f_nv)), (h_na, .inl (cy_na, 8000, .inl f_na)), (h_nb, .inl (cy_nb, 8000, .inl f_nb)), (h_nc, .inl (cy_nc, 8000, .inl f_nc)), (h_bto, .inl (cy_bto, 256, .inl f_bto)), (h_bin, .inl (cy_bin, 256, .inl f_bin))] H := by rw [evq15]; exact hP
  replace hD : va_D A [(h_nn, .inl (cy_nn, 8000, .inr (.inl f_nn))), (h_tra, .inl (cy_tra, 256, .inl f_tra)), (h_mm, .inr (8, (mo134 vq15 (.ref h_nv) (.ref h_na) (.ref h_nb) (.ref h_nc) (.ref h_bto) (.ref h_bin) (.int z3) (.int z4)))), (h_nv, .inl (cy_nv, 8000, .inl f_nv)), (h_na, .inl (cy_na, 8000, .inl f_na)), (h_nb, .inl (cy_nb, 8000, .inl f_nb)), (h_nc, .inl (cy_nc, 8000, .inl f_nc)), (h_bto, .inl (cy_bto, 256, .inl f_bto)), (h_bin, .inl (cy_bin, 256, .inl f_bin))] := by rw [evq15]; exact hD
  have hPc := hP.sub (ws' := [(h_mm, .inr (8, (mo134 vq15 (.ref h_nv) (.ref h_na) (.ref h_nb) (.ref h_nc) (.ref h_bto) (.ref h_bin) (.int z3) (.int z4)))), (h_nv, .inl (cy_nv, 8000, .inl f_nv)), (h_na, .inl (cy_na, 8000, .inl f_na)), (h_nb, .inl (cy_nb, 8000, .inl f_nb)), (h_nc, .inl (cy_nc, 8000, .inl f_nc)), (h_bto, .inl (cy_bto, 256, .inl f_bto)), (h_bin, .inl (cy_bin, 256, .inl f_bin))]) [2, 3, 4, 5, 6, 7, 8] rfl
  have hDc := hD.sub (ws' := [(h_mm, .inr (8, (mo134 vq15 (.ref h_nv) (.ref h_na) (.ref h_nb) (.ref h_nc) (.ref h_bto) (.ref h_bin) (.int z3) (.int z4)))), (h_nv, .inl (cy_nv, 8000, .inl f_nv)), (h_na, .inl (cy_na, 8000, .inl f_na)), (h_nb, .inl (cy_nb, 8000, .inl f_nb)), (h_nc, .inl (cy_nc, 8000, .inl f_nc)), (h_bto, .inl (cy_bto, 256, .inl f_bto)), (h_bin, .inl (cy_bin, 256, .inl f_bin))]) [2, 3, 4, 5, 6, 7, 8] (by decide) rfl
  have hKc := hK.sub (tys' := [(cy_nv, .int), (cy_na, .int), (cy_nb, .int), (cy_nc, .int), (cy_bto, .int), (cy_bin, .int)]) [0, 1, 2, 3, 4, 5] rfl
  have hFc := va_free (wc := [(h_mm, .inr (8, (mo134 vq15 (.ref h_nv) (.ref h_na) (.ref h_nb) (.ref h_nc) (.ref h_bto) (.ref h_bin) (.int z3) (.int z4)))), (h_nv, .inl (cy_nv, 8000, .inl f_nv)), (h_na, .inl (cy_na, 8000, .inl f_na)), (h_nb, .inl (cy_nb, 8000, .inl f_nb)), (h_nc, .inl (cy_nc, 8000, .inl f_nc)), (h_bto, .inl (cy_bto, 256, .inl f_bto)), (h_bin, .inl (cy_bin, 256, .inl f_bin))]) hD hS hA [2, 3, 4, 5, 6, 7, 8] rfl
  refine va_callv (va_runV (As := [.int p3, .int p4]) (rest := []) ⟨hx, hb, hml, hown, hts⟩ (c_X11_goesTo l dC dI H.size h_mm h_nv h_na h_nb h_nc h_bto h_bin vq15 z3 z4 cy_nv f_nv cy_na f_na cy_nb f_nb cy_nc f_nc cy_bto f_bto cy_bin f_bin p3 p4 i0 i1 N hz g Q (fu + 1) (by first | exact k6 | omega) (by first | exact k7 | omega) hf_nv hf_na hf_nb hf_nc hf_bto hf_bin (by first | exact q0 | omega) (by first | exact q1 | omega) (by first | exact q4 | omega) (by first | exact q5 | omega) (by omega) hn_bi hn_paq hn_grv) (cwV 2 hts (gv hT w_m_X11_273 w_instanceMethod_X11_goesTo ws_sel_X11_goesTo w_ini_X11 w_code_X11_goesTo) rfl rfl rfl (by decide +kernel) ⟨(by dsimp only [headSpec]; omega), (by dsimp only [headSpec]; omega)⟩) ⟨pre_blind, va_recv hK hP (ci := 8) (q0 := 2) rfl rfl, pre_of hPc hKc hDc hN⟩ rfl rfl hl.1 rfl (lv_room (Nat.le_of_ble_eq_true rfl)) dX11_unifies_22 ⟨(Nat.le_of_ble_eq_true rfl), (Nat.le_of_ble_eq_true rfl)⟩) hS (fun q _ h => hFc q h) hFc (fun u t H locs ht hvm hq hB hz1 hk1 hS9 => ?_)
  obtain ⟨z17, z18, z19⟩ := u
  obtain ⟨hP1, hD1⟩ := hB
  rw [ht] at hP1
  obtain ⟨hP9, hD9⟩ := va_join (wr := [(h_nn, .inl (cy_nn, 8000, .inr (.inl f_nn))), (h_tra, .inl (cy_tra, 256, .inl f_tra))]) (w1 := [(h_mm, .inr (8, (mo134 vq15 (.ref h_nv) (.ref h_na) (.ref h_nb) (.ref h_nc) (.ref h_bto) (.ref h_bin) (.int z17) (.int z18)))), (h_nv, .inl (cy_nv, 8000, .inl f_nv)), (h_na, .inl (cy_na, 8000, .inl f_na)), (h_nb, .inl (cy_nb, 8000, .inl f_nb)), (h_nc, .inl (cy_nc, 8000, .inl f_nc)), (h_bto, .inl (cy_bto, 256, .inl f_bto)), (h_bin, .inl (cy_bin, 256, .inl f_bin))]) hP hD [2, 3, 4, 5, 6, 7, 8] [0, 1] rfl rfl (by decide) (by decide) hk1 hFc hP1 hD1
  clear hP hD hS hPc hDc hKc hFc hP1 hD1 hk1 hz1 ht hvm
  have hP : va_P (dC, dI) cls [(h_nn, .inl (cy_nn, 8000, .inr (.inl f_nn))), (h_tra, .inl (cy_tra, 256, .inl f_tra)), (h_mm, .inr (8, (mo134 vq15 (.ref h_nv) (.ref h_na) (.ref h_nb) (.ref h_nc) (.ref h_bto) (.ref h_bin) (.int z17) (.int z18)))), (h_nv, .inl (cy_nv, 8000, .inl f_nv)), (h_na, .inl (cy_na, 8000, .inl f_na)), (h_nb, .inl (cy_nb, 8000, .inl f_nb)), (h_nc, .inl (cy_nc, 8000, .inl f_nc)), (h_bto, .inl (cy_bto, 256, .inl f_bto)), (h_bin, .inl (cy_bin, 256, .inl f_bin))] H := hP9
  have hD : va_D A [(h_nn, .inl (cy_nn, 8000, .inr (.inl f_nn))), (h_tra, .inl (cy_tra, 256, .inl f_tra)), (h_mm, .inr (8, (mo134 vq15 (.ref h_nv) (.ref h_na) (.ref h_nb) (.ref h_nc) (.ref h_bto) (.ref h_bin) (.int z17) (.int z18)))), (h_nv, .inl (cy_nv, 8000, .inl f_nv)), (h_na, .inl (cy_na, 8000, .inl f_na)), (h_nb, .inl (cy_nb, 8000, .inl f_nb)), (h_nc, .inl (cy_nc, 8000, .inl f_nc)), (h_bto, .inl (cy_bto, 256, .inl f_bto)), (h_bin, .inl (cy_bin, 256, .inl f_bin))] := hD9
  have hS := hS9
  clear hP9 hD9 hS9
  rw [evq15] at hP hD
  replace hP : va_P (dC, dI) cls [(h_nn, .inl (cy_nn, 8000, .inr (.inl f_nn))), (h_tra, .inl (cy_tra, 256, .inl f_tra)), (h_mm, .inr (8, (mo136 v_mm (.ref h_nv) (.ref h_nn) (.ref h_na) (.ref h_nb) (.ref h_nc) (.ref h_bto) (.ref h_bin) (.ref h_tra) (.int x_mm_trailed) (.int z17) (.int z18)))), (h_nv, .inl (cy_nv, 8000, .inl f_nv)), (h_na, .inl (cy_na, 8000, .inl f_na)), (h_nb, .inl (cy_nb, 8000, .inl f_nb)), (h_nc, .inl (cy_nc, 8000, .inl f_nc)), (h_bto, .inl (cy_bto, 256, .inl f_bto)), (h_bin, .inl (cy_bin, 256, .inl f_bin))] H := hP
  replace hD : va_D A [(h_nn, .inl (cy_nn, 8000, .inr (.inl f_nn))), (h_tra, .inl (cy_tra, 256, .inl f_tra)), (h_mm, .inr (8, (mo136 v_mm (.ref h_nv) (.ref h_nn) (.ref h_na) (.ref h_nb) (.ref h_nc) (.ref h_bto) (.ref h_bin) (.ref h_tra) (.int x_mm_trailed) (.int z17) (.int z18)))), (h_nv, .inl (cy_nv, 8000, .inl f_nv)), (h_na, .inl (cy_na, 8000, .inl f_na)), (h_nb, .inl (cy_nb, 8000, .inl f_nb)), (h_nc, .inl (cy_nc, 8000, .inl f_nc)), (h_bto, .inl (cy_bto, 256, .inl f_bto)), (h_bin, .inl (cy_bin, 256, .inl f_bin))] := hD
  clear evq15 
  obtain ⟨k20, k21, k22, k23, k24, k25, k26, k27, k28⟩ := hq
  replace k20 : 0 ≤ ((z17)).toInt ∧ ((z17)).toInt ≤ 7999 := k20
  replace k21 : 0 ≤ ((z18)).toInt ∧ ((z18)).toInt ≤ 31 := k21
  replace k22 : 0 ≤ ((z17)).toInt ∧ ((z17)).toInt < (N) := k22
  replace k23 : (i0) ≤ ((z18)).toInt ∧ ((z18)).toInt ≤ (i1) := k23
  replace k24 : (hz) ((z17)).toInt.toNat + 6 * (256 - ((z19)).length) + 1 ≤ ((fu + 1)) := k24
  replace k25 : PA (i0) (z19) f_nv f_na f_nb f_nc f_bto f_bin ((z17)).toInt.toNat ((z18)).toInt := k25
  replace k26 : (f_nv ((z17)).toInt.toNat).toInt = -1 ∨ (f_bto (8 * ((z18)).toInt + (f_nv ((z17)).toInt.toNat).toInt).toNat).toInt = -1 := k26
  replace k27 : ∀ tt : Nat, (f_bto tt).toInt = -1 → NR f_nv f_na f_nb f_nc f_bto f_bin ((z17)).toInt.toNat ((z18)).toInt tt → NR f_nv f_na f_nb f_nc f_bto f_bin ((p3)).toInt.toNat ((p4)).toInt tt := k27
  replace k28 : BRE (g) (BDW f_bto f_bin) (PLR (p3) (p4)) (PLR (z17) (z18)) := k28
  refine lv_aload_n hx hb dX11_unifies_25 rfl (lv_at hl 2 rfl) ?_
  refine va_get (D := (dC, dI)) (ci := 8) (v := .int z17) (C := RX11) (T := TX11) (N := 71) hx hb hw iwX11 hown hK hP 2 rfl rfl 31 (by decide) (hw _ w_f_X11_264) (fun _ h9 => h9) rfl dX11_unifies_26 ?_
  refine lv_istore (lv' := [(7, .int z17), (6, .int z4), (5, .int z3), (0, .ref h_mm), (1, .int p1), (2, .int p2), (3, .int p3), (4, .int p4)]) hx hb dX11_unifies_29 hl (by decide) rfl (fun ls hl => ?_)
  refine lv_aload_n hx hb dX11_unifies_31 rfl (lv_at hl 3 rfl) ?_
  refine va_get (D := (dC, dI)) (ci := 8) (v := .int z18) (C := RX11) (T := TX11) (N := 71) hx hb hw iwX11 hown hK hP 2 rfl rfl 32 (by decide) (hw _ w_f_X11_267) (fun _ h9 => h9) rfl dX11_unifies_32 ?_
  refine lv_istore (lv' := [(8, .int z18), (7, .int z17), (6, .int z4), (5, .int z3), (0, .ref h_mm), (1, .int p1), (2, .int p2), (3, .int p3), (4, .int p4)]) hx hb dX11_unifies_35 hl (by decide) rfl (fun ls hl => ?_)
  refine lv_aload_n hx hb dX11_unifies_37 rfl (lv_at hl 4 rfl) ?_
  refine va_get (D := (dC, dI)) (ci := 8) (v := .ref h_nv) (C := RX11) (T := TX11) (N := 71) hx hb hw iwX11 hown hK hP 2 rfl rfl 1 (by decide) (hw _ w_f_X11_17) (fun _ h9 => h9) rfl dX11_unifies_38 ?_
  refine lv_iload hx hb dX11_unifies_41 (lv_at hl 3 rfl) ?_
  refine va_iald hx hb hK hP 3 0 rfl rfl (i := z3) (vp_in_iff.mpr (by omega)) dX11_unifies_43 ?_
  refine lv_topi (fun z29 ez29 => ?_)
  have rz29 : -1 ≤ (z29).toInt ∧ (z29).toInt ≤ 7 := by rw [ez29]; exact hf_nv _
  refine lv_iconst (v := (-1)) hx hb dX11_unifies_44 (by decide) ?_
  refine lv_icmp_eq (tgt := 111) hx hb dX11_unifies_45 (by decide) (fun c30 => ?_) (fun c30 => ?_)
  · have kc30 := (cv_eq (rfl : (z29).toInt = (z29).toInt) (by decide : ((-1) : Int32).toInt = -1)).mp c30
    have hvz29 : (f_nv (z3).toInt.toNat).toInt = (z29).toInt := by rw [ez29, (clamp_nat (i := z3) (by omega))]
    have gv9a := grv_v (i := z4) hn_grv (show 0 ≤ (z3).toInt ∧ (z3).toInt < 8000 by omega)
    have ga9a := grv_a (i := z4) hn_grv (show 0 ≤ (z3).toInt ∧ (z3).toInt < 8000 by omega)
    refine lv_aload_n hx hb dX11_unifies_111 rfl (lv_at hl 4 rfl) ?_
    refine va_get (D := (dC, dI)) (ci := 8) (v := .ref h_nv) (C := RX11) (T := TX11) (N := 71) hx hb hw iwX11 hown hK hP 2 rfl rfl 1 (by decide) (hw _ w_f_X11_17) (fun _ h9 => h9) rfl dX11_unifies_112 ?_
    refine lv_iload hx hb dX11_unifies_115 (lv_at hl 1 rfl) ?_
    refine va_iald hx hb hK hP 3 0 rfl rfl (i := z17) (vp_in_iff.mpr (by omega)) dX11_unifies_117 ?_
    refine lv_topi (fun z31 ez31 => ?_)
    have rz31 : -1 ≤ (z31).toInt ∧ (z31).toInt ≤ 7 := by rw [ez31]; exact hf_nv _
    refine lv_iconst (v := (-1)) hx hb dX11_unifies_118 (by decide) ?_
    refine lv_icmp_eq (tgt := 159) hx hb dX11_unifies_119 (by decide) (fun c32 => ?_) (fun c32 => ?_)
    · have kc32 := (cv_eq (rfl : (z31).toInt = (z31).toInt) (by decide : ((-1) : Int32).toInt = -1)).mp c32
      refine lv_aload_n hx hb dX11_unifies_159 rfl (lv_at hl 4 rfl) ?_
      refine va_get (D := (dC, dI)) (ci := 8) (v := .ref h_nn) (C := RX11) (T := TX11) (N := 71) hx hb hw iwX11 hown hK hP 2 rfl rfl 2 (by decide) (hw _ w_f_X11_23) (fun _ h9 => h9) rfl dX11_unifies_160 ?_
      refine lv_iload hx hb dX11_unifies_163 (lv_at hl 3 rfl) ?_
      refine va_lald hx hb hK hP 0 6 rfl rfl (i := z3) (vp_in_iff.mpr (by omega)) dX11_unifies_165 ?_
      refine lv_topl (fun z33 ez33 => ?_)
      have nnz33 : (f_nn (z3).toInt.toNat).toInt = (z33).toInt := by rw [ez33, clamp_nat (i := z3) (by omega)]
      refine lv_aload_n hx hb dX11_unifies_166 rfl (lv_at hl 4 rfl) ?_
      refine va_get (D := (dC, dI)) (ci := 8) (v := .ref h_nn) (C := RX11) (T := TX11) (N := 71) hx hb hw iwX11 hown hK hP 2 rfl rfl 2 (by decide) (hw _ w_f_X11_23) (fun _ h9 => h9) rfl dX11_unifies_167 ?_
      refine lv_iload hx hb dX11_unifies_170 (lv_at hl 1 rfl) ?_
      refine va_lald hx hb hK hP 0 6 rfl rfl (i := z17) (vp_in_iff.mpr (by omega)) dX11_unifies_172 ?_
      refine lv_topl (fun z34 ez34 => ?_)
      have nnz34 : (f_nn (z17).toInt.toNat).toInt = (z34).toInt := by rw [ez34, clamp_nat (i := z17) (by omega)]
      refine W.lcmp hx hb dX11_unifies_173 ?_
      refine lv_topi (fun z35 ez35 => ?_)
      have gz35 := lgc z33 z34
      rw [← ez35] at gz35
      refine lv_if_ne (tgt := 192) hx hb dX11_unifies_174 (by decide) (fun c36 => ?_) (fun c36 => ?_)
      · have kc36 := (not_congr (cv_eq (rfl : (z35).toInt = (z35).toInt) (by decide : (0 : Int32).toInt = 0))).mp c36
        have hvz31 : (f_nv (z17).toInt.toNat).toInt = (z31).toInt := by rw [ez31, (clamp_nat (i := z17) (by omega))]
        have gv9b := grv_v (i := z18) hn_grv (show 0 ≤ (z17).toInt ∧ (z17).toInt < 8000 by omega)
        have ga9b := grv_a (i := z18) hn_grv (show 0 ≤ (z17).toInt ∧ (z17).toInt < 8000 by omega)
        have gn9a := grn_n (i := z4) hn_grn (show 0 ≤ (z3).toInt ∧ (z3).toInt < 8000 by omega)
        have gn9b := grn_n (i := z18) hn_grn (show 0 ≤ (z17).toInt ∧ (z17).toInt < 8000 by omega)
        refine lv_iconst (v := 0) hx hb dX11_unifies_192 (by decide) ?_
        replace hP : va_P (dC, dI) cls [(h_mm, .inr (8, (mo136 v_mm (.ref h_nv) (.ref h_nn) (.ref h_na) (.ref h_nb) (.ref h_nc) (.ref h_bto) (.ref h_bin) (.ref h_tra) (.int x_mm_trailed) (.int z17) (.int z18)))), (h_nv, .inl (cy_nv, 8000, .inl f_nv)), (h_na, .inl (cy_na, 8000, .inl f_na)), (h_nb, .inl (cy_nb, 8000, .inl f_nb)), (h_nc, .inl (cy_nc, 8000, .inl f_nc)), (h_bto, .inl (cy_bto, 256, .inl f_bto)), (h_bin, .inl (cy_bin, 256, .inl f_bin)), (h_nn, .inl (cy_nn, 8000, .inr (.inl f_nn))), (h_tra, .inl (cy_tra, 256, .inl f_tra))] H := hP.sub [2, 3, 4, 5, 6, 7, 8, 0, 1] rfl
        replace hD : va_D A [(h_mm, .inr (8, (mo136 v_mm (.ref h_nv) (.ref h_nn) (.ref h_na) (.ref h_nb) (.ref h_nc) (.ref h_bto) (.ref h_bin) (.ref h_tra) (.int x_mm_trailed) (.int z17) (.int z18)))), (h_nv, .inl (cy_nv, 8000, .inl f_nv)), (h_na, .inl (cy_na, 8000, .inl f_na)), (h_nb, .inl (cy_nb, 8000, .inl f_nb)), (h_nc, .inl (cy_nc, 8000, .inl f_nc)), (h_bto, .inl (cy_bto, 256, .inl f_bto)), (h_bin, .inl (cy_bin, 256, .inl f_bin)), (h_nn, .inl (cy_nn, 8000, .inr (.inl f_nn))), (h_tra, .inl (cy_tra, 256, .inl f_tra))] := hD.sub [2, 3, 4, 5, 6, 7, 8, 0, 1] (by decide) rfl
        refine W.widen (k := 0) (n := 0) (Nat.le_of_ble_eq_true rfl) (Nat.le_of_ble_eq_true rfl) ?_
        have cst0 : (0 : Int32).toInt = 0 := by decide
        have w37 : 0 ≤ ((x_mm_trailed)).toInt ∧ ((x_mm_trailed)).toInt ≤ 256 := by first | exact hx_mm_trailed | omega
        have w38 : 0 ≤ ((z17)).toInt ∧ ((z17)).toInt ≤ 7999 := by first | exact k20 | omega
        have w39 : 0 ≤ ((z18)).toInt ∧ ((z18)).toInt ≤ 31 := by first | exact k21 | omega
        have w40 : 0 ≤ (0 : Int32).toInt ∧ (0 : Int32).toInt ≤ 1 := by omega
        have w41 : BI i0 i1 N hz f_nv f_na f_nb f_nc (f_bto) (f_bin) := hn_bi
        have w42 : TRL ((x_mm_trailed)).toInt (f_tra) (f_bto) := (trl_cast hn_trl (by omega))
        have w43 : GRW (x_mm_trailed).toInt ((x_mm_trailed)).toInt f_bto f_bin f_tra (f_bto) (f_bin) (f_tra) := (gr_cast gr0 (by omega) (by omega))
        have w44 : UNX g (BDW f_bto f_bin) (BDW (f_bto) (f_bin)) (PLR p1 p2) (PLR p3 p4) ((0 : Int32)).toInt := (unx_name k14 k28 (by rw [gv9a]; omega) (by rw [gv9b]; omega) (by rw [gn9a, gn9b, ga9a, ga9b]; omega) (by decide))
        exact W.zret (v := 0) (ty := .boolean) hx hb hr (by decide) (fun t ht hW => ⟨⟨0, (x_mm_trailed, z17, z18, f_bto, f_bin, f_tra), rfl, ⟨w37, w38, w39, hf_bto, hf_bin, hf_tra, w40, w41, w42, w43, w44⟩, by rw [ht]; exact hP, hD⟩, hS.F ht⟩) hS.2.2 dX11_unifies_193
      · have kc36 := (cv_eq (rfl : (z35).toInt = (z35).toInt) (by decide : (0 : Int32).toInt = 0)).mp c36
        refine lv_aload_n hx hb dX11_unifies_177 rfl (lv_at hl 4 rfl) ?_
        refine lv_iload hx hb dX11_unifies_178 (lv_at hl 3 rfl) ?_
        obtain ⟨vq45, evq45⟩ := mq136_86 v_mm (.ref h_nn) (.ref h_bto) (.ref h_bin) (.ref h_tra) (.int x_mm_trailed) (.int z17) (.int z18)
        replace hP : va_P (dC, dI) cls [(h_nn, .inl (cy_nn, 8000, .inr (.inl f_nn))), (h_tra, .inl (cy_tra, 256, .inl f_tra)), (h_mm, .inr (8, (mo86 vq45 (.ref h_nv) (.ref h_na) (.ref h_nb) (.ref h_nc)))), (h_nv, .inl (cy_nv, 8000, .inl f_nv)), (h_na, .inl (cy_na, 8000, .inl f_na)), (h_nb, .inl (cy_nb, 8000, .inl f_nb)), (h_nc, .inl (cy_nc, 8000, .inl f_nc)), (h_bto, .inl (cy_bto, 256, .inl f_bto)), (h_bin, .inl (cy_bin, 256, .inl f_bin))] H := by rw [evq45]; exact hP
        replace hD : va_D A [(h_nn, .inl (cy_nn, 8000, .inr (.inl f_nn))), (h_tra, .inl (cy_tra, 256, .inl f_tra)), (h_mm, .inr (8, (mo86 vq45 (.ref h_nv) (.ref h_na) (.ref h_nb) (.ref h_nc)))), (h_nv, .inl (cy_nv, 8000, .inl f_nv)), (h_na, .inl (cy_na, 8000, .inl f_na)), (h_nb, .inl (cy_nb, 8000, .inl f_nb)), (h_nc, .inl (cy_nc, 8000, .inl f_nc)), (h_bto, .inl (cy_bto, 256, .inl f_bto)), (h_bin, .inl (cy_bin, 256, .inl f_bin))] := by rw [evq45]; exact hD
        have hPc := hP.sub (ws' := [(h_mm, .inr (8, (mo86 vq45 (.ref h_nv) (.ref h_na) (.ref h_nb) (.ref h_nc)))), (h_nv, .inl (cy_nv, 8000, .inl f_nv)), (h_na, .inl (cy_na, 8000, .inl f_na)), (h_nb, .inl (cy_nb, 8000, .inl f_nb)), (h_nc, .inl (cy_nc, 8000, .inl f_nc))]) [2, 3, 4, 5, 6] rfl
        have hDc := hD.sub (ws' := [(h_mm, .inr (8, (mo86 vq45 (.ref h_nv) (.ref h_na) (.ref h_nb) (.ref h_nc)))), (h_nv, .inl (cy_nv, 8000, .inl f_nv)), (h_na, .inl (cy_na, 8000, .inl f_na)), (h_nb, .inl (cy_nb, 8000, .inl f_nb)), (h_nc, .inl (cy_nc, 8000, .inl f_nc))]) [2, 3, 4, 5, 6] (by decide) rfl
        have hKc := hK.sub (tys' := [(cy_nv, .int), (cy_na, .int), (cy_nb, .int), (cy_nc, .int)]) [0, 1, 2, 3] rfl
        have hFc := va_free (wc := [(h_mm, .inr (8, (mo86 vq45 (.ref h_nv) (.ref h_na) (.ref h_nb) (.ref h_nc)))), (h_nv, .inl (cy_nv, 8000, .inl f_nv)), (h_na, .inl (cy_na, 8000, .inl f_na)), (h_nb, .inl (cy_nb, 8000, .inl f_nb)), (h_nc, .inl (cy_nc, 8000, .inl f_nc))]) hD hS hA [2, 3, 4, 5, 6] rfl
        refine va_calli (va_runV (As := [.int z3]) (rest := []) ⟨hx, hb, hml, hown, hts⟩ (c_X11_partsAt_e l dC dI H.size h_mm h_nv h_na h_nb h_nc vq45 cy_nv f_nv cy_na f_na cy_nb f_nb cy_nc f_nc z3 hf_nv hf_na hf_nb hf_nc (by first | exact k6 | omega)) (cwV 1 hts (gv hT w_m_X11_27 w_instanceMethod_X11_partsAt ws_sel_X11_partsAt w_ini_X11 w_code_X11_partsAt) rfl rfl rfl (by decide +kernel) ⟨(by dsimp only [headSpec]; omega), (by dsimp only [headSpec]; omega)⟩) ⟨pre_blind, va_recv hK hP (ci := 8) (q0 := 2) rfl rfl, pre_of hPc hKc hDc hN⟩ rfl rfl hl.1 rfl (lv_room (Nat.le_of_ble_eq_true rfl)) dX11_unifies_180 ⟨(Nat.le_of_ble_eq_true rfl), (Nat.le_of_ble_eq_true rfl)⟩) hS (fun q _ h => hFc q h) hFc (fun r46 u t H locs ht hvm hq hB hz1 hk1 hS9 => ?_)
        obtain ⟨hP1, hD1⟩ := hB
        rw [ht] at hP1
        obtain ⟨hP9, hD9⟩ := va_join (wr := [(h_nn, .inl (cy_nn, 8000, .inr (.inl f_nn))), (h_tra, .inl (cy_tra, 256, .inl f_tra)), (h_bto, .inl (cy_bto, 256, .inl f_bto)), (h_bin, .inl (cy_bin, 256, .inl f_bin))]) (w1 := [(h_mm, .inr (8, (mo86 vq45 (.ref h_nv) (.ref h_na) (.ref h_nb) (.ref h_nc)))), (h_nv, .inl (cy_nv, 8000, .inl f_nv)), (h_na, .inl (cy_na, 8000, .inl f_na)), (h_nb, .inl (cy_nb, 8000, .inl f_nb)), (h_nc, .inl (cy_nc, 8000, .inl f_nc))]) hP hD [2, 3, 4, 5, 6] [0, 1, 7, 8] rfl rfl (by decide) (by decide) hk1 hFc hP1 hD1
        clear hP hD hS hPc hDc hKc hFc hP1 hD1 hk1 hz1 ht hvm
        have hP : va_P (dC, dI) cls [(h_nn, .inl (cy_nn, 8000, .inr (.inl f_nn))), (h_tra, .inl (cy_tra, 256, .inl f_tra)), (h_bto, .inl (cy_bto, 256, .inl f_bto)), (h_bin, .inl (cy_bin, 256, .inl f_bin)), (h_mm, .inr (8, (mo86 vq45 (.ref h_nv) (.ref h_na) (.ref h_nb) (.ref h_nc)))), (h_nv, .inl (cy_nv, 8000, .inl f_nv)), (h_na, .inl (cy_na, 8000, .inl f_na)), (h_nb, .inl (cy_nb, 8000, .inl f_nb)), (h_nc, .inl (cy_nc, 8000, .inl f_nc))] H := hP9
        have hD : va_D A [(h_nn, .inl (cy_nn, 8000, .inr (.inl f_nn))), (h_tra, .inl (cy_tra, 256, .inl f_tra)), (h_bto, .inl (cy_bto, 256, .inl f_bto)), (h_bin, .inl (cy_bin, 256, .inl f_bin)), (h_mm, .inr (8, (mo86 vq45 (.ref h_nv) (.ref h_na) (.ref h_nb) (.ref h_nc)))), (h_nv, .inl (cy_nv, 8000, .inl f_nv)), (h_na, .inl (cy_na, 8000, .inl f_na)), (h_nb, .inl (cy_nb, 8000, .inl f_nb)), (h_nc, .inl (cy_nc, 8000, .inl f_nc))] := hD9
        have hS := hS9
        clear hP9 hD9 hS9
        rw [evq45] at hP hD
        replace hP : va_P (dC, dI) cls [(h_nn, .inl (cy_nn, 8000, .inr (.inl f_nn))), (h_tra, .inl (cy_tra, 256, .inl f_tra)), (h_bto, .inl (cy_bto, 256, .inl f_bto)), (h_bin, .inl (cy_bin, 256, .inl f_bin)), (h_mm, .inr (8, (mo136 v_mm (.ref h_nv) (.ref h_nn) (.ref h_na) (.ref h_nb) (.ref h_nc) (.ref h_bto) (.ref h_bin) (.ref h_tra) (.int x_mm_trailed) (.int z17) (.int z18)))), (h_nv, .inl (cy_nv, 8000, .inl f_nv)), (h_na, .inl (cy_na, 8000, .inl f_na)), (h_nb, .inl (cy_nb, 8000, .inl f_nb)), (h_nc, .inl (cy_nc, 8000, .inl f_nc))] H := hP
        replace hD : va_D A [(h_nn, .inl (cy_nn, 8000, .inr (.inl f_nn))), (h_tra, .inl (cy_tra, 256, .inl f_tra)), (h_bto, .inl (cy_bto, 256, .inl f_bto)), (h_bin, .inl (cy_bin, 256, .inl f_bin)), (h_mm, .inr (8, (mo136 v_mm (.ref h_nv) (.ref h_nn) (.ref h_na) (.ref h_nb) (.ref h_nc) (.ref h_bto) (.ref h_bin) (.ref h_tra) (.int x_mm_trailed) (.int z17) (.int z18)))), (h_nv, .inl (cy_nv, 8000, .inl f_nv)), (h_na, .inl (cy_na, 8000, .inl f_na)), (h_nb, .inl (cy_nb, 8000, .inl f_nb)), (h_nc, .inl (cy_nc, 8000, .inl f_nc))] := hD
        clear evq45 
        obtain ⟨k47, k48⟩ := hq
        replace k47 : 0 ≤ (r46).toInt ∧ (r46).toInt ≤ 3 := k47
        replace k48 : ((r46)).toInt = (npx f_nv f_na f_nb f_nc ((z3)).toInt.toNat) := k48
        refine lv_aload_n hx hb dX11_unifies_183 rfl (lv_at hl 4 rfl) ?_
        refine lv_iload hx hb dX11_unifies_184 (lv_at hl 1 rfl) ?_
        obtain ⟨vq49, evq49⟩ := mq136_86 v_mm (.ref h_nn) (.ref h_bto) (.ref h_bin) (.ref h_tra) (.int x_mm_trailed) (.int z17) (.int z18)
        replace hP : va_P (dC, dI) cls [(h_nn, .inl (cy_nn, 8000, .inr (.inl f_nn))), (h_tra, .inl (cy_tra, 256, .inl f_tra)), (h_bto, .inl (cy_bto, 256, .inl f_bto)), (h_bin, .inl (cy_bin, 256, .inl f_bin)), (h_mm, .inr (8, (mo86 vq49 (.ref h_nv) (.ref h_na) (.ref h_nb) (.ref h_nc)))), (h_nv, .inl (cy_nv, 8000, .inl f_nv)), (h_na, .inl (cy_na, 8000, .inl f_na)), (h_nb, .inl (cy_nb, 8000, .inl f_nb)), (h_nc, .inl (cy_nc, 8000, .inl f_nc))] H := by rw [evq49]; exact hP
        replace hD : va_D A [(h_nn, .inl (cy_nn, 8000, .inr (.inl f_nn))), (h_tra, .inl (cy_tra, 256, .inl f_tra)), (h_bto, .inl (cy_bto, 256, .inl f_bto)), (h_bin, .inl (cy_bin, 256, .inl f_bin)), (h_mm, .inr (8, (mo86 vq49 (.ref h_nv) (.ref h_na) (.ref h_nb) (.ref h_nc)))), (h_nv, .inl (cy_nv, 8000, .inl f_nv)), (h_na, .inl (cy_na, 8000, .inl f_na)), (h_nb, .inl (cy_nb, 8000, .inl f_nb)), (h_nc, .inl (cy_nc, 8000, .inl f_nc))] := by rw [evq49]; exact hD
        have hPc := hP.sub (ws' := [(h_mm, .inr (8, (mo86 vq49 (.ref h_nv) (.ref h_na) (.ref h_nb) (.ref h_nc)))), (h_nv, .inl (cy_nv, 8000, .inl f_nv)), (h_na, .inl (cy_na, 8000, .inl f_na)), (h_nb, .inl (cy_nb, 8000, .inl f_nb)), (h_nc, .inl (cy_nc, 8000, .inl f_nc))]) [4, 5, 6, 7, 8] rfl
        have hDc := hD.sub (ws' := [(h_mm, .inr (8, (mo86 vq49 (.ref h_nv) (.ref h_na) (.ref h_nb) (.ref h_nc)))), (h_nv, .inl (cy_nv, 8000, .inl f_nv)), (h_na, .inl (cy_na, 8000, .inl f_na)), (h_nb, .inl (cy_nb, 8000, .inl f_nb)), (h_nc, .inl (cy_nc, 8000, .inl f_nc))]) [4, 5, 6, 7, 8] (by decide) rfl
        have hKc := hK.sub (tys' := [(cy_nv, .int), (cy_na, .int), (cy_nb, .int), (cy_nc, .int)]) [0, 1, 2, 3] rfl
        have hFc := va_free (wc := [(h_mm, .inr (8, (mo86 vq49 (.ref h_nv) (.ref h_na) (.ref h_nb) (.ref h_nc)))), (h_nv, .inl (cy_nv, 8000, .inl f_nv)), (h_na, .inl (cy_na, 8000, .inl f_na)), (h_nb, .inl (cy_nb, 8000, .inl f_nb)), (h_nc, .inl (cy_nc, 8000, .inl f_nc))]) hD hS hA [4, 5, 6, 7, 8] rfl
        refine va_calli (va_runV (As := [.int z17]) (rest := [.int r46]) ⟨hx, hb, hml, hown, hts⟩ (c_X11_partsAt_e l dC dI H.size h_mm h_nv h_na h_nb h_nc vq49 cy_nv f_nv cy_na f_na cy_nb f_nb cy_nc f_nc z17 hf_nv hf_na hf_nb hf_nc (by first | exact k20 | omega)) (cwV 1 hts (gv hT w_m_X11_27 w_instanceMethod_X11_partsAt ws_sel_X11_partsAt w_ini_X11 w_code_X11_partsAt) rfl rfl rfl (by decide +kernel) ⟨(by dsimp only [headSpec]; omega), (by dsimp only [headSpec]; omega)⟩) ⟨pre_blind, va_recv hK hP (ci := 8) (q0 := 4) rfl rfl, pre_of hPc hKc hDc hN⟩ rfl rfl hl.1 rfl (lv_room (Nat.le_of_ble_eq_true rfl)) dX11_unifies_186 ⟨(Nat.le_of_ble_eq_true rfl), (Nat.le_of_ble_eq_true rfl)⟩) hS (fun q _ h => hFc q h) hFc (fun r50 u t H locs ht hvm hq hB hz1 hk1 hS9 => ?_)
        obtain ⟨hP1, hD1⟩ := hB
        rw [ht] at hP1
        obtain ⟨hP9, hD9⟩ := va_join (wr := [(h_nn, .inl (cy_nn, 8000, .inr (.inl f_nn))), (h_tra, .inl (cy_tra, 256, .inl f_tra)), (h_bto, .inl (cy_bto, 256, .inl f_bto)), (h_bin, .inl (cy_bin, 256, .inl f_bin))]) (w1 := [(h_mm, .inr (8, (mo86 vq49 (.ref h_nv) (.ref h_na) (.ref h_nb) (.ref h_nc)))), (h_nv, .inl (cy_nv, 8000, .inl f_nv)), (h_na, .inl (cy_na, 8000, .inl f_na)), (h_nb, .inl (cy_nb, 8000, .inl f_nb)), (h_nc, .inl (cy_nc, 8000, .inl f_nc))]) hP hD [4, 5, 6, 7, 8] [0, 1, 2, 3] rfl rfl (by decide) (by decide) hk1 hFc hP1 hD1
        clear hP hD hS hPc hDc hKc hFc hP1 hD1 hk1 hz1 ht hvm
        have hP : va_P (dC, dI) cls [(h_nn, .inl (cy_nn, 8000, .inr (.inl f_nn))), (h_tra, .inl (cy_tra, 256, .inl f_tra)), (h_bto, .inl (cy_bto, 256, .inl f_bto)), (h_bin, .inl (cy_bin, 256, .inl f_bin)), (h_mm, .inr (8, (mo86 vq49 (.ref h_nv) (.ref h_na) (.ref h_nb) (.ref h_nc)))), (h_nv, .inl (cy_nv, 8000, .inl f_nv)), (h_na, .inl (cy_na, 8000, .inl f_na)), (h_nb, .inl (cy_nb, 8000, .inl f_nb)), (h_nc, .inl (cy_nc, 8000, .inl f_nc))] H := hP9
        have hD : va_D A [(h_nn, .inl (cy_nn, 8000, .inr (.inl f_nn))), (h_tra, .inl (cy_tra, 256, .inl f_tra)), (h_bto, .inl (cy_bto, 256, .inl f_bto)), (h_bin, .inl (cy_bin, 256, .inl f_bin)), (h_mm, .inr (8, (mo86 vq49 (.ref h_nv) (.ref h_na) (.ref h_nb) (.ref h_nc)))), (h_nv, .inl (cy_nv, 8000, .inl f_nv)), (h_na, .inl (cy_na, 8000, .inl f_na)), (h_nb, .inl (cy_nb, 8000, .inl f_nb)), (h_nc, .inl (cy_nc, 8000, .inl f_nc))] := hD9
        have hS := hS9
        clear hP9 hD9 hS9
        rw [evq49] at hP hD
        replace hP : va_P (dC, dI) cls [(h_nn, .inl (cy_nn, 8000, .inr (.inl f_nn))), (h_tra, .inl (cy_tra, 256, .inl f_tra)), (h_bto, .inl (cy_bto, 256, .inl f_bto)), (h_bin, .inl (cy_bin, 256, .inl f_bin)), (h_mm, .inr (8, (mo136 v_mm (.ref h_nv) (.ref h_nn) (.ref h_na) (.ref h_nb) (.ref h_nc) (.ref h_bto) (.ref h_bin) (.ref h_tra) (.int x_mm_trailed) (.int z17) (.int z18)))), (h_nv, .inl (cy_nv, 8000, .inl f_nv)), (h_na, .inl (cy_na, 8000, .inl f_na)), (h_nb, .inl (cy_nb, 8000, .inl f_nb)), (h_nc, .inl (cy_nc, 8000, .inl f_nc))] H := hP
        replace hD : va_D A [(h_nn, .inl (cy_nn, 8000, .inr (.inl f_nn))), (h_tra, .inl (cy_tra, 256, .inl f_tra)), (h_bto, .inl (cy_bto, 256, .inl f_bto)), (h_bin, .inl (cy_bin, 256, .inl f_bin)), (h_mm, .inr (8, (mo136 v_mm (.ref h_nv) (.ref h_nn) (.ref h_na) (.ref h_nb) (.ref h_nc) (.ref h_bto) (.ref h_bin) (.ref h_tra) (.int x_mm_trailed) (.int z17) (.int z18)))), (h_nv, .inl (cy_nv, 8000, .inl f_nv)), (h_na, .inl (cy_na, 8000, .inl f_na)), (h_nb, .inl (cy_nb, 8000, .inl f_nb)), (h_nc, .inl (cy_nc, 8000, .inl f_nc))] := hD
        clear evq49 
        obtain ⟨k51, k52⟩ := hq
        replace k51 : 0 ≤ (r50).toInt ∧ (r50).toInt ≤ 3 := k51
        replace k52 : ((r50)).toInt = (npx f_nv f_na f_nb f_nc ((z17)).toInt.toNat) := k52
        refine lv_icmp_eq (tgt := 194) hx hb dX11_unifies_189 (by decide) (fun c53 => ?_) (fun c53 => ?_)
        · have kc53 := (cv_eq (rfl : (r46).toInt = (r46).toInt) (rfl : (r50).toInt = (r50).toInt)).mp c53
          have hvz31 : (f_nv (z17).toInt.toNat).toInt = (z31).toInt := by rw [ez31, (clamp_nat (i := z17) (by omega))]
          have gv9b := grv_v (i := z18) hn_grv (show 0 ≤ (z17).toInt ∧ (z17).toInt < 8000 by omega)
          have ga9b := grv_a (i := z18) hn_grv (show 0 ≤ (z17).toInt ∧ (z17).toInt < 8000 by omega)
          have gn9a := grn_n (i := z4) hn_grn (show 0 ≤ (z3).toInt ∧ (z3).toInt < 8000 by omega)
          have gn9b := grn_n (i := z18) hn_grn (show 0 ≤ (z17).toInt ∧ (z17).toInt < 8000 by omega)
          refine lv_iconst (v := 0) hx hb dX11_unifies_194 (by decide) ?_
          refine lv_istore (lv' := [(9, .int 0), (8, .int z18), (7, .int z17), (6, .int z4), (5, .int z3), (0, .ref h_mm), (1, .int p1), (2, .int p2), (3, .int p3), (4, .int p4)]) hx hb dX11_unifies_195 hl (by decide) rfl (fun ls hl => ?_)
          have lp61 : ∀ (n : Nat) (x54 : Int32) (f55 : Nat → Int32) (f56 : Nat → Int32) (f57 : Nat → Int32) (x58 : Int32) (x59 : Int32) (x60 : Int32) (H : Heap) (locs : List Loc) (ls : Array Slot), (0 ≤ (x54).toInt ∧ (x54).toInt ≤ 3) → (Rg 0 255 f55) → (Rg (-1) 7999 f56) → (Rg 0 31 f57) → (0 ≤ (x58).toInt ∧ (x58).toInt ≤ 256) → (0 ≤ (x59).toInt ∧ (x59).toInt ≤ 7999) → (0 ≤ (x60).toInt ∧ (x60).toInt ≤ 31) → (BI i0 i1 N hz f_nv f_na f_nb f_nc f56 f57) → (TRL (x58).toInt f55 f56) → (GRW (x_mm_trailed).toInt (x58).toInt f_bto f_bin f_tra f56 f57 f55) → (UNK g (BDW f_bto f_bin) (BDW f56 f57) (PLR p1 p2) (PLR p3 p4) (PLR z3 z4) (PLR z17 z18) ((x54).toInt)) → (3 - (x54).toInt).toNat + 1 ≤ n → va_P (dC, dI) cls [(h_nn, .inl (cy_nn, 8000, .inr (.inl f_nn))), (h_tra, .inl (cy_tra, 256, .inl f55)), (h_bto, .inl (cy_bto, 256, .inl f56)), (h_bin, .inl (cy_bin, 256, .inl f57)), (h_mm, .inr (8, (mo136 v_mm (.ref h_nv) (.ref h_nn) (.ref h_na) (.ref h_nb) (.ref h_nc) (.ref h_bto) (.ref h_bin) (.ref h_tra) (.int x58) (.int x59) (.int x60)))), (h_nv, .inl (cy_nv, 8000, .inl f_nv)), (h_na, .inl (cy_na, 8000, .inl f_na)), (h_nb, .inl (cy_nb, 8000, .inl f_nb)), (h_nc, .inl (cy_nc, 8000, .inl f_nc))] H → va_D A [(h_nn, .inl (cy_nn, 8000, .inr (.inl f_nn))), (h_tra, .inl (cy_tra, 256, .inl f55)), (h_bto, .inl (cy_bto, 256, .inl f56)), (h_bin, .inl (cy_bin, 256, .inl f57)), (h_mm, .inr (8, (mo136 v_mm (.ref h_nv) (.ref h_nn) (.ref h_na) (.ref h_nb) (.ref h_nc) (.ref h_bto) (.ref h_bin) (.ref h_tra) (.int x58) (.int x59) (.int x60)))), (h_nv, .inl (cy_nv, 8000, .inl f_nv)), (h_na, .inl (cy_na, 8000, .inl f_na)), (h_nb, .inl (cy_nb, 8000, .inl f_nb)), (h_nc, .inl (cy_nc, 8000, .inl f_nc))] → va_S A s.heap H locs → lv_has ls 10 [(0, .ref h_mm), (1, .int p1), (2, .int p2), (3, .int p3), (4, .int p4), (5, .int z3), (6, .int z4), (7, .int z17), (8, .int z18), (9, .int x54)] → W p l e ({ frames := (fu + 1) + 3, cells := 0, slots := 0, locals := 29 * (fu + 1) + 71 } : Room) s m ([.ref h_mm, .int p1, .int p2, .int p3, .int p4] : List Value).toArray below meth c H locs 0 0 (MQ below (va_Qi (fun (r : Int32) (u : (Int32) × (Int32) × (Int32) × (Nat → Int32) × (Nat → Int32) × (Nat → Int32)) => (0 ≤ (u.1).toInt ∧ (u.1).toInt ≤ 256) ∧ (0 ≤ (u.2.1).toInt ∧ (u.2.1).toInt ≤ 7999) ∧ (0 ≤ (u.2.2.1).toInt ∧ (u.2.2.1).toInt ≤ 31) ∧ (Rg (-1) 7999 u.2.2.2.1) ∧ (Rg 0 31 u.2.2.2.2.1) ∧ (Rg 0 255 u.2.2.2.2.2) ∧ (0 ≤ r.toInt ∧ r.toInt ≤ 1) ∧ (BI i0 i1 N hz f_nv f_na f_nb f_nc u.2.2.2.1 u.2.2.2.2.1) ∧ (TRL (u.1).toInt u.2.2.2.2.2 u.2.2.2.1) ∧ (GRW (x_mm_trailed).toInt (u.1).toInt f_bto f_bin f_tra u.2.2.2.1 u.2.2.2.2.1 u.2.2.2.2.2) ∧ (UNX g (BDW f_bto f_bin) (BDW u.2.2.2.1 u.2.2.2.2.1) (PLR p1 p2) (PLR p3 p4) (r).toInt)) (fun (u : (Int32) × (Int32) × (Int32) × (Nat → Int32) × (Nat → Int32) × (Nat → Int32)) (t : State) => va_P (dC, dI) cls [(h_mm, .inr (8, (mo136 v_mm (.ref h_nv) (.ref h_nn) (.ref h_na) (.ref h_nb) (.ref h_nc) (.ref h_bto) (.ref h_bin) (.ref h_tra) (.int u.1) (.int u.2.1) (.int u.2.2.1)))), (h_nv, .inl (cy_nv, 8000, .inl f_nv)), (h_na, .inl (cy_na, 8000, .inl f_na)), (h_nb, .inl (cy_nb, 8000, .inl f_nb)), (h_nc, .inl (cy_nc, 8000, .inl f_nc)), (h_bto, .inl (cy_bto, 256, .inl u.2.2.2.1)), (h_bin, .inl (cy_bin, 256, .inl u.2.2.2.2.1)), (h_nn, .inl (cy_nn, 8000, .inr (.inl f_nn))), (h_tra, .inl (cy_tra, 256, .inl u.2.2.2.2.2))] t.heap ∧ va_D A [(h_mm, .inr (8, (mo136 v_mm (.ref h_nv) (.ref h_nn) (.ref h_na) (.ref h_nb) (.ref h_nc) (.ref h_bto) (.ref h_bin) (.ref h_tra) (.int u.1) (.int u.2.1) (.int u.2.2.1)))), (h_nv, .inl (cy_nv, 8000, .inl f_nv)), (h_na, .inl (cy_na, 8000, .inl f_na)), (h_nb, .inl (cy_nb, 8000, .inl f_nb)), (h_nc, .inl (cy_nc, 8000, .inl f_nc)), (h_bto, .inl (cy_bto, 256, .inl u.2.2.2.1)), (h_bin, .inl (cy_bin, 256, .inl u.2.2.2.2.1)), (h_nn, .inl (cy_nn, 8000, .inr (.inl f_nn))), (h_tra, .inl (cy_tra, 256, .inl u.2.2.2.2.2))]) A) ([.ref h_mm, .int p1, .int p2, .int p3, .int p4] : List Value).toArray s 0 0 A) (F0 m 197 ls []) := by
            clear hP hD hS hl
            intro n
            induction n with
            | zero => intro x54 f55 f56 f57 x58 x59 x60 H locs ls klp61_0 hf55 hf56 hf57 klp61_4 klp61_5 klp61_6 klp61_7 klp61_8 klp61_9 klp61_10 hm hP hD hS hl; exact False.elim (by omega)
            | succ n ih => 
              intro x54 f55 f56 f57 x58 x59 x60 H locs ls klp61_0 hf55 hf56 hf57 klp61_4 klp61_5 klp61_6 klp61_7 klp61_8 klp61_9 klp61_10 hm hP hD hS hl
              have ih62 := ih
              clear ih
              refine lv_iload hx hb dX11_unifies_197 (lv_at hl 9 rfl) ?_
              refine lv_aload_n hx hb dX11_unifies_199 rfl (lv_at hl 0 rfl) ?_
              refine lv_iload hx hb dX11_unifies_200 (lv_at hl 5 rfl) ?_
              obtain ⟨vq63, evq63⟩ := mq136_86 v_mm (.ref h_nn) (.ref h_bto) (.ref h_bin) (.ref h_tra) (.int x58) (.int x59) (.int x60)
              replace hP : va_P (dC, dI) cls [(h_nn, .inl (cy_nn, 8000, .inr (.inl f_nn))), (h_tra, .inl (cy_tra, 256, .inl f55)), (h_bto, .inl (cy_bto, 256, .inl f56)), (h_bin, .inl (cy_bin, 256, .inl f57)), (h_mm, .inr (8, (mo86 vq63 (.ref h_nv) (.ref h_na) (.ref h_nb) (.ref h_nc)))), (h_nv, .inl (cy_nv, 8000, .inl f_nv)), (h_na, .inl (cy_na, 8000, .inl f_na)), (h_nb, .inl (cy_nb, 8000, .inl f_nb)), (h_nc, .inl (cy_nc, 8000, .inl f_nc))] H := by rw [evq63]; exact hP
              replace hD : va_D A [(h_nn, .inl (cy_nn, 8000, .inr (.inl f_nn))), (h_tra, .inl (cy_tra, 256, .inl f55)), (h_bto, .inl (cy_bto, 256, .inl f56)), (h_bin, .inl (cy_bin, 256, .inl f57)), (h_mm, .inr (8, (mo86 vq63 (.ref h_nv) (.ref h_na) (.ref h_nb) (.ref h_nc)))), (h_nv, .inl (cy_nv, 8000, .inl f_nv)), (h_na, .inl (cy_na, 8000, .inl f_na)), (h_nb, .inl (cy_nb, 8000, .inl f_nb)), (h_nc, .inl (cy_nc, 8000, .inl f_nc))] := by rw [evq63]; exact hD
              have hPc := hP.sub (ws' := [(h_mm, .inr (8, (mo86 vq63 (.ref h_nv) (.ref h_na) (.ref h_nb) (.ref h_nc)))), (h_nv, .inl (cy_nv, 8000, .inl f_nv)), (h_na, .inl (cy_na, 8000, .inl f_na)), (h_nb, .inl (cy_nb, 8000, .inl f_nb)), (h_nc, .inl (cy_nc, 8000, .inl f_nc))]) [4, 5, 6, 7, 8] rfl
              have hDc := hD.sub (ws' := [(h_mm, .inr (8, (mo86 vq63 (.ref h_nv) (.ref h_na) (.ref h_nb) (.ref h_nc)))), (h_nv, .inl (cy_nv, 8000, .inl f_nv)), (h_na, .inl (cy_na, 8000, .inl f_na)), (h_nb, .inl (cy_nb, 8000, .inl f_nb)), (h_nc, .inl (cy_nc, 8000, .inl f_nc))]) [4, 5, 6, 7, 8] (by decide) rfl
              have hKc := hK.sub (tys' := [(cy_nv, .int), (cy_na, .int), (cy_nb, .int), (cy_nc, .int)]) [0, 1, 2, 3] rfl
              have hFc := va_free (wc := [(h_mm, .inr (8, (mo86 vq63 (.ref h_nv) (.ref h_na) (.ref h_nb) (.ref h_nc)))), (h_nv, .inl (cy_nv, 8000, .inl f_nv)), (h_na, .inl (cy_na, 8000, .inl f_na)), (h_nb, .inl (cy_nb, 8000, .inl f_nb)), (h_nc, .inl (cy_nc, 8000, .inl f_nc))]) hD hS hA [4, 5, 6, 7, 8] rfl
              refine va_calli (va_runV (As := [.int z3]) (rest := [.int x54]) ⟨hx, hb, hml, hown, hts⟩ (c_X11_partsAt_e l dC dI H.size h_mm h_nv h_na h_nb h_nc vq63 cy_nv f_nv cy_na f_na cy_nb f_nb cy_nc f_nc z3 hf_nv hf_na hf_nb hf_nc (by first | exact k6 | omega)) (cwV 1 hts (gv hT w_m_X11_27 w_instanceMethod_X11_partsAt ws_sel_X11_partsAt w_ini_X11 w_code_X11_partsAt) rfl rfl rfl (by decide +kernel) ⟨(by dsimp only [headSpec]; omega), (by dsimp only [headSpec]; omega)⟩) ⟨pre_blind, va_recv hK hP (ci := 8) (q0 := 4) rfl rfl, pre_of hPc hKc hDc hN⟩ rfl rfl hl.1 rfl (lv_room (Nat.le_of_ble_eq_true rfl)) dX11_unifies_202 ⟨(Nat.le_of_ble_eq_true rfl), (Nat.le_of_ble_eq_true rfl)⟩) hS (fun q _ h => hFc q h) hFc (fun r64 u t H locs ht hvm hq hB hz1 hk1 hS9 => ?_)
              obtain ⟨hP1, hD1⟩ := hB
              rw [ht] at hP1
              obtain ⟨hP9, hD9⟩ := va_join (wr := [(h_nn, .inl (cy_nn, 8000, .inr (.inl f_nn))), (h_tra, .inl (cy_tra, 256, .inl f55)), (h_bto, .inl (cy_bto, 256, .inl f56)), (h_bin, .inl (cy_bin, 256, .inl f57))]) (w1 := [(h_mm, .inr (8, (mo86 vq63 (.ref h_nv) (.ref h_na) (.ref h_nb) (.ref h_nc)))), (h_nv, .inl (cy_nv, 8000, .inl f_nv)), (h_na, .inl (cy_na, 8000, .inl f_na)), (h_nb, .inl (cy_nb, 8000, .inl f_nb)), (h_nc, .inl (cy_nc, 8000, .inl f_nc))]) hP hD [4, 5, 6, 7, 8] [0, 1, 2, 3] rfl rfl (by decide) (by decide) hk1 hFc hP1 hD1
              clear hP hD hS hPc hDc hKc hFc hP1 hD1 hk1 hz1 ht hvm
              have hP : va_P (dC, dI) cls [(h_nn, .inl (cy_nn, 8000, .inr (.inl f_nn))), (h_tra, .inl (cy_tra, 256, .inl f55)), (h_bto, .inl (cy_bto, 256, .inl f56)), (h_bin, .inl (cy_bin, 256, .inl f57)), (h_mm, .inr (8, (mo86 vq63 (.ref h_nv) (.ref h_na) (.ref h_nb) (.ref h_nc)))), (h_nv, .inl (cy_nv, 8000, .inl f_nv)), (h_na, .inl (cy_na, 8000, .inl f_na)), (h_nb, .inl (cy_nb, 8000, .inl f_nb)), (h_nc, .inl (cy_nc, 8000, .inl f_nc))] H := hP9
              have hD : va_D A [(h_nn, .inl (cy_nn, 8000, .inr (.inl f_nn))), (h_tra, .inl (cy_tra, 256, .inl f55)), (h_bto, .inl (cy_bto, 256, .inl f56)), (h_bin, .inl (cy_bin, 256, .inl f57)), (h_mm, .inr (8, (mo86 vq63 (.ref h_nv) (.ref h_na) (.ref h_nb) (.ref h_nc)))), (h_nv, .inl (cy_nv, 8000, .inl f_nv)), (h_na, .inl (cy_na, 8000, .inl f_na)), (h_nb, .inl (cy_nb, 8000, .inl f_nb)), (h_nc, .inl (cy_nc, 8000, .inl f_nc))] := hD9
              have hS := hS9
              clear hP9 hD9 hS9
              rw [evq63] at hP hD
              replace hP : va_P (dC, dI) cls [(h_nn, .inl (cy_nn, 8000, .inr (.inl f_nn))), (h_tra, .inl (cy_tra, 256, .inl f55)), (h_bto, .inl (cy_bto, 256, .inl f56)), (h_bin, .inl (cy_bin, 256, .inl f57)), (h_mm, .inr (8, (mo136 v_mm (.ref h_nv) (.ref h_nn) (.ref h_na) (.ref h_nb) (.ref h_nc) (.ref h_bto) (.ref h_bin) (.ref h_tra) (.int x58) (.int x59) (.int x60)))), (h_nv, .inl (cy_nv, 8000, .inl f_nv)), (h_na, .inl (cy_na, 8000, .inl f_na)), (h_nb, .inl (cy_nb, 8000, .inl f_nb)), (h_nc, .inl (cy_nc, 8000, .inl f_nc))] H := hP
              replace hD : va_D A [(h_nn, .inl (cy_nn, 8000, .inr (.inl f_nn))), (h_tra, .inl (cy_tra, 256, .inl f55)), (h_bto, .inl (cy_bto, 256, .inl f56)), (h_bin, .inl (cy_bin, 256, .inl f57)), (h_mm, .inr (8, (mo136 v_mm (.ref h_nv) (.ref h_nn) (.ref h_na) (.ref h_nb) (.ref h_nc) (.ref h_bto) (.ref h_bin) (.ref h_tra) (.int x58) (.int x59) (.int x60)))), (h_nv, .inl (cy_nv, 8000, .inl f_nv)), (h_na, .inl (cy_na, 8000, .inl f_na)), (h_nb, .inl (cy_nb, 8000, .inl f_nb)), (h_nc, .inl (cy_nc, 8000, .inl f_nc))] := hD
              clear evq63 
              obtain ⟨k65, k66⟩ := hq
              replace k65 : 0 ≤ (r64).toInt ∧ (r64).toInt ≤ 3 := k65
              replace k66 : ((r64)).toInt = (npx f_nv f_na f_nb f_nc ((z3)).toInt.toNat) := k66
              refine lv_icmp_ge (tgt := 243) hx hb dX11_unifies_205 (by decide) (fun c67 => ?_) (fun c67 => ?_)
              · have kc67 := (cv_le (rfl : (r64).toInt = (r64).toInt) (rfl : (x54).toInt = (x54).toInt)).mp c67
                refine lv_iconst (v := 1) hx hb dX11_unifies_243 (by decide) ?_
                replace hP : va_P (dC, dI) cls [(h_mm, .inr (8, (mo136 v_mm (.ref h_nv) (.ref h_nn) (.ref h_na) (.ref h_nb) (.ref h_nc) (.ref h_bto) (.ref h_bin) (.ref h_tra) (.int x58) (.int x59) (.int x60)))), (h_nv, .inl (cy_nv, 8000, .inl f_nv)), (h_na, .inl (cy_na, 8000, .inl f_na)), (h_nb, .inl (cy_nb, 8000, .inl f_nb)), (h_nc, .inl (cy_nc, 8000, .inl f_nc)), (h_bto, .inl (cy_bto, 256, .inl f56)), (h_bin, .inl (cy_bin, 256, .inl f57)), (h_nn, .inl (cy_nn, 8000, .inr (.inl f_nn))), (h_tra, .inl (cy_tra, 256, .inl f55))] H := hP.sub [4, 5, 6, 7, 8, 2, 3, 0, 1] rfl
                replace hD : va_D A [(h_mm, .inr (8, (mo136 v_mm (.ref h_nv) (.ref h_nn) (.ref h_na) (.ref h_nb) (.ref h_nc) (.ref h_bto) (.ref h_bin) (.ref h_tra) (.int x58) (.int x59) (.int x60)))), (h_nv, .inl (cy_nv, 8000, .inl f_nv)), (h_na, .inl (cy_na, 8000, .inl f_na)), (h_nb, .inl (cy_nb, 8000, .inl f_nb)), (h_nc, .inl (cy_nc, 8000, .inl f_nc)), (h_bto, .inl (cy_bto, 256, .inl f56)), (h_bin, .inl (cy_bin, 256, .inl f57)), (h_nn, .inl (cy_nn, 8000, .inr (.inl f_nn))), (h_tra, .inl (cy_tra, 256, .inl f55))] := hD.sub [4, 5, 6, 7, 8, 2, 3, 0, 1] (by decide) rfl
                refine W.widen (k := 0) (n := 0) (Nat.le_of_ble_eq_true rfl) (Nat.le_of_ble_eq_true rfl) ?_
                have cst1 : (1 : Int32).toInt = 1 := by decide
                have w68 : 0 ≤ ((x58)).toInt ∧ ((x58)).toInt ≤ 256 := by first | exact klp61_4 | omega
                have w69 : 0 ≤ ((x59)).toInt ∧ ((x59)).toInt ≤ 7999 := by first | exact klp61_5 | omega
                have w70 : 0 ≤ ((x60)).toInt ∧ ((x60)).toInt ≤ 31 := by first | exact klp61_6 | omega
                have w71 : 0 ≤ (1 : Int32).toInt ∧ (1 : Int32).toInt ≤ 1 := by omega
                have w72 : BI i0 i1 N hz f_nv f_na f_nb f_nc (f56) (f57) := klp61_7
                have w73 : TRL ((x58)).toInt (f55) (f56) := (trl_cast klp61_8 (by omega))
                have w74 : GRW (x_mm_trailed).toInt ((x58)).toInt f_bto f_bin f_tra (f56) (f57) (f55) := (gr_cast klp61_9 (by omega) (by omega))
                have w75 : UNX g (BDW f_bto f_bin) (BDW (f56) (f57)) (PLR p1 p2) (PLR p3 p4) ((1 : Int32)).toInt := (unk_end klp61_10 (by rw [ga9a]; omega) (by decide))
                exact W.zret (v := 1) (ty := .boolean) hx hb hr (by decide) (fun t ht hW => ⟨⟨1, (x58, x59, x60, f56, f57, f55), rfl, ⟨w68, w69, w70, hf56, hf57, hf55, w71, w72, w73, w74, w75⟩, by rw [ht]; exact hP, hD⟩, hS.F ht⟩) hS.2.2 dX11_unifies_244
              · have kc67 := (not_congr (cv_le (rfl : (r64).toInt = (r64).toInt) (rfl : (x54).toInt = (x54).toInt))).mp c67
                refine lv_aload_n hx hb dX11_unifies_208 rfl (lv_at hl 0 rfl) ?_
                refine lv_aload_n hx hb dX11_unifies_209 rfl (lv_at hl 0 rfl) ?_
                refine lv_iload hx hb dX11_unifies_210 (lv_at hl 5 rfl) ?_
                refine lv_iload hx hb dX11_unifies_212 (lv_at hl 9 rfl) ?_
                obtain ⟨vq76, evq76⟩ := mq136_85 v_mm (.ref h_nv) (.ref h_nn) (.ref h_bto) (.ref h_bin) (.ref h_tra) (.int x58) (.int x59) (.int x60)
                replace hP : va_P (dC, dI) cls [(h_nn, .inl (cy_nn, 8000, .inr (.inl f_nn))), (h_tra, .inl (cy_tra, 256, .inl f55)), (h_bto, .inl (cy_bto, 256, .inl f56)), (h_bin, .inl (cy_bin, 256, .inl f57)), (h_mm, .inr (8, (mo85 vq76 (.ref h_na) (.ref h_nb) (.ref h_nc)))), (h_nv, .inl (cy_nv, 8000, .inl f_nv)), (h_na, .inl (cy_na, 8000, .inl f_na)), (h_nb, .inl (cy_nb, 8000, .inl f_nb)), (h_nc, .inl (cy_nc, 8000, .inl f_nc))] H := by rw [evq76]; exact hP
                replace hD : va_D A [(h_nn, .inl (cy_nn, 8000, .inr (.inl f_nn))), (h_tra, .inl (cy_tra, 256, .inl f55)), (h_bto, .inl (cy_bto, 256, .inl f56)), (h_bin, .inl (cy_bin, 256, .inl f57)), (h_mm, .inr (8, (mo85 vq76 (.ref h_na) (.ref h_nb) (.ref h_nc)))), (h_nv, .inl (cy_nv, 8000, .inl f_nv)), (h_na, .inl (cy_na, 8000, .inl f_na)), (h_nb, .inl (cy_nb, 8000, .inl f_nb)), (h_nc, .inl (cy_nc, 8000, .inl f_nc))] := by rw [evq76]; exact hD
                have hPc := hP.sub (ws' := [(h_mm, .inr (8, (mo85 vq76 (.ref h_na) (.ref h_nb) (.ref h_nc)))), (h_na, .inl (cy_na, 8000, .inl f_na)), (h_nb, .inl (cy_nb, 8000, .inl f_nb)), (h_nc, .inl (cy_nc, 8000, .inl f_nc))]) [4, 6, 7, 8] rfl
                have hDc := hD.sub (ws' := [(h_mm, .inr (8, (mo85 vq76 (.ref h_na) (.ref h_nb) (.ref h_nc)))), (h_na, .inl (cy_na, 8000, .inl f_na)), (h_nb, .inl (cy_nb, 8000, .inl f_nb)), (h_nc, .inl (cy_nc, 8000, .inl f_nc))]) [4, 6, 7, 8] (by decide) rfl
                have hKc := hK.sub (tys' := [(cy_na, .int), (cy_nb, .int), (cy_nc, .int)]) [1, 2, 3] rfl
                have hFc := va_free (wc := [(h_mm, .inr (8, (mo85 vq76 (.ref h_na) (.ref h_nb) (.ref h_nc)))), (h_na, .inl (cy_na, 8000, .inl f_na)), (h_nb, .inl (cy_nb, 8000, .inl f_nb)), (h_nc, .inl (cy_nc, 8000, .inl f_nc))]) hD hS hA [4, 6, 7, 8] rfl
                refine va_calli (va_runV (As := [.int z3, .int x54]) (rest := [.ref h_mm]) ⟨hx, hb, hml, hown, hts⟩ (c_X11_part_e l dC dI H.size h_mm h_na h_nb h_nc vq76 cy_na f_na cy_nb f_nb cy_nc f_nc z3 x54 hf_na hf_nb hf_nc (by first | exact k6 | omega)) (cwV 2 hts (gv hT w_m_X11_31 w_instanceMethod_X11_part ws_sel_X11_part w_ini_X11 w_code_X11_part) rfl rfl rfl (by decide +kernel) ⟨(by dsimp only [headSpec]; omega), (by dsimp only [headSpec]; omega)⟩) ⟨pre_blind, va_recv hK hP (ci := 8) (q0 := 4) rfl rfl, pre_of hPc hKc hDc hN⟩ rfl rfl hl.1 rfl (lv_room (Nat.le_of_ble_eq_true rfl)) dX11_unifies_214 ⟨(Nat.le_of_ble_eq_true rfl), (Nat.le_of_ble_eq_true rfl)⟩) hS (fun q _ h => hFc q h) hFc (fun r77 u t H locs ht hvm hq hB hz1 hk1 hS9 => ?_)
                obtain ⟨hP1, hD1⟩ := hB
                rw [ht] at hP1
                obtain ⟨hP9, hD9⟩ := va_join (wr := [(h_nn, .inl (cy_nn, 8000, .inr (.inl f_nn))), (h_tra, .inl (cy_tra, 256, .inl f55)), (h_bto, .inl (cy_bto, 256, .inl f56)), (h_bin, .inl (cy_bin, 256, .inl f57)), (h_nv, .inl (cy_nv, 8000, .inl f_nv))]) (w1 := [(h_mm, .inr (8, (mo85 vq76 (.ref h_na) (.ref h_nb) (.ref h_nc)))), (h_na, .inl (cy_na, 8000, .inl f_na)), (h_nb, .inl (cy_nb, 8000, .inl f_nb)), (h_nc, .inl (cy_nc, 8000, .inl f_nc))]) hP hD [4, 6, 7, 8] [0, 1, 2, 3, 5] rfl rfl (by decide) (by decide) hk1 hFc hP1 hD1
                clear hP hD hS hPc hDc hKc hFc hP1 hD1 hk1 hz1 ht hvm
                have hP : va_P (dC, dI) cls [(h_nn, .inl (cy_nn, 8000, .inr (.inl f_nn))), (h_tra, .inl (cy_tra, 256, .inl f55)), (h_bto, .inl (cy_bto, 256, .inl f56)), (h_bin, .inl (cy_bin, 256, .inl f57)), (h_nv, .inl (cy_nv, 8000, .inl f_nv)), (h_mm, .inr (8, (mo85 vq76 (.ref h_na) (.ref h_nb) (.ref h_nc)))), (h_na, .inl (cy_na, 8000, .inl f_na)), (h_nb, .inl (cy_nb, 8000, .inl f_nb)), (h_nc, .inl (cy_nc, 8000, .inl f_nc))] H := hP9
                have hD : va_D A [(h_nn, .inl (cy_nn, 8000, .inr (.inl f_nn))), (h_tra, .inl (cy_tra, 256, .inl f55)), (h_bto, .inl (cy_bto, 256, .inl f56)), (h_bin, .inl (cy_bin, 256, .inl f57)), (h_nv, .inl (cy_nv, 8000, .inl f_nv)), (h_mm, .inr (8, (mo85 vq76 (.ref h_na) (.ref h_nb) (.ref h_nc)))), (h_na, .inl (cy_na, 8000, .inl f_na)), (h_nb, .inl (cy_nb, 8000, .inl f_nb)), (h_nc, .inl (cy_nc, 8000, .inl f_nc))] := hD9
                have hS := hS9
                clear hP9 hD9 hS9
                rw [evq76] at hP hD
                replace hP : va_P (dC, dI) cls [(h_nn, .inl (cy_nn, 8000, .inr (.inl f_nn))), (h_tra, .inl (cy_tra, 256, .inl f55)), (h_bto, .inl (cy_bto, 256, .inl f56)), (h_bin, .inl (cy_bin, 256, .inl f57)), (h_nv, .inl (cy_nv, 8000, .inl f_nv)), (h_mm, .inr (8, (mo136 v_mm (.ref h_nv) (.ref h_nn) (.ref h_na) (.ref h_nb) (.ref h_nc) (.ref h_bto) (.ref h_bin) (.ref h_tra) (.int x58) (.int x59) (.int x60)))), (h_na, .inl (cy_na, 8000, .inl f_na)), (h_nb, .inl (cy_nb, 8000, .inl f_nb)), (h_nc, .inl (cy_nc, 8000, .inl f_nc))] H := hP
                replace hD : va_D A [(h_nn, .inl (cy_nn, 8000, .inr (.inl f_nn))), (h_tra, .inl (cy_tra, 256, .inl f55)), (h_bto, .inl (cy_bto, 256, .inl f56)), (h_bin, .inl (cy_bin, 256, .inl f57)), (h_nv, .inl (cy_nv, 8000, .inl f_nv)), (h_mm, .inr (8, (mo136 v_mm (.ref h_nv) (.ref h_nn) (.ref h_na) (.ref h_nb) (.ref h_nc) (.ref h_bto) (.ref h_bin) (.ref h_tra) (.int x58) (.int x59) (.int x60)))), (h_na, .inl (cy_na, 8000, .inl f_na)), (h_nb, .inl (cy_nb, 8000, .inl f_nb)), (h_nc, .inl (cy_nc, 8000, .inl f_nc))] := hD
                clear evq76 
                obtain ⟨k78, k79⟩ := hq
                replace k78 : -1 ≤ (r77).toInt ∧ (r77).toInt ≤ 7999 := k78
                replace k79 : ((r77)).toInt = (ptx f_na f_nb f_nc ((z3)).toInt.toNat ((x54)).toInt).toInt := k79
                refine lv_iload hx hb dX11_unifies_217 (lv_at hl 6 rfl) ?_
                refine lv_aload_n hx hb dX11_unifies_219 rfl (lv_at hl 0 rfl) ?_
                refine lv_iload hx hb dX11_unifies_220 (lv_at hl 7 rfl) ?_
                refine lv_iload hx hb dX11_unifies_222 (lv_at hl 9 rfl) ?_
                obtain ⟨vq80, evq80⟩ := mq136_85 v_mm (.ref h_nv) (.ref h_nn) (.ref h_bto) (.ref h_bin) (.ref h_tra) (.int x58) (.int x59) (.int x60)
                replace hP : va_P (dC, dI) cls [(h_nn, .inl (cy_nn, 8000, .inr (.inl f_nn))), (h_tra, .inl (cy_tra, 256, .inl f55)), (h_bto, .inl (cy_bto, 256, .inl f56)), (h_bin, .inl (cy_bin, 256, .inl f57)), (h_nv, .inl (cy_nv, 8000, .inl f_nv)), (h_mm, .inr (8, (mo85 vq80 (.ref h_na) (.ref h_nb) (.ref h_nc)))), (h_na, .inl (cy_na, 8000, .inl f_na)), (h_nb, .inl (cy_nb, 8000, .inl f_nb)), (h_nc, .inl (cy_nc, 8000, .inl f_nc))] H := by rw [evq80]; exact hP
                replace hD : va_D A [(h_nn, .inl (cy_nn, 8000, .inr (.inl f_nn))), (h_tra, .inl (cy_tra, 256, .inl f55)), (h_bto, .inl (cy_bto, 256, .inl f56)), (h_bin, .inl (cy_bin, 256, .inl f57)), (h_nv, .inl (cy_nv, 8000, .inl f_nv)), (h_mm, .inr (8, (mo85 vq80 (.ref h_na) (.ref h_nb) (.ref h_nc)))), (h_na, .inl (cy_na, 8000, .inl f_na)), (h_nb, .inl (cy_nb, 8000, .inl f_nb)), (h_nc, .inl (cy_nc, 8000, .inl f_nc))] := by rw [evq80]; exact hD
                have hPc := hP.sub (ws' := [(h_mm, .inr (8, (mo85 vq80 (.ref h_na) (.ref h_nb) (.ref h_nc)))), (h_na, .inl (cy_na, 8000, .inl f_na)), (h_nb, .inl (cy_nb, 8000, .inl f_nb)), (h_nc, .inl (cy_nc, 8000, .inl f_nc))]) [5, 6, 7, 8] rfl
                have hDc := hD.sub (ws' := [(h_mm, .inr (8, (mo85 vq80 (.ref h_na) (.ref h_nb) (.ref h_nc)))), (h_na, .inl (cy_na, 8000, .inl f_na)), (h_nb, .inl (cy_nb, 8000, .inl f_nb)), (h_nc, .inl (cy_nc, 8000, .inl f_nc))]) [5, 6, 7, 8] (by decide) rfl
                have hKc := hK.sub (tys' := [(cy_na, .int), (cy_nb, .int), (cy_nc, .int)]) [1, 2, 3] rfl
                have hFc := va_free (wc := [(h_mm, .inr (8, (mo85 vq80 (.ref h_na) (.ref h_nb) (.ref h_nc)))), (h_na, .inl (cy_na, 8000, .inl f_na)), (h_nb, .inl (cy_nb, 8000, .inl f_nb)), (h_nc, .inl (cy_nc, 8000, .inl f_nc))]) hD hS hA [5, 6, 7, 8] rfl
                refine va_calli (va_runV (As := [.int z17, .int x54]) (rest := [.int z4, .int r77, .ref h_mm]) ⟨hx, hb, hml, hown, hts⟩ (c_X11_part_e l dC dI H.size h_mm h_na h_nb h_nc vq80 cy_na f_na cy_nb f_nb cy_nc f_nc z17 x54 hf_na hf_nb hf_nc (by first | exact k20 | omega)) (cwV 2 hts (gv hT w_m_X11_31 w_instanceMethod_X11_part ws_sel_X11_part w_ini_X11 w_code_X11_part) rfl rfl rfl (by decide +kernel) ⟨(by dsimp only [headSpec]; omega), (by dsimp only [headSpec]; omega)⟩) ⟨pre_blind, va_recv hK hP (ci := 8) (q0 := 5) rfl rfl, pre_of hPc hKc hDc hN⟩ rfl rfl hl.1 rfl (lv_room (Nat.le_of_ble_eq_true rfl)) dX11_unifies_224 ⟨(Nat.le_of_ble_eq_true rfl), (Nat.le_of_ble_eq_true rfl)⟩) hS (fun q _ h => hFc q h) hFc (fun r81 u t H locs ht hvm hq hB hz1 hk1 hS9 => ?_)
                obtain ⟨hP1, hD1⟩ := hB
                rw [ht] at hP1
                obtain ⟨hP9, hD9⟩ := va_join (wr := [(h_nn, .inl (cy_nn, 8000, .inr (.inl f_nn))), (h_tra, .inl (cy_tra, 256, .inl f55)), (h_bto, .inl (cy_bto, 256, .inl f56)), (h_bin, .inl (cy_bin, 256, .inl f57)), (h_nv, .inl (cy_nv, 8000, .inl f_nv))]) (w1 := [(h_mm, .inr (8, (mo85 vq80 (.ref h_na) (.ref h_nb) (.ref h_nc)))), (h_na, .inl (cy_na, 8000, .inl f_na)), (h_nb, .inl (cy_nb, 8000, .inl f_nb)), (h_nc, .inl (cy_nc, 8000, .inl f_nc))]) hP hD [5, 6, 7, 8] [0, 1, 2, 3, 4] rfl rfl (by decide) (by decide) hk1 hFc hP1 hD1
                clear hP hD hS hPc hDc hKc hFc hP1 hD1 hk1 hz1 ht hvm
                have hP : va_P (dC, dI) cls [(h_nn, .inl (cy_nn, 8000, .inr (.inl f_nn))), (h_tra, .inl (cy_tra, 256, .inl f55)), (h_bto, .inl (cy_bto, 256, .inl f56)), (h_bin, .inl (cy_bin, 256, .inl f57)), (h_nv, .inl (cy_nv, 8000, .inl f_nv)), (h_mm, .inr (8, (mo85 vq80 (.ref h_na) (.ref h_nb) (.ref h_nc)))), (h_na, .inl (cy_na, 8000, .inl f_na)), (h_nb, .inl (cy_nb, 8000, .inl f_nb)), (h_nc, .inl (cy_nc, 8000, .inl f_nc))] H := hP9
                have hD : va_D A [(h_nn, .inl (cy_nn, 8000, .inr (.inl f_nn))), (h_tra, .inl (cy_tra, 256, .inl f55)), (h_bto, .inl (cy_bto, 256, .inl f56)), (h_bin, .inl (cy_bin, 256, .inl f57)), (h_nv, .inl (cy_nv, 8000, .inl f_nv)), (h_mm, .inr (8, (mo85 vq80 (.ref h_na) (.ref h_nb) (.ref h_nc)))), (h_na, .inl (cy_na, 8000, .inl f_na)), (h_nb, .inl (cy_nb, 8000, .inl f_nb)), (h_nc, .inl (cy_nc, 8000, .inl f_nc))] := hD9
                have hS := hS9
                clear hP9 hD9 hS9
                rw [evq80] at hP hD
                replace hP : va_P (dC, dI) cls [(h_nn, .inl (cy_nn, 8000, .inr (.inl f_nn))), (h_tra, .inl (cy_tra, 256, .inl f55)), (h_bto, .inl (cy_bto, 256, .inl f56)), (h_bin, .inl (cy_bin, 256, .inl f57)), (h_nv, .inl (cy_nv, 8000, .inl f_nv)), (h_mm, .inr (8, (mo136 v_mm (.ref h_nv) (.ref h_nn) (.ref h_na) (.ref h_nb) (.ref h_nc) (.ref h_bto) (.ref h_bin) (.ref h_tra) (.int x58) (.int x59) (.int x60)))), (h_na, .inl (cy_na, 8000, .inl f_na)), (h_nb, .inl (cy_nb, 8000, .inl f_nb)), (h_nc, .inl (cy_nc, 8000, .inl f_nc))] H := hP
                replace hD : va_D A [(h_nn, .inl (cy_nn, 8000, .inr (.inl f_nn))), (h_tra, .inl (cy_tra, 256, .inl f55)), (h_bto, .inl (cy_bto, 256, .inl f56)), (h_bin, .inl (cy_bin, 256, .inl f57)), (h_nv, .inl (cy_nv, 8000, .inl f_nv)), (h_mm, .inr (8, (mo136 v_mm (.ref h_nv) (.ref h_nn) (.ref h_na) (.ref h_nb) (.ref h_nc) (.ref h_bto) (.ref h_bin) (.ref h_tra) (.int x58) (.int x59) (.int x60)))), (h_na, .inl (cy_na, 8000, .inl f_na)), (h_nb, .inl (cy_nb, 8000, .inl f_nb)), (h_nc, .inl (cy_nc, 8000, .inl f_nc))] := hD
                clear evq80 
                obtain ⟨k82, k83⟩ := hq
                replace k82 : -1 ≤ (r81).toInt ∧ (r81).toInt ≤ 7999 := k82
                replace k83 : ((r81)).toInt = (ptx f_na f_nb f_nc ((z17)).toInt.toNat ((x54)).toInt).toInt := k83
                have ca9e : ptx f_na f_nb f_nc (z3).toInt.toNat (x54).toInt = r77 := Int32.toInt_inj.mp (by omega)
                have ca9c := ch_ok (nv := f_nv) (k := (x54).toInt) (x := (z3).toInt.toNat) klp61_7.1 (by omega) (by omega)
                rw [ca9e] at ca9c
                have ca9p := pa_ch (k := (x54).toInt) (pa_mono klp61_9 k11) (by omega)
                rw [ca9e] at ca9p
                have cb9e : ptx f_na f_nb f_nc (z17).toInt.toNat (x54).toInt = r81 := Int32.toInt_inj.mp (by omega)
                have cb9c := ch_ok (nv := f_nv) (k := (x54).toInt) (x := (z17).toInt.toNat) klp61_7.1 (by omega) (by omega)
                rw [cb9e] at cb9c
                have cb9p := pa_ch (k := (x54).toInt) (pa_mono klp61_9 k25) (by omega)
                rw [cb9e] at cb9p
                have kg9a := grv_k (i := z4) hn_grv (show 0 ≤ (z3).toInt ∧ (z3).toInt < 8000 by omega) (by omega) ca9e
                have kg9b := grv_k (i := z18) hn_grv (show 0 ≤ (z17).toInt ∧ (z17).toInt < 8000 by omega) (by omega) cb9e
                refine lv_iload hx hb dX11_unifies_227 (lv_at hl 8 rfl) ?_
                have hPc := hP.sub (ws' := [(h_mm, .inr (8, (mo136 v_mm (.ref h_nv) (.ref h_nn) (.ref h_na) (.ref h_nb) (.ref h_nc) (.ref h_bto) (.ref h_bin) (.ref h_tra) (.int x58) (.int x59) (.int x60)))), (h_nv, .inl (cy_nv, 8000, .inl f_nv)), (h_na, .inl (cy_na, 8000, .inl f_na)), (h_nb, .inl (cy_nb, 8000, .inl f_nb)), (h_nc, .inl (cy_nc, 8000, .inl f_nc)), (h_bto, .inl (cy_bto, 256, .inl f56)), (h_bin, .inl (cy_bin, 256, .inl f57)), (h_nn, .inl (cy_nn, 8000, .inr (.inl f_nn))), (h_tra, .inl (cy_tra, 256, .inl f55))]) [5, 4, 6, 7, 8, 2, 3, 0, 1] rfl
                have hDc := hD.sub (ws' := [(h_mm, .inr (8, (mo136 v_mm (.ref h_nv) (.ref h_nn) (.ref h_na) (.ref h_nb) (.ref h_nc) (.ref h_bto) (.ref h_bin) (.ref h_tra) (.int x58) (.int x59) (.int x60)))), (h_nv, .inl (cy_nv, 8000, .inl f_nv)), (h_na, .inl (cy_na, 8000, .inl f_na)), (h_nb, .inl (cy_nb, 8000, .inl f_nb)), (h_nc, .inl (cy_nc, 8000, .inl f_nc)), (h_bto, .inl (cy_bto, 256, .inl f56)), (h_bin, .inl (cy_bin, 256, .inl f57)), (h_nn, .inl (cy_nn, 8000, .inr (.inl f_nn))), (h_tra, .inl (cy_tra, 256, .inl f55))]) [5, 4, 6, 7, 8, 2, 3, 0, 1] (by decide) rfl
                have hKc := hK.sub (tys' := [(cy_nv, .int), (cy_na, .int), (cy_nb, .int), (cy_nc, .int), (cy_bto, .int), (cy_bin, .int), (cy_nn, .long), (cy_tra, .int)]) [0, 1, 2, 3, 4, 5, 6, 7] rfl
                have hFc := va_free (wc := [(h_mm, .inr (8, (mo136 v_mm (.ref h_nv) (.ref h_nn) (.ref h_na) (.ref h_nb) (.ref h_nc) (.ref h_bto) (.ref h_bin) (.ref h_tra) (.int x58) (.int x59) (.int x60)))), (h_nv, .inl (cy_nv, 8000, .inl f_nv)), (h_na, .inl (cy_na, 8000, .inl f_na)), (h_nb, .inl (cy_nb, 8000, .inl f_nb)), (h_nc, .inl (cy_nc, 8000, .inl f_nc)), (h_bto, .inl (cy_bto, 256, .inl f56)), (h_bin, .inl (cy_bin, 256, .inl f57)), (h_nn, .inl (cy_nn, 8000, .inr (.inl f_nn))), (h_tra, .inl (cy_tra, 256, .inl f55))]) hD hS hA [5, 4, 6, 7, 8, 2, 3, 0, 1] rfl
                refine va_calli (va_runV (As := [.int r77, .int z4, .int r81, .int z18]) (rest := []) ⟨hx, hb, hml, hown, hts⟩ (ihf dC dI H.size h_mm h_nv h_na h_nb h_nc h_bto h_bin h_nn h_tra v_mm x58 x59 x60 cy_nv f_nv cy_na f_na cy_nb f_nb cy_nc f_nc cy_bto f56 cy_bin f57 cy_nn f_nn cy_tra f55 r77 z4 r81 z18 i0 i1 N hz g z5 z19 (by first | exact klp61_4 | omega) (by first | exact klp61_5 | omega) (by first | exact klp61_6 | omega) hf_nv hf_na hf_nb hf_nc hf56 hf57 hf55 (by first | exact q0 | omega) (by first | exact q1 | omega) (by omega) (by first | exact k9 | omega) (by omega) (by first | exact k23 | omega) (by omega) (by omega) klp61_7 (trl_cast klp61_8 (by omega)) ca9p cb9p hn_grv hn_grn) (cwV 4 hts (gv hT w_m_X11_284 w_instanceMethod_X11_unifies ws_sel_X11_unifies w_ini_X11 w_code_X11_unifies) rfl rfl rfl (by decide +kernel) ⟨(by dsimp only [headSpec]; omega), (by dsimp only [headSpec]; omega)⟩) ⟨pre_blind, va_recv hK hP (ci := 8) (q0 := 5) rfl rfl, pre_of hPc hKc hDc hN⟩ rfl rfl hl.1 rfl (lv_room (Nat.le_of_ble_eq_true rfl)) dX11_unifies_229 ⟨(Nat.le_of_ble_eq_true rfl), (Nat.le_of_ble_eq_true rfl)⟩) hS (fun q _ h => hFc q h) hFc (fun r84 u t H locs ht hvm hq hB hz1 hk1 hS9 => ?_)
                obtain ⟨z85, z86, z87, f88, f89, f90⟩ := u
                obtain ⟨hP1, hD1⟩ := hB
                rw [ht] at hP1
                obtain ⟨hP9, hD9⟩ := va_join (wr := []) (w1 := [(h_mm, .inr (8, (mo136 v_mm (.ref h_nv) (.ref h_nn) (.ref h_na) (.ref h_nb) (.ref h_nc) (.ref h_bto) (.ref h_bin) (.ref h_tra) (.int z85) (.int z86) (.int z87)))), (h_nv, .inl (cy_nv, 8000, .inl f_nv)), (h_na, .inl (cy_na, 8000, .inl f_na)), (h_nb, .inl (cy_nb, 8000, .inl f_nb)), (h_nc, .inl (cy_nc, 8000, .inl f_nc)), (h_bto, .inl (cy_bto, 256, .inl f88)), (h_bin, .inl (cy_bin, 256, .inl f89)), (h_nn, .inl (cy_nn, 8000, .inr (.inl f_nn))), (h_tra, .inl (cy_tra, 256, .inl f90))]) hP hD [5, 4, 6, 7, 8, 2, 3, 0, 1] [] rfl rfl (by decide) (by decide) hk1 hFc hP1 hD1
                clear hP hD hS hPc hDc hKc hFc hP1 hD1 hk1 hz1 ht hvm
                have hP : va_P (dC, dI) cls [(h_mm, .inr (8, (mo136 v_mm (.ref h_nv) (.ref h_nn) (.ref h_na) (.ref h_nb) (.ref h_nc) (.ref h_bto) (.ref h_bin) (.ref h_tra) (.int z85) (.int z86) (.int z87)))), (h_nv, .inl (cy_nv, 8000, .inl f_nv)), (h_na, .inl (cy_na, 8000, .inl f_na)), (h_nb, .inl (cy_nb, 8000, .inl f_nb)), (h_nc, .inl (cy_nc, 8000, .inl f_nc)), (h_bto, .inl (cy_bto, 256, .inl f88)), (h_bin, .inl (cy_bin, 256, .inl f89)), (h_nn, .inl (cy_nn, 8000, .inr (.inl f_nn))), (h_tra, .inl (cy_tra, 256, .inl f90))] H := hP9
                have hD : va_D A [(h_mm, .inr (8, (mo136 v_mm (.ref h_nv) (.ref h_nn) (.ref h_na) (.ref h_nb) (.ref h_nc) (.ref h_bto) (.ref h_bin) (.ref h_tra) (.int z85) (.int z86) (.int z87)))), (h_nv, .inl (cy_nv, 8000, .inl f_nv)), (h_na, .inl (cy_na, 8000, .inl f_na)), (h_nb, .inl (cy_nb, 8000, .inl f_nb)), (h_nc, .inl (cy_nc, 8000, .inl f_nc)), (h_bto, .inl (cy_bto, 256, .inl f88)), (h_bin, .inl (cy_bin, 256, .inl f89)), (h_nn, .inl (cy_nn, 8000, .inr (.inl f_nn))), (h_tra, .inl (cy_tra, 256, .inl f90))] := hD9
                have hS := hS9
                clear hP9 hD9 hS9
                obtain ⟨k91, k92, k93, hf88, hf89, hf90, k94, k95, k96, k97, k98⟩ := hq
                replace k91 : 0 ≤ ((z85)).toInt ∧ ((z85)).toInt ≤ 256 := k91
                replace k92 : 0 ≤ ((z86)).toInt ∧ ((z86)).toInt ≤ 7999 := k92
                replace k93 : 0 ≤ ((z87)).toInt ∧ ((z87)).toInt ≤ 31 := k93
                replace hf88 : Rg (-1) 7999 (f88) := hf88
                replace hf89 : Rg 0 31 (f89) := hf89
                replace hf90 : Rg 0 255 (f90) := hf90
                replace k94 : 0 ≤ (r84).toInt ∧ (r84).toInt ≤ 1 := k94
                replace k95 : BI (i0) (i1) (N) (hz) f_nv f_na f_nb f_nc (f88) (f89) := k95
                replace k96 : TRL ((z85)).toInt (f90) (f88) := k96
                replace k97 : GRW ((x58)).toInt ((z85)).toInt (f56) (f57) (f55) (f88) (f89) (f90) := k97
                replace k98 : UNX (g) (BDW (f56) (f57)) (BDW (f88) (f89)) (PLR (r77) (z4)) (PLR (r81) (z18)) ((r84)).toInt := k98
                have gr99 : GRW (x_mm_trailed).toInt (z85).toInt f_bto f_bin f_tra f88 f89 f90 := gr_trans hf90 klp61_9 k97
                refine lv_if_ne (tgt := 237) hx hb dX11_unifies_232 (by decide) (fun c100 => ?_) (fun c100 => ?_)
                · have kc100 := (not_congr (cv_eq (rfl : (r84).toInt = (r84).toInt) (by decide : (0 : Int32).toInt = 0))).mp c100
                  obtain ⟨z101, ez101⟩ : ∃ y : Int32, y = x54 + 1 := ⟨_, rfl⟩
                  have tz101 : (z101).toInt = (x54).toInt + 1 := by rw [ez101]; exact i_add rfl (by decide) (by omega)
                  refine lv_iinc (v := z101) (lv' := [(9, .int z101), (0, .ref h_mm), (1, .int p1), (2, .int p2), (3, .int p3), (4, .int p4), (5, .int z3), (6, .int z4), (7, .int z17), (8, .int z18)]) hx hb dX11_unifies_237 hl (k := 9) rfl (by rw [ez101]; rfl) (by decide) rfl (fun ls hl => ?_)
                  refine lv_goto (tgt := 197) hx hb dX11_unifies_240 (by decide) ?_
                  replace hP : va_P (dC, dI) cls [(h_nn, .inl (cy_nn, 8000, .inr (.inl f_nn))), (h_tra, .inl (cy_tra, 256, .inl f90)), (h_bto, .inl (cy_bto, 256, .inl f88)), (h_bin, .inl (cy_bin, 256, .inl f89)), (h_mm, .inr (8, (mo136 v_mm (.ref h_nv) (.ref h_nn) (.ref h_na) (.ref h_nb) (.ref h_nc) (.ref h_bto) (.ref h_bin) (.ref h_tra) (.int z85) (.int z86) (.int z87)))), (h_nv, .inl (cy_nv, 8000, .inl f_nv)), (h_na, .inl (cy_na, 8000, .inl f_na)), (h_nb, .inl (cy_nb, 8000, .inl f_nb)), (h_nc, .inl (cy_nc, 8000, .inl f_nc))] H := hP.sub [7, 8, 5, 6, 0, 1, 2, 3, 4] rfl
                  replace hD : va_D A [(h_nn, .inl (cy_nn, 8000, .inr (.inl f_nn))), (h_tra, .inl (cy_tra, 256, .inl f90)), (h_bto, .inl (cy_bto, 256, .inl f88)), (h_bin, .inl (cy_bin, 256, .inl f89)), (h_mm, .inr (8, (mo136 v_mm (.ref h_nv) (.ref h_nn) (.ref h_na) (.ref h_nb) (.ref h_nc) (.ref h_bto) (.ref h_bin) (.ref h_tra) (.int z85) (.int z86) (.int z87)))), (h_nv, .inl (cy_nv, 8000, .inl f_nv)), (h_na, .inl (cy_na, 8000, .inl f_na)), (h_nb, .inl (cy_nb, 8000, .inl f_nb)), (h_nc, .inl (cy_nc, 8000, .inl f_nc))] := hD.sub [7, 8, 5, 6, 0, 1, 2, 3, 4] (by decide) rfl
                  exact ih62 (z101) (f90) (f88) (f89) (z85) (z86) (z87) _ _ _ (by omega) hf90 hf88 hf89 (by first | exact k91 | omega) (by first | exact k92 | omega) (by first | exact k93 | omega) k95 (trl_cast k96 (by omega)) (gr_cast gr99 (by omega) (by omega)) (unk_step klp61_10 (by rw [ga9a]; omega) kg9a kg9b k98 (by omega) (by omega)) (by omega) hP hD hS (lv_sub hl [1, 2, 3, 4, 5, 6, 7, 8, 9, 0] rfl)
                · have kc100 := (cv_eq (rfl : (r84).toInt = (r84).toInt) (by decide : (0 : Int32).toInt = 0)).mp c100
                  refine lv_iconst (v := 0) hx hb dX11_unifies_235 (by decide) ?_
                  refine W.widen (k := 0) (n := 0) (Nat.le_of_ble_eq_true rfl) (Nat.le_of_ble_eq_true rfl) ?_
                  have cst0 : (0 : Int32).toInt = 0 := by decide
                  have w102 : 0 ≤ ((z85)).toInt ∧ ((z85)).toInt ≤ 256 := by first | exact k91 | omega
                  have w103 : 0 ≤ ((z86)).toInt ∧ ((z86)).toInt ≤ 7999 := by first | exact k92 | omega
                  have w104 : 0 ≤ ((z87)).toInt ∧ ((z87)).toInt ≤ 31 := by first | exact k93 | omega
                  have w105 : 0 ≤ (0 : Int32).toInt ∧ (0 : Int32).toInt ≤ 1 := by omega
                  have w106 : BI i0 i1 N hz f_nv f_na f_nb f_nc (f88) (f89) := k95
                  have w107 : TRL ((z85)).toInt (f90) (f88) := (trl_cast k96 (by omega))
                  have w108 : GRW (x_mm_trailed).toInt ((z85)).toInt f_bto f_bin f_tra (f88) (f89) (f90) := (gr_cast gr99 (by omega) (by omega))
                  have w109 : UNX g (BDW f_bto f_bin) (BDW (f88) (f89)) (PLR p1 p2) (PLR p3 p4) ((0 : Int32)).toInt := (unk_not klp61_10 (by rw [ga9a]; omega) kg9a kg9b k98 (by omega) (by decide))
                  exact W.zret (v := 0) (ty := .boolean) hx hb hr (by decide) (fun t ht hW => ⟨⟨0, (z85, z86, z87, f88, f89, f90), rfl, ⟨w102, w103, w104, hf88, hf89, hf90, w105, w106, w107, w108, w109⟩, by rw [ht]; exact hP, hD⟩, hS.F ht⟩) hS.2.2 dX11_unifies_236
          have cst0 : (0 : Int32).toInt = 0 := by decide
          exact lp61 _ (0) (f_tra) (f_bto) (f_bin) (x_mm_trailed) (z17) (z18) _ _ _ (by decide) hf_tra hf_bto hf_bin (by first | exact hx_mm_trailed | omega) (by first | exact k20 | omega) (by first | exact k21 | omega) hn_bi (trl_cast hn_trl (by omega)) (gr_cast gr0 (by omega) (by omega)) (unk_zero k14 k28 (by rw [gv9a]; omega) (by rw [gv9b]; omega) (by rw [gn9a, gn9b, ga9a, ga9b]; omega) rfl) (Nat.le_refl _) hP hD hS (lv_sub hl [5, 6, 7, 8, 9, 4, 3, 2, 1, 0] rfl)
        · have kc53 := (not_congr (cv_eq (rfl : (r46).toInt = (r46).toInt) (rfl : (r50).toInt = (r50).toInt))).mp c53
          have hvz31 : (f_nv (z17).toInt.toNat).toInt = (z31).toInt := by rw [ez31, (clamp_nat (i := z17) (by omega))]
          have gv9b := grv_v (i := z18) hn_grv (show 0 ≤ (z17).toInt ∧ (z17).toInt < 8000 by omega)
          have ga9b := grv_a (i := z18) hn_grv (show 0 ≤ (z17).toInt ∧ (z17).toInt < 8000 by omega)
          have gn9a := grn_n (i := z4) hn_grn (show 0 ≤ (z3).toInt ∧ (z3).toInt < 8000 by omega)
          have gn9b := grn_n (i := z18) hn_grn (show 0 ≤ (z17).toInt ∧ (z17).toInt < 8000 by omega)
          refine lv_iconst (v := 0) hx hb dX11_unifies_192 (by decide) ?_
          replace hP : va_P (dC, dI) cls [(h_mm, .inr (8, (mo136 v_mm (.ref h_nv) (.ref h_nn) (.ref h_na) (.ref h_nb) (.ref h_nc) (.ref h_bto) (.ref h_bin) (.ref h_tra) (.int x_mm_trailed) (.int z17) (.int z18)))), (h_nv, .inl (cy_nv, 8000, .inl f_nv)), (h_na, .inl (cy_na, 8000, .inl f_na)), (h_nb, .inl (cy_nb, 8000, .inl f_nb)), (h_nc, .inl (cy_nc, 8000, .inl f_nc)), (h_bto, .inl (cy_bto, 256, .inl f_bto)), (h_bin, .inl (cy_bin, 256, .inl f_bin)), (h_nn, .inl (cy_nn, 8000, .inr (.inl f_nn))), (h_tra, .inl (cy_tra, 256, .inl f_tra))] H := hP.sub [4, 5, 6, 7, 8, 2, 3, 0, 1] rfl
          replace hD : va_D A [(h_mm, .inr (8, (mo136 v_mm (.ref h_nv) (.ref h_nn) (.ref h_na) (.ref h_nb) (.ref h_nc) (.ref h_bto) (.ref h_bin) (.ref h_tra) (.int x_mm_trailed) (.int z17) (.int z18)))), (h_nv, .inl (cy_nv, 8000, .inl f_nv)), (h_na, .inl (cy_na, 8000, .inl f_na)), (h_nb, .inl (cy_nb, 8000, .inl f_nb)), (h_nc, .inl (cy_nc, 8000, .inl f_nc)), (h_bto, .inl (cy_bto, 256, .inl f_bto)), (h_bin, .inl (cy_bin, 256, .inl f_bin)), (h_nn, .inl (cy_nn, 8000, .inr (.inl f_nn))), (h_tra, .inl (cy_tra, 256, .inl f_tra))] := hD.sub [4, 5, 6, 7, 8, 2, 3, 0, 1] (by decide) rfl
          refine W.widen (k := 0) (n := 0) (Nat.le_of_ble_eq_true rfl) (Nat.le_of_ble_eq_true rfl) ?_
          have cst0 : (0 : Int32).toInt = 0 := by decide
          have w110 : 0 ≤ ((x_mm_trailed)).toInt ∧ ((x_mm_trailed)).toInt ≤ 256 := by first | exact hx_mm_trailed | omega
          have w111 : 0 ≤ ((z17)).toInt ∧ ((z17)).toInt ≤ 7999 := by first | exact k20 | omega
          have w112 : 0 ≤ ((z18)).toInt ∧ ((z18)).toInt ≤ 31 := by first | exact k21 | omega
          have w113 : 0 ≤ (0 : Int32).toInt ∧ (0 : Int32).toInt ≤ 1 := by omega
          have w114 : BI i0 i1 N hz f_nv f_na f_nb f_nc (f_bto) (f_bin) := hn_bi
          have w115 : TRL ((x_mm_trailed)).toInt (f_tra) (f_bto) := (trl_cast hn_trl (by omega))
          have w116 : GRW (x_mm_trailed).toInt ((x_mm_trailed)).toInt f_bto f_bin f_tra (f_bto) (f_bin) (f_tra) := (gr_cast gr0 (by omega) (by omega))
          have w117 : UNX g (BDW f_bto f_bin) (BDW (f_bto) (f_bin)) (PLR p1 p2) (PLR p3 p4) ((0 : Int32)).toInt := (unx_name k14 k28 (by rw [gv9a]; omega) (by rw [gv9b]; omega) (by rw [gn9a, gn9b, ga9a, ga9b]; omega) (by decide))
          exact W.zret (v := 0) (ty := .boolean) hx hb hr (by decide) (fun t ht hW => ⟨⟨0, (x_mm_trailed, z17, z18, f_bto, f_bin, f_tra), rfl, ⟨w110, w111, w112, hf_bto, hf_bin, hf_tra, w113, w114, w115, w116, w117⟩, by rw [ht]; exact hP, hD⟩, hS.F ht⟩) hS.2.2 dX11_unifies_193
    · have kc32 := (not_congr (cv_eq (rfl : (z31).toInt = (z31).toInt) (by decide : ((-1) : Int32).toInt = -1))).mp c32
      refine lv_aload_n hx hb dX11_unifies_122 rfl (lv_at hl 4 rfl) ?_
      refine lv_iload hx hb dX11_unifies_123 (lv_at hl 1 rfl) ?_
      refine lv_iload hx hb dX11_unifies_125 (lv_at hl 0 rfl) ?_
      obtain ⟨vq118, evq118⟩ := mq136_129 v_mm (.ref h_nn) (.ref h_na) (.ref h_nb) (.ref h_nc) (.ref h_bto) (.ref h_bin) (.ref h_tra) (.int x_mm_trailed) (.int z17) (.int z18)
      replace hP : va_P (dC, dI) cls [(h_nn, .inl (cy_nn, 8000, .inr (.inl f_nn))), (h_tra, .inl (cy_tra, 256, .inl f_tra)), (h_mm, .inr (8, (mo129 vq118 (.ref h_nv)))), (h_nv, .inl (cy_nv, 8000, .inl f_nv)), (h_na, .inl (cy_na, 8000, .inl f_na)), (h_nb, .inl (cy_nb, 8000, .inl f_nb)), (h_nc, .inl (cy_nc, 8000, .inl f_nc)), (h_bto, .inl (cy_bto, 256, .inl f_bto)), (h_bin, .inl (cy_bin, 256, .inl f_bin))] H := by rw [evq118]; exact hP
      replace hD : va_D A [(h_nn, .inl (cy_nn, 8000, .inr (.inl f_nn))), (h_tra, .inl (cy_tra, 256, .inl f_tra)), (h_mm, .inr (8, (mo129 vq118 (.ref h_nv)))), (h_nv, .inl (cy_nv, 8000, .inl f_nv)), (h_na, .inl (cy_na, 8000, .inl f_na)), (h_nb, .inl (cy_nb, 8000, .inl f_nb)), (h_nc, .inl (cy_nc, 8000, .inl f_nc)), (h_bto, .inl (cy_bto, 256, .inl f_bto)), (h_bin, .inl (cy_bin, 256, .inl f_bin))] := by rw [evq118]; exact hD
      have hPc := hP.sub (ws' := [(h_mm, .inr (8, (mo129 vq118 (.ref h_nv)))), (h_nv, .inl (cy_nv, 8000, .inl f_nv))]) [2, 3] rfl
      have hDc := hD.sub (ws' := [(h_mm, .inr (8, (mo129 vq118 (.ref h_nv)))), (h_nv, .inl (cy_nv, 8000, .inl f_nv))]) [2, 3] (by decide) rfl
      have hKc := hK.sub (tys' := [(cy_nv, .int)]) [0] rfl
      have hFc := va_free (wc := [(h_mm, .inr (8, (mo129 vq118 (.ref h_nv)))), (h_nv, .inl (cy_nv, 8000, .inl f_nv))]) hD hS hA [2, 3] rfl
      refine va_calli (va_runV (As := [.int z17, .int z18]) (rest := []) ⟨hx, hb, hml, hown, hts⟩ (c_X11_slotOf l dC dI H.size h_mm h_nv vq118 cy_nv f_nv z17 z18 hf_nv (by first | exact k20 | omega) (by first | exact k21 | omega)) (cwV 2 hts (gv hT w_m_X11_270 w_instanceMethod_X11_slotOf ws_sel_X11_slotOf w_ini_X11 w_code_X11_slotOf) rfl rfl rfl (by decide +kernel) ⟨(by dsimp only [headSpec]; omega), (by dsimp only [headSpec]; omega)⟩) ⟨pre_blind, va_recv hK hP (ci := 8) (q0 := 2) rfl rfl, pre_of hPc hKc hDc hN⟩ rfl rfl hl.1 rfl (lv_room (Nat.le_of_ble_eq_true rfl)) dX11_unifies_127 ⟨(Nat.le_of_ble_eq_true rfl), (Nat.le_of_ble_eq_true rfl)⟩) hS (fun q _ h => hFc q h) hFc (fun r119 u t H locs ht hvm hq hB hz1 hk1 hS9 => ?_)
      obtain ⟨hP1, hD1⟩ := hB
      rw [ht] at hP1
      obtain ⟨hP9, hD9⟩ := va_join (wr := [(h_nn, .inl (cy_nn, 8000, .inr (.inl f_nn))), (h_tra, .inl (cy_tra, 256, .inl f_tra)), (h_na, .inl (cy_na, 8000, .inl f_na)), (h_nb, .inl (cy_nb, 8000, .inl f_nb)), (h_nc, .inl (cy_nc, 8000, .inl f_nc)), (h_bto, .inl (cy_bto, 256, .inl f_bto)), (h_bin, .inl (cy_bin, 256, .inl f_bin))]) (w1 := [(h_mm, .inr (8, (mo129 vq118 (.ref h_nv)))), (h_nv, .inl (cy_nv, 8000, .inl f_nv))]) hP hD [2, 3] [0, 1, 4, 5, 6, 7, 8] rfl rfl (by decide) (by decide) hk1 hFc hP1 hD1
      clear hP hD hS hPc hDc hKc hFc hP1 hD1 hk1 hz1 ht hvm
      have hP : va_P (dC, dI) cls [(h_nn, .inl (cy_nn, 8000, .inr (.inl f_nn))), (h_tra, .inl (cy_tra, 256, .inl f_tra)), (h_na, .inl (cy_na, 8000, .inl f_na)), (h_nb, .inl (cy_nb, 8000, .inl f_nb)), (h_nc, .inl (cy_nc, 8000, .inl f_nc)), (h_bto, .inl (cy_bto, 256, .inl f_bto)), (h_bin, .inl (cy_bin, 256, .inl f_bin)), (h_mm, .inr (8, (mo129 vq118 (.ref h_nv)))), (h_nv, .inl (cy_nv, 8000, .inl f_nv))] H := hP9
      have hD : va_D A [(h_nn, .inl (cy_nn, 8000, .inr (.inl f_nn))), (h_tra, .inl (cy_tra, 256, .inl f_tra)), (h_na, .inl (cy_na, 8000, .inl f_na)), (h_nb, .inl (cy_nb, 8000, .inl f_nb)), (h_nc, .inl (cy_nc, 8000, .inl f_nc)), (h_bto, .inl (cy_bto, 256, .inl f_bto)), (h_bin, .inl (cy_bin, 256, .inl f_bin)), (h_mm, .inr (8, (mo129 vq118 (.ref h_nv)))), (h_nv, .inl (cy_nv, 8000, .inl f_nv))] := hD9
      have hS := hS9
      clear hP9 hD9 hS9
      rw [evq118] at hP hD
      replace hP : va_P (dC, dI) cls [(h_nn, .inl (cy_nn, 8000, .inr (.inl f_nn))), (h_tra, .inl (cy_tra, 256, .inl f_tra)), (h_na, .inl (cy_na, 8000, .inl f_na)), (h_nb, .inl (cy_nb, 8000, .inl f_nb)), (h_nc, .inl (cy_nc, 8000, .inl f_nc)), (h_bto, .inl (cy_bto, 256, .inl f_bto)), (h_bin, .inl (cy_bin, 256, .inl f_bin)), (h_mm, .inr (8, (mo136 v_mm (.ref h_nv) (.ref h_nn) (.ref h_na) (.ref h_nb) (.ref h_nc) (.ref h_bto) (.ref h_bin) (.ref h_tra) (.int x_mm_trailed) (.int z17) (.int z18)))), (h_nv, .inl (cy_nv, 8000, .inl f_nv))] H := hP
      replace hD : va_D A [(h_nn, .inl (cy_nn, 8000, .inr (.inl f_nn))), (h_tra, .inl (cy_tra, 256, .inl f_tra)), (h_na, .inl (cy_na, 8000, .inl f_na)), (h_nb, .inl (cy_nb, 8000, .inl f_nb)), (h_nc, .inl (cy_nc, 8000, .inl f_nc)), (h_bto, .inl (cy_bto, 256, .inl f_bto)), (h_bin, .inl (cy_bin, 256, .inl f_bin)), (h_mm, .inr (8, (mo136 v_mm (.ref h_nv) (.ref h_nn) (.ref h_na) (.ref h_nb) (.ref h_nc) (.ref h_bto) (.ref h_bin) (.ref h_tra) (.int x_mm_trailed) (.int z17) (.int z18)))), (h_nv, .inl (cy_nv, 8000, .inl f_nv))] := hD
      clear evq118 
      obtain ⟨k120, k121⟩ := hq
      replace k120 : -1 ≤ (r119).toInt ∧ (r119).toInt ≤ 255 := k120
      replace k121 : ((r119)).toInt = 8 * ((z18)).toInt + (f_nv ((z17)).toInt.toNat).toInt := k121
      refine lv_istore (lv' := [(9, .int r119), (8, .int z18), (7, .int z17), (6, .int z4), (5, .int z3), (0, .ref h_mm), (1, .int p1), (2, .int p2), (3, .int p3), (4, .int p4)]) hx hb dX11_unifies_130 hl (by decide) rfl (fun ls hl => ?_)
      have hvz31 : (f_nv (z17).toInt.toNat).toInt = (z31).toInt := by rw [ez31, (clamp_nat (i := z17) (by omega))]
      have gv9b := grv_v (i := z18) hn_grv (show 0 ≤ (z17).toInt ∧ (z17).toInt < 8000 by omega)
      have gc9b := grv_c (i := z18) hn_grv (show 0 ≤ (z17).toInt ∧ (z17).toInt < 8000 by omega) (by omega) (by omega)
      have sl9 : (r119).toInt.toNat = g.2.1 (PLR z17 z18) := by omega
      have hvz31 : (f_nv (z17).toInt.toNat).toInt = (z31).toInt := by rw [ez31, (clamp_nat (i := z17) (by omega))]
      have hb9 : (f_bto (r119).toInt.toNat).toInt = -1 := by have h9 := (k26).resolve_left (by omega); rwa [show (8 * (z18).toInt + (f_nv (z17).toInt.toNat).toInt).toNat = (r119).toInt.toNat by omega] at h9
      refine lv_aload_n hx hb dX11_unifies_132 rfl (lv_at hl 5 rfl) ?_
      refine lv_iload hx hb dX11_unifies_133 (lv_at hl 4 rfl) ?_
      refine lv_iload hx hb dX11_unifies_135 (lv_at hl 3 rfl) ?_
      refine lv_iload hx hb dX11_unifies_137 (lv_at hl 0 rfl) ?_
      obtain ⟨vq122, evq122⟩ := mq136_134 v_mm (.ref h_nn) (.ref h_tra) (.int x_mm_trailed)
      replace hP : va_P (dC, dI) cls [(h_nn, .inl (cy_nn, 8000, .inr (.inl f_nn))), (h_tra, .inl (cy_tra, 256, .inl f_tra)), (h_na, .inl (cy_na, 8000, .inl f_na)), (h_nb, .inl (cy_nb, 8000, .inl f_nb)), (h_nc, .inl (cy_nc, 8000, .inl f_nc)), (h_bto, .inl (cy_bto, 256, .inl f_bto)), (h_bin, .inl (cy_bin, 256, .inl f_bin)), (h_mm, .inr (8, (mo134 vq122 (.ref h_nv) (.ref h_na) (.ref h_nb) (.ref h_nc) (.ref h_bto) (.ref h_bin) (.int z17) (.int z18)))), (h_nv, .inl (cy_nv, 8000, .inl f_nv))] H := by rw [evq122]; exact hP
      replace hD : va_D A [(h_nn, .inl (cy_nn, 8000, .inr (.inl f_nn))), (h_tra, .inl (cy_tra, 256, .inl f_tra)), (h_na, .inl (cy_na, 8000, .inl f_na)), (h_nb, .inl (cy_nb, 8000, .inl f_nb)), (h_nc, .inl (cy_nc, 8000, .inl f_nc)), (h_bto, .inl (cy_bto, 256, .inl f_bto)), (h_bin, .inl (cy_bin, 256, .inl f_bin)), (h_mm, .inr (8, (mo134 vq122 (.ref h_nv) (.ref h_na) (.ref h_nb) (.ref h_nc) (.ref h_bto) (.ref h_bin) (.int z17) (.int z18)))), (h_nv, .inl (cy_nv, 8000, .inl f_nv))] := by rw [evq122]; exact hD
      have hPc := hP.sub (ws' := [(h_mm, .inr (8, (mo134 vq122 (.ref h_nv) (.ref h_na) (.ref h_nb) (.ref h_nc) (.ref h_bto) (.ref h_bin) (.int z17) (.int z18)))), (h_nv, .inl (cy_nv, 8000, .inl f_nv)), (h_na, .inl (cy_na, 8000, .inl f_na)), (h_nb, .inl (cy_nb, 8000, .inl f_nb)), (h_nc, .inl (cy_nc, 8000, .inl f_nc)), (h_bto, .inl (cy_bto, 256, .inl f_bto)), (h_bin, .inl (cy_bin, 256, .inl f_bin))]) [7, 8, 2, 3, 4, 5, 6] rfl
      have hDc := hD.sub (ws' := [(h_mm, .inr (8, (mo134 vq122 (.ref h_nv) (.ref h_na) (.ref h_nb) (.ref h_nc) (.ref h_bto) (.ref h_bin) (.int z17) (.int z18)))), (h_nv, .inl (cy_nv, 8000, .inl f_nv)), (h_na, .inl (cy_na, 8000, .inl f_na)), (h_nb, .inl (cy_nb, 8000, .inl f_nb)), (h_nc, .inl (cy_nc, 8000, .inl f_nc)), (h_bto, .inl (cy_bto, 256, .inl f_bto)), (h_bin, .inl (cy_bin, 256, .inl f_bin))]) [7, 8, 2, 3, 4, 5, 6] (by decide) rfl
      have hKc := hK.sub (tys' := [(cy_nv, .int), (cy_na, .int), (cy_nb, .int), (cy_nc, .int), (cy_bto, .int), (cy_bin, .int)]) [0, 1, 2, 3, 4, 5] rfl
      have hFc := va_free (wc := [(h_mm, .inr (8, (mo134 vq122 (.ref h_nv) (.ref h_na) (.ref h_nb) (.ref h_nc) (.ref h_bto) (.ref h_bin) (.int z17) (.int z18)))), (h_nv, .inl (cy_nv, 8000, .inl f_nv)), (h_na, .inl (cy_na, 8000, .inl f_na)), (h_nb, .inl (cy_nb, 8000, .inl f_nb)), (h_nc, .inl (cy_nc, 8000, .inl f_nc)), (h_bto, .inl (cy_bto, 256, .inl f_bto)), (h_bin, .inl (cy_bin, 256, .inl f_bin))]) hD hS hA [7, 8, 2, 3, 4, 5, 6] rfl
      refine va_calli (va_runV (As := [.int z3, .int z4, .int r119]) (rest := []) ⟨hx, hb, hml, hown, hts⟩ (c_X11_holds l (fu + 1) dC dI H.size h_mm h_nv h_na h_nb h_nc h_bto h_bin vq122 z17 z18 cy_nv f_nv cy_na f_na cy_nb f_nb cy_nc f_nc cy_bto f_bto cy_bin f_bin z3 z4 r119 i0 i1 N hz g z5 (by first | exact k20 | omega) (by first | exact k21 | omega) hf_nv hf_na hf_nb hf_nc hf_bto hf_bin (by first | exact q0 | omega) (by first | exact q1 | omega) (by first | exact k8 | omega) (by first | exact k9 | omega) (by omega) (by first | exact k10 | omega) (by omega) hn_bi k11 hn_grv) (cwV 3 hts (gv hT w_m_X11_276 w_instanceMethod_X11_holds ws_sel_X11_holds w_ini_X11 w_code_X11_holds) rfl rfl rfl (by decide +kernel) ⟨(by dsimp only [headSpec]; omega), (by dsimp only [headSpec]; omega)⟩) ⟨pre_blind, va_recv hK hP (ci := 8) (q0 := 7) rfl rfl, pre_of hPc hKc hDc hN⟩ rfl rfl hl.1 rfl (lv_room (Nat.le_of_ble_eq_true rfl)) dX11_unifies_139 ⟨(Nat.le_of_ble_eq_true rfl), (Nat.le_of_ble_eq_true rfl)⟩) hS (fun q _ h => hFc q h) hFc (fun r123 u t H locs ht hvm hq hB hz1 hk1 hS9 => ?_)
      obtain ⟨z124, z125⟩ := u
      obtain ⟨hP1, hD1⟩ := hB
      rw [ht] at hP1
      obtain ⟨hP9, hD9⟩ := va_join (wr := [(h_nn, .inl (cy_nn, 8000, .inr (.inl f_nn))), (h_tra, .inl (cy_tra, 256, .inl f_tra))]) (w1 := [(h_mm, .inr (8, (mo134 vq122 (.ref h_nv) (.ref h_na) (.ref h_nb) (.ref h_nc) (.ref h_bto) (.ref h_bin) (.int z124) (.int z125)))), (h_nv, .inl (cy_nv, 8000, .inl f_nv)), (h_na, .inl (cy_na, 8000, .inl f_na)), (h_nb, .inl (cy_nb, 8000, .inl f_nb)), (h_nc, .inl (cy_nc, 8000, .inl f_nc)), (h_bto, .inl (cy_bto, 256, .inl f_bto)), (h_bin, .inl (cy_bin, 256, .inl f_bin))]) hP hD [7, 8, 2, 3, 4, 5, 6] [0, 1] rfl rfl (by decide) (by decide) hk1 hFc hP1 hD1
      clear hP hD hS hPc hDc hKc hFc hP1 hD1 hk1 hz1 ht hvm
      have hP : va_P (dC, dI) cls [(h_nn, .inl (cy_nn, 8000, .inr (.inl f_nn))), (h_tra, .inl (cy_tra, 256, .inl f_tra)), (h_mm, .inr (8, (mo134 vq122 (.ref h_nv) (.ref h_na) (.ref h_nb) (.ref h_nc) (.ref h_bto) (.ref h_bin) (.int z124) (.int z125)))), (h_nv, .inl (cy_nv, 8000, .inl f_nv)), (h_na, .inl (cy_na, 8000, .inl f_na)), (h_nb, .inl (cy_nb, 8000, .inl f_nb)), (h_nc, .inl (cy_nc, 8000, .inl f_nc)), (h_bto, .inl (cy_bto, 256, .inl f_bto)), (h_bin, .inl (cy_bin, 256, .inl f_bin))] H := hP9
      have hD : va_D A [(h_nn, .inl (cy_nn, 8000, .inr (.inl f_nn))), (h_tra, .inl (cy_tra, 256, .inl f_tra)), (h_mm, .inr (8, (mo134 vq122 (.ref h_nv) (.ref h_na) (.ref h_nb) (.ref h_nc) (.ref h_bto) (.ref h_bin) (.int z124) (.int z125)))), (h_nv, .inl (cy_nv, 8000, .inl f_nv)), (h_na, .inl (cy_na, 8000, .inl f_na)), (h_nb, .inl (cy_nb, 8000, .inl f_nb)), (h_nc, .inl (cy_nc, 8000, .inl f_nc)), (h_bto, .inl (cy_bto, 256, .inl f_bto)), (h_bin, .inl (cy_bin, 256, .inl f_bin))] := hD9
      have hS := hS9
      clear hP9 hD9 hS9
      rw [evq122] at hP hD
      replace hP : va_P (dC, dI) cls [(h_nn, .inl (cy_nn, 8000, .inr (.inl f_nn))), (h_tra, .inl (cy_tra, 256, .inl f_tra)), (h_mm, .inr (8, (mo136 v_mm (.ref h_nv) (.ref h_nn) (.ref h_na) (.ref h_nb) (.ref h_nc) (.ref h_bto) (.ref h_bin) (.ref h_tra) (.int x_mm_trailed) (.int z124) (.int z125)))), (h_nv, .inl (cy_nv, 8000, .inl f_nv)), (h_na, .inl (cy_na, 8000, .inl f_na)), (h_nb, .inl (cy_nb, 8000, .inl f_nb)), (h_nc, .inl (cy_nc, 8000, .inl f_nc)), (h_bto, .inl (cy_bto, 256, .inl f_bto)), (h_bin, .inl (cy_bin, 256, .inl f_bin))] H := hP
      replace hD : va_D A [(h_nn, .inl (cy_nn, 8000, .inr (.inl f_nn))), (h_tra, .inl (cy_tra, 256, .inl f_tra)), (h_mm, .inr (8, (mo136 v_mm (.ref h_nv) (.ref h_nn) (.ref h_na) (.ref h_nb) (.ref h_nc) (.ref h_bto) (.ref h_bin) (.ref h_tra) (.int x_mm_trailed) (.int z124) (.int z125)))), (h_nv, .inl (cy_nv, 8000, .inl f_nv)), (h_na, .inl (cy_na, 8000, .inl f_na)), (h_nb, .inl (cy_nb, 8000, .inl f_nb)), (h_nc, .inl (cy_nc, 8000, .inl f_nc)), (h_bto, .inl (cy_bto, 256, .inl f_bto)), (h_bin, .inl (cy_bin, 256, .inl f_bin))] := hD
      clear evq122 
      obtain ⟨k126, k127, k128, k129, k130⟩ := hq
      replace k126 : 0 ≤ ((z124)).toInt ∧ ((z124)).toInt ≤ 7999 := k126
      replace k127 : 0 ≤ ((z125)).toInt ∧ ((z125)).toInt ≤ 31 := k127
      replace k128 : 0 ≤ (r123).toInt ∧ (r123).toInt ≤ 1 := k128
      replace k129 : ((r123)).toInt = 1 ∨ NR f_nv f_na f_nb f_nc f_bto f_bin ((z3)).toInt.toNat ((z4)).toInt ((r119)).toInt.toNat := k129
      replace k130 : (((r123)).toInt = 1 ∧ OCC (g) (BDW f_bto f_bin) (PLR (z3) (z4)) ((r119)).toInt.toNat) ∨ (((r123)).toInt = 0 ∧ ¬ OCC (g) (BDW f_bto f_bin) (PLR (z3) (z4)) ((r119)).toInt.toNat) := k130
      refine lv_if_eq (tgt := 147) hx hb dX11_unifies_142 (by decide) (fun c131 => ?_) (fun c131 => ?_)
      · have kc131 := (cv_eq (rfl : (r123).toInt = (r123).toInt) (by decide : (0 : Int32).toInt = 0)).mp c131
        have oc9 := (k130.resolve_left (fun q9 => absurd q9.1 (by omega))).2
        rw [sl9] at oc9
        have tr9 := trl_room (s := (r119).toInt.toNat) hn_trl hf_tra (by omega) (by omega) hb9
        refine lv_aload_n hx hb dX11_unifies_147 rfl (lv_at hl 5 rfl) ?_
        refine lv_iload hx hb dX11_unifies_148 (lv_at hl 0 rfl) ?_
        refine lv_iload hx hb dX11_unifies_150 (lv_at hl 4 rfl) ?_
        refine lv_iload hx hb dX11_unifies_152 (lv_at hl 3 rfl) ?_
        obtain ⟨vq132, evq132⟩ := mq136_135 v_mm (.ref h_nv) (.ref h_nn) (.ref h_na) (.ref h_nb) (.ref h_nc) (.int z124) (.int z125)
        replace hP : va_P (dC, dI) cls [(h_nn, .inl (cy_nn, 8000, .inr (.inl f_nn))), (h_tra, .inl (cy_tra, 256, .inl f_tra)), (h_mm, .inr (8, (mo135 vq132 (.ref h_bto) (.ref h_bin) (.ref h_tra) (.int x_mm_trailed)))), (h_nv, .inl (cy_nv, 8000, .inl f_nv)), (h_na, .inl (cy_na, 8000, .inl f_na)), (h_nb, .inl (cy_nb, 8000, .inl f_nb)), (h_nc, .inl (cy_nc, 8000, .inl f_nc)), (h_bto, .inl (cy_bto, 256, .inl f_bto)), (h_bin, .inl (cy_bin, 256, .inl f_bin))] H := by rw [evq132]; exact hP
        replace hD : va_D A [(h_nn, .inl (cy_nn, 8000, .inr (.inl f_nn))), (h_tra, .inl (cy_tra, 256, .inl f_tra)), (h_mm, .inr (8, (mo135 vq132 (.ref h_bto) (.ref h_bin) (.ref h_tra) (.int x_mm_trailed)))), (h_nv, .inl (cy_nv, 8000, .inl f_nv)), (h_na, .inl (cy_na, 8000, .inl f_na)), (h_nb, .inl (cy_nb, 8000, .inl f_nb)), (h_nc, .inl (cy_nc, 8000, .inl f_nc)), (h_bto, .inl (cy_bto, 256, .inl f_bto)), (h_bin, .inl (cy_bin, 256, .inl f_bin))] := by rw [evq132]; exact hD
        have hPc := hP.sub (ws' := [(h_mm, .inr (8, (mo135 vq132 (.ref h_bto) (.ref h_bin) (.ref h_tra) (.int x_mm_trailed)))), (h_bto, .inl (cy_bto, 256, .inl f_bto)), (h_bin, .inl (cy_bin, 256, .inl f_bin)), (h_tra, .inl (cy_tra, 256, .inl f_tra))]) [2, 7, 8, 1] rfl
        have hDc := hD.sub (ws' := [(h_mm, .inr (8, (mo135 vq132 (.ref h_bto) (.ref h_bin) (.ref h_tra) (.int x_mm_trailed)))), (h_bto, .inl (cy_bto, 256, .inl f_bto)), (h_bin, .inl (cy_bin, 256, .inl f_bin)), (h_tra, .inl (cy_tra, 256, .inl f_tra))]) [2, 7, 8, 1] (by decide) rfl
        have hKc := hK.sub (tys' := [(cy_bto, .int), (cy_bin, .int), (cy_tra, .int)]) [4, 5, 7] rfl
        have hFc := va_free (wc := [(h_mm, .inr (8, (mo135 vq132 (.ref h_bto) (.ref h_bin) (.ref h_tra) (.int x_mm_trailed)))), (h_bto, .inl (cy_bto, 256, .inl f_bto)), (h_bin, .inl (cy_bin, 256, .inl f_bin)), (h_tra, .inl (cy_tra, 256, .inl f_tra))]) hD hS hA [2, 7, 8, 1] rfl
        refine va_callv (va_runV (As := [.int r119, .int z3, .int z4]) (rest := []) ⟨hx, hb, hml, hown, hts⟩ (c_X11_binds l dC dI H.size h_mm h_bto h_bin h_tra vq132 x_mm_trailed cy_bto f_bto cy_bin f_bin cy_tra f_tra r119 z3 z4 (by first | exact hx_mm_trailed | omega) hf_bto hf_bin hf_tra (by omega) (by first | exact k6 | omega) (by first | exact k7 | omega) (by omega)) (cwV 3 hts (gv hT w_m_X11_280 w_instanceMethod_X11_binds ws_sel_X11_binds w_ini_X11 w_code_X11_binds) rfl rfl rfl (by decide +kernel) ⟨(by dsimp only [headSpec]; omega), (by dsimp only [headSpec]; omega)⟩) ⟨pre_blind, va_recv hK hP (ci := 8) (q0 := 2) rfl rfl, pre_of hPc hKc hDc hN⟩ rfl rfl hl.1 rfl (lv_room (Nat.le_of_ble_eq_true rfl)) dX11_unifies_154 ⟨(Nat.le_of_ble_eq_true rfl), (Nat.le_of_ble_eq_true rfl)⟩) hS (fun q _ h => hFc q h) hFc (fun u t H locs ht hvm hq hB hz1 hk1 hS9 => ?_)
        obtain ⟨z134, f135, f136, f137⟩ := u
        obtain ⟨hP1, hD1⟩ := hB
        rw [ht] at hP1
        obtain ⟨hP9, hD9⟩ := va_join (wr := [(h_nn, .inl (cy_nn, 8000, .inr (.inl f_nn))), (h_nv, .inl (cy_nv, 8000, .inl f_nv)), (h_na, .inl (cy_na, 8000, .inl f_na)), (h_nb, .inl (cy_nb, 8000, .inl f_nb)), (h_nc, .inl (cy_nc, 8000, .inl f_nc))]) (w1 := [(h_mm, .inr (8, (mo135 vq132 (.ref h_bto) (.ref h_bin) (.ref h_tra) (.int z134)))), (h_bto, .inl (cy_bto, 256, .inl f135)), (h_bin, .inl (cy_bin, 256, .inl f136)), (h_tra, .inl (cy_tra, 256, .inl f137))]) hP hD [2, 7, 8, 1] [0, 3, 4, 5, 6] rfl rfl (by decide) (by decide) hk1 hFc hP1 hD1
        clear hP hD hS hPc hDc hKc hFc hP1 hD1 hk1 hz1 ht hvm
        have hP : va_P (dC, dI) cls [(h_nn, .inl (cy_nn, 8000, .inr (.inl f_nn))), (h_nv, .inl (cy_nv, 8000, .inl f_nv)), (h_na, .inl (cy_na, 8000, .inl f_na)), (h_nb, .inl (cy_nb, 8000, .inl f_nb)), (h_nc, .inl (cy_nc, 8000, .inl f_nc)), (h_mm, .inr (8, (mo135 vq132 (.ref h_bto) (.ref h_bin) (.ref h_tra) (.int z134)))), (h_bto, .inl (cy_bto, 256, .inl f135)), (h_bin, .inl (cy_bin, 256, .inl f136)), (h_tra, .inl (cy_tra, 256, .inl f137))] H := hP9
        have hD : va_D A [(h_nn, .inl (cy_nn, 8000, .inr (.inl f_nn))), (h_nv, .inl (cy_nv, 8000, .inl f_nv)), (h_na, .inl (cy_na, 8000, .inl f_na)), (h_nb, .inl (cy_nb, 8000, .inl f_nb)), (h_nc, .inl (cy_nc, 8000, .inl f_nc)), (h_mm, .inr (8, (mo135 vq132 (.ref h_bto) (.ref h_bin) (.ref h_tra) (.int z134)))), (h_bto, .inl (cy_bto, 256, .inl f135)), (h_bin, .inl (cy_bin, 256, .inl f136)), (h_tra, .inl (cy_tra, 256, .inl f137))] := hD9
        have hS := hS9
        clear hP9 hD9 hS9
        rw [evq132] at hP hD
        replace hP : va_P (dC, dI) cls [(h_nn, .inl (cy_nn, 8000, .inr (.inl f_nn))), (h_nv, .inl (cy_nv, 8000, .inl f_nv)), (h_na, .inl (cy_na, 8000, .inl f_na)), (h_nb, .inl (cy_nb, 8000, .inl f_nb)), (h_nc, .inl (cy_nc, 8000, .inl f_nc)), (h_mm, .inr (8, (mo136 v_mm (.ref h_nv) (.ref h_nn) (.ref h_na) (.ref h_nb) (.ref h_nc) (.ref h_bto) (.ref h_bin) (.ref h_tra) (.int z134) (.int z124) (.int z125)))), (h_bto, .inl (cy_bto, 256, .inl f135)), (h_bin, .inl (cy_bin, 256, .inl f136)), (h_tra, .inl (cy_tra, 256, .inl f137))] H := hP
        replace hD : va_D A [(h_nn, .inl (cy_nn, 8000, .inr (.inl f_nn))), (h_nv, .inl (cy_nv, 8000, .inl f_nv)), (h_na, .inl (cy_na, 8000, .inl f_na)), (h_nb, .inl (cy_nb, 8000, .inl f_nb)), (h_nc, .inl (cy_nc, 8000, .inl f_nc)), (h_mm, .inr (8, (mo136 v_mm (.ref h_nv) (.ref h_nn) (.ref h_na) (.ref h_nb) (.ref h_nc) (.ref h_bto) (.ref h_bin) (.ref h_tra) (.int z134) (.int z124) (.int z125)))), (h_bto, .inl (cy_bto, 256, .inl f135)), (h_bin, .inl (cy_bin, 256, .inl f136)), (h_tra, .inl (cy_tra, 256, .inl f137))] := hD
        clear evq132 
        obtain ⟨k138, hf135, hf136, hf137, k139, k140⟩ := hq
        replace k138 : 0 ≤ ((z134)).toInt ∧ ((z134)).toInt ≤ 256 := k138
        replace hf135 : Rg (-1) 7999 (f135) := hf135
        replace hf136 : Rg 0 31 (f136) := hf136
        replace hf137 : Rg 0 255 (f137) := hf137
        replace k139 : ((z134)).toInt = ((x_mm_trailed)).toInt + 1 := k139
        replace k140 : (f135) = upd f_bto (Int32.toNatClampNeg (r119)) (z3) ∧ (f136) = upd f_bin (Int32.toNatClampNeg (r119)) (z4) ∧ (f137) = upd f_tra (Int32.toNatClampNeg (x_mm_trailed)) (r119) := k140
        obtain ⟨eb9, ei9, et9⟩ := k140
        have cs9 := clamp_nat (i := r119) (by omega)
        have bi9 : BI i0 i1 N hz f_nv f_na f_nb f_nc f135 f136 := by rw [eb9, ei9, cs9]; exact bi_bind hn_bi hf_nv hb9 ((k129).resolve_left (by omega)) (by omega) (by omega) (by omega)
        have tl9 : TRL ((x_mm_trailed).toInt + 1) f137 f135 := by rw [et9, eb9]; exact trl_bind hn_trl rfl (by omega) (by omega) (by rw [cs9]; exact hb9) (by omega)
        have gr9 : GRW (x_mm_trailed).toInt ((x_mm_trailed).toInt + 1) f_bto f_bin f_tra f135 f136 f137 := by rw [et9, eb9, ei9]; exact gr_bind rfl (by omega) (by omega) (by rw [cs9]; exact hb9)
        have bw9 : BDW f135 f136 = bst (BDW f_bto f_bin) (g.2.1 (PLR z17 z18)) (PLR z3 z4) := by rw [← sl9, ← cs9]; exact bdw_upd eb9 ei9 (by omega) (by omega)
        refine lv_iconst (v := 1) hx hb dX11_unifies_157 (by decide) ?_
        replace hP : va_P (dC, dI) cls [(h_mm, .inr (8, (mo136 v_mm (.ref h_nv) (.ref h_nn) (.ref h_na) (.ref h_nb) (.ref h_nc) (.ref h_bto) (.ref h_bin) (.ref h_tra) (.int z134) (.int z124) (.int z125)))), (h_nv, .inl (cy_nv, 8000, .inl f_nv)), (h_na, .inl (cy_na, 8000, .inl f_na)), (h_nb, .inl (cy_nb, 8000, .inl f_nb)), (h_nc, .inl (cy_nc, 8000, .inl f_nc)), (h_bto, .inl (cy_bto, 256, .inl f135)), (h_bin, .inl (cy_bin, 256, .inl f136)), (h_nn, .inl (cy_nn, 8000, .inr (.inl f_nn))), (h_tra, .inl (cy_tra, 256, .inl f137))] H := hP.sub [5, 1, 2, 3, 4, 6, 7, 0, 8] rfl
        replace hD : va_D A [(h_mm, .inr (8, (mo136 v_mm (.ref h_nv) (.ref h_nn) (.ref h_na) (.ref h_nb) (.ref h_nc) (.ref h_bto) (.ref h_bin) (.ref h_tra) (.int z134) (.int z124) (.int z125)))), (h_nv, .inl (cy_nv, 8000, .inl f_nv)), (h_na, .inl (cy_na, 8000, .inl f_na)), (h_nb, .inl (cy_nb, 8000, .inl f_nb)), (h_nc, .inl (cy_nc, 8000, .inl f_nc)), (h_bto, .inl (cy_bto, 256, .inl f135)), (h_bin, .inl (cy_bin, 256, .inl f136)), (h_nn, .inl (cy_nn, 8000, .inr (.inl f_nn))), (h_tra, .inl (cy_tra, 256, .inl f137))] := hD.sub [5, 1, 2, 3, 4, 6, 7, 0, 8] (by decide) rfl
        refine W.widen (k := 0) (n := 0) (Nat.le_of_ble_eq_true rfl) (Nat.le_of_ble_eq_true rfl) ?_
        have cst1 : (1 : Int32).toInt = 1 := by decide
        have w141 : 0 ≤ ((z134)).toInt ∧ ((z134)).toInt ≤ 256 := by first | exact k138 | omega
        have w142 : 0 ≤ ((z124)).toInt ∧ ((z124)).toInt ≤ 7999 := by first | exact k126 | omega
        have w143 : 0 ≤ ((z125)).toInt ∧ ((z125)).toInt ≤ 31 := by first | exact k127 | omega
        have w144 : 0 ≤ (1 : Int32).toInt ∧ (1 : Int32).toInt ≤ 1 := by omega
        have w145 : BI i0 i1 N hz f_nv f_na f_nb f_nc (f135) (f136) := bi9
        have w146 : TRL ((z134)).toInt (f137) (f135) := (trl_cast tl9 (by omega))
        have w147 : GRW (x_mm_trailed).toInt ((z134)).toInt f_bto f_bin f_tra (f135) (f136) (f137) := (gr_cast gr9 (by omega) (by omega))
        have w148 : UNX g (BDW f_bto f_bin) (BDW (f135) (f136)) (PLR p1 p2) (PLR p3 p4) ((1 : Int32)).toInt := (unx_bind2 k14 k28 (by rw [gv9a]; omega) (by rw [gv9b]; omega) oc9 bw9 (by decide))
        exact W.zret (v := 1) (ty := .boolean) hx hb hr (by decide) (fun t ht hW => ⟨⟨1, (z134, z124, z125, f135, f136, f137), rfl, ⟨w141, w142, w143, hf135, hf136, hf137, w144, w145, w146, w147, w148⟩, by rw [ht]; exact hP, hD⟩, hS.F ht⟩) hS.2.2 dX11_unifies_158
      · have kc131 := (not_congr (cv_eq (rfl : (r123).toInt = (r123).toInt) (by decide : (0 : Int32).toInt = 0))).mp c131
        have oc9 := (k130.resolve_right (fun q9 => absurd q9.1 (by omega))).2
        rw [sl9] at oc9
        refine lv_iconst (v := 0) hx hb dX11_unifies_145 (by decide) ?_
        replace hP : va_P (dC, dI) cls [(h_mm, .inr (8, (mo136 v_mm (.ref h_nv) (.ref h_nn) (.ref h_na) (.ref h_nb) (.ref h_nc) (.ref h_bto) (.ref h_bin) (.ref h_tra) (.int x_mm_trailed) (.int z124) (.int z125)))), (h_nv, .inl (cy_nv, 8000, .inl f_nv)), (h_na, .inl (cy_na, 8000, .inl f_na)), (h_nb, .inl (cy_nb, 8000, .inl f_nb)), (h_nc, .inl (cy_nc, 8000, .inl f_nc)), (h_bto, .inl (cy_bto, 256, .inl f_bto)), (h_bin, .inl (cy_bin, 256, .inl f_bin)), (h_nn, .inl (cy_nn, 8000, .inr (.inl f_nn))), (h_tra, .inl (cy_tra, 256, .inl f_tra))] H := hP.sub [2, 3, 4, 5, 6, 7, 8, 0, 1] rfl
        replace hD : va_D A [(h_mm, .inr (8, (mo136 v_mm (.ref h_nv) (.ref h_nn) (.ref h_na) (.ref h_nb) (.ref h_nc) (.ref h_bto) (.ref h_bin) (.ref h_tra) (.int x_mm_trailed) (.int z124) (.int z125)))), (h_nv, .inl (cy_nv, 8000, .inl f_nv)), (h_na, .inl (cy_na, 8000, .inl f_na)), (h_nb, .inl (cy_nb, 8000, .inl f_nb)), (h_nc, .inl (cy_nc, 8000, .inl f_nc)), (h_bto, .inl (cy_bto, 256, .inl f_bto)), (h_bin, .inl (cy_bin, 256, .inl f_bin)), (h_nn, .inl (cy_nn, 8000, .inr (.inl f_nn))), (h_tra, .inl (cy_tra, 256, .inl f_tra))] := hD.sub [2, 3, 4, 5, 6, 7, 8, 0, 1] (by decide) rfl
        refine W.widen (k := 0) (n := 0) (Nat.le_of_ble_eq_true rfl) (Nat.le_of_ble_eq_true rfl) ?_
        have cst0 : (0 : Int32).toInt = 0 := by decide
        have w149 : 0 ≤ ((x_mm_trailed)).toInt ∧ ((x_mm_trailed)).toInt ≤ 256 := by first | exact hx_mm_trailed | omega
        have w150 : 0 ≤ ((z124)).toInt ∧ ((z124)).toInt ≤ 7999 := by first | exact k126 | omega
        have w151 : 0 ≤ ((z125)).toInt ∧ ((z125)).toInt ≤ 31 := by first | exact k127 | omega
        have w152 : 0 ≤ (0 : Int32).toInt ∧ (0 : Int32).toInt ≤ 1 := by omega
        have w153 : BI i0 i1 N hz f_nv f_na f_nb f_nc (f_bto) (f_bin) := hn_bi
        have w154 : TRL ((x_mm_trailed)).toInt (f_tra) (f_bto) := (trl_cast hn_trl (by omega))
        have w155 : GRW (x_mm_trailed).toInt ((x_mm_trailed)).toInt f_bto f_bin f_tra (f_bto) (f_bin) (f_tra) := (gr_cast gr0 (by omega) (by omega))
        have w156 : UNX g (BDW f_bto f_bin) (BDW (f_bto) (f_bin)) (PLR p1 p2) (PLR p3 p4) ((0 : Int32)).toInt := (unx_occ2 k14 k28 (by rw [gv9a]; omega) (by rw [gv9b]; omega) oc9 (by decide))
        exact W.zret (v := 0) (ty := .boolean) hx hb hr (by decide) (fun t ht hW => ⟨⟨0, (x_mm_trailed, z124, z125, f_bto, f_bin, f_tra), rfl, ⟨w149, w150, w151, hf_bto, hf_bin, hf_tra, w152, w153, w154, w155, w156⟩, by rw [ht]; exact hP, hD⟩, hS.F ht⟩) hS.2.2 dX11_unifies_146
  · have kc30 := (not_congr (cv_eq (rfl : (z29).toInt = (z29).toInt) (by decide : ((-1) : Int32).toInt = -1))).mp c30
    have hvz29 : (f_nv (z3).toInt.toNat).toInt = (z29).toInt := by rw [ez29, (clamp_nat (i := z3) (by omega))]
    have gv9a := grv_v (i := z4) hn_grv (show 0 ≤ (z3).toInt ∧ (z3).toInt < 8000 by omega)
    have gc9a := grv_c (i := z4) hn_grv (show 0 ≤ (z3).toInt ∧ (z3).toInt < 8000 by omega) (by omega) (by omega)
    refine lv_aload_n hx hb dX11_unifies_48 rfl (lv_at hl 4 rfl) ?_
    refine lv_iload hx hb dX11_unifies_49 (lv_at hl 3 rfl) ?_
    refine lv_iload hx hb dX11_unifies_51 (lv_at hl 2 rfl) ?_
    obtain ⟨vq157, evq157⟩ := mq136_129 v_mm (.ref h_nn) (.ref h_na) (.ref h_nb) (.ref h_nc) (.ref h_bto) (.ref h_bin) (.ref h_tra) (.int x_mm_trailed) (.int z17) (.int z18)
    replace hP : va_P (dC, dI) cls [(h_nn, .inl (cy_nn, 8000, .inr (.inl f_nn))), (h_tra, .inl (cy_tra, 256, .inl f_tra)), (h_mm, .inr (8, (mo129 vq157 (.ref h_nv)))), (h_nv, .inl (cy_nv, 8000, .inl f_nv)), (h_na, .inl (cy_na, 8000, .inl f_na)), (h_nb, .inl (cy_nb, 8000, .inl f_nb)), (h_nc, .inl (cy_nc, 8000, .inl f_nc)), (h_bto, .inl (cy_bto, 256, .inl f_bto)), (h_bin, .inl (cy_bin, 256, .inl f_bin))] H := by rw [evq157]; exact hP
    replace hD : va_D A [(h_nn, .inl (cy_nn, 8000, .inr (.inl f_nn))), (h_tra, .inl (cy_tra, 256, .inl f_tra)), (h_mm, .inr (8, (mo129 vq157 (.ref h_nv)))), (h_nv, .inl (cy_nv, 8000, .inl f_nv)), (h_na, .inl (cy_na, 8000, .inl f_na)), (h_nb, .inl (cy_nb, 8000, .inl f_nb)), (h_nc, .inl (cy_nc, 8000, .inl f_nc)), (h_bto, .inl (cy_bto, 256, .inl f_bto)), (h_bin, .inl (cy_bin, 256, .inl f_bin))] := by rw [evq157]; exact hD
    have hPc := hP.sub (ws' := [(h_mm, .inr (8, (mo129 vq157 (.ref h_nv)))), (h_nv, .inl (cy_nv, 8000, .inl f_nv))]) [2, 3] rfl
    have hDc := hD.sub (ws' := [(h_mm, .inr (8, (mo129 vq157 (.ref h_nv)))), (h_nv, .inl (cy_nv, 8000, .inl f_nv))]) [2, 3] (by decide) rfl
    have hKc := hK.sub (tys' := [(cy_nv, .int)]) [0] rfl
    have hFc := va_free (wc := [(h_mm, .inr (8, (mo129 vq157 (.ref h_nv)))), (h_nv, .inl (cy_nv, 8000, .inl f_nv))]) hD hS hA [2, 3] rfl
    refine va_calli (va_runV (As := [.int z3, .int z4]) (rest := []) ⟨hx, hb, hml, hown, hts⟩ (c_X11_slotOf l dC dI H.size h_mm h_nv vq157 cy_nv f_nv z3 z4 hf_nv (by first | exact k6 | omega) (by first | exact k7 | omega)) (cwV 2 hts (gv hT w_m_X11_270 w_instanceMethod_X11_slotOf ws_sel_X11_slotOf w_ini_X11 w_code_X11_slotOf) rfl rfl rfl (by decide +kernel) ⟨(by dsimp only [headSpec]; omega), (by dsimp only [headSpec]; omega)⟩) ⟨pre_blind, va_recv hK hP (ci := 8) (q0 := 2) rfl rfl, pre_of hPc hKc hDc hN⟩ rfl rfl hl.1 rfl (lv_room (Nat.le_of_ble_eq_true rfl)) dX11_unifies_53 ⟨(Nat.le_of_ble_eq_true rfl), (Nat.le_of_ble_eq_true rfl)⟩) hS (fun q _ h => hFc q h) hFc (fun r158 u t H locs ht hvm hq hB hz1 hk1 hS9 => ?_)
    obtain ⟨hP1, hD1⟩ := hB
    rw [ht] at hP1
    obtain ⟨hP9, hD9⟩ := va_join (wr := [(h_nn, .inl (cy_nn, 8000, .inr (.inl f_nn))), (h_tra, .inl (cy_tra, 256, .inl f_tra)), (h_na, .inl (cy_na, 8000, .inl f_na)), (h_nb, .inl (cy_nb, 8000, .inl f_nb)), (h_nc, .inl (cy_nc, 8000, .inl f_nc)), (h_bto, .inl (cy_bto, 256, .inl f_bto)), (h_bin, .inl (cy_bin, 256, .inl f_bin))]) (w1 := [(h_mm, .inr (8, (mo129 vq157 (.ref h_nv)))), (h_nv, .inl (cy_nv, 8000, .inl f_nv))]) hP hD [2, 3] [0, 1, 4, 5, 6, 7, 8] rfl rfl (by decide) (by decide) hk1 hFc hP1 hD1
    clear hP hD hS hPc hDc hKc hFc hP1 hD1 hk1 hz1 ht hvm
    have hP : va_P (dC, dI) cls [(h_nn, .inl (cy_nn, 8000, .inr (.inl f_nn))), (h_tra, .inl (cy_tra, 256, .inl f_tra)), (h_na, .inl (cy_na, 8000, .inl f_na)), (h_nb, .inl (cy_nb, 8000, .inl f_nb)), (h_nc, .inl (cy_nc, 8000, .inl f_nc)), (h_bto, .inl (cy_bto, 256, .inl f_bto)), (h_bin, .inl (cy_bin, 256, .inl f_bin)), (h_mm, .inr (8, (mo129 vq157 (.ref h_nv)))), (h_nv, .inl (cy_nv, 8000, .inl f_nv))] H := hP9
    have hD : va_D A [(h_nn, .inl (cy_nn, 8000, .inr (.inl f_nn))), (h_tra, .inl (cy_tra, 256, .inl f_tra)), (h_na, .inl (cy_na, 8000, .inl f_na)), (h_nb, .inl (cy_nb, 8000, .inl f_nb)), (h_nc, .inl (cy_nc, 8000, .inl f_nc)), (h_bto, .inl (cy_bto, 256, .inl f_bto)), (h_bin, .inl (cy_bin, 256, .inl f_bin)), (h_mm, .inr (8, (mo129 vq157 (.ref h_nv)))), (h_nv, .inl (cy_nv, 8000, .inl f_nv))] := hD9
    have hS := hS9
    clear hP9 hD9 hS9
    rw [evq157] at hP hD
    replace hP : va_P (dC, dI) cls [(h_nn, .inl (cy_nn, 8000, .inr (.inl f_nn))), (h_tra, .inl (cy_tra, 256, .inl f_tra)), (h_na, .inl (cy_na, 8000, .inl f_na)), (h_nb, .inl (cy_nb, 8000, .inl f_nb)), (h_nc, .inl (cy_nc, 8000, .inl f_nc)), (h_bto, .inl (cy_bto, 256, .inl f_bto)), (h_bin, .inl (cy_bin, 256, .inl f_bin)), (h_mm, .inr (8, (mo136 v_mm (.ref h_nv) (.ref h_nn) (.ref h_na) (.ref h_nb) (.ref h_nc) (.ref h_bto) (.ref h_bin) (.ref h_tra) (.int x_mm_trailed) (.int z17) (.int z18)))), (h_nv, .inl (cy_nv, 8000, .inl f_nv))] H := hP
    replace hD : va_D A [(h_nn, .inl (cy_nn, 8000, .inr (.inl f_nn))), (h_tra, .inl (cy_tra, 256, .inl f_tra)), (h_na, .inl (cy_na, 8000, .inl f_na)), (h_nb, .inl (cy_nb, 8000, .inl f_nb)), (h_nc, .inl (cy_nc, 8000, .inl f_nc)), (h_bto, .inl (cy_bto, 256, .inl f_bto)), (h_bin, .inl (cy_bin, 256, .inl f_bin)), (h_mm, .inr (8, (mo136 v_mm (.ref h_nv) (.ref h_nn) (.ref h_na) (.ref h_nb) (.ref h_nc) (.ref h_bto) (.ref h_bin) (.ref h_tra) (.int x_mm_trailed) (.int z17) (.int z18)))), (h_nv, .inl (cy_nv, 8000, .inl f_nv))] := hD
    clear evq157 
    obtain ⟨k159, k160⟩ := hq
    replace k159 : -1 ≤ (r158).toInt ∧ (r158).toInt ≤ 255 := k159
    replace k160 : ((r158)).toInt = 8 * ((z4)).toInt + (f_nv ((z3)).toInt.toNat).toInt := k160
    refine lv_istore (lv' := [(9, .int r158), (8, .int z18), (7, .int z17), (6, .int z4), (5, .int z3), (0, .ref h_mm), (1, .int p1), (2, .int p2), (3, .int p3), (4, .int p4)]) hx hb dX11_unifies_56 hl (by decide) rfl (fun ls hl => ?_)
    refine lv_aload_n hx hb dX11_unifies_58 rfl (lv_at hl 5 rfl) ?_
    refine va_get (D := (dC, dI)) (ci := 8) (v := .ref h_nv) (C := RX11) (T := TX11) (N := 71) hx hb hw iwX11 hown hK hP 7 rfl rfl 1 (by decide) (hw _ w_f_X11_17) (fun _ h9 => h9) rfl dX11_unifies_59 ?_
    refine lv_iload hx hb dX11_unifies_62 (lv_at hl 2 rfl) ?_
    refine va_iald hx hb hK hP 8 0 rfl rfl (i := z17) (vp_in_iff.mpr (by omega)) dX11_unifies_64 ?_
    refine lv_topi (fun z161 ez161 => ?_)
    have rz161 : -1 ≤ (z161).toInt ∧ (z161).toInt ≤ 7 := by rw [ez161]; exact hf_nv _
    refine lv_iconst (v := (-1)) hx hb dX11_unifies_65 (by decide) ?_
    refine lv_icmp_eq (tgt := 84) hx hb dX11_unifies_66 (by decide) (fun c162 => ?_) (fun c162 => ?_)
    · have kc162 := (cv_eq (rfl : (z161).toInt = (z161).toInt) (by decide : ((-1) : Int32).toInt = -1)).mp c162
      have hvz161 : (f_nv (z17).toInt.toNat).toInt = (z161).toInt := by rw [ez161, (clamp_nat (i := z17) (by omega))]
      have gv9b := grv_v (i := z18) hn_grv (show 0 ≤ (z17).toInt ∧ (z17).toInt < 8000 by omega)
      have ns9 : ¬ (0 ≤ g.1 (PLR z17 z18) ∧ g.2.1 (PLR z17 z18) = g.2.1 (PLR z3 z4)) := fun q9 => by have q8 := q9.1; rw [gv9b] at q8; have gc9b := grv_c (i := z18) hn_grv (show 0 ≤ (z17).toInt ∧ (z17).toInt < 8000 by omega) (by omega) q8; omega
      have sl9 : (r158).toInt.toNat = g.2.1 (PLR z3 z4) := by omega
      have hvz29 : (f_nv (z3).toInt.toNat).toInt = (z29).toInt := by rw [ez29, (clamp_nat (i := z3) (by omega))]
      have hb9 : (f_bto (r158).toInt.toNat).toInt = -1 := by have h9 := (k12).resolve_left (by omega); rwa [show (8 * (z4).toInt + (f_nv (z3).toInt.toNat).toInt).toNat = (r158).toInt.toNat by omega] at h9
      refine lv_aload_n hx hb dX11_unifies_84 rfl (lv_at hl 5 rfl) ?_
      refine lv_iload hx hb dX11_unifies_85 (lv_at hl 2 rfl) ?_
      refine lv_iload hx hb dX11_unifies_87 (lv_at hl 1 rfl) ?_
      refine lv_iload hx hb dX11_unifies_89 (lv_at hl 0 rfl) ?_
      obtain ⟨vq163, evq163⟩ := mq136_134 v_mm (.ref h_nn) (.ref h_tra) (.int x_mm_trailed)
      replace hP : va_P (dC, dI) cls [(h_nn, .inl (cy_nn, 8000, .inr (.inl f_nn))), (h_tra, .inl (cy_tra, 256, .inl f_tra)), (h_na, .inl (cy_na, 8000, .inl f_na)), (h_nb, .inl (cy_nb, 8000, .inl f_nb)), (h_nc, .inl (cy_nc, 8000, .inl f_nc)), (h_bto, .inl (cy_bto, 256, .inl f_bto)), (h_bin, .inl (cy_bin, 256, .inl f_bin)), (h_mm, .inr (8, (mo134 vq163 (.ref h_nv) (.ref h_na) (.ref h_nb) (.ref h_nc) (.ref h_bto) (.ref h_bin) (.int z17) (.int z18)))), (h_nv, .inl (cy_nv, 8000, .inl f_nv))] H := by rw [evq163]; exact hP
      replace hD : va_D A [(h_nn, .inl (cy_nn, 8000, .inr (.inl f_nn))), (h_tra, .inl (cy_tra, 256, .inl f_tra)), (h_na, .inl (cy_na, 8000, .inl f_na)), (h_nb, .inl (cy_nb, 8000, .inl f_nb)), (h_nc, .inl (cy_nc, 8000, .inl f_nc)), (h_bto, .inl (cy_bto, 256, .inl f_bto)), (h_bin, .inl (cy_bin, 256, .inl f_bin)), (h_mm, .inr (8, (mo134 vq163 (.ref h_nv) (.ref h_na) (.ref h_nb) (.ref h_nc) (.ref h_bto) (.ref h_bin) (.int z17) (.int z18)))), (h_nv, .inl (cy_nv, 8000, .inl f_nv))] := by rw [evq163]; exact hD
      have hPc := hP.sub (ws' := [(h_mm, .inr (8, (mo134 vq163 (.ref h_nv) (.ref h_na) (.ref h_nb) (.ref h_nc) (.ref h_bto) (.ref h_bin) (.int z17) (.int z18)))), (h_nv, .inl (cy_nv, 8000, .inl f_nv)), (h_na, .inl (cy_na, 8000, .inl f_na)), (h_nb, .inl (cy_nb, 8000, .inl f_nb)), (h_nc, .inl (cy_nc, 8000, .inl f_nc)), (h_bto, .inl (cy_bto, 256, .inl f_bto)), (h_bin, .inl (cy_bin, 256, .inl f_bin))]) [7, 8, 2, 3, 4, 5, 6] rfl
      have hDc := hD.sub (ws' := [(h_mm, .inr (8, (mo134 vq163 (.ref h_nv) (.ref h_na) (.ref h_nb) (.ref h_nc) (.ref h_bto) (.ref h_bin) (.int z17) (.int z18)))), (h_nv, .inl (cy_nv, 8000, .inl f_nv)), (h_na, .inl (cy_na, 8000, .inl f_na)), (h_nb, .inl (cy_nb, 8000, .inl f_nb)), (h_nc, .inl (cy_nc, 8000, .inl f_nc)), (h_bto, .inl (cy_bto, 256, .inl f_bto)), (h_bin, .inl (cy_bin, 256, .inl f_bin))]) [7, 8, 2, 3, 4, 5, 6] (by decide) rfl
      have hKc := hK.sub (tys' := [(cy_nv, .int), (cy_na, .int), (cy_nb, .int), (cy_nc, .int), (cy_bto, .int), (cy_bin, .int)]) [0, 1, 2, 3, 4, 5] rfl
      have hFc := va_free (wc := [(h_mm, .inr (8, (mo134 vq163 (.ref h_nv) (.ref h_na) (.ref h_nb) (.ref h_nc) (.ref h_bto) (.ref h_bin) (.int z17) (.int z18)))), (h_nv, .inl (cy_nv, 8000, .inl f_nv)), (h_na, .inl (cy_na, 8000, .inl f_na)), (h_nb, .inl (cy_nb, 8000, .inl f_nb)), (h_nc, .inl (cy_nc, 8000, .inl f_nc)), (h_bto, .inl (cy_bto, 256, .inl f_bto)), (h_bin, .inl (cy_bin, 256, .inl f_bin))]) hD hS hA [7, 8, 2, 3, 4, 5, 6] rfl
      refine va_calli (va_runV (As := [.int z17, .int z18, .int r158]) (rest := []) ⟨hx, hb, hml, hown, hts⟩ (c_X11_holds l (fu + 1) dC dI H.size h_mm h_nv h_na h_nb h_nc h_bto h_bin vq163 z17 z18 cy_nv f_nv cy_na f_na cy_nb f_nb cy_nc f_nc cy_bto f_bto cy_bin f_bin z17 z18 r158 i0 i1 N hz g z19 (by first | exact k20 | omega) (by first | exact k21 | omega) hf_nv hf_na hf_nb hf_nc hf_bto hf_bin (by first | exact q0 | omega) (by first | exact q1 | omega) (by first | exact k22 | omega) (by first | exact k23 | omega) (by omega) (by first | exact k24 | omega) (by omega) hn_bi k25 hn_grv) (cwV 3 hts (gv hT w_m_X11_276 w_instanceMethod_X11_holds ws_sel_X11_holds w_ini_X11 w_code_X11_holds) rfl rfl rfl (by decide +kernel) ⟨(by dsimp only [headSpec]; omega), (by dsimp only [headSpec]; omega)⟩) ⟨pre_blind, va_recv hK hP (ci := 8) (q0 := 7) rfl rfl, pre_of hPc hKc hDc hN⟩ rfl rfl hl.1 rfl (lv_room (Nat.le_of_ble_eq_true rfl)) dX11_unifies_91 ⟨(Nat.le_of_ble_eq_true rfl), (Nat.le_of_ble_eq_true rfl)⟩) hS (fun q _ h => hFc q h) hFc (fun r164 u t H locs ht hvm hq hB hz1 hk1 hS9 => ?_)
      obtain ⟨z165, z166⟩ := u
      obtain ⟨hP1, hD1⟩ := hB
      rw [ht] at hP1
      obtain ⟨hP9, hD9⟩ := va_join (wr := [(h_nn, .inl (cy_nn, 8000, .inr (.inl f_nn))), (h_tra, .inl (cy_tra, 256, .inl f_tra))]) (w1 := [(h_mm, .inr (8, (mo134 vq163 (.ref h_nv) (.ref h_na) (.ref h_nb) (.ref h_nc) (.ref h_bto) (.ref h_bin) (.int z165) (.int z166)))), (h_nv, .inl (cy_nv, 8000, .inl f_nv)), (h_na, .inl (cy_na, 8000, .inl f_na)), (h_nb, .inl (cy_nb, 8000, .inl f_nb)), (h_nc, .inl (cy_nc, 8000, .inl f_nc)), (h_bto, .inl (cy_bto, 256, .inl f_bto)), (h_bin, .inl (cy_bin, 256, .inl f_bin))]) hP hD [7, 8, 2, 3, 4, 5, 6] [0, 1] rfl rfl (by decide) (by decide) hk1 hFc hP1 hD1
      clear hP hD hS hPc hDc hKc hFc hP1 hD1 hk1 hz1 ht hvm
      have hP : va_P (dC, dI) cls [(h_nn, .inl (cy_nn, 8000, .inr (.inl f_nn))), (h_tra, .inl (cy_tra, 256, .inl f_tra)), (h_mm, .inr (8, (mo134 vq163 (.ref h_nv) (.ref h_na) (.ref h_nb) (.ref h_nc) (.ref h_bto) (.ref h_bin) (.int z165) (.int z166)))), (h_nv, .inl (cy_nv, 8000, .inl f_nv)), (h_na, .inl (cy_na, 8000, .inl f_na)), (h_nb, .inl (cy_nb, 8000, .inl f_nb)), (h_nc, .inl (cy_nc, 8000, .inl f_nc)), (h_bto, .inl (cy_bto, 256, .inl f_bto)), (h_bin, .inl (cy_bin, 256, .inl f_bin))] H := hP9
      have hD : va_D A [(h_nn, .inl (cy_nn, 8000, .inr (.inl f_nn))), (h_tra, .inl (cy_tra, 256, .inl f_tra)), (h_mm, .inr (8, (mo134 vq163 (.ref h_nv) (.ref h_na) (.ref h_nb) (.ref h_nc) (.ref h_bto) (.ref h_bin) (.int z165) (.int z166)))), (h_nv, .inl (cy_nv, 8000, .inl f_nv)), (h_na, .inl (cy_na, 8000, .inl f_na)), (h_nb, .inl (cy_nb, 8000, .inl f_nb)), (h_nc, .inl (cy_nc, 8000, .inl f_nc)), (h_bto, .inl (cy_bto, 256, .inl f_bto)), (h_bin, .inl (cy_bin, 256, .inl f_bin))] := hD9
      have hS := hS9
      clear hP9 hD9 hS9
      rw [evq163] at hP hD
      replace hP : va_P (dC, dI) cls [(h_nn, .inl (cy_nn, 8000, .inr (.inl f_nn))), (h_tra, .inl (cy_tra, 256, .inl f_tra)), (h_mm, .inr (8, (mo136 v_mm (.ref h_nv) (.ref h_nn) (.ref h_na) (.ref h_nb) (.ref h_nc) (.ref h_bto) (.ref h_bin) (.ref h_tra) (.int x_mm_trailed) (.int z165) (.int z166)))), (h_nv, .inl (cy_nv, 8000, .inl f_nv)), (h_na, .inl (cy_na, 8000, .inl f_na)), (h_nb, .inl (cy_nb, 8000, .inl f_nb)), (h_nc, .inl (cy_nc, 8000, .inl f_nc)), (h_bto, .inl (cy_bto, 256, .inl f_bto)), (h_bin, .inl (cy_bin, 256, .inl f_bin))] H := hP
      replace hD : va_D A [(h_nn, .inl (cy_nn, 8000, .inr (.inl f_nn))), (h_tra, .inl (cy_tra, 256, .inl f_tra)), (h_mm, .inr (8, (mo136 v_mm (.ref h_nv) (.ref h_nn) (.ref h_na) (.ref h_nb) (.ref h_nc) (.ref h_bto) (.ref h_bin) (.ref h_tra) (.int x_mm_trailed) (.int z165) (.int z166)))), (h_nv, .inl (cy_nv, 8000, .inl f_nv)), (h_na, .inl (cy_na, 8000, .inl f_na)), (h_nb, .inl (cy_nb, 8000, .inl f_nb)), (h_nc, .inl (cy_nc, 8000, .inl f_nc)), (h_bto, .inl (cy_bto, 256, .inl f_bto)), (h_bin, .inl (cy_bin, 256, .inl f_bin))] := hD
      clear evq163 
      obtain ⟨k167, k168, k169, k170, k171⟩ := hq
      replace k167 : 0 ≤ ((z165)).toInt ∧ ((z165)).toInt ≤ 7999 := k167
      replace k168 : 0 ≤ ((z166)).toInt ∧ ((z166)).toInt ≤ 31 := k168
      replace k169 : 0 ≤ (r164).toInt ∧ (r164).toInt ≤ 1 := k169
      replace k170 : ((r164)).toInt = 1 ∨ NR f_nv f_na f_nb f_nc f_bto f_bin ((z17)).toInt.toNat ((z18)).toInt ((r158)).toInt.toNat := k170
      replace k171 : (((r164)).toInt = 1 ∧ OCC (g) (BDW f_bto f_bin) (PLR (z17) (z18)) ((r158)).toInt.toNat) ∨ (((r164)).toInt = 0 ∧ ¬ OCC (g) (BDW f_bto f_bin) (PLR (z17) (z18)) ((r158)).toInt.toNat) := k171
      refine lv_if_eq (tgt := 99) hx hb dX11_unifies_94 (by decide) (fun c172 => ?_) (fun c172 => ?_)
      · have kc172 := (cv_eq (rfl : (r164).toInt = (r164).toInt) (by decide : (0 : Int32).toInt = 0)).mp c172
        have oc9 := (k171.resolve_left (fun q9 => absurd q9.1 (by omega))).2
        rw [sl9] at oc9
        have tr9 := trl_room (s := (r158).toInt.toNat) hn_trl hf_tra (by omega) (by omega) hb9
        refine lv_aload_n hx hb dX11_unifies_99 rfl (lv_at hl 5 rfl) ?_
        refine lv_iload hx hb dX11_unifies_100 (lv_at hl 0 rfl) ?_
        refine lv_iload hx hb dX11_unifies_102 (lv_at hl 2 rfl) ?_
        refine lv_iload hx hb dX11_unifies_104 (lv_at hl 1 rfl) ?_
        obtain ⟨vq173, evq173⟩ := mq136_135 v_mm (.ref h_nv) (.ref h_nn) (.ref h_na) (.ref h_nb) (.ref h_nc) (.int z165) (.int z166)
        replace hP : va_P (dC, dI) cls [(h_nn, .inl (cy_nn, 8000, .inr (.inl f_nn))), (h_tra, .inl (cy_tra, 256, .inl f_tra)), (h_mm, .inr (8, (mo135 vq173 (.ref h_bto) (.ref h_bin) (.ref h_tra) (.int x_mm_trailed)))), (h_nv, .inl (cy_nv, 8000, .inl f_nv)), (h_na, .inl (cy_na, 8000, .inl f_na)), (h_nb, .inl (cy_nb, 8000, .inl f_nb)), (h_nc, .inl (cy_nc, 8000, .inl f_nc)), (h_bto, .inl (cy_bto, 256, .inl f_bto)), (h_bin, .inl (cy_bin, 256, .inl f_bin))] H := by rw [evq173]; exact hP
        replace hD : va_D A [(h_nn, .inl (cy_nn, 8000, .inr (.inl f_nn))), (h_tra, .inl (cy_tra, 256, .inl f_tra)), (h_mm, .inr (8, (mo135 vq173 (.ref h_bto) (.ref h_bin) (.ref h_tra) (.int x_mm_trailed)))), (h_nv, .inl (cy_nv, 8000, .inl f_nv)), (h_na, .inl (cy_na, 8000, .inl f_na)), (h_nb, .inl (cy_nb, 8000, .inl f_nb)), (h_nc, .inl (cy_nc, 8000, .inl f_nc)), (h_bto, .inl (cy_bto, 256, .inl f_bto)), (h_bin, .inl (cy_bin, 256, .inl f_bin))] := by rw [evq173]; exact hD
        have hPc := hP.sub (ws' := [(h_mm, .inr (8, (mo135 vq173 (.ref h_bto) (.ref h_bin) (.ref h_tra) (.int x_mm_trailed)))), (h_bto, .inl (cy_bto, 256, .inl f_bto)), (h_bin, .inl (cy_bin, 256, .inl f_bin)), (h_tra, .inl (cy_tra, 256, .inl f_tra))]) [2, 7, 8, 1] rfl
        have hDc := hD.sub (ws' := [(h_mm, .inr (8, (mo135 vq173 (.ref h_bto) (.ref h_bin) (.ref h_tra) (.int x_mm_trailed)))), (h_bto, .inl (cy_bto, 256, .inl f_bto)), (h_bin, .inl (cy_bin, 256, .inl f_bin)), (h_tra, .inl (cy_tra, 256, .inl f_tra))]) [2, 7, 8, 1] (by decide) rfl
        have hKc := hK.sub (tys' := [(cy_bto, .int), (cy_bin, .int), (cy_tra, .int)]) [4, 5, 7] rfl
        have hFc := va_free (wc := [(h_mm, .inr (8, (mo135 vq173 (.ref h_bto) (.ref h_bin) (.ref h_tra) (.int x_mm_trailed)))), (h_bto, .inl (cy_bto, 256, .inl f_bto)), (h_bin, .inl (cy_bin, 256, .inl f_bin)), (h_tra, .inl (cy_tra, 256, .inl f_tra))]) hD hS hA [2, 7, 8, 1] rfl
        refine va_callv (va_runV (As := [.int r158, .int z17, .int z18]) (rest := []) ⟨hx, hb, hml, hown, hts⟩ (c_X11_binds l dC dI H.size h_mm h_bto h_bin h_tra vq173 x_mm_trailed cy_bto f_bto cy_bin f_bin cy_tra f_tra r158 z17 z18 (by first | exact hx_mm_trailed | omega) hf_bto hf_bin hf_tra (by omega) (by first | exact k20 | omega) (by first | exact k21 | omega) (by omega)) (cwV 3 hts (gv hT w_m_X11_280 w_instanceMethod_X11_binds ws_sel_X11_binds w_ini_X11 w_code_X11_binds) rfl rfl rfl (by decide +kernel) ⟨(by dsimp only [headSpec]; omega), (by dsimp only [headSpec]; omega)⟩) ⟨pre_blind, va_recv hK hP (ci := 8) (q0 := 2) rfl rfl, pre_of hPc hKc hDc hN⟩ rfl rfl hl.1 rfl (lv_room (Nat.le_of_ble_eq_true rfl)) dX11_unifies_106 ⟨(Nat.le_of_ble_eq_true rfl), (Nat.le_of_ble_eq_true rfl)⟩) hS (fun q _ h => hFc q h) hFc (fun u t H locs ht hvm hq hB hz1 hk1 hS9 => ?_)
        obtain ⟨z175, f176, f177, f178⟩ := u
        obtain ⟨hP1, hD1⟩ := hB
        rw [ht] at hP1
        obtain ⟨hP9, hD9⟩ := va_join (wr := [(h_nn, .inl (cy_nn, 8000, .inr (.inl f_nn))), (h_nv, .inl (cy_nv, 8000, .inl f_nv)), (h_na, .inl (cy_na, 8000, .inl f_na)), (h_nb, .inl (cy_nb, 8000, .inl f_nb)), (h_nc, .inl (cy_nc, 8000, .inl f_nc))]) (w1 := [(h_mm, .inr (8, (mo135 vq173 (.ref h_bto) (.ref h_bin) (.ref h_tra) (.int z175)))), (h_bto, .inl (cy_bto, 256, .inl f176)), (h_bin, .inl (cy_bin, 256, .inl f177)), (h_tra, .inl (cy_tra, 256, .inl f178))]) hP hD [2, 7, 8, 1] [0, 3, 4, 5, 6] rfl rfl (by decide) (by decide) hk1 hFc hP1 hD1
        clear hP hD hS hPc hDc hKc hFc hP1 hD1 hk1 hz1 ht hvm
        have hP : va_P (dC, dI) cls [(h_nn, .inl (cy_nn, 8000, .inr (.inl f_nn))), (h_nv, .inl (cy_nv, 8000, .inl f_nv)), (h_na, .inl (cy_na, 8000, .inl f_na)), (h_nb, .inl (cy_nb, 8000, .inl f_nb)), (h_nc, .inl (cy_nc, 8000, .inl f_nc)), (h_mm, .inr (8, (mo135 vq173 (.ref h_bto) (.ref h_bin) (.ref h_tra) (.int z175)))), (h_bto, .inl (cy_bto, 256, .inl f176)), (h_bin, .inl (cy_bin, 256, .inl f177)), (h_tra, .inl (cy_tra, 256, .inl f178))] H := hP9
        have hD : va_D A [(h_nn, .inl (cy_nn, 8000, .inr (.inl f_nn))), (h_nv, .inl (cy_nv, 8000, .inl f_nv)), (h_na, .inl (cy_na, 8000, .inl f_na)), (h_nb, .inl (cy_nb, 8000, .inl f_nb)), (h_nc, .inl (cy_nc, 8000, .inl f_nc)), (h_mm, .inr (8, (mo135 vq173 (.ref h_bto) (.ref h_bin) (.ref h_tra) (.int z175)))), (h_bto, .inl (cy_bto, 256, .inl f176)), (h_bin, .inl (cy_bin, 256, .inl f177)), (h_tra, .inl (cy_tra, 256, .inl f178))] := hD9
        have hS := hS9
        clear hP9 hD9 hS9
        rw [evq173] at hP hD
        replace hP : va_P (dC, dI) cls [(h_nn, .inl (cy_nn, 8000, .inr (.inl f_nn))), (h_nv, .inl (cy_nv, 8000, .inl f_nv)), (h_na, .inl (cy_na, 8000, .inl f_na)), (h_nb, .inl (cy_nb, 8000, .inl f_nb)), (h_nc, .inl (cy_nc, 8000, .inl f_nc)), (h_mm, .inr (8, (mo136 v_mm (.ref h_nv) (.ref h_nn) (.ref h_na) (.ref h_nb) (.ref h_nc) (.ref h_bto) (.ref h_bin) (.ref h_tra) (.int z175) (.int z165) (.int z166)))), (h_bto, .inl (cy_bto, 256, .inl f176)), (h_bin, .inl (cy_bin, 256, .inl f177)), (h_tra, .inl (cy_tra, 256, .inl f178))] H := hP
        replace hD : va_D A [(h_nn, .inl (cy_nn, 8000, .inr (.inl f_nn))), (h_nv, .inl (cy_nv, 8000, .inl f_nv)), (h_na, .inl (cy_na, 8000, .inl f_na)), (h_nb, .inl (cy_nb, 8000, .inl f_nb)), (h_nc, .inl (cy_nc, 8000, .inl f_nc)), (h_mm, .inr (8, (mo136 v_mm (.ref h_nv) (.ref h_nn) (.ref h_na) (.ref h_nb) (.ref h_nc) (.ref h_bto) (.ref h_bin) (.ref h_tra) (.int z175) (.int z165) (.int z166)))), (h_bto, .inl (cy_bto, 256, .inl f176)), (h_bin, .inl (cy_bin, 256, .inl f177)), (h_tra, .inl (cy_tra, 256, .inl f178))] := hD
        clear evq173 
        obtain ⟨k179, hf176, hf177, hf178, k180, k181⟩ := hq
        replace k179 : 0 ≤ ((z175)).toInt ∧ ((z175)).toInt ≤ 256 := k179
        replace hf176 : Rg (-1) 7999 (f176) := hf176
        replace hf177 : Rg 0 31 (f177) := hf177
        replace hf178 : Rg 0 255 (f178) := hf178
        replace k180 : ((z175)).toInt = ((x_mm_trailed)).toInt + 1 := k180
        replace k181 : (f176) = upd f_bto (Int32.toNatClampNeg (r158)) (z17) ∧ (f177) = upd f_bin (Int32.toNatClampNeg (r158)) (z18) ∧ (f178) = upd f_tra (Int32.toNatClampNeg (x_mm_trailed)) (r158) := k181
        obtain ⟨eb9, ei9, et9⟩ := k181
        have cs9 := clamp_nat (i := r158) (by omega)
        have bi9 : BI i0 i1 N hz f_nv f_na f_nb f_nc f176 f177 := by rw [eb9, ei9, cs9]; exact bi_bind hn_bi hf_nv hb9 ((k170).resolve_left (by omega)) (by omega) (by omega) (by omega)
        have tl9 : TRL ((x_mm_trailed).toInt + 1) f178 f176 := by rw [et9, eb9]; exact trl_bind hn_trl rfl (by omega) (by omega) (by rw [cs9]; exact hb9) (by omega)
        have gr9 : GRW (x_mm_trailed).toInt ((x_mm_trailed).toInt + 1) f_bto f_bin f_tra f176 f177 f178 := by rw [et9, eb9, ei9]; exact gr_bind rfl (by omega) (by omega) (by rw [cs9]; exact hb9)
        have bw9 : BDW f176 f177 = bst (BDW f_bto f_bin) (g.2.1 (PLR z3 z4)) (PLR z17 z18) := by rw [← sl9, ← cs9]; exact bdw_upd eb9 ei9 (by omega) (by omega)
        refine lv_iconst (v := 1) hx hb dX11_unifies_109 (by decide) ?_
        replace hP : va_P (dC, dI) cls [(h_mm, .inr (8, (mo136 v_mm (.ref h_nv) (.ref h_nn) (.ref h_na) (.ref h_nb) (.ref h_nc) (.ref h_bto) (.ref h_bin) (.ref h_tra) (.int z175) (.int z165) (.int z166)))), (h_nv, .inl (cy_nv, 8000, .inl f_nv)), (h_na, .inl (cy_na, 8000, .inl f_na)), (h_nb, .inl (cy_nb, 8000, .inl f_nb)), (h_nc, .inl (cy_nc, 8000, .inl f_nc)), (h_bto, .inl (cy_bto, 256, .inl f176)), (h_bin, .inl (cy_bin, 256, .inl f177)), (h_nn, .inl (cy_nn, 8000, .inr (.inl f_nn))), (h_tra, .inl (cy_tra, 256, .inl f178))] H := hP.sub [5, 1, 2, 3, 4, 6, 7, 0, 8] rfl
        replace hD : va_D A [(h_mm, .inr (8, (mo136 v_mm (.ref h_nv) (.ref h_nn) (.ref h_na) (.ref h_nb) (.ref h_nc) (.ref h_bto) (.ref h_bin) (.ref h_tra) (.int z175) (.int z165) (.int z166)))), (h_nv, .inl (cy_nv, 8000, .inl f_nv)), (h_na, .inl (cy_na, 8000, .inl f_na)), (h_nb, .inl (cy_nb, 8000, .inl f_nb)), (h_nc, .inl (cy_nc, 8000, .inl f_nc)), (h_bto, .inl (cy_bto, 256, .inl f176)), (h_bin, .inl (cy_bin, 256, .inl f177)), (h_nn, .inl (cy_nn, 8000, .inr (.inl f_nn))), (h_tra, .inl (cy_tra, 256, .inl f178))] := hD.sub [5, 1, 2, 3, 4, 6, 7, 0, 8] (by decide) rfl
        refine W.widen (k := 0) (n := 0) (Nat.le_of_ble_eq_true rfl) (Nat.le_of_ble_eq_true rfl) ?_
        have cst1 : (1 : Int32).toInt = 1 := by decide
        have w182 : 0 ≤ ((z175)).toInt ∧ ((z175)).toInt ≤ 256 := by first | exact k179 | omega
        have w183 : 0 ≤ ((z165)).toInt ∧ ((z165)).toInt ≤ 7999 := by first | exact k167 | omega
        have w184 : 0 ≤ ((z166)).toInt ∧ ((z166)).toInt ≤ 31 := by first | exact k168 | omega
        have w185 : 0 ≤ (1 : Int32).toInt ∧ (1 : Int32).toInt ≤ 1 := by omega
        have w186 : BI i0 i1 N hz f_nv f_na f_nb f_nc (f176) (f177) := bi9
        have w187 : TRL ((z175)).toInt (f178) (f176) := (trl_cast tl9 (by omega))
        have w188 : GRW (x_mm_trailed).toInt ((z175)).toInt f_bto f_bin f_tra (f176) (f177) (f178) := (gr_cast gr9 (by omega) (by omega))
        have w189 : UNX g (BDW f_bto f_bin) (BDW (f176) (f177)) (PLR p1 p2) (PLR p3 p4) ((1 : Int32)).toInt := (unx_bind1 k14 k28 (by rw [gv9a]; omega) ns9 oc9 bw9 (by decide))
        exact W.zret (v := 1) (ty := .boolean) hx hb hr (by decide) (fun t ht hW => ⟨⟨1, (z175, z165, z166, f176, f177, f178), rfl, ⟨w182, w183, w184, hf176, hf177, hf178, w185, w186, w187, w188, w189⟩, by rw [ht]; exact hP, hD⟩, hS.F ht⟩) hS.2.2 dX11_unifies_110
      · have kc172 := (not_congr (cv_eq (rfl : (r164).toInt = (r164).toInt) (by decide : (0 : Int32).toInt = 0))).mp c172
        have oc9 := (k171.resolve_right (fun q9 => absurd q9.1 (by omega))).2
        rw [sl9] at oc9
        refine lv_iconst (v := 0) hx hb dX11_unifies_97 (by decide) ?_
        replace hP : va_P (dC, dI) cls [(h_mm, .inr (8, (mo136 v_mm (.ref h_nv) (.ref h_nn) (.ref h_na) (.ref h_nb) (.ref h_nc) (.ref h_bto) (.ref h_bin) (.ref h_tra) (.int x_mm_trailed) (.int z165) (.int z166)))), (h_nv, .inl (cy_nv, 8000, .inl f_nv)), (h_na, .inl (cy_na, 8000, .inl f_na)), (h_nb, .inl (cy_nb, 8000, .inl f_nb)), (h_nc, .inl (cy_nc, 8000, .inl f_nc)), (h_bto, .inl (cy_bto, 256, .inl f_bto)), (h_bin, .inl (cy_bin, 256, .inl f_bin)), (h_nn, .inl (cy_nn, 8000, .inr (.inl f_nn))), (h_tra, .inl (cy_tra, 256, .inl f_tra))] H := hP.sub [2, 3, 4, 5, 6, 7, 8, 0, 1] rfl
        replace hD : va_D A [(h_mm, .inr (8, (mo136 v_mm (.ref h_nv) (.ref h_nn) (.ref h_na) (.ref h_nb) (.ref h_nc) (.ref h_bto) (.ref h_bin) (.ref h_tra) (.int x_mm_trailed) (.int z165) (.int z166)))), (h_nv, .inl (cy_nv, 8000, .inl f_nv)), (h_na, .inl (cy_na, 8000, .inl f_na)), (h_nb, .inl (cy_nb, 8000, .inl f_nb)), (h_nc, .inl (cy_nc, 8000, .inl f_nc)), (h_bto, .inl (cy_bto, 256, .inl f_bto)), (h_bin, .inl (cy_bin, 256, .inl f_bin)), (h_nn, .inl (cy_nn, 8000, .inr (.inl f_nn))), (h_tra, .inl (cy_tra, 256, .inl f_tra))] := hD.sub [2, 3, 4, 5, 6, 7, 8, 0, 1] (by decide) rfl
        refine W.widen (k := 0) (n := 0) (Nat.le_of_ble_eq_true rfl) (Nat.le_of_ble_eq_true rfl) ?_
        have cst0 : (0 : Int32).toInt = 0 := by decide
        have w190 : 0 ≤ ((x_mm_trailed)).toInt ∧ ((x_mm_trailed)).toInt ≤ 256 := by first | exact hx_mm_trailed | omega
        have w191 : 0 ≤ ((z165)).toInt ∧ ((z165)).toInt ≤ 7999 := by first | exact k167 | omega
        have w192 : 0 ≤ ((z166)).toInt ∧ ((z166)).toInt ≤ 31 := by first | exact k168 | omega
        have w193 : 0 ≤ (0 : Int32).toInt ∧ (0 : Int32).toInt ≤ 1 := by omega
        have w194 : BI i0 i1 N hz f_nv f_na f_nb f_nc (f_bto) (f_bin) := hn_bi
        have w195 : TRL ((x_mm_trailed)).toInt (f_tra) (f_bto) := (trl_cast hn_trl (by omega))
        have w196 : GRW (x_mm_trailed).toInt ((x_mm_trailed)).toInt f_bto f_bin f_tra (f_bto) (f_bin) (f_tra) := (gr_cast gr0 (by omega) (by omega))
        have w197 : UNX g (BDW f_bto f_bin) (BDW (f_bto) (f_bin)) (PLR p1 p2) (PLR p3 p4) ((0 : Int32)).toInt := (unx_occ1 k14 k28 (by rw [gv9a]; omega) ns9 oc9 (by decide))
        exact W.zret (v := 0) (ty := .boolean) hx hb hr (by decide) (fun t ht hW => ⟨⟨0, (x_mm_trailed, z165, z166, f_bto, f_bin, f_tra), rfl, ⟨w190, w191, w192, hf_bto, hf_bin, hf_tra, w193, w194, w195, w196, w197⟩, by rw [ht]; exact hP, hD⟩, hS.F ht⟩) hS.2.2 dX11_unifies_98
    · have kc162 := (not_congr (cv_eq (rfl : (z161).toInt = (z161).toInt) (by decide : ((-1) : Int32).toInt = -1))).mp c162
      refine lv_aload_n hx hb dX11_unifies_69 rfl (lv_at hl 5 rfl) ?_
      refine lv_iload hx hb dX11_unifies_70 (lv_at hl 2 rfl) ?_
      refine lv_iload hx hb dX11_unifies_72 (lv_at hl 1 rfl) ?_
      obtain ⟨vq198, evq198⟩ := mq136_129 v_mm (.ref h_nn) (.ref h_na) (.ref h_nb) (.ref h_nc) (.ref h_bto) (.ref h_bin) (.ref h_tra) (.int x_mm_trailed) (.int z17) (.int z18)
      replace hP : va_P (dC, dI) cls [(h_nn, .inl (cy_nn, 8000, .inr (.inl f_nn))), (h_tra, .inl (cy_tra, 256, .inl f_tra)), (h_na, .inl (cy_na, 8000, .inl f_na)), (h_nb, .inl (cy_nb, 8000, .inl f_nb)), (h_nc, .inl (cy_nc, 8000, .inl f_nc)), (h_bto, .inl (cy_bto, 256, .inl f_bto)), (h_bin, .inl (cy_bin, 256, .inl f_bin)), (h_mm, .inr (8, (mo129 vq198 (.ref h_nv)))), (h_nv, .inl (cy_nv, 8000, .inl f_nv))] H := by rw [evq198]; exact hP
      replace hD : va_D A [(h_nn, .inl (cy_nn, 8000, .inr (.inl f_nn))), (h_tra, .inl (cy_tra, 256, .inl f_tra)), (h_na, .inl (cy_na, 8000, .inl f_na)), (h_nb, .inl (cy_nb, 8000, .inl f_nb)), (h_nc, .inl (cy_nc, 8000, .inl f_nc)), (h_bto, .inl (cy_bto, 256, .inl f_bto)), (h_bin, .inl (cy_bin, 256, .inl f_bin)), (h_mm, .inr (8, (mo129 vq198 (.ref h_nv)))), (h_nv, .inl (cy_nv, 8000, .inl f_nv))] := by rw [evq198]; exact hD
      have hPc := hP.sub (ws' := [(h_mm, .inr (8, (mo129 vq198 (.ref h_nv)))), (h_nv, .inl (cy_nv, 8000, .inl f_nv))]) [7, 8] rfl
      have hDc := hD.sub (ws' := [(h_mm, .inr (8, (mo129 vq198 (.ref h_nv)))), (h_nv, .inl (cy_nv, 8000, .inl f_nv))]) [7, 8] (by decide) rfl
      have hKc := hK.sub (tys' := [(cy_nv, .int)]) [0] rfl
      have hFc := va_free (wc := [(h_mm, .inr (8, (mo129 vq198 (.ref h_nv)))), (h_nv, .inl (cy_nv, 8000, .inl f_nv))]) hD hS hA [7, 8] rfl
      refine va_calli (va_runV (As := [.int z17, .int z18]) (rest := []) ⟨hx, hb, hml, hown, hts⟩ (c_X11_slotOf l dC dI H.size h_mm h_nv vq198 cy_nv f_nv z17 z18 hf_nv (by first | exact k20 | omega) (by first | exact k21 | omega)) (cwV 2 hts (gv hT w_m_X11_270 w_instanceMethod_X11_slotOf ws_sel_X11_slotOf w_ini_X11 w_code_X11_slotOf) rfl rfl rfl (by decide +kernel) ⟨(by dsimp only [headSpec]; omega), (by dsimp only [headSpec]; omega)⟩) ⟨pre_blind, va_recv hK hP (ci := 8) (q0 := 7) rfl rfl, pre_of hPc hKc hDc hN⟩ rfl rfl hl.1 rfl (lv_room (Nat.le_of_ble_eq_true rfl)) dX11_unifies_74 ⟨(Nat.le_of_ble_eq_true rfl), (Nat.le_of_ble_eq_true rfl)⟩) hS (fun q _ h => hFc q h) hFc (fun r199 u t H locs ht hvm hq hB hz1 hk1 hS9 => ?_)
      obtain ⟨hP1, hD1⟩ := hB
      rw [ht] at hP1
      obtain ⟨hP9, hD9⟩ := va_join (wr := [(h_nn, .inl (cy_nn, 8000, .inr (.inl f_nn))), (h_tra, .inl (cy_tra, 256, .inl f_tra)), (h_na, .inl (cy_na, 8000, .inl f_na)), (h_nb, .inl (cy_nb, 8000, .inl f_nb)), (h_nc, .inl (cy_nc, 8000, .inl f_nc)), (h_bto, .inl (cy_bto, 256, .inl f_bto)), (h_bin, .inl (cy_bin, 256, .inl f_bin))]) (w1 := [(h_mm, .inr (8, (mo129 vq198 (.ref h_nv)))), (h_nv, .inl (cy_nv, 8000, .inl f_nv))]) hP hD [7, 8] [0, 1, 2, 3, 4, 5, 6] rfl rfl (by decide) (by decide) hk1 hFc hP1 hD1
      clear hP hD hS hPc hDc hKc hFc hP1 hD1 hk1 hz1 ht hvm
      have hP : va_P (dC, dI) cls [(h_nn, .inl (cy_nn, 8000, .inr (.inl f_nn))), (h_tra, .inl (cy_tra, 256, .inl f_tra)), (h_na, .inl (cy_na, 8000, .inl f_na)), (h_nb, .inl (cy_nb, 8000, .inl f_nb)), (h_nc, .inl (cy_nc, 8000, .inl f_nc)), (h_bto, .inl (cy_bto, 256, .inl f_bto)), (h_bin, .inl (cy_bin, 256, .inl f_bin)), (h_mm, .inr (8, (mo129 vq198 (.ref h_nv)))), (h_nv, .inl (cy_nv, 8000, .inl f_nv))] H := hP9
      have hD : va_D A [(h_nn, .inl (cy_nn, 8000, .inr (.inl f_nn))), (h_tra, .inl (cy_tra, 256, .inl f_tra)), (h_na, .inl (cy_na, 8000, .inl f_na)), (h_nb, .inl (cy_nb, 8000, .inl f_nb)), (h_nc, .inl (cy_nc, 8000, .inl f_nc)), (h_bto, .inl (cy_bto, 256, .inl f_bto)), (h_bin, .inl (cy_bin, 256, .inl f_bin)), (h_mm, .inr (8, (mo129 vq198 (.ref h_nv)))), (h_nv, .inl (cy_nv, 8000, .inl f_nv))] := hD9
      have hS := hS9
      clear hP9 hD9 hS9
      rw [evq198] at hP hD
      replace hP : va_P (dC, dI) cls [(h_nn, .inl (cy_nn, 8000, .inr (.inl f_nn))), (h_tra, .inl (cy_tra, 256, .inl f_tra)), (h_na, .inl (cy_na, 8000, .inl f_na)), (h_nb, .inl (cy_nb, 8000, .inl f_nb)), (h_nc, .inl (cy_nc, 8000, .inl f_nc)), (h_bto, .inl (cy_bto, 256, .inl f_bto)), (h_bin, .inl (cy_bin, 256, .inl f_bin)), (h_mm, .inr (8, (mo136 v_mm (.ref h_nv) (.ref h_nn) (.ref h_na) (.ref h_nb) (.ref h_nc) (.ref h_bto) (.ref h_bin) (.ref h_tra) (.int x_mm_trailed) (.int z17) (.int z18)))), (h_nv, .inl (cy_nv, 8000, .inl f_nv))] H := hP
      replace hD : va_D A [(h_nn, .inl (cy_nn, 8000, .inr (.inl f_nn))), (h_tra, .inl (cy_tra, 256, .inl f_tra)), (h_na, .inl (cy_na, 8000, .inl f_na)), (h_nb, .inl (cy_nb, 8000, .inl f_nb)), (h_nc, .inl (cy_nc, 8000, .inl f_nc)), (h_bto, .inl (cy_bto, 256, .inl f_bto)), (h_bin, .inl (cy_bin, 256, .inl f_bin)), (h_mm, .inr (8, (mo136 v_mm (.ref h_nv) (.ref h_nn) (.ref h_na) (.ref h_nb) (.ref h_nc) (.ref h_bto) (.ref h_bin) (.ref h_tra) (.int x_mm_trailed) (.int z17) (.int z18)))), (h_nv, .inl (cy_nv, 8000, .inl f_nv))] := hD
      clear evq198 
      obtain ⟨k200, k201⟩ := hq
      replace k200 : -1 ≤ (r199).toInt ∧ (r199).toInt ≤ 255 := k200
      replace k201 : ((r199)).toInt = 8 * ((z18)).toInt + (f_nv ((z17)).toInt.toNat).toInt := k201
      refine lv_iload hx hb dX11_unifies_77 (lv_at hl 0 rfl) ?_
      refine lv_icmp_ne (tgt := 84) hx hb dX11_unifies_79 (by decide) (fun c202 => ?_) (fun c202 => ?_)
      · have kc202 := (not_congr (cv_eq (rfl : (r199).toInt = (r199).toInt) (rfl : (r158).toInt = (r158).toInt))).mp c202
        have hvz161 : (f_nv (z17).toInt.toNat).toInt = (z161).toInt := by rw [ez161, (clamp_nat (i := z17) (by omega))]
        have gv9b := grv_v (i := z18) hn_grv (show 0 ≤ (z17).toInt ∧ (z17).toInt < 8000 by omega)
        have ns9 : ¬ (0 ≤ g.1 (PLR z17 z18) ∧ g.2.1 (PLR z17 z18) = g.2.1 (PLR z3 z4)) := fun q9 => by have q8 := q9.1; rw [gv9b] at q8; have gc9b := grv_c (i := z18) hn_grv (show 0 ≤ (z17).toInt ∧ (z17).toInt < 8000 by omega) (by omega) q8; omega
        have sl9 : (r158).toInt.toNat = g.2.1 (PLR z3 z4) := by omega
        have hvz29 : (f_nv (z3).toInt.toNat).toInt = (z29).toInt := by rw [ez29, (clamp_nat (i := z3) (by omega))]
        have hb9 : (f_bto (r158).toInt.toNat).toInt = -1 := by have h9 := (k12).resolve_left (by omega); rwa [show (8 * (z4).toInt + (f_nv (z3).toInt.toNat).toInt).toNat = (r158).toInt.toNat by omega] at h9
        refine lv_aload_n hx hb dX11_unifies_84 rfl (lv_at hl 5 rfl) ?_
        refine lv_iload hx hb dX11_unifies_85 (lv_at hl 2 rfl) ?_
        refine lv_iload hx hb dX11_unifies_87 (lv_at hl 1 rfl) ?_
        refine lv_iload hx hb dX11_unifies_89 (lv_at hl 0 rfl) ?_
        obtain ⟨vq203, evq203⟩ := mq136_134 v_mm (.ref h_nn) (.ref h_tra) (.int x_mm_trailed)
        replace hP : va_P (dC, dI) cls [(h_nn, .inl (cy_nn, 8000, .inr (.inl f_nn))), (h_tra, .inl (cy_tra, 256, .inl f_tra)), (h_na, .inl (cy_na, 8000, .inl f_na)), (h_nb, .inl (cy_nb, 8000, .inl f_nb)), (h_nc, .inl (cy_nc, 8000, .inl f_nc)), (h_bto, .inl (cy_bto, 256, .inl f_bto)), (h_bin, .inl (cy_bin, 256, .inl f_bin)), (h_mm, .inr (8, (mo134 vq203 (.ref h_nv) (.ref h_na) (.ref h_nb) (.ref h_nc) (.ref h_bto) (.ref h_bin) (.int z17) (.int z18)))), (h_nv, .inl (cy_nv, 8000, .inl f_nv))] H := by rw [evq203]; exact hP
        replace hD : va_D A [(h_nn, .inl (cy_nn, 8000, .inr (.inl f_nn))), (h_tra, .inl (cy_tra, 256, .inl f_tra)), (h_na, .inl (cy_na, 8000, .inl f_na)), (h_nb, .inl (cy_nb, 8000, .inl f_nb)), (h_nc, .inl (cy_nc, 8000, .inl f_nc)), (h_bto, .inl (cy_bto, 256, .inl f_bto)), (h_bin, .inl (cy_bin, 256, .inl f_bin)), (h_mm, .inr (8, (mo134 vq203 (.ref h_nv) (.ref h_na) (.ref h_nb) (.ref h_nc) (.ref h_bto) (.ref h_bin) (.int z17) (.int z18)))), (h_nv, .inl (cy_nv, 8000, .inl f_nv))] := by rw [evq203]; exact hD
        have hPc := hP.sub (ws' := [(h_mm, .inr (8, (mo134 vq203 (.ref h_nv) (.ref h_na) (.ref h_nb) (.ref h_nc) (.ref h_bto) (.ref h_bin) (.int z17) (.int z18)))), (h_nv, .inl (cy_nv, 8000, .inl f_nv)), (h_na, .inl (cy_na, 8000, .inl f_na)), (h_nb, .inl (cy_nb, 8000, .inl f_nb)), (h_nc, .inl (cy_nc, 8000, .inl f_nc)), (h_bto, .inl (cy_bto, 256, .inl f_bto)), (h_bin, .inl (cy_bin, 256, .inl f_bin))]) [7, 8, 2, 3, 4, 5, 6] rfl
        have hDc := hD.sub (ws' := [(h_mm, .inr (8, (mo134 vq203 (.ref h_nv) (.ref h_na) (.ref h_nb) (.ref h_nc) (.ref h_bto) (.ref h_bin) (.int z17) (.int z18)))), (h_nv, .inl (cy_nv, 8000, .inl f_nv)), (h_na, .inl (cy_na, 8000, .inl f_na)), (h_nb, .inl (cy_nb, 8000, .inl f_nb)), (h_nc, .inl (cy_nc, 8000, .inl f_nc)), (h_bto, .inl (cy_bto, 256, .inl f_bto)), (h_bin, .inl (cy_bin, 256, .inl f_bin))]) [7, 8, 2, 3, 4, 5, 6] (by decide) rfl
        have hKc := hK.sub (tys' := [(cy_nv, .int), (cy_na, .int), (cy_nb, .int), (cy_nc, .int), (cy_bto, .int), (cy_bin, .int)]) [0, 1, 2, 3, 4, 5] rfl
        have hFc := va_free (wc := [(h_mm, .inr (8, (mo134 vq203 (.ref h_nv) (.ref h_na) (.ref h_nb) (.ref h_nc) (.ref h_bto) (.ref h_bin) (.int z17) (.int z18)))), (h_nv, .inl (cy_nv, 8000, .inl f_nv)), (h_na, .inl (cy_na, 8000, .inl f_na)), (h_nb, .inl (cy_nb, 8000, .inl f_nb)), (h_nc, .inl (cy_nc, 8000, .inl f_nc)), (h_bto, .inl (cy_bto, 256, .inl f_bto)), (h_bin, .inl (cy_bin, 256, .inl f_bin))]) hD hS hA [7, 8, 2, 3, 4, 5, 6] rfl
        refine va_calli (va_runV (As := [.int z17, .int z18, .int r158]) (rest := []) ⟨hx, hb, hml, hown, hts⟩ (c_X11_holds l (fu + 1) dC dI H.size h_mm h_nv h_na h_nb h_nc h_bto h_bin vq203 z17 z18 cy_nv f_nv cy_na f_na cy_nb f_nb cy_nc f_nc cy_bto f_bto cy_bin f_bin z17 z18 r158 i0 i1 N hz g z19 (by first | exact k20 | omega) (by first | exact k21 | omega) hf_nv hf_na hf_nb hf_nc hf_bto hf_bin (by first | exact q0 | omega) (by first | exact q1 | omega) (by first | exact k22 | omega) (by first | exact k23 | omega) (by omega) (by first | exact k24 | omega) (by omega) hn_bi k25 hn_grv) (cwV 3 hts (gv hT w_m_X11_276 w_instanceMethod_X11_holds ws_sel_X11_holds w_ini_X11 w_code_X11_holds) rfl rfl rfl (by decide +kernel) ⟨(by dsimp only [headSpec]; omega), (by dsimp only [headSpec]; omega)⟩) ⟨pre_blind, va_recv hK hP (ci := 8) (q0 := 7) rfl rfl, pre_of hPc hKc hDc hN⟩ rfl rfl hl.1 rfl (lv_room (Nat.le_of_ble_eq_true rfl)) dX11_unifies_91 ⟨(Nat.le_of_ble_eq_true rfl), (Nat.le_of_ble_eq_true rfl)⟩) hS (fun q _ h => hFc q h) hFc (fun r204 u t H locs ht hvm hq hB hz1 hk1 hS9 => ?_)
        obtain ⟨z205, z206⟩ := u
        obtain ⟨hP1, hD1⟩ := hB
        rw [ht] at hP1
        obtain ⟨hP9, hD9⟩ := va_join (wr := [(h_nn, .inl (cy_nn, 8000, .inr (.inl f_nn))), (h_tra, .inl (cy_tra, 256, .inl f_tra))]) (w1 := [(h_mm, .inr (8, (mo134 vq203 (.ref h_nv) (.ref h_na) (.ref h_nb) (.ref h_nc) (.ref h_bto) (.ref h_bin) (.int z205) (.int z206)))), (h_nv, .inl (cy_nv, 8000, .inl f_nv)), (h_na, .inl (cy_na, 8000, .inl f_na)), (h_nb, .inl (cy_nb, 8000, .inl f_nb)), (h_nc, .inl (cy_nc, 8000, .inl f_nc)), (h_bto, .inl (cy_bto, 256, .inl f_bto)), (h_bin, .inl (cy_bin, 256, .inl f_bin))]) hP hD [7, 8, 2, 3, 4, 5, 6] [0, 1] rfl rfl (by decide) (by decide) hk1 hFc hP1 hD1
        clear hP hD hS hPc hDc hKc hFc hP1 hD1 hk1 hz1 ht hvm
        have hP : va_P (dC, dI) cls [(h_nn, .inl (cy_nn, 8000, .inr (.inl f_nn))), (h_tra, .inl (cy_tra, 256, .inl f_tra)), (h_mm, .inr (8, (mo134 vq203 (.ref h_nv) (.ref h_na) (.ref h_nb) (.ref h_nc) (.ref h_bto) (.ref h_bin) (.int z205) (.int z206)))), (h_nv, .inl (cy_nv, 8000, .inl f_nv)), (h_na, .inl (cy_na, 8000, .inl f_na)), (h_nb, .inl (cy_nb, 8000, .inl f_nb)), (h_nc, .inl (cy_nc, 8000, .inl f_nc)), (h_bto, .inl (cy_bto, 256, .inl f_bto)), (h_bin, .inl (cy_bin, 256, .inl f_bin))] H := hP9
        have hD : va_D A [(h_nn, .inl (cy_nn, 8000, .inr (.inl f_nn))), (h_tra, .inl (cy_tra, 256, .inl f_tra)), (h_mm, .inr (8, (mo134 vq203 (.ref h_nv) (.ref h_na) (.ref h_nb) (.ref h_nc) (.ref h_bto) (.ref h_bin) (.int z205) (.int z206)))), (h_nv, .inl (cy_nv, 8000, .inl f_nv)), (h_na, .inl (cy_na, 8000, .inl f_na)), (h_nb, .inl (cy_nb, 8000, .inl f_nb)), (h_nc, .inl (cy_nc, 8000, .inl f_nc)), (h_bto, .inl (cy_bto, 256, .inl f_bto)), (h_bin, .inl (cy_bin, 256, .inl f_bin))] := hD9
        have hS := hS9
        clear hP9 hD9 hS9
        rw [evq203] at hP hD
        replace hP : va_P (dC, dI) cls [(h_nn, .inl (cy_nn, 8000, .inr (.inl f_nn))), (h_tra, .inl (cy_tra, 256, .inl f_tra)), (h_mm, .inr (8, (mo136 v_mm (.ref h_nv) (.ref h_nn) (.ref h_na) (.ref h_nb) (.ref h_nc) (.ref h_bto) (.ref h_bin) (.ref h_tra) (.int x_mm_trailed) (.int z205) (.int z206)))), (h_nv, .inl (cy_nv, 8000, .inl f_nv)), (h_na, .inl (cy_na, 8000, .inl f_na)), (h_nb, .inl (cy_nb, 8000, .inl f_nb)), (h_nc, .inl (cy_nc, 8000, .inl f_nc)), (h_bto, .inl (cy_bto, 256, .inl f_bto)), (h_bin, .inl (cy_bin, 256, .inl f_bin))] H := hP
        replace hD : va_D A [(h_nn, .inl (cy_nn, 8000, .inr (.inl f_nn))), (h_tra, .inl (cy_tra, 256, .inl f_tra)), (h_mm, .inr (8, (mo136 v_mm (.ref h_nv) (.ref h_nn) (.ref h_na) (.ref h_nb) (.ref h_nc) (.ref h_bto) (.ref h_bin) (.ref h_tra) (.int x_mm_trailed) (.int z205) (.int z206)))), (h_nv, .inl (cy_nv, 8000, .inl f_nv)), (h_na, .inl (cy_na, 8000, .inl f_na)), (h_nb, .inl (cy_nb, 8000, .inl f_nb)), (h_nc, .inl (cy_nc, 8000, .inl f_nc)), (h_bto, .inl (cy_bto, 256, .inl f_bto)), (h_bin, .inl (cy_bin, 256, .inl f_bin))] := hD
        clear evq203 
        obtain ⟨k207, k208, k209, k210, k211⟩ := hq
        replace k207 : 0 ≤ ((z205)).toInt ∧ ((z205)).toInt ≤ 7999 := k207
        replace k208 : 0 ≤ ((z206)).toInt ∧ ((z206)).toInt ≤ 31 := k208
        replace k209 : 0 ≤ (r204).toInt ∧ (r204).toInt ≤ 1 := k209
        replace k210 : ((r204)).toInt = 1 ∨ NR f_nv f_na f_nb f_nc f_bto f_bin ((z17)).toInt.toNat ((z18)).toInt ((r158)).toInt.toNat := k210
        replace k211 : (((r204)).toInt = 1 ∧ OCC (g) (BDW f_bto f_bin) (PLR (z17) (z18)) ((r158)).toInt.toNat) ∨ (((r204)).toInt = 0 ∧ ¬ OCC (g) (BDW f_bto f_bin) (PLR (z17) (z18)) ((r158)).toInt.toNat) := k211
        refine lv_if_eq (tgt := 99) hx hb dX11_unifies_94 (by decide) (fun c212 => ?_) (fun c212 => ?_)
        · have kc212 := (cv_eq (rfl : (r204).toInt = (r204).toInt) (by decide : (0 : Int32).toInt = 0)).mp c212
          have oc9 := (k211.resolve_left (fun q9 => absurd q9.1 (by omega))).2
          rw [sl9] at oc9
          have tr9 := trl_room (s := (r158).toInt.toNat) hn_trl hf_tra (by omega) (by omega) hb9
          refine lv_aload_n hx hb dX11_unifies_99 rfl (lv_at hl 5 rfl) ?_
          refine lv_iload hx hb dX11_unifies_100 (lv_at hl 0 rfl) ?_
          refine lv_iload hx hb dX11_unifies_102 (lv_at hl 2 rfl) ?_
          refine lv_iload hx hb dX11_unifies_104 (lv_at hl 1 rfl) ?_
          obtain ⟨vq213, evq213⟩ := mq136_135 v_mm (.ref h_nv) (.ref h_nn) (.ref h_na) (.ref h_nb) (.ref h_nc) (.int z205) (.int z206)
          replace hP : va_P (dC, dI) cls [(h_nn, .inl (cy_nn, 8000, .inr (.inl f_nn))), (h_tra, .inl (cy_tra, 256, .inl f_tra)), (h_mm, .inr (8, (mo135 vq213 (.ref h_bto) (.ref h_bin) (.ref h_tra) (.int x_mm_trailed)))), (h_nv, .inl (cy_nv, 8000, .inl f_nv)), (h_na, .inl (cy_na, 8000, .inl f_na)), (h_nb, .inl (cy_nb, 8000, .inl f_nb)), (h_nc, .inl (cy_nc, 8000, .inl f_nc)), (h_bto, .inl (cy_bto, 256, .inl f_bto)), (h_bin, .inl (cy_bin, 256, .inl f_bin))] H := by rw [evq213]; exact hP
          replace hD : va_D A [(h_nn, .inl (cy_nn, 8000, .inr (.inl f_nn))), (h_tra, .inl (cy_tra, 256, .inl f_tra)), (h_mm, .inr (8, (mo135 vq213 (.ref h_bto) (.ref h_bin) (.ref h_tra) (.int x_mm_trailed)))), (h_nv, .inl (cy_nv, 8000, .inl f_nv)), (h_na, .inl (cy_na, 8000, .inl f_na)), (h_nb, .inl (cy_nb, 8000, .inl f_nb)), (h_nc, .inl (cy_nc, 8000, .inl f_nc)), (h_bto, .inl (cy_bto, 256, .inl f_bto)), (h_bin, .inl (cy_bin, 256, .inl f_bin))] := by rw [evq213]; exact hD
          have hPc := hP.sub (ws' := [(h_mm, .inr (8, (mo135 vq213 (.ref h_bto) (.ref h_bin) (.ref h_tra) (.int x_mm_trailed)))), (h_bto, .inl (cy_bto, 256, .inl f_bto)), (h_bin, .inl (cy_bin, 256, .inl f_bin)), (h_tra, .inl (cy_tra, 256, .inl f_tra))]) [2, 7, 8, 1] rfl
          have hDc := hD.sub (ws' := [(h_mm, .inr (8, (mo135 vq213 (.ref h_bto) (.ref h_bin) (.ref h_tra) (.int x_mm_trailed)))), (h_bto, .inl (cy_bto, 256, .inl f_bto)), (h_bin, .inl (cy_bin, 256, .inl f_bin)), (h_tra, .inl (cy_tra, 256, .inl f_tra))]) [2, 7, 8, 1] (by decide) rfl
          have hKc := hK.sub (tys' := [(cy_bto, .int), (cy_bin, .int), (cy_tra, .int)]) [4, 5, 7] rfl
          have hFc := va_free (wc := [(h_mm, .inr (8, (mo135 vq213 (.ref h_bto) (.ref h_bin) (.ref h_tra) (.int x_mm_trailed)))), (h_bto, .inl (cy_bto, 256, .inl f_bto)), (h_bin, .inl (cy_bin, 256, .inl f_bin)), (h_tra, .inl (cy_tra, 256, .inl f_tra))]) hD hS hA [2, 7, 8, 1] rfl
          refine va_callv (va_runV (As := [.int r158, .int z17, .int z18]) (rest := []) ⟨hx, hb, hml, hown, hts⟩ (c_X11_binds l dC dI H.size h_mm h_bto h_bin h_tra vq213 x_mm_trailed cy_bto f_bto cy_bin f_bin cy_tra f_tra r158 z17 z18 (by first | exact hx_mm_trailed | omega) hf_bto hf_bin hf_tra (by omega) (by first | exact k20 | omega) (by first | exact k21 | omega) (by omega)) (cwV 3 hts (gv hT w_m_X11_280 w_instanceMethod_X11_binds ws_sel_X11_binds w_ini_X11 w_code_X11_binds) rfl rfl rfl (by decide +kernel) ⟨(by dsimp only [headSpec]; omega), (by dsimp only [headSpec]; omega)⟩) ⟨pre_blind, va_recv hK hP (ci := 8) (q0 := 2) rfl rfl, pre_of hPc hKc hDc hN⟩ rfl rfl hl.1 rfl (lv_room (Nat.le_of_ble_eq_true rfl)) dX11_unifies_106 ⟨(Nat.le_of_ble_eq_true rfl), (Nat.le_of_ble_eq_true rfl)⟩) hS (fun q _ h => hFc q h) hFc (fun u t H locs ht hvm hq hB hz1 hk1 hS9 => ?_)
          obtain ⟨z215, f216, f217, f218⟩ := u
          obtain ⟨hP1, hD1⟩ := hB
          rw [ht] at hP1
          obtain ⟨hP9, hD9⟩ := va_join (wr := [(h_nn, .inl (cy_nn, 8000, .inr (.inl f_nn))), (h_nv, .inl (cy_nv, 8000, .inl f_nv)), (h_na, .inl (cy_na, 8000, .inl f_na)), (h_nb, .inl (cy_nb, 8000, .inl f_nb)), (h_nc, .inl (cy_nc, 8000, .inl f_nc))]) (w1 := [(h_mm, .inr (8, (mo135 vq213 (.ref h_bto) (.ref h_bin) (.ref h_tra) (.int z215)))), (h_bto, .inl (cy_bto, 256, .inl f216)), (h_bin, .inl (cy_bin, 256, .inl f217)), (h_tra, .inl (cy_tra, 256, .inl f218))]) hP hD [2, 7, 8, 1] [0, 3, 4, 5, 6] rfl rfl (by decide) (by decide) hk1 hFc hP1 hD1
          clear hP hD hS hPc hDc hKc hFc hP1 hD1 hk1 hz1 ht hvm
          have hP : va_P (dC, dI) cls [(h_nn, .inl (cy_nn, 8000, .inr (.inl f_nn))), (h_nv, .inl (cy_nv, 8000, .inl f_nv)), (h_na, .inl (cy_na, 8000, .inl f_na)), (h_nb, .inl (cy_nb, 8000, .inl f_nb)), (h_nc, .inl (cy_nc, 8000, .inl f_nc)), (h_mm, .inr (8, (mo135 vq213 (.ref h_bto) (.ref h_bin) (.ref h_tra) (.int z215)))), (h_bto, .inl (cy_bto, 256, .inl f216)), (h_bin, .inl (cy_bin, 256, .inl f217)), (h_tra, .inl (cy_tra, 256, .inl f218))] H := hP9
          have hD : va_D A [(h_nn, .inl (cy_nn, 8000, .inr (.inl f_nn))), (h_nv, .inl (cy_nv, 8000, .inl f_nv)), (h_na, .inl (cy_na, 8000, .inl f_na)), (h_nb, .inl (cy_nb, 8000, .inl f_nb)), (h_nc, .inl (cy_nc, 8000, .inl f_nc)), (h_mm, .inr (8, (mo135 vq213 (.ref h_bto) (.ref h_bin) (.ref h_tra) (.int z215)))), (h_bto, .inl (cy_bto, 256, .inl f216)), (h_bin, .inl (cy_bin, 256, .inl f217)), (h_tra, .inl (cy_tra, 256, .inl f218))] := hD9
          have hS := hS9
          clear hP9 hD9 hS9
          rw [evq213] at hP hD
          replace hP : va_P (dC, dI) cls [(h_nn, .inl (cy_nn, 8000, .inr (.inl f_nn))), (h_nv, .inl (cy_nv, 8000, .inl f_nv)), (h_na, .inl (cy_na, 8000, .inl f_na)), (h_nb, .inl (cy_nb, 8000, .inl f_nb)), (h_nc, .inl (cy_nc, 8000, .inl f_nc)), (h_mm, .inr (8, (mo136 v_mm (.ref h_nv) (.ref h_nn) (.ref h_na) (.ref h_nb) (.ref h_nc) (.ref h_bto) (.ref h_bin) (.ref h_tra) (.int z215) (.int z205) (.int z206)))), (h_bto, .inl (cy_bto, 256, .inl f216)), (h_bin, .inl (cy_bin, 256, .inl f217)), (h_tra, .inl (cy_tra, 256, .inl f218))] H := hP
          replace hD : va_D A [(h_nn, .inl (cy_nn, 8000, .inr (.inl f_nn))), (h_nv, .inl (cy_nv, 8000, .inl f_nv)), (h_na, .inl (cy_na, 8000, .inl f_na)), (h_nb, .inl (cy_nb, 8000, .inl f_nb)), (h_nc, .inl (cy_nc, 8000, .inl f_nc)), (h_mm, .inr (8, (mo136 v_mm (.ref h_nv) (.ref h_nn) (.ref h_na) (.ref h_nb) (.ref h_nc) (.ref h_bto) (.ref h_bin) (.ref h_tra) (.int z215) (.int z205) (.int z206)))), (h_bto, .inl (cy_bto, 256, .inl f216)), (h_bin, .inl (cy_bin, 256, .inl f217)), (h_tra, .inl (cy_tra, 256, .inl f218))] := hD
          clear evq213 
          obtain ⟨k219, hf216, hf217, hf218, k220, k221⟩ := hq
          replace k219 : 0 ≤ ((z215)).toInt ∧ ((z215)).toInt ≤ 256 := k219
          replace hf216 : Rg (-1) 7999 (f216) := hf216
          replace hf217 : Rg 0 31 (f217) := hf217
          replace hf218 : Rg 0 255 (f218) := hf218
          replace k220 : ((z215)).toInt = ((x_mm_trailed)).toInt + 1 := k220
          replace k221 : (f216) = upd f_bto (Int32.toNatClampNeg (r158)) (z17) ∧ (f217) = upd f_bin (Int32.toNatClampNeg (r158)) (z18) ∧ (f218) = upd f_tra (Int32.toNatClampNeg (x_mm_trailed)) (r158) := k221
          obtain ⟨eb9, ei9, et9⟩ := k221
          have cs9 := clamp_nat (i := r158) (by omega)
          have bi9 : BI i0 i1 N hz f_nv f_na f_nb f_nc f216 f217 := by rw [eb9, ei9, cs9]; exact bi_bind hn_bi hf_nv hb9 ((k210).resolve_left (by omega)) (by omega) (by omega) (by omega)
          have tl9 : TRL ((x_mm_trailed).toInt + 1) f218 f216 := by rw [et9, eb9]; exact trl_bind hn_trl rfl (by omega) (by omega) (by rw [cs9]; exact hb9) (by omega)
          have gr9 : GRW (x_mm_trailed).toInt ((x_mm_trailed).toInt + 1) f_bto f_bin f_tra f216 f217 f218 := by rw [et9, eb9, ei9]; exact gr_bind rfl (by omega) (by omega) (by rw [cs9]; exact hb9)
          have bw9 : BDW f216 f217 = bst (BDW f_bto f_bin) (g.2.1 (PLR z3 z4)) (PLR z17 z18) := by rw [← sl9, ← cs9]; exact bdw_upd eb9 ei9 (by omega) (by omega)
          refine lv_iconst (v := 1) hx hb dX11_unifies_109 (by decide) ?_
          replace hP : va_P (dC, dI) cls [(h_mm, .inr (8, (mo136 v_mm (.ref h_nv) (.ref h_nn) (.ref h_na) (.ref h_nb) (.ref h_nc) (.ref h_bto) (.ref h_bin) (.ref h_tra) (.int z215) (.int z205) (.int z206)))), (h_nv, .inl (cy_nv, 8000, .inl f_nv)), (h_na, .inl (cy_na, 8000, .inl f_na)), (h_nb, .inl (cy_nb, 8000, .inl f_nb)), (h_nc, .inl (cy_nc, 8000, .inl f_nc)), (h_bto, .inl (cy_bto, 256, .inl f216)), (h_bin, .inl (cy_bin, 256, .inl f217)), (h_nn, .inl (cy_nn, 8000, .inr (.inl f_nn))), (h_tra, .inl (cy_tra, 256, .inl f218))] H := hP.sub [5, 1, 2, 3, 4, 6, 7, 0, 8] rfl
          replace hD : va_D A [(h_mm, .inr (8, (mo136 v_mm (.ref h_nv) (.ref h_nn) (.ref h_na) (.ref h_nb) (.ref h_nc) (.ref h_bto) (.ref h_bin) (.ref h_tra) (.int z215) (.int z205) (.int z206)))), (h_nv, .inl (cy_nv, 8000, .inl f_nv)), (h_na, .inl (cy_na, 8000, .inl f_na)), (h_nb, .inl (cy_nb, 8000, .inl f_nb)), (h_nc, .inl (cy_nc, 8000, .inl f_nc)), (h_bto, .inl (cy_bto, 256, .inl f216)), (h_bin, .inl (cy_bin, 256, .inl f217)), (h_nn, .inl (cy_nn, 8000, .inr (.inl f_nn))), (h_tra, .inl (cy_tra, 256, .inl f218))] := hD.sub [5, 1, 2, 3, 4, 6, 7, 0, 8] (by decide) rfl
          refine W.widen (k := 0) (n := 0) (Nat.le_of_ble_eq_true rfl) (Nat.le_of_ble_eq_true rfl) ?_
          have cst1 : (1 : Int32).toInt = 1 := by decide
          have w222 : 0 ≤ ((z215)).toInt ∧ ((z215)).toInt ≤ 256 := by first | exact k219 | omega
          have w223 : 0 ≤ ((z205)).toInt ∧ ((z205)).toInt ≤ 7999 := by first | exact k207 | omega
          have w224 : 0 ≤ ((z206)).toInt ∧ ((z206)).toInt ≤ 31 := by first | exact k208 | omega
          have w225 : 0 ≤ (1 : Int32).toInt ∧ (1 : Int32).toInt ≤ 1 := by omega
          have w226 : BI i0 i1 N hz f_nv f_na f_nb f_nc (f216) (f217) := bi9
          have w227 : TRL ((z215)).toInt (f218) (f216) := (trl_cast tl9 (by omega))
          have w228 : GRW (x_mm_trailed).toInt ((z215)).toInt f_bto f_bin f_tra (f216) (f217) (f218) := (gr_cast gr9 (by omega) (by omega))
          have w229 : UNX g (BDW f_bto f_bin) (BDW (f216) (f217)) (PLR p1 p2) (PLR p3 p4) ((1 : Int32)).toInt := (unx_bind1 k14 k28 (by rw [gv9a]; omega) ns9 oc9 bw9 (by decide))
          exact W.zret (v := 1) (ty := .boolean) hx hb hr (by decide) (fun t ht hW => ⟨⟨1, (z215, z205, z206, f216, f217, f218), rfl, ⟨w222, w223, w224, hf216, hf217, hf218, w225, w226, w227, w228, w229⟩, by rw [ht]; exact hP, hD⟩, hS.F ht⟩) hS.2.2 dX11_unifies_110
        · have kc212 := (not_congr (cv_eq (rfl : (r204).toInt = (r204).toInt) (by decide : (0 : Int32).toInt = 0))).mp c212
          have oc9 := (k211.resolve_right (fun q9 => absurd q9.1 (by omega))).2
          rw [sl9] at oc9
          refine lv_iconst (v := 0) hx hb dX11_unifies_97 (by decide) ?_
          replace hP : va_P (dC, dI) cls [(h_mm, .inr (8, (mo136 v_mm (.ref h_nv) (.ref h_nn) (.ref h_na) (.ref h_nb) (.ref h_nc) (.ref h_bto) (.ref h_bin) (.ref h_tra) (.int x_mm_trailed) (.int z205) (.int z206)))), (h_nv, .inl (cy_nv, 8000, .inl f_nv)), (h_na, .inl (cy_na, 8000, .inl f_na)), (h_nb, .inl (cy_nb, 8000, .inl f_nb)), (h_nc, .inl (cy_nc, 8000, .inl f_nc)), (h_bto, .inl (cy_bto, 256, .inl f_bto)), (h_bin, .inl (cy_bin, 256, .inl f_bin)), (h_nn, .inl (cy_nn, 8000, .inr (.inl f_nn))), (h_tra, .inl (cy_tra, 256, .inl f_tra))] H := hP.sub [2, 3, 4, 5, 6, 7, 8, 0, 1] rfl
          replace hD : va_D A [(h_mm, .inr (8, (mo136 v_mm (.ref h_nv) (.ref h_nn) (.ref h_na) (.ref h_nb) (.ref h_nc) (.ref h_bto) (.ref h_bin) (.ref h_tra) (.int x_mm_trailed) (.int z205) (.int z206)))), (h_nv, .inl (cy_nv, 8000, .inl f_nv)), (h_na, .inl (cy_na, 8000, .inl f_na)), (h_nb, .inl (cy_nb, 8000, .inl f_nb)), (h_nc, .inl (cy_nc, 8000, .inl f_nc)), (h_bto, .inl (cy_bto, 256, .inl f_bto)), (h_bin, .inl (cy_bin, 256, .inl f_bin)), (h_nn, .inl (cy_nn, 8000, .inr (.inl f_nn))), (h_tra, .inl (cy_tra, 256, .inl f_tra))] := hD.sub [2, 3, 4, 5, 6, 7, 8, 0, 1] (by decide) rfl
          refine W.widen (k := 0) (n := 0) (Nat.le_of_ble_eq_true rfl) (Nat.le_of_ble_eq_true rfl) ?_
          have cst0 : (0 : Int32).toInt = 0 := by decide
          have w230 : 0 ≤ ((x_mm_trailed)).toInt ∧ ((x_mm_trailed)).toInt ≤ 256 := by first | exact hx_mm_trailed | omega
          have w231 : 0 ≤ ((z205)).toInt ∧ ((z205)).toInt ≤ 7999 := by first | exact k207 | omega
          have w232 : 0 ≤ ((z206)).toInt ∧ ((z206)).toInt ≤ 31 := by first | exact k208 | omega
          have w233 : 0 ≤ (0 : Int32).toInt ∧ (0 : Int32).toInt ≤ 1 := by omega
          have w234 : BI i0 i1 N hz f_nv f_na f_nb f_nc (f_bto) (f_bin) := hn_bi
          have w235 : TRL ((x_mm_trailed)).toInt (f_tra) (f_bto) := (trl_cast hn_trl (by omega))
          have w236 : GRW (x_mm_trailed).toInt ((x_mm_trailed)).toInt f_bto f_bin f_tra (f_bto) (f_bin) (f_tra) := (gr_cast gr0 (by omega) (by omega))
          have w237 : UNX g (BDW f_bto f_bin) (BDW (f_bto) (f_bin)) (PLR p1 p2) (PLR p3 p4) ((0 : Int32)).toInt := (unx_occ1 k14 k28 (by rw [gv9a]; omega) ns9 oc9 (by decide))
          exact W.zret (v := 0) (ty := .boolean) hx hb hr (by decide) (fun t ht hW => ⟨⟨0, (x_mm_trailed, z205, z206, f_bto, f_bin, f_tra), rfl, ⟨w230, w231, w232, hf_bto, hf_bin, hf_tra, w233, w234, w235, w236, w237⟩, by rw [ht]; exact hP, hD⟩, hS.F ht⟩) hS.2.2 dX11_unifies_98
      · have kc202 := (cv_eq (rfl : (r199).toInt = (r199).toInt) (rfl : (r158).toInt = (r158).toInt)).mp c202
        have hvz161 : (f_nv (z17).toInt.toNat).toInt = (z161).toInt := by rw [ez161, (clamp_nat (i := z17) (by omega))]
        have gv9b := grv_v (i := z18) hn_grv (show 0 ≤ (z17).toInt ∧ (z17).toInt < 8000 by omega)
        have gc9b := grv_c (i := z18) hn_grv (show 0 ≤ (z17).toInt ∧ (z17).toInt < 8000 by omega) (by omega) (by omega)
        refine lv_iconst (v := 1) hx hb dX11_unifies_82 (by decide) ?_
        replace hP : va_P (dC, dI) cls [(h_mm, .inr (8, (mo136 v_mm (.ref h_nv) (.ref h_nn) (.ref h_na) (.ref h_nb) (.ref h_nc) (.ref h_bto) (.ref h_bin) (.ref h_tra) (.int x_mm_trailed) (.int z17) (.int z18)))), (h_nv, .inl (cy_nv, 8000, .inl f_nv)), (h_na, .inl (cy_na, 8000, .inl f_na)), (h_nb, .inl (cy_nb, 8000, .inl f_nb)), (h_nc, .inl (cy_nc, 8000, .inl f_nc)), (h_bto, .inl (cy_bto, 256, .inl f_bto)), (h_bin, .inl (cy_bin, 256, .inl f_bin)), (h_nn, .inl (cy_nn, 8000, .inr (.inl f_nn))), (h_tra, .inl (cy_tra, 256, .inl f_tra))] H := hP.sub [7, 8, 2, 3, 4, 5, 6, 0, 1] rfl
        replace hD : va_D A [(h_mm, .inr (8, (mo136 v_mm (.ref h_nv) (.ref h_nn) (.ref h_na) (.ref h_nb) (.ref h_nc) (.ref h_bto) (.ref h_bin) (.ref h_tra) (.int x_mm_trailed) (.int z17) (.int z18)))), (h_nv, .inl (cy_nv, 8000, .inl f_nv)), (h_na, .inl (cy_na, 8000, .inl f_na)), (h_nb, .inl (cy_nb, 8000, .inl f_nb)), (h_nc, .inl (cy_nc, 8000, .inl f_nc)), (h_bto, .inl (cy_bto, 256, .inl f_bto)), (h_bin, .inl (cy_bin, 256, .inl f_bin)), (h_nn, .inl (cy_nn, 8000, .inr (.inl f_nn))), (h_tra, .inl (cy_tra, 256, .inl f_tra))] := hD.sub [7, 8, 2, 3, 4, 5, 6, 0, 1] (by decide) rfl
        refine W.widen (k := 0) (n := 0) (Nat.le_of_ble_eq_true rfl) (Nat.le_of_ble_eq_true rfl) ?_
        have cst1 : (1 : Int32).toInt = 1 := by decide
        have w238 : 0 ≤ ((x_mm_trailed)).toInt ∧ ((x_mm_trailed)).toInt ≤ 256 := by first | exact hx_mm_trailed | omega
        have w239 : 0 ≤ ((z17)).toInt ∧ ((z17)).toInt ≤ 7999 := by first | exact k20 | omega
        have w240 : 0 ≤ ((z18)).toInt ∧ ((z18)).toInt ≤ 31 := by first | exact k21 | omega
        have w241 : 0 ≤ (1 : Int32).toInt ∧ (1 : Int32).toInt ≤ 1 := by omega
        have w242 : BI i0 i1 N hz f_nv f_na f_nb f_nc (f_bto) (f_bin) := hn_bi
        have w243 : TRL ((x_mm_trailed)).toInt (f_tra) (f_bto) := (trl_cast hn_trl (by omega))
        have w244 : GRW (x_mm_trailed).toInt ((x_mm_trailed)).toInt f_bto f_bin f_tra (f_bto) (f_bin) (f_tra) := (gr_cast gr0 (by omega) (by omega))
        have w245 : UNX g (BDW f_bto f_bin) (BDW (f_bto) (f_bin)) (PLR p1 p2) (PLR p3 p4) ((1 : Int32)).toInt := (unx_same k14 k28 (by rw [gv9a]; omega) (by rw [gv9b]; omega) (by omega) (by decide))
        exact W.zret (v := 1) (ty := .boolean) hx hb hr (by decide) (fun t ht hW => ⟨⟨1, (x_mm_trailed, z17, z18, f_bto, f_bin, f_tra), rfl, ⟨w238, w239, w240, hf_bto, hf_bin, hf_tra, w241, w242, w243, w244, w245⟩, by rw [ht]; exact hP, hD⟩, hS.F ht⟩) hS.2.2 dX11_unifies_83

def K_X11_areAlike (l : Launch) (fu : Nat) : Prop := ∀ (dC : Nat → ClassId) (dI : Nat → Nat → Nat) (sz : Nat) (h_mm : Nat) (h_nv : Nat) (h_na : Nat) (h_nb : Nat) (h_nc : Nat) (h_bto : Nat) (h_bin : Nat) (h_nn : Nat) (v_mm : Nat → Value) (x_mm_goneTo : Int32) (x_mm_goneIn : Int32) (cy_nv : ClassId) (f_nv : Nat → Int32) (cy_na : ClassId) (f_na : Nat → Int32) (cy_nb : ClassId) (f_nb : Nat → Int32) (cy_nc : ClassId) (f_nc : Nat → Int32) (cy_bto : ClassId) (f_bto : Nat → Int32) (cy_bin : ClassId) (f_bin : Nat → Int32) (cy_nn : ClassId) (f_nn : Nat → Int64) (p1 : Int32) (p2 : Int32) (p3 : Int32) (p4 : Int32) (i0 : Int) (i1 : Int) (N : Int) (hz : Nat → Nat) (P : List Nat) (hx_mm_goneTo : 0 ≤ (x_mm_goneTo).toInt ∧ (x_mm_goneTo).toInt ≤ 7999) (hx_mm_goneIn : 0 ≤ (x_mm_goneIn).toInt ∧ (x_mm_goneIn).toInt ≤ 31) (hf_nv : Rg (-1) 7 f_nv) (hf_na : Rg (-1) 7999 f_na) (hf_nb : Rg (-1) 7999 f_nb) (hf_nc : Rg (-1) 7999 f_nc) (hf_bto : Rg (-1) 7999 f_bto) (hf_bin : Rg 0 31 f_bin) (q0 : 0 ≤ i0 ∧ i0 ≤ i1 ∧ i1 ≤ 31) (q1 : N ≤ 8000) (q2 : 0 ≤ (p1).toInt ∧ (p1).toInt < N) (q3 : i0 ≤ (p2).toInt ∧ (p2).toInt ≤ i1) (q4 : 0 ≤ (p3).toInt ∧ (p3).toInt < N) (q5 : i0 ≤ (p4).toInt ∧ (p4).toInt ≤ i1) (q6 : hz (p1).toInt.toNat + 6 * (256 - (P).length) + 1 ≤ fu) (hn_bi : BI i0 i1 N hz f_nv f_na f_nb f_nc f_bto f_bin) (hn_pa : PA i0 P f_nv f_na f_nb f_nc f_bto f_bin (p1).toInt.toNat (p2).toInt), Met l yX11_areAlike (Ws yX11_areAlike cX11_areAlike 10 (some .boolean)) (({ frames := fu + 2, cells := 0, slots := 0, locals := 29 * fu + 45 } : Room)) (PRE (dC, dI) cls [(cy_nv, .int), (cy_na, .int), (cy_nb, .int), (cy_nc, .int), (cy_bto, .int), (cy_bin, .int), (cy_nn, .long)] [(h_mm, .inr (8, (mo137 v_mm (.ref h_nv) (.ref h_nn) (.ref h_na) (.ref h_nb) (.ref h_nc) (.ref h_bto) (.ref h_bin) (.int x_mm_goneTo) (.int x_mm_goneIn)))), (h_nv, .inl (cy_nv, 8000, .inl f_nv)), (h_na, .inl (cy_na, 8000, .inl f_na)), (h_nb, .inl (cy_nb, 8000, .inl f_nb)), (h_nc, .inl (cy_nc, 8000, .inl f_nc)), (h_bto, .inl (cy_bto, 256, .inl f_bto)), (h_bin, .inl (cy_bin, 256, .inl f_bin)), (h_nn, .inl (cy_nn, 8000, .inr (.inl f_nn)))] sz [.ref h_mm, .int p1, .int p2, .int p3, .int p4]) (va_Qi (fun (r : Int32) (u : (Int32) × (Int32)) => (0 ≤ (u.1).toInt ∧ (u.1).toInt ≤ 7999) ∧ (0 ≤ (u.2).toInt ∧ (u.2).toInt ≤ 31) ∧ (0 ≤ r.toInt ∧ r.toInt ≤ 1)) (fun (u : (Int32) × (Int32)) (t : State) => va_P (dC, dI) cls [(h_mm, .inr (8, (mo137 v_mm (.ref h_nv) (.ref h_nn) (.ref h_na) (.ref h_nb) (.ref h_nc) (.ref h_bto) (.ref h_bin) (.int u.1) (.int u.2)))), (h_nv, .inl (cy_nv, 8000, .inl f_nv)), (h_na, .inl (cy_na, 8000, .inl f_na)), (h_nb, .inl (cy_nb, 8000, .inl f_nb)), (h_nc, .inl (cy_nc, 8000, .inl f_nc)), (h_bto, .inl (cy_bto, 256, .inl f_bto)), (h_bin, .inl (cy_bin, 256, .inl f_bin)), (h_nn, .inl (cy_nn, 8000, .inr (.inl f_nn)))] t.heap ∧ va_D (va_A [(h_mm, .inr (8, (mo137 v_mm (.ref h_nv) (.ref h_nn) (.ref h_na) (.ref h_nb) (.ref h_nc) (.ref h_bto) (.ref h_bin) (.int x_mm_goneTo) (.int x_mm_goneIn)))), (h_nv, .inl (cy_nv, 8000, .inl f_nv)), (h_na, .inl (cy_na, 8000, .inl f_na)), (h_nb, .inl (cy_nb, 8000, .inl f_nb)), (h_nc, .inl (cy_nc, 8000, .inl f_nc)), (h_bto, .inl (cy_bto, 256, .inl f_bto)), (h_bin, .inl (cy_bin, 256, .inl f_bin)), (h_nn, .inl (cy_nn, 8000, .inr (.inl f_nn)))] sz) [(h_mm, .inr (8, (mo137 v_mm (.ref h_nv) (.ref h_nn) (.ref h_na) (.ref h_nb) (.ref h_nc) (.ref h_bto) (.ref h_bin) (.int u.1) (.int u.2)))), (h_nv, .inl (cy_nv, 8000, .inl f_nv)), (h_na, .inl (cy_na, 8000, .inl f_na)), (h_nb, .inl (cy_nb, 8000, .inl f_nb)), (h_nc, .inl (cy_nc, 8000, .inl f_nc)), (h_bto, .inl (cy_bto, 256, .inl f_bto)), (h_bin, .inl (cy_bin, 256, .inl f_bin)), (h_nn, .inl (cy_nn, 8000, .inr (.inl f_nn)))]) (va_A [(h_mm, .inr (8, (mo137 v_mm (.ref h_nv) (.ref h_nn) (.ref h_na) (.ref h_nb) (.ref h_nc) (.ref h_bto) (.ref h_bin) (.int x_mm_goneTo) (.int x_mm_goneIn)))), (h_nv, .inl (cy_nv, 8000, .inl f_nv)), (h_na, .inl (cy_na, 8000, .inl f_na)), (h_nb, .inl (cy_nb, 8000, .inl f_nb)), (h_nc, .inl (cy_nc, 8000, .inl f_nc)), (h_bto, .inl (cy_bto, 256, .inl f_bto)), (h_bin, .inl (cy_bin, 256, .inl f_bin)), (h_nn, .inl (cy_nn, 8000, .inr (.inl f_nn)))] sz)) 0 0 (va_A [(h_mm, .inr (8, (mo137 v_mm (.ref h_nv) (.ref h_nn) (.ref h_na) (.ref h_nb) (.ref h_nc) (.ref h_bto) (.ref h_bin) (.int x_mm_goneTo) (.int x_mm_goneIn)))), (h_nv, .inl (cy_nv, 8000, .inl f_nv)), (h_na, .inl (cy_na, 8000, .inl f_na)), (h_nb, .inl (cy_nb, 8000, .inl f_nb)), (h_nc, .inl (cy_nc, 8000, .inl f_nc)), (h_bto, .inl (cy_bto, 256, .inl f_bto)), (h_bin, .inl (cy_bin, 256, .inl f_bin)), (h_nn, .inl (cy_nn, 8000, .inr (.inl f_nn)))] sz)
set_option maxHeartbeats 8000000 in
set_option maxRecDepth 100000 in
theorem c_X11_areAlike (l : Launch) (fu : Nat) : K_X11_areAlike l fu := by
  refine Nat.rec (motive := fun fu => K_X11_areAlike l fu) ?_ ?_ fu
  · intro dC dI sz h_mm h_nv h_na h_nb h_nc h_bto h_bin h_nn v_mm x_mm_goneTo x_mm_goneIn cy_nv f_nv cy_na f_na cy_nb f_nb cy_nc f_nc cy_bto f_bto cy_bin f_bin cy_nn f_nn p1 p2 p3 p4 i0 i1 N hz P hx_mm_goneTo hx_mm_goneIn hf_nv hf_na hf_nb hf_nc hf_bto hf_bin q0 q1 q2 q3 q4 q5 q6 hn_bi hn_pa
    have h09 : Nat.zero = 0 := rfl
    exact False.elim (by omega)
  intro fu ihf
  intro dC dI sz h_mm h_nv h_na h_nb h_nc h_bto h_bin h_nn v_mm x_mm_goneTo x_mm_goneIn cy_nv f_nv cy_na f_na cy_nb f_nb cy_nc f_nc cy_bto f_bto cy_bin f_bin cy_nn f_nn p1 p2 p3 p4 i0 i1 N hz P hx_mm_goneTo hx_mm_goneIn hf_nv hf_na hf_nb hf_nc hf_bto hf_bin q0 q1 q2 q3 q4 q5 q6 hn_bi hn_pa
  refine Met.ofW (cc := cX11_areAlike) (maxL := 10) (ret := (some .boolean)) (by decide) rfl ?_
  intro p e s m args below meth c s₁ B hml hv
  obtain ⟨rfl, hsz, hP, hK, hD0, hN⟩ := hv
  have hx := B.exec
  have hb := B.bytes
  have hr := B.returns
  have hts := atoms_spec (ws := Ws yX11_areAlike cX11_areAlike 10 (some .boolean)) B.pre
  have hT : ∀ w ∈ WALL, w ∈ Ws yX11_areAlike cX11_areAlike 10 (some .boolean) := fun w h => List.mem_cons_of_mem _ h
  have hw := fun w (h : w ∈ WALL) => hts w (hT w h)
  have hown : s.vm.findClass RX11 = some m.cls := findClass_of_methodNamed B.named
  have hlocks := B.notSynchronized
  subst hsz
  have hD := hD0.self (sz := s.heap.size)
  generalize hAe : va_A [(h_mm, .inr (8, (mo137 v_mm (.ref h_nv) (.ref h_nn) (.ref h_na) (.ref h_nb) (.ref h_nc) (.ref h_bto) (.ref h_bin) (.int x_mm_goneTo) (.int x_mm_goneIn)))), (h_nv, .inl (cy_nv, 8000, .inl f_nv)), (h_na, .inl (cy_na, 8000, .inl f_na)), (h_nb, .inl (cy_nb, 8000, .inl f_nb)), (h_nc, .inl (cy_nc, 8000, .inl f_nc)), (h_bto, .inl (cy_bto, 256, .inl f_bto)), (h_bin, .inl (cy_bin, 256, .inl f_bin)), (h_nn, .inl (cy_nn, 8000, .inr (.inl f_nn)))] s.heap.size = A at hD ⊢
  have hA : ∀ q : Nat, s.heap.size ≤ q → A q := fun q h => by rw [← hAe]; exact Or.inr h
  have hS : va_S A s.heap s.heap [] := va_S.rf
  have hl := lv_entry ([.ref h_mm, .int p1, .int p2, .int p3, .int p4]) (n := 10) (Nat.le_of_ble_eq_true rfl)
  rw [lg_entry_eq]
  generalize (lg_sl ([.ref h_mm, .int p1, .int p2, .int p3, .int p4]) ++ List.replicate (10 - (lg_sl ([.ref h_mm, .int p1, .int p2, .int p3, .int p4])).length) Slot.unset).toArray = ls at hl ⊢
  have hl : lv_has ls 10 [(0, .ref h_mm), (1, .int p1), (2, .int p2), (3, .int p3), (4, .int p4)] := hl
  refine lv_aload_n hx hb dX11_areAlike_0 rfl (lv_at hl 0 rfl) ?_
  refine lv_iload_n hx hb dX11_areAlike_1 rfl (lv_at hl 1 rfl) ?_
  refine lv_iload_n hx hb dX11_areAlike_2 rfl (lv_at hl 2 rfl) ?_
  obtain ⟨vq1, evq1⟩ := mq137_134 v_mm (.ref h_nn)
  replace hP : va_P (dC, dI) cls [(h_mm, .inr (8, (mo134 vq1 (.ref h_nv) (.ref h_na) (.ref h_nb) (.ref h_nc) (.ref h_bto) (.ref h_bin) (.int x_mm_goneTo) (.int x_mm_goneIn)))), (h_nv, .inl (cy_nv, 8000, .inl f_nv)), (h_na, .inl (cy_na, 8000, .inl f_na)), (h_nb, .inl (cy_nb, 8000, .inl f_nb)), (h_nc, .inl (cy_nc, 8000, .inl f_nc)), (h_bto, .inl (cy_bto, 256, .inl f_bto)), (h_bin, .inl (cy_bin, 256, .inl f_bin)), (h_nn, .inl (cy_nn, 8000, .inr (.inl f_nn)))] s.heap := by rw [evq1]; exact hP
  replace hD : va_D A [(h_mm, .inr (8, (mo134 vq1 (.ref h_nv) (.ref h_na) (.ref h_nb) (.ref h_nc) (.ref h_bto) (.ref h_bin) (.int x_mm_goneTo) (.int x_mm_goneIn)))), (h_nv, .inl (cy_nv, 8000, .inl f_nv)), (h_na, .inl (cy_na, 8000, .inl f_na)), (h_nb, .inl (cy_nb, 8000, .inl f_nb)), (h_nc, .inl (cy_nc, 8000, .inl f_nc)), (h_bto, .inl (cy_bto, 256, .inl f_bto)), (h_bin, .inl (cy_bin, 256, .inl f_bin)), (h_nn, .inl (cy_nn, 8000, .inr (.inl f_nn)))] := by rw [evq1]; exact hD
  have hPc := hP.sub (ws' := [(h_mm, .inr (8, (mo134 vq1 (.ref h_nv) (.ref h_na) (.ref h_nb) (.ref h_nc) (.ref h_bto) (.ref h_bin) (.int x_mm_goneTo) (.int x_mm_goneIn)))), (h_nv, .inl (cy_nv, 8000, .inl f_nv)), (h_na, .inl (cy_na, 8000, .inl f_na)), (h_nb, .inl (cy_nb, 8000, .inl f_nb)), (h_nc, .inl (cy_nc, 8000, .inl f_nc)), (h_bto, .inl (cy_bto, 256, .inl f_bto)), (h_bin, .inl (cy_bin, 256, .inl f_bin))]) [0, 1, 2, 3, 4, 5, 6] rfl
  have hDc := hD.sub (ws' := [(h_mm, .inr (8, (mo134 vq1 (.ref h_nv) (.ref h_na) (.ref h_nb) (.ref h_nc) (.ref h_bto) (.ref h_bin) (.int x_mm_goneTo) (.int x_mm_goneIn)))), (h_nv, .inl (cy_nv, 8000, .inl f_nv)), (h_na, .inl (cy_na, 8000, .inl f_na)), (h_nb, .inl (cy_nb, 8000, .inl f_nb)), (h_nc, .inl (cy_nc, 8000, .inl f_nc)), (h_bto, .inl (cy_bto, 256, .inl f_bto)), (h_bin, .inl (cy_bin, 256, .inl f_bin))]) [0, 1, 2, 3, 4, 5, 6] (by decide) rfl
  have hKc := hK.sub (tys' := [(cy_nv, .int), (cy_na, .int), (cy_nb, .int), (cy_nc, .int), (cy_bto, .int), (cy_bin, .int)]) [0, 1, 2, 3, 4, 5] rfl
  have hFc := va_free (wc := [(h_mm, .inr (8, (mo134 vq1 (.ref h_nv) (.ref h_na) (.ref h_nb) (.ref h_nc) (.ref h_bto) (.ref h_bin) (.int x_mm_goneTo) (.int x_mm_goneIn)))), (h_nv, .inl (cy_nv, 8000, .inl f_nv)), (h_na, .inl (cy_na, 8000, .inl f_na)), (h_nb, .inl (cy_nb, 8000, .inl f_nb)), (h_nc, .inl (cy_nc, 8000, .inl f_nc)), (h_bto, .inl (cy_bto, 256, .inl f_bto)), (h_bin, .inl (cy_bin, 256, .inl f_bin))]) hD hS hA [0, 1, 2, 3, 4, 5, 6] rfl
  refine va_callv (va_runV (As := [.int p1, .int p2]) (rest := []) ⟨hx, hb, hml, hown, hts⟩ (c_X11_goesTo l dC dI s.heap.size h_mm h_nv h_na h_nb h_nc h_bto h_bin vq1 x_mm_goneTo x_mm_goneIn cy_nv f_nv cy_na f_na cy_nb f_nb cy_nc f_nc cy_bto f_bto cy_bin f_bin p1 p2 i0 i1 N hz (RGW f_nn f_nv f_na f_nb f_nc) P (fu + 1) (by first | exact hx_mm_goneTo | omega) (by first | exact hx_mm_goneIn | omega) hf_nv hf_na hf_nb hf_nc hf_bto hf_bin (by first | exact q0 | omega) (by first | exact q1 | omega) (by first | exact q2 | omega) (by first | exact q3 | omega) (by omega) hn_bi hn_pa rgw_grv) (cwV 2 hts (gv hT w_m_X11_273 w_instanceMethod_X11_goesTo ws_sel_X11_goesTo w_ini_X11 w_code_X11_goesTo) rfl rfl rfl (by decide +kernel) ⟨(by dsimp only [headSpec]; omega), (by dsimp only [headSpec]; omega)⟩) ⟨pre_blind, va_recv hK hP (ci := 8) (q0 := 0) rfl rfl, pre_of hPc hKc hDc hN⟩ rfl rfl hl.1 rfl (lv_room (Nat.le_of_ble_eq_true rfl)) dX11_areAlike_3 ⟨(Nat.le_of_ble_eq_true rfl), (Nat.le_of_ble_eq_true rfl)⟩) hS (fun q _ h => hFc q h) hFc (fun u t H locs ht hvm hq hB hz1 hk1 hS9 => ?_)
  obtain ⟨z3, z4, z5⟩ := u
  obtain ⟨hP1, hD1⟩ := hB
  rw [ht] at hP1
  obtain ⟨hP9, hD9⟩ := va_join (wr := [(h_nn, .inl (cy_nn, 8000, .inr (.inl f_nn)))]) (w1 := [(h_mm, .inr (8, (mo134 vq1 (.ref h_nv) (.ref h_na) (.ref h_nb) (.ref h_nc) (.ref h_bto) (.ref h_bin) (.int z3) (.int z4)))), (h_nv, .inl (cy_nv, 8000, .inl f_nv)), (h_na, .inl (cy_na, 8000, .inl f_na)), (h_nb, .inl (cy_nb, 8000, .inl f_nb)), (h_nc, .inl (cy_nc, 8000, .inl f_nc)), (h_bto, .inl (cy_bto, 256, .inl f_bto)), (h_bin, .inl (cy_bin, 256, .inl f_bin))]) hP hD [0, 1, 2, 3, 4, 5, 6] [7] rfl rfl (by decide) (by decide) hk1 hFc hP1 hD1
  clear hP hD hS hPc hDc hKc hFc hP1 hD1 hk1 hz1 ht hvm
  have hP : va_P (dC, dI) cls [(h_nn, .inl (cy_nn, 8000, .inr (.inl f_nn))), (h_mm, .inr (8, (mo134 vq1 (.ref h_nv) (.ref h_na) (.ref h_nb) (.ref h_nc) (.ref h_bto) (.ref h_bin) (.int z3) (.int z4)))), (h_nv, .inl (cy_nv, 8000, .inl f_nv)), (h_na, .inl (cy_na, 8000, .inl f_na)), (h_nb, .inl (cy_nb, 8000, .inl f_nb)), (h_nc, .inl (cy_nc, 8000, .inl f_nc)), (h_bto, .inl (cy_bto, 256, .inl f_bto)), (h_bin, .inl (cy_bin, 256, .inl f_bin))] H := hP9
  have hD : va_D A [(h_nn, .inl (cy_nn, 8000, .inr (.inl f_nn))), (h_mm, .inr (8, (mo134 vq1 (.ref h_nv) (.ref h_na) (.ref h_nb) (.ref h_nc) (.ref h_bto) (.ref h_bin) (.int z3) (.int z4)))), (h_nv, .inl (cy_nv, 8000, .inl f_nv)), (h_na, .inl (cy_na, 8000, .inl f_na)), (h_nb, .inl (cy_nb, 8000, .inl f_nb)), (h_nc, .inl (cy_nc, 8000, .inl f_nc)), (h_bto, .inl (cy_bto, 256, .inl f_bto)), (h_bin, .inl (cy_bin, 256, .inl f_bin))] := hD9
  have hS := hS9
  clear hP9 hD9 hS9
  rw [evq1] at hP hD
  replace hP : va_P (dC, dI) cls [(h_nn, .inl (cy_nn, 8000, .inr (.inl f_nn))), (h_mm, .inr (8, (mo137 v_mm (.ref h_nv) (.ref h_nn) (.ref h_na) (.ref h_nb) (.ref h_nc) (.ref h_bto) (.ref h_bin) (.int z3) (.int z4)))), (h_nv, .inl (cy_nv, 8000, .inl f_nv)), (h_na, .inl (cy_na, 8000, .inl f_na)), (h_nb, .inl (cy_nb, 8000, .inl f_nb)), (h_nc, .inl (cy_nc, 8000, .inl f_nc)), (h_bto, .inl (cy_bto, 256, .inl f_bto)), (h_bin, .inl (cy_bin, 256, .inl f_bin))] H := hP
  replace hD : va_D A [(h_nn, .inl (cy_nn, 8000, .inr (.inl f_nn))), (h_mm, .inr (8, (mo137 v_mm (.ref h_nv) (.ref h_nn) (.ref h_na) (.ref h_nb) (.ref h_nc) (.ref h_bto) (.ref h_bin) (.int z3) (.int z4)))), (h_nv, .inl (cy_nv, 8000, .inl f_nv)), (h_na, .inl (cy_na, 8000, .inl f_na)), (h_nb, .inl (cy_nb, 8000, .inl f_nb)), (h_nc, .inl (cy_nc, 8000, .inl f_nc)), (h_bto, .inl (cy_bto, 256, .inl f_bto)), (h_bin, .inl (cy_bin, 256, .inl f_bin))] := hD
  clear evq1 
  obtain ⟨k6, k7, k8, k9, k10, k11, k12, k13, k14⟩ := hq
  replace k6 : 0 ≤ ((z3)).toInt ∧ ((z3)).toInt ≤ 7999 := k6
  replace k7 : 0 ≤ ((z4)).toInt ∧ ((z4)).toInt ≤ 31 := k7
  replace k8 : 0 ≤ ((z3)).toInt ∧ ((z3)).toInt < (N) := k8
  replace k9 : (i0) ≤ ((z4)).toInt ∧ ((z4)).toInt ≤ (i1) := k9
  replace k10 : (hz) ((z3)).toInt.toNat + 6 * (256 - ((z5)).length) + 1 ≤ ((fu + 1)) := k10
  replace k11 : PA (i0) (z5) f_nv f_na f_nb f_nc f_bto f_bin ((z3)).toInt.toNat ((z4)).toInt := k11
  replace k12 : (f_nv ((z3)).toInt.toNat).toInt = -1 ∨ (f_bto (8 * ((z4)).toInt + (f_nv ((z3)).toInt.toNat).toInt).toNat).toInt = -1 := k12
  replace k13 : ∀ tt : Nat, (f_bto tt).toInt = -1 → NR f_nv f_na f_nb f_nc f_bto f_bin ((z3)).toInt.toNat ((z4)).toInt tt → NR f_nv f_na f_nb f_nc f_bto f_bin ((p1)).toInt.toNat ((p2)).toInt tt := k13
  replace k14 : BRE ((RGW f_nn f_nv f_na f_nb f_nc)) (BDW f_bto f_bin) (PLR (p1) (p2)) (PLR (z3) (z4)) := k14
  refine lv_aload_n hx hb dX11_areAlike_6 rfl (lv_at hl 0 rfl) ?_
  refine va_get (D := (dC, dI)) (ci := 8) (v := .int z3) (C := RX11) (T := TX11) (N := 71) hx hb hw iwX11 hown hK hP 1 rfl rfl 31 (by decide) (hw _ w_f_X11_264) (fun _ h9 => h9) rfl dX11_areAlike_7 ?_
  refine lv_istore (lv' := [(5, .int z3), (0, .ref h_mm), (1, .int p1), (2, .int p2), (3, .int p3), (4, .int p4)]) hx hb dX11_areAlike_10 hl (by decide) rfl (fun ls hl => ?_)
  refine lv_aload_n hx hb dX11_areAlike_12 rfl (lv_at hl 1 rfl) ?_
  refine va_get (D := (dC, dI)) (ci := 8) (v := .int z4) (C := RX11) (T := TX11) (N := 71) hx hb hw iwX11 hown hK hP 1 rfl rfl 32 (by decide) (hw _ w_f_X11_267) (fun _ h9 => h9) rfl dX11_areAlike_13 ?_
  refine lv_istore (lv' := [(6, .int z4), (5, .int z3), (0, .ref h_mm), (1, .int p1), (2, .int p2), (3, .int p3), (4, .int p4)]) hx hb dX11_areAlike_16 hl (by decide) rfl (fun ls hl => ?_)
  have l09 : ([] : List Nat).length = 0 := rfl
  have hh9 := (hn_bi.1 (p3).toInt.toNat (by omega) (by omega)).2.2.2
  refine lv_aload_n hx hb dX11_areAlike_18 rfl (lv_at hl 2 rfl) ?_
  refine lv_iload_n hx hb dX11_areAlike_19 rfl (lv_at hl 5 rfl) ?_
  refine lv_iload hx hb dX11_areAlike_20 (lv_at hl 6 rfl) ?_
  obtain ⟨vq15, evq15⟩ := mq137_134 v_mm (.ref h_nn)
  replace hP : va_P (dC, dI) cls [(h_nn, .inl (cy_nn, 8000, .inr (.inl f_nn))), (h_mm, .inr (8, (mo134 vq15 (.ref h_nv) (.ref h_na) (.ref h_nb) (.ref h_nc) (.ref h_bto) (.ref h_bin) (.int z3) (.int z4)))), (h_nv, .inl (cy_nv, 8000, .inl f_nv)), (h_na, .inl (cy_na, 8000, .inl f_na)), (h_nb, .inl (cy_nb, 8000, .inl f_nb)), (h_nc, .inl (cy_nc, 8000, .inl f_nc)), (h_bto, .inl (cy_bto, 256, .inl f_bto)), (h_bin, .inl (cy_bin, 256, .inl f_bin))] H := by rw [evq15]; exact hP
  replace hD : va_D A [(h_nn, .inl (cy_nn, 8000, .inr (.inl f_nn))), (h_mm, .inr (8, (mo134 vq15 (.ref h_nv) (.ref h_na) (.ref h_nb) (.ref h_nc) (.ref h_bto) (.ref h_bin) (.int z3) (.int z4)))), (h_nv, .inl (cy_nv, 8000, .inl f_nv)), (h_na, .inl (cy_na, 8000, .inl f_na)), (h_nb, .inl (cy_nb, 8000, .inl f_nb)), (h_nc, .inl (cy_nc, 8000, .inl f_nc)), (h_bto, .inl (cy_bto, 256, .inl f_bto)), (h_bin, .inl (cy_bin, 256, .inl f_bin))] := by rw [evq15]; exact hD
  have hPc := hP.sub (ws' := [(h_mm, .inr (8, (mo134 vq15 (.ref h_nv) (.ref h_na) (.ref h_nb) (.ref h_nc) (.ref h_bto) (.ref h_bin) (.int z3) (.int z4)))), (h_nv, .inl (cy_nv, 8000, .inl f_nv)), (h_na, .inl (cy_na, 8000, .inl f_na)), (h_nb, .inl (cy_nb, 8000, .inl f_nb)), (h_nc, .inl (cy_nc, 8000, .inl f_nc)), (h_bto, .inl (cy_bto, 256, .inl f_bto)), (h_bin, .inl (cy_bin, 256, .inl f_bin))]) [1, 2, 3, 4, 5, 6, 7] rfl
  have hDc := hD.sub (ws' := [(h_mm, .inr (8, (mo134 vq15 (.ref h_nv) (.ref h_na) (.ref h_nb) (.ref h_nc) (.ref h_bto) (.ref h_bin) (.int z3) (.int z4)))), (h_nv, .inl (cy_nv, 8000, .inl f_nv)), (h_na, .inl (cy_na, 8000, .inl f_na)), (h_nb, .inl (cy_nb, 8000, .inl f_nb)), (h_nc, .inl (cy_nc, 8000, .inl f_nc)), (h_bto, .inl (cy_bto, 256, .inl f_bto)), (h_bin, .inl (cy_bin, 256, .inl f_bin))]) [1, 2, 3, 4, 5, 6, 7] (by decide) rfl
  have hKc := hK.sub (tys' := [(cy_nv, .int), (cy_na, .int), (cy_nb, .int), (cy_nc, .int), (cy_bto, .int), (cy_bin, .int)]) [0, 1, 2, 3, 4, 5] rfl
  have hFc := va_free (wc := [(h_mm, .inr (8, (mo134 vq15 (.ref h_nv) (.ref h_na) (.ref h_nb) (.ref h_nc) (.ref h_bto) (.ref h_bin) (.int z3) (.int z4)))), (h_nv, .inl (cy_nv, 8000, .inl f_nv)), (h_na, .inl (cy_na, 8000, .inl f_na)), (h_nb, .inl (cy_nb, 8000, .inl f_nb)), (h_nc, .inl (cy_nc, 8000, .inl f_nc)), (h_bto, .inl (cy_bto, 256, .inl f_bto)), (h_bin, .inl (cy_bin, 256, .inl f_bin))]) hD hS hA [1, 2, 3, 4, 5, 6, 7] rfl
  refine va_callv (va_runV (As := [.int p3, .int p4]) (rest := []) ⟨hx, hb, hml, hown, hts⟩ (c_X11_goesTo l dC dI H.size h_mm h_nv h_na h_nb h_nc h_bto h_bin vq15 z3 z4 cy_nv f_nv cy_na f_na cy_nb f_nb cy_nc f_nc cy_bto f_bto cy_bin f_bin p3 p4 i0 i1 N hz (RGW f_nn f_nv f_na f_nb f_nc) ([]) 1544 (by first | exact k6 | omega) (by first | exact k7 | omega) hf_nv hf_na hf_nb hf_nc hf_bto hf_bin (by first | exact q0 | omega) (by first | exact q1 | omega) (by first | exact q4 | omega) (by first | exact q5 | omega) (by omega) hn_bi pa_nil rgw_grv) (cwV 2 hts (gv hT w_m_X11_273 w_instanceMethod_X11_goesTo ws_sel_X11_goesTo w_ini_X11 w_code_X11_goesTo) rfl rfl rfl (by decide +kernel) ⟨(by dsimp only [headSpec]; omega), (by dsimp only [headSpec]; omega)⟩) ⟨pre_blind, va_recv hK hP (ci := 8) (q0 := 1) rfl rfl, pre_of hPc hKc hDc hN⟩ rfl rfl hl.1 rfl (lv_room (Nat.le_of_ble_eq_true rfl)) dX11_areAlike_22 ⟨(Nat.le_of_ble_eq_true rfl), (Nat.le_of_ble_eq_true rfl)⟩) hS (fun q _ h => hFc q h) hFc (fun u t H locs ht hvm hq hB hz1 hk1 hS9 => ?_)
  obtain ⟨z17, z18, z19⟩ := u
  obtain ⟨hP1, hD1⟩ := hB
  rw [ht] at hP1
  obtain ⟨hP9, hD9⟩ := va_join (wr := [(h_nn, .inl (cy_nn, 8000, .inr (.inl f_nn)))]) (w1 := [(h_mm, .inr (8, (mo134 vq15 (.ref h_nv) (.ref h_na) (.ref h_nb) (.ref h_nc) (.ref h_bto) (.ref h_bin) (.int z17) (.int z18)))), (h_nv, .inl (cy_nv, 8000, .inl f_nv)), (h_na, .inl (cy_na, 8000, .inl f_na)), (h_nb, .inl (cy_nb, 8000, .inl f_nb)), (h_nc, .inl (cy_nc, 8000, .inl f_nc)), (h_bto, .inl (cy_bto, 256, .inl f_bto)), (h_bin, .inl (cy_bin, 256, .inl f_bin))]) hP hD [1, 2, 3, 4, 5, 6, 7] [0] rfl rfl (by decide) (by decide) hk1 hFc hP1 hD1
  clear hP hD hS hPc hDc hKc hFc hP1 hD1 hk1 hz1 ht hvm
  have hP : va_P (dC, dI) cls [(h_nn, .inl (cy_nn, 8000, .inr (.inl f_nn))), (h_mm, .inr (8, (mo134 vq15 (.ref h_nv) (.ref h_na) (.ref h_nb) (.ref h_nc) (.ref h_bto) (.ref h_bin) (.int z17) (.int z18)))), (h_nv, .inl (cy_nv, 8000, .inl f_nv)), (h_na, .inl (cy_na, 8000, .inl f_na)), (h_nb, .inl (cy_nb, 8000, .inl f_nb)), (h_nc, .inl (cy_nc, 8000, .inl f_nc)), (h_bto, .inl (cy_bto, 256, .inl f_bto)), (h_bin, .inl (cy_bin, 256, .inl f_bin))] H := hP9
  have hD : va_D A [(h_nn, .inl (cy_nn, 8000, .inr (.inl f_nn))), (h_mm, .inr (8, (mo134 vq15 (.ref h_nv) (.ref h_na) (.ref h_nb) (.ref h_nc) (.ref h_bto) (.ref h_bin) (.int z17) (.int z18)))), (h_nv, .inl (cy_nv, 8000, .inl f_nv)), (h_na, .inl (cy_na, 8000, .inl f_na)), (h_nb, .inl (cy_nb, 8000, .inl f_nb)), (h_nc, .inl (cy_nc, 8000, .inl f_nc)), (h_bto, .inl (cy_bto, 256, .inl f_bto)), (h_bin, .inl (cy_bin, 256, .inl f_bin))] := hD9
  have hS := hS9
  clear hP9 hD9 hS9
  rw [evq15] at hP hD
  replace hP : va_P (dC, dI) cls [(h_nn, .inl (cy_nn, 8000, .inr (.inl f_nn))), (h_mm, .inr (8, (mo137 v_mm (.ref h_nv) (.ref h_nn) (.ref h_na) (.ref h_nb) (.ref h_nc) (.ref h_bto) (.ref h_bin) (.int z17) (.int z18)))), (h_nv, .inl (cy_nv, 8000, .inl f_nv)), (h_na, .inl (cy_na, 8000, .inl f_na)), (h_nb, .inl (cy_nb, 8000, .inl f_nb)), (h_nc, .inl (cy_nc, 8000, .inl f_nc)), (h_bto, .inl (cy_bto, 256, .inl f_bto)), (h_bin, .inl (cy_bin, 256, .inl f_bin))] H := hP
  replace hD : va_D A [(h_nn, .inl (cy_nn, 8000, .inr (.inl f_nn))), (h_mm, .inr (8, (mo137 v_mm (.ref h_nv) (.ref h_nn) (.ref h_na) (.ref h_nb) (.ref h_nc) (.ref h_bto) (.ref h_bin) (.int z17) (.int z18)))), (h_nv, .inl (cy_nv, 8000, .inl f_nv)), (h_na, .inl (cy_na, 8000, .inl f_na)), (h_nb, .inl (cy_nb, 8000, .inl f_nb)), (h_nc, .inl (cy_nc, 8000, .inl f_nc)), (h_bto, .inl (cy_bto, 256, .inl f_bto)), (h_bin, .inl (cy_bin, 256, .inl f_bin))] := hD
  clear evq15 
  obtain ⟨k20, k21, k22, k23, k24, k25, k26, k27, k28⟩ := hq
  replace k20 : 0 ≤ ((z17)).toInt ∧ ((z17)).toInt ≤ 7999 := k20
  replace k21 : 0 ≤ ((z18)).toInt ∧ ((z18)).toInt ≤ 31 := k21
  replace k22 : 0 ≤ ((z17)).toInt ∧ ((z17)).toInt < (N) := k22
  replace k23 : (i0) ≤ ((z18)).toInt ∧ ((z18)).toInt ≤ (i1) := k23
  replace k24 : (hz) ((z17)).toInt.toNat + 6 * (256 - ((z19)).length) + 1 ≤ (1544 : Nat) := k24
  replace k25 : PA (i0) (z19) f_nv f_na f_nb f_nc f_bto f_bin ((z17)).toInt.toNat ((z18)).toInt := k25
  replace k26 : (f_nv ((z17)).toInt.toNat).toInt = -1 ∨ (f_bto (8 * ((z18)).toInt + (f_nv ((z17)).toInt.toNat).toInt).toNat).toInt = -1 := k26
  replace k27 : ∀ tt : Nat, (f_bto tt).toInt = -1 → NR f_nv f_na f_nb f_nc f_bto f_bin ((z17)).toInt.toNat ((z18)).toInt tt → NR f_nv f_na f_nb f_nc f_bto f_bin ((p3)).toInt.toNat ((p4)).toInt tt := k27
  replace k28 : BRE ((RGW f_nn f_nv f_na f_nb f_nc)) (BDW f_bto f_bin) (PLR (p3) (p4)) (PLR (z17) (z18)) := k28
  refine lv_aload_n hx hb dX11_areAlike_25 rfl (lv_at hl 2 rfl) ?_
  refine va_get (D := (dC, dI)) (ci := 8) (v := .int z17) (C := RX11) (T := TX11) (N := 71) hx hb hw iwX11 hown hK hP 1 rfl rfl 31 (by decide) (hw _ w_f_X11_264) (fun _ h9 => h9) rfl dX11_areAlike_26 ?_
  refine lv_istore (lv' := [(7, .int z17), (6, .int z4), (5, .int z3), (0, .ref h_mm), (1, .int p1), (2, .int p2), (3, .int p3), (4, .int p4)]) hx hb dX11_areAlike_29 hl (by decide) rfl (fun ls hl => ?_)
  refine lv_aload_n hx hb dX11_areAlike_31 rfl (lv_at hl 3 rfl) ?_
  refine va_get (D := (dC, dI)) (ci := 8) (v := .int z18) (C := RX11) (T := TX11) (N := 71) hx hb hw iwX11 hown hK hP 1 rfl rfl 32 (by decide) (hw _ w_f_X11_267) (fun _ h9 => h9) rfl dX11_areAlike_32 ?_
  refine lv_istore (lv' := [(8, .int z18), (7, .int z17), (6, .int z4), (5, .int z3), (0, .ref h_mm), (1, .int p1), (2, .int p2), (3, .int p3), (4, .int p4)]) hx hb dX11_areAlike_35 hl (by decide) rfl (fun ls hl => ?_)
  refine lv_aload_n hx hb dX11_areAlike_37 rfl (lv_at hl 4 rfl) ?_
  refine va_get (D := (dC, dI)) (ci := 8) (v := .ref h_nv) (C := RX11) (T := TX11) (N := 71) hx hb hw iwX11 hown hK hP 1 rfl rfl 1 (by decide) (hw _ w_f_X11_17) (fun _ h9 => h9) rfl dX11_areAlike_38 ?_
  refine lv_iload hx hb dX11_areAlike_41 (lv_at hl 3 rfl) ?_
  refine va_iald hx hb hK hP 2 0 rfl rfl (i := z3) (vp_in_iff.mpr (by omega)) dX11_areAlike_43 ?_
  refine lv_topi (fun z29 ez29 => ?_)
  have rz29 : -1 ≤ (z29).toInt ∧ (z29).toInt ≤ 7 := by rw [ez29]; exact hf_nv _
  refine lv_iconst (v := (-1)) hx hb dX11_areAlike_44 (by decide) ?_
  refine lv_icmp_ne (tgt := 59) hx hb dX11_areAlike_45 (by decide) (fun c30 => ?_) (fun c30 => ?_)
  · have kc30 := (not_congr (cv_eq (rfl : (z29).toInt = (z29).toInt) (by decide : ((-1) : Int32).toInt = -1))).mp c30
    refine lv_aload_n hx hb dX11_areAlike_59 rfl (lv_at hl 4 rfl) ?_
    refine va_get (D := (dC, dI)) (ci := 8) (v := .ref h_nv) (C := RX11) (T := TX11) (N := 71) hx hb hw iwX11 hown hK hP 1 rfl rfl 1 (by decide) (hw _ w_f_X11_17) (fun _ h9 => h9) rfl dX11_areAlike_60 ?_
    refine lv_iload hx hb dX11_areAlike_63 (lv_at hl 3 rfl) ?_
    refine va_iald hx hb hK hP 2 0 rfl rfl (i := z3) (vp_in_iff.mpr (by omega)) dX11_areAlike_65 ?_
    refine lv_topi (fun z31 ez31 => ?_)
    have qz31 : (z31).toInt = (z29).toInt := by rw [ez31, ez29]
    have rz31 : -1 ≤ (z31).toInt ∧ (z31).toInt ≤ 7 := by rw [ez31]; exact hf_nv _
    refine lv_iconst (v := (-1)) hx hb dX11_areAlike_66 (by decide) ?_
    refine lv_icmp_eq (tgt := 104) hx hb dX11_areAlike_67 (by decide) (fun c32 => False.elim (by have kc32 := (cv_eq (rfl : (z31).toInt = (z31).toInt) (by decide : ((-1) : Int32).toInt = -1)).mp c32; omega)) (fun _ => ?_)
    refine lv_aload_n hx hb dX11_areAlike_70 rfl (lv_at hl 4 rfl) ?_
    refine va_get (D := (dC, dI)) (ci := 8) (v := .ref h_nv) (C := RX11) (T := TX11) (N := 71) hx hb hw iwX11 hown hK hP 1 rfl rfl 1 (by decide) (hw _ w_f_X11_17) (fun _ h9 => h9) rfl dX11_areAlike_71 ?_
    refine lv_iload hx hb dX11_areAlike_74 (lv_at hl 1 rfl) ?_
    refine va_iald hx hb hK hP 2 0 rfl rfl (i := z17) (vp_in_iff.mpr (by omega)) dX11_areAlike_76 ?_
    refine lv_topi (fun z33 ez33 => ?_)
    have rz33 : -1 ≤ (z33).toInt ∧ (z33).toInt ≤ 7 := by rw [ez33]; exact hf_nv _
    refine lv_iconst (v := (-1)) hx hb dX11_areAlike_77 (by decide) ?_
    refine lv_icmp_eq (tgt := 104) hx hb dX11_areAlike_78 (by decide) (fun c34 => ?_) (fun c34 => ?_)
    · have kc34 := (cv_eq (rfl : (z33).toInt = (z33).toInt) (by decide : ((-1) : Int32).toInt = -1)).mp c34
      refine lv_iconst (v := 0) hx hb dX11_areAlike_104 (by decide) ?_
      replace hP : va_P (dC, dI) cls [(h_mm, .inr (8, (mo137 v_mm (.ref h_nv) (.ref h_nn) (.ref h_na) (.ref h_nb) (.ref h_nc) (.ref h_bto) (.ref h_bin) (.int z17) (.int z18)))), (h_nv, .inl (cy_nv, 8000, .inl f_nv)), (h_na, .inl (cy_na, 8000, .inl f_na)), (h_nb, .inl (cy_nb, 8000, .inl f_nb)), (h_nc, .inl (cy_nc, 8000, .inl f_nc)), (h_bto, .inl (cy_bto, 256, .inl f_bto)), (h_bin, .inl (cy_bin, 256, .inl f_bin)), (h_nn, .inl (cy_nn, 8000, .inr (.inl f_nn)))] H := hP.sub [1, 2, 3, 4, 5, 6, 7, 0] rfl
      replace hD : va_D A [(h_mm, .inr (8, (mo137 v_mm (.ref h_nv) (.ref h_nn) (.ref h_na) (.ref h_nb) (.ref h_nc) (.ref h_bto) (.ref h_bin) (.int z17) (.int z18)))), (h_nv, .inl (cy_nv, 8000, .inl f_nv)), (h_na, .inl (cy_na, 8000, .inl f_na)), (h_nb, .inl (cy_nb, 8000, .inl f_nb)), (h_nc, .inl (cy_nc, 8000, .inl f_nc)), (h_bto, .inl (cy_bto, 256, .inl f_bto)), (h_bin, .inl (cy_bin, 256, .inl f_bin)), (h_nn, .inl (cy_nn, 8000, .inr (.inl f_nn)))] := hD.sub [1, 2, 3, 4, 5, 6, 7, 0] (by decide) rfl
      refine W.widen (k := 0) (n := 0) (Nat.le_of_ble_eq_true rfl) (Nat.le_of_ble_eq_true rfl) ?_
      have cst0 : (0 : Int32).toInt = 0 := by decide
      have w35 : 0 ≤ ((z17)).toInt ∧ ((z17)).toInt ≤ 7999 := by first | exact k20 | omega
      have w36 : 0 ≤ ((z18)).toInt ∧ ((z18)).toInt ≤ 31 := by first | exact k21 | omega
      have w37 : 0 ≤ (0 : Int32).toInt ∧ (0 : Int32).toInt ≤ 1 := by omega
      exact W.zret (v := 0) (ty := .boolean) hx hb hr (by decide) (fun t ht hW => ⟨⟨0, (z17, z18), rfl, ⟨w35, w36, w37⟩, by rw [ht]; exact hP, hD⟩, hS.F ht⟩) hS.2.2 dX11_areAlike_105
    · have kc34 := (not_congr (cv_eq (rfl : (z33).toInt = (z33).toInt) (by decide : ((-1) : Int32).toInt = -1))).mp c34
      refine lv_aload_n hx hb dX11_areAlike_81 rfl (lv_at hl 4 rfl) ?_
      refine lv_iload hx hb dX11_areAlike_82 (lv_at hl 3 rfl) ?_
      refine lv_iload hx hb dX11_areAlike_84 (lv_at hl 2 rfl) ?_
      obtain ⟨vq38, evq38⟩ := mq137_129 v_mm (.ref h_nn) (.ref h_na) (.ref h_nb) (.ref h_nc) (.ref h_bto) (.ref h_bin) (.int z17) (.int z18)
      replace hP : va_P (dC, dI) cls [(h_nn, .inl (cy_nn, 8000, .inr (.inl f_nn))), (h_mm, .inr (8, (mo129 vq38 (.ref h_nv)))), (h_nv, .inl (cy_nv, 8000, .inl f_nv)), (h_na, .inl (cy_na, 8000, .inl f_na)), (h_nb, .inl (cy_nb, 8000, .inl f_nb)), (h_nc, .inl (cy_nc, 8000, .inl f_nc)), (h_bto, .inl (cy_bto, 256, .inl f_bto)), (h_bin, .inl (cy_bin, 256, .inl f_bin))] H := by rw [evq38]; exact hP
      replace hD : va_D A [(h_nn, .inl (cy_nn, 8000, .inr (.inl f_nn))), (h_mm, .inr (8, (mo129 vq38 (.ref h_nv)))), (h_nv, .inl (cy_nv, 8000, .inl f_nv)), (h_na, .inl (cy_na, 8000, .inl f_na)), (h_nb, .inl (cy_nb, 8000, .inl f_nb)), (h_nc, .inl (cy_nc, 8000, .inl f_nc)), (h_bto, .inl (cy_bto, 256, .inl f_bto)), (h_bin, .inl (cy_bin, 256, .inl f_bin))] := by rw [evq38]; exact hD
      have hPc := hP.sub (ws' := [(h_mm, .inr (8, (mo129 vq38 (.ref h_nv)))), (h_nv, .inl (cy_nv, 8000, .inl f_nv))]) [1, 2] rfl
      have hDc := hD.sub (ws' := [(h_mm, .inr (8, (mo129 vq38 (.ref h_nv)))), (h_nv, .inl (cy_nv, 8000, .inl f_nv))]) [1, 2] (by decide) rfl
      have hKc := hK.sub (tys' := [(cy_nv, .int)]) [0] rfl
      have hFc := va_free (wc := [(h_mm, .inr (8, (mo129 vq38 (.ref h_nv)))), (h_nv, .inl (cy_nv, 8000, .inl f_nv))]) hD hS hA [1, 2] rfl
      refine va_calli (va_runV (As := [.int z3, .int z4]) (rest := []) ⟨hx, hb, hml, hown, hts⟩ (c_X11_slotOf l dC dI H.size h_mm h_nv vq38 cy_nv f_nv z3 z4 hf_nv (by first | exact k6 | omega) (by first | exact k7 | omega)) (cwV 2 hts (gv hT w_m_X11_270 w_instanceMethod_X11_slotOf ws_sel_X11_slotOf w_ini_X11 w_code_X11_slotOf) rfl rfl rfl (by decide +kernel) ⟨(by dsimp only [headSpec]; omega), (by dsimp only [headSpec]; omega)⟩) ⟨pre_blind, va_recv hK hP (ci := 8) (q0 := 1) rfl rfl, pre_of hPc hKc hDc hN⟩ rfl rfl hl.1 rfl (lv_room (Nat.le_of_ble_eq_true rfl)) dX11_areAlike_86 ⟨(Nat.le_of_ble_eq_true rfl), (Nat.le_of_ble_eq_true rfl)⟩) hS (fun q _ h => hFc q h) hFc (fun r39 u t H locs ht hvm hq hB hz1 hk1 hS9 => ?_)
      obtain ⟨hP1, hD1⟩ := hB
      rw [ht] at hP1
      obtain ⟨hP9, hD9⟩ := va_join (wr := [(h_nn, .inl (cy_nn, 8000, .inr (.inl f_nn))), (h_na, .inl (cy_na, 8000, .inl f_na)), (h_nb, .inl (cy_nb, 8000, .inl f_nb)), (h_nc, .inl (cy_nc, 8000, .inl f_nc)), (h_bto, .inl (cy_bto, 256, .inl f_bto)), (h_bin, .inl (cy_bin, 256, .inl f_bin))]) (w1 := [(h_mm, .inr (8, (mo129 vq38 (.ref h_nv)))), (h_nv, .inl (cy_nv, 8000, .inl f_nv))]) hP hD [1, 2] [0, 3, 4, 5, 6, 7] rfl rfl (by decide) (by decide) hk1 hFc hP1 hD1
      clear hP hD hS hPc hDc hKc hFc hP1 hD1 hk1 hz1 ht hvm
      have hP : va_P (dC, dI) cls [(h_nn, .inl (cy_nn, 8000, .inr (.inl f_nn))), (h_na, .inl (cy_na, 8000, .inl f_na)), (h_nb, .inl (cy_nb, 8000, .inl f_nb)), (h_nc, .inl (cy_nc, 8000, .inl f_nc)), (h_bto, .inl (cy_bto, 256, .inl f_bto)), (h_bin, .inl (cy_bin, 256, .inl f_bin)), (h_mm, .inr (8, (mo129 vq38 (.ref h_nv)))), (h_nv, .inl (cy_nv, 8000, .inl f_nv))] H := hP9
      have hD : va_D A [(h_nn, .inl (cy_nn, 8000, .inr (.inl f_nn))), (h_na, .inl (cy_na, 8000, .inl f_na)), (h_nb, .inl (cy_nb, 8000, .inl f_nb)), (h_nc, .inl (cy_nc, 8000, .inl f_nc)), (h_bto, .inl (cy_bto, 256, .inl f_bto)), (h_bin, .inl (cy_bin, 256, .inl f_bin)), (h_mm, .inr (8, (mo129 vq38 (.ref h_nv)))), (h_nv, .inl (cy_nv, 8000, .inl f_nv))] := hD9
      have hS := hS9
      clear hP9 hD9 hS9
      rw [evq38] at hP hD
      replace hP : va_P (dC, dI) cls [(h_nn, .inl (cy_nn, 8000, .inr (.inl f_nn))), (h_na, .inl (cy_na, 8000, .inl f_na)), (h_nb, .inl (cy_nb, 8000, .inl f_nb)), (h_nc, .inl (cy_nc, 8000, .inl f_nc)), (h_bto, .inl (cy_bto, 256, .inl f_bto)), (h_bin, .inl (cy_bin, 256, .inl f_bin)), (h_mm, .inr (8, (mo137 v_mm (.ref h_nv) (.ref h_nn) (.ref h_na) (.ref h_nb) (.ref h_nc) (.ref h_bto) (.ref h_bin) (.int z17) (.int z18)))), (h_nv, .inl (cy_nv, 8000, .inl f_nv))] H := hP
      replace hD : va_D A [(h_nn, .inl (cy_nn, 8000, .inr (.inl f_nn))), (h_na, .inl (cy_na, 8000, .inl f_na)), (h_nb, .inl (cy_nb, 8000, .inl f_nb)), (h_nc, .inl (cy_nc, 8000, .inl f_nc)), (h_bto, .inl (cy_bto, 256, .inl f_bto)), (h_bin, .inl (cy_bin, 256, .inl f_bin)), (h_mm, .inr (8, (mo137 v_mm (.ref h_nv) (.ref h_nn) (.ref h_na) (.ref h_nb) (.ref h_nc) (.ref h_bto) (.ref h_bin) (.int z17) (.int z18)))), (h_nv, .inl (cy_nv, 8000, .inl f_nv))] := hD
      clear evq38 
      obtain ⟨k40, k41⟩ := hq
      replace k40 : -1 ≤ (r39).toInt ∧ (r39).toInt ≤ 255 := k40
      replace k41 : ((r39)).toInt = 8 * ((z4)).toInt + (f_nv ((z3)).toInt.toNat).toInt := k41
      refine lv_aload_n hx hb dX11_areAlike_89 rfl (lv_at hl 4 rfl) ?_
      refine lv_iload hx hb dX11_areAlike_90 (lv_at hl 1 rfl) ?_
      refine lv_iload hx hb dX11_areAlike_92 (lv_at hl 0 rfl) ?_
      obtain ⟨vq42, evq42⟩ := mq137_129 v_mm (.ref h_nn) (.ref h_na) (.ref h_nb) (.ref h_nc) (.ref h_bto) (.ref h_bin) (.int z17) (.int z18)
      replace hP : va_P (dC, dI) cls [(h_nn, .inl (cy_nn, 8000, .inr (.inl f_nn))), (h_na, .inl (cy_na, 8000, .inl f_na)), (h_nb, .inl (cy_nb, 8000, .inl f_nb)), (h_nc, .inl (cy_nc, 8000, .inl f_nc)), (h_bto, .inl (cy_bto, 256, .inl f_bto)), (h_bin, .inl (cy_bin, 256, .inl f_bin)), (h_mm, .inr (8, (mo129 vq42 (.ref h_nv)))), (h_nv, .inl (cy_nv, 8000, .inl f_nv))] H := by rw [evq42]; exact hP
      replace hD : va_D A [(h_nn, .inl (cy_nn, 8000, .inr (.inl f_nn))), (h_na, .inl (cy_na, 8000, .inl f_na)), (h_nb, .inl (cy_nb, 8000, .inl f_nb)), (h_nc, .inl (cy_nc, 8000, .inl f_nc)), (h_bto, .inl (cy_bto, 256, .inl f_bto)), (h_bin, .inl (cy_bin, 256, .inl f_bin)), (h_mm, .inr (8, (mo129 vq42 (.ref h_nv)))), (h_nv, .inl (cy_nv, 8000, .inl f_nv))] := by rw [evq42]; exact hD
      have hPc := hP.sub (ws' := [(h_mm, .inr (8, (mo129 vq42 (.ref h_nv)))), (h_nv, .inl (cy_nv, 8000, .inl f_nv))]) [6, 7] rfl
      have hDc := hD.sub (ws' := [(h_mm, .inr (8, (mo129 vq42 (.ref h_nv)))), (h_nv, .inl (cy_nv, 8000, .inl f_nv))]) [6, 7] (by decide) rfl
      have hKc := hK.sub (tys' := [(cy_nv, .int)]) [0] rfl
      have hFc := va_free (wc := [(h_mm, .inr (8, (mo129 vq42 (.ref h_nv)))), (h_nv, .inl (cy_nv, 8000, .inl f_nv))]) hD hS hA [6, 7] rfl
      refine va_calli (va_runV (As := [.int z17, .int z18]) (rest := [.int r39]) ⟨hx, hb, hml, hown, hts⟩ (c_X11_slotOf l dC dI H.size h_mm h_nv vq42 cy_nv f_nv z17 z18 hf_nv (by first | exact k20 | omega) (by first | exact k21 | omega)) (cwV 2 hts (gv hT w_m_X11_270 w_instanceMethod_X11_slotOf ws_sel_X11_slotOf w_ini_X11 w_code_X11_slotOf) rfl rfl rfl (by decide +kernel) ⟨(by dsimp only [headSpec]; omega), (by dsimp only [headSpec]; omega)⟩) ⟨pre_blind, va_recv hK hP (ci := 8) (q0 := 6) rfl rfl, pre_of hPc hKc hDc hN⟩ rfl rfl hl.1 rfl (lv_room (Nat.le_of_ble_eq_true rfl)) dX11_areAlike_94 ⟨(Nat.le_of_ble_eq_true rfl), (Nat.le_of_ble_eq_true rfl)⟩) hS (fun q _ h => hFc q h) hFc (fun r43 u t H locs ht hvm hq hB hz1 hk1 hS9 => ?_)
      obtain ⟨hP1, hD1⟩ := hB
      rw [ht] at hP1
      obtain ⟨hP9, hD9⟩ := va_join (wr := [(h_nn, .inl (cy_nn, 8000, .inr (.inl f_nn))), (h_na, .inl (cy_na, 8000, .inl f_na)), (h_nb, .inl (cy_nb, 8000, .inl f_nb)), (h_nc, .inl (cy_nc, 8000, .inl f_nc)), (h_bto, .inl (cy_bto, 256, .inl f_bto)), (h_bin, .inl (cy_bin, 256, .inl f_bin))]) (w1 := [(h_mm, .inr (8, (mo129 vq42 (.ref h_nv)))), (h_nv, .inl (cy_nv, 8000, .inl f_nv))]) hP hD [6, 7] [0, 1, 2, 3, 4, 5] rfl rfl (by decide) (by decide) hk1 hFc hP1 hD1
      clear hP hD hS hPc hDc hKc hFc hP1 hD1 hk1 hz1 ht hvm
      have hP : va_P (dC, dI) cls [(h_nn, .inl (cy_nn, 8000, .inr (.inl f_nn))), (h_na, .inl (cy_na, 8000, .inl f_na)), (h_nb, .inl (cy_nb, 8000, .inl f_nb)), (h_nc, .inl (cy_nc, 8000, .inl f_nc)), (h_bto, .inl (cy_bto, 256, .inl f_bto)), (h_bin, .inl (cy_bin, 256, .inl f_bin)), (h_mm, .inr (8, (mo129 vq42 (.ref h_nv)))), (h_nv, .inl (cy_nv, 8000, .inl f_nv))] H := hP9
      have hD : va_D A [(h_nn, .inl (cy_nn, 8000, .inr (.inl f_nn))), (h_na, .inl (cy_na, 8000, .inl f_na)), (h_nb, .inl (cy_nb, 8000, .inl f_nb)), (h_nc, .inl (cy_nc, 8000, .inl f_nc)), (h_bto, .inl (cy_bto, 256, .inl f_bto)), (h_bin, .inl (cy_bin, 256, .inl f_bin)), (h_mm, .inr (8, (mo129 vq42 (.ref h_nv)))), (h_nv, .inl (cy_nv, 8000, .inl f_nv))] := hD9
      have hS := hS9
      clear hP9 hD9 hS9
      rw [evq42] at hP hD
      replace hP : va_P (dC, dI) cls [(h_nn, .inl (cy_nn, 8000, .inr (.inl f_nn))), (h_na, .inl (cy_na, 8000, .inl f_na)), (h_nb, .inl (cy_nb, 8000, .inl f_nb)), (h_nc, .inl (cy_nc, 8000, .inl f_nc)), (h_bto, .inl (cy_bto, 256, .inl f_bto)), (h_bin, .inl (cy_bin, 256, .inl f_bin)), (h_mm, .inr (8, (mo137 v_mm (.ref h_nv) (.ref h_nn) (.ref h_na) (.ref h_nb) (.ref h_nc) (.ref h_bto) (.ref h_bin) (.int z17) (.int z18)))), (h_nv, .inl (cy_nv, 8000, .inl f_nv))] H := hP
      replace hD : va_D A [(h_nn, .inl (cy_nn, 8000, .inr (.inl f_nn))), (h_na, .inl (cy_na, 8000, .inl f_na)), (h_nb, .inl (cy_nb, 8000, .inl f_nb)), (h_nc, .inl (cy_nc, 8000, .inl f_nc)), (h_bto, .inl (cy_bto, 256, .inl f_bto)), (h_bin, .inl (cy_bin, 256, .inl f_bin)), (h_mm, .inr (8, (mo137 v_mm (.ref h_nv) (.ref h_nn) (.ref h_na) (.ref h_nb) (.ref h_nc) (.ref h_bto) (.ref h_bin) (.int z17) (.int z18)))), (h_nv, .inl (cy_nv, 8000, .inl f_nv))] := hD
      clear evq42 
      obtain ⟨k44, k45⟩ := hq
      replace k44 : -1 ≤ (r43).toInt ∧ (r43).toInt ≤ 255 := k44
      replace k45 : ((r43)).toInt = 8 * ((z18)).toInt + (f_nv ((z17)).toInt.toNat).toInt := k45
      refine lv_icmp_ne (tgt := 104) hx hb dX11_areAlike_97 (by decide) (fun c46 => ?_) (fun c46 => ?_)
      · have kc46 := (not_congr (cv_eq (rfl : (r39).toInt = (r39).toInt) (rfl : (r43).toInt = (r43).toInt))).mp c46
        refine lv_iconst (v := 0) hx hb dX11_areAlike_104 (by decide) ?_
        replace hP : va_P (dC, dI) cls [(h_mm, .inr (8, (mo137 v_mm (.ref h_nv) (.ref h_nn) (.ref h_na) (.ref h_nb) (.ref h_nc) (.ref h_bto) (.ref h_bin) (.int z17) (.int z18)))), (h_nv, .inl (cy_nv, 8000, .inl f_nv)), (h_na, .inl (cy_na, 8000, .inl f_na)), (h_nb, .inl (cy_nb, 8000, .inl f_nb)), (h_nc, .inl (cy_nc, 8000, .inl f_nc)), (h_bto, .inl (cy_bto, 256, .inl f_bto)), (h_bin, .inl (cy_bin, 256, .inl f_bin)), (h_nn, .inl (cy_nn, 8000, .inr (.inl f_nn)))] H := hP.sub [6, 7, 1, 2, 3, 4, 5, 0] rfl
        replace hD : va_D A [(h_mm, .inr (8, (mo137 v_mm (.ref h_nv) (.ref h_nn) (.ref h_na) (.ref h_nb) (.ref h_nc) (.ref h_bto) (.ref h_bin) (.int z17) (.int z18)))), (h_nv, .inl (cy_nv, 8000, .inl f_nv)), (h_na, .inl (cy_na, 8000, .inl f_na)), (h_nb, .inl (cy_nb, 8000, .inl f_nb)), (h_nc, .inl (cy_nc, 8000, .inl f_nc)), (h_bto, .inl (cy_bto, 256, .inl f_bto)), (h_bin, .inl (cy_bin, 256, .inl f_bin)), (h_nn, .inl (cy_nn, 8000, .inr (.inl f_nn)))] := hD.sub [6, 7, 1, 2, 3, 4, 5, 0] (by decide) rfl
        refine W.widen (k := 0) (n := 0) (Nat.le_of_ble_eq_true rfl) (Nat.le_of_ble_eq_true rfl) ?_
        have cst0 : (0 : Int32).toInt = 0 := by decide
        have w47 : 0 ≤ ((z17)).toInt ∧ ((z17)).toInt ≤ 7999 := by first | exact k20 | omega
        have w48 : 0 ≤ ((z18)).toInt ∧ ((z18)).toInt ≤ 31 := by first | exact k21 | omega
        have w49 : 0 ≤ (0 : Int32).toInt ∧ (0 : Int32).toInt ≤ 1 := by omega
        exact W.zret (v := 0) (ty := .boolean) hx hb hr (by decide) (fun t ht hW => ⟨⟨0, (z17, z18), rfl, ⟨w47, w48, w49⟩, by rw [ht]; exact hP, hD⟩, hS.F ht⟩) hS.2.2 dX11_areAlike_105
      · have kc46 := (cv_eq (rfl : (r39).toInt = (r39).toInt) (rfl : (r43).toInt = (r43).toInt)).mp c46
        refine lv_iconst (v := 1) hx hb dX11_areAlike_100 (by decide) ?_
        refine lv_goto (tgt := 105) hx hb dX11_areAlike_101 (by decide) ?_
        replace hP : va_P (dC, dI) cls [(h_mm, .inr (8, (mo137 v_mm (.ref h_nv) (.ref h_nn) (.ref h_na) (.ref h_nb) (.ref h_nc) (.ref h_bto) (.ref h_bin) (.int z17) (.int z18)))), (h_nv, .inl (cy_nv, 8000, .inl f_nv)), (h_na, .inl (cy_na, 8000, .inl f_na)), (h_nb, .inl (cy_nb, 8000, .inl f_nb)), (h_nc, .inl (cy_nc, 8000, .inl f_nc)), (h_bto, .inl (cy_bto, 256, .inl f_bto)), (h_bin, .inl (cy_bin, 256, .inl f_bin)), (h_nn, .inl (cy_nn, 8000, .inr (.inl f_nn)))] H := hP.sub [6, 7, 1, 2, 3, 4, 5, 0] rfl
        replace hD : va_D A [(h_mm, .inr (8, (mo137 v_mm (.ref h_nv) (.ref h_nn) (.ref h_na) (.ref h_nb) (.ref h_nc) (.ref h_bto) (.ref h_bin) (.int z17) (.int z18)))), (h_nv, .inl (cy_nv, 8000, .inl f_nv)), (h_na, .inl (cy_na, 8000, .inl f_na)), (h_nb, .inl (cy_nb, 8000, .inl f_nb)), (h_nc, .inl (cy_nc, 8000, .inl f_nc)), (h_bto, .inl (cy_bto, 256, .inl f_bto)), (h_bin, .inl (cy_bin, 256, .inl f_bin)), (h_nn, .inl (cy_nn, 8000, .inr (.inl f_nn)))] := hD.sub [6, 7, 1, 2, 3, 4, 5, 0] (by decide) rfl
        refine W.widen (k := 0) (n := 0) (Nat.le_of_ble_eq_true rfl) (Nat.le_of_ble_eq_true rfl) ?_
        have cst1 : (1 : Int32).toInt = 1 := by decide
        have w50 : 0 ≤ ((z17)).toInt ∧ ((z17)).toInt ≤ 7999 := by first | exact k20 | omega
        have w51 : 0 ≤ ((z18)).toInt ∧ ((z18)).toInt ≤ 31 := by first | exact k21 | omega
        have w52 : 0 ≤ (1 : Int32).toInt ∧ (1 : Int32).toInt ≤ 1 := by omega
        exact W.zret (v := 1) (ty := .boolean) hx hb hr (by decide) (fun t ht hW => ⟨⟨1, (z17, z18), rfl, ⟨w50, w51, w52⟩, by rw [ht]; exact hP, hD⟩, hS.F ht⟩) hS.2.2 dX11_areAlike_105
  · have kc30 := (cv_eq (rfl : (z29).toInt = (z29).toInt) (by decide : ((-1) : Int32).toInt = -1)).mp c30
    refine lv_aload_n hx hb dX11_areAlike_48 rfl (lv_at hl 4 rfl) ?_
    refine va_get (D := (dC, dI)) (ci := 8) (v := .ref h_nv) (C := RX11) (T := TX11) (N := 71) hx hb hw iwX11 hown hK hP 1 rfl rfl 1 (by decide) (hw _ w_f_X11_17) (fun _ h9 => h9) rfl dX11_areAlike_49 ?_
    refine lv_iload hx hb dX11_areAlike_52 (lv_at hl 1 rfl) ?_
    refine va_iald hx hb hK hP 2 0 rfl rfl (i := z17) (vp_in_iff.mpr (by omega)) dX11_areAlike_54 ?_
    refine lv_topi (fun z53 ez53 => ?_)
    have rz53 : -1 ≤ (z53).toInt ∧ (z53).toInt ≤ 7 := by rw [ez53]; exact hf_nv _
    refine lv_iconst (v := (-1)) hx hb dX11_areAlike_55 (by decide) ?_
    refine lv_icmp_eq (tgt := 106) hx hb dX11_areAlike_56 (by decide) (fun c54 => ?_) (fun c54 => ?_)
    · have kc54 := (cv_eq (rfl : (z53).toInt = (z53).toInt) (by decide : ((-1) : Int32).toInt = -1)).mp c54
      refine lv_aload_n hx hb dX11_areAlike_106 rfl (lv_at hl 4 rfl) ?_
      refine va_get (D := (dC, dI)) (ci := 8) (v := .ref h_nn) (C := RX11) (T := TX11) (N := 71) hx hb hw iwX11 hown hK hP 1 rfl rfl 2 (by decide) (hw _ w_f_X11_23) (fun _ h9 => h9) rfl dX11_areAlike_107 ?_
      refine lv_iload hx hb dX11_areAlike_110 (lv_at hl 3 rfl) ?_
      refine va_lald hx hb hK hP 0 6 rfl rfl (i := z3) (vp_in_iff.mpr (by omega)) dX11_areAlike_112 ?_
      refine lv_topl (fun z55 ez55 => ?_)
      refine lv_aload_n hx hb dX11_areAlike_113 rfl (lv_at hl 4 rfl) ?_
      refine va_get (D := (dC, dI)) (ci := 8) (v := .ref h_nn) (C := RX11) (T := TX11) (N := 71) hx hb hw iwX11 hown hK hP 1 rfl rfl 2 (by decide) (hw _ w_f_X11_23) (fun _ h9 => h9) rfl dX11_areAlike_114 ?_
      refine lv_iload hx hb dX11_areAlike_117 (lv_at hl 1 rfl) ?_
      refine va_lald hx hb hK hP 0 6 rfl rfl (i := z17) (vp_in_iff.mpr (by omega)) dX11_areAlike_119 ?_
      refine lv_topl (fun z56 ez56 => ?_)
      refine W.lcmp hx hb dX11_areAlike_120 ?_
      refine lv_topi (fun z57 ez57 => ?_)
      refine lv_if_ne (tgt := 139) hx hb dX11_areAlike_121 (by decide) (fun c58 => ?_) (fun c58 => ?_)
      · have kc58 := (not_congr (cv_eq (rfl : (z57).toInt = (z57).toInt) (by decide : (0 : Int32).toInt = 0))).mp c58
        refine lv_iconst (v := 0) hx hb dX11_areAlike_139 (by decide) ?_
        replace hP : va_P (dC, dI) cls [(h_mm, .inr (8, (mo137 v_mm (.ref h_nv) (.ref h_nn) (.ref h_na) (.ref h_nb) (.ref h_nc) (.ref h_bto) (.ref h_bin) (.int z17) (.int z18)))), (h_nv, .inl (cy_nv, 8000, .inl f_nv)), (h_na, .inl (cy_na, 8000, .inl f_na)), (h_nb, .inl (cy_nb, 8000, .inl f_nb)), (h_nc, .inl (cy_nc, 8000, .inl f_nc)), (h_bto, .inl (cy_bto, 256, .inl f_bto)), (h_bin, .inl (cy_bin, 256, .inl f_bin)), (h_nn, .inl (cy_nn, 8000, .inr (.inl f_nn)))] H := hP.sub [1, 2, 3, 4, 5, 6, 7, 0] rfl
        replace hD : va_D A [(h_mm, .inr (8, (mo137 v_mm (.ref h_nv) (.ref h_nn) (.ref h_na) (.ref h_nb) (.ref h_nc) (.ref h_bto) (.ref h_bin) (.int z17) (.int z18)))), (h_nv, .inl (cy_nv, 8000, .inl f_nv)), (h_na, .inl (cy_na, 8000, .inl f_na)), (h_nb, .inl (cy_nb, 8000, .inl f_nb)), (h_nc, .inl (cy_nc, 8000, .inl f_nc)), (h_bto, .inl (cy_bto, 256, .inl f_bto)), (h_bin, .inl (cy_bin, 256, .inl f_bin)), (h_nn, .inl (cy_nn, 8000, .inr (.inl f_nn)))] := hD.sub [1, 2, 3, 4, 5, 6, 7, 0] (by decide) rfl
        refine W.widen (k := 0) (n := 0) (Nat.le_of_ble_eq_true rfl) (Nat.le_of_ble_eq_true rfl) ?_
        have cst0 : (0 : Int32).toInt = 0 := by decide
        have w59 : 0 ≤ ((z17)).toInt ∧ ((z17)).toInt ≤ 7999 := by first | exact k20 | omega
        have w60 : 0 ≤ ((z18)).toInt ∧ ((z18)).toInt ≤ 31 := by first | exact k21 | omega
        have w61 : 0 ≤ (0 : Int32).toInt ∧ (0 : Int32).toInt ≤ 1 := by omega
        exact W.zret (v := 0) (ty := .boolean) hx hb hr (by decide) (fun t ht hW => ⟨⟨0, (z17, z18), rfl, ⟨w59, w60, w61⟩, by rw [ht]; exact hP, hD⟩, hS.F ht⟩) hS.2.2 dX11_areAlike_140
      · have kc58 := (cv_eq (rfl : (z57).toInt = (z57).toInt) (by decide : (0 : Int32).toInt = 0)).mp c58
        refine lv_aload_n hx hb dX11_areAlike_124 rfl (lv_at hl 4 rfl) ?_
        refine lv_iload hx hb dX11_areAlike_125 (lv_at hl 3 rfl) ?_
        obtain ⟨vq62, evq62⟩ := mq137_86 v_mm (.ref h_nn) (.ref h_bto) (.ref h_bin) (.int z17) (.int z18)
        replace hP : va_P (dC, dI) cls [(h_nn, .inl (cy_nn, 8000, .inr (.inl f_nn))), (h_mm, .inr (8, (mo86 vq62 (.ref h_nv) (.ref h_na) (.ref h_nb) (.ref h_nc)))), (h_nv, .inl (cy_nv, 8000, .inl f_nv)), (h_na, .inl (cy_na, 8000, .inl f_na)), (h_nb, .inl (cy_nb, 8000, .inl f_nb)), (h_nc, .inl (cy_nc, 8000, .inl f_nc)), (h_bto, .inl (cy_bto, 256, .inl f_bto)), (h_bin, .inl (cy_bin, 256, .inl f_bin))] H := by rw [evq62]; exact hP
        replace hD : va_D A [(h_nn, .inl (cy_nn, 8000, .inr (.inl f_nn))), (h_mm, .inr (8, (mo86 vq62 (.ref h_nv) (.ref h_na) (.ref h_nb) (.ref h_nc)))), (h_nv, .inl (cy_nv, 8000, .inl f_nv)), (h_na, .inl (cy_na, 8000, .inl f_na)), (h_nb, .inl (cy_nb, 8000, .inl f_nb)), (h_nc, .inl (cy_nc, 8000, .inl f_nc)), (h_bto, .inl (cy_bto, 256, .inl f_bto)), (h_bin, .inl (cy_bin, 256, .inl f_bin))] := by rw [evq62]; exact hD
        have hPc := hP.sub (ws' := [(h_mm, .inr (8, (mo86 vq62 (.ref h_nv) (.ref h_na) (.ref h_nb) (.ref h_nc)))), (h_nv, .inl (cy_nv, 8000, .inl f_nv)), (h_na, .inl (cy_na, 8000, .inl f_na)), (h_nb, .inl (cy_nb, 8000, .inl f_nb)), (h_nc, .inl (cy_nc, 8000, .inl f_nc))]) [1, 2, 3, 4, 5] rfl
        have hDc := hD.sub (ws' := [(h_mm, .inr (8, (mo86 vq62 (.ref h_nv) (.ref h_na) (.ref h_nb) (.ref h_nc)))), (h_nv, .inl (cy_nv, 8000, .inl f_nv)), (h_na, .inl (cy_na, 8000, .inl f_na)), (h_nb, .inl (cy_nb, 8000, .inl f_nb)), (h_nc, .inl (cy_nc, 8000, .inl f_nc))]) [1, 2, 3, 4, 5] (by decide) rfl
        have hKc := hK.sub (tys' := [(cy_nv, .int), (cy_na, .int), (cy_nb, .int), (cy_nc, .int)]) [0, 1, 2, 3] rfl
        have hFc := va_free (wc := [(h_mm, .inr (8, (mo86 vq62 (.ref h_nv) (.ref h_na) (.ref h_nb) (.ref h_nc)))), (h_nv, .inl (cy_nv, 8000, .inl f_nv)), (h_na, .inl (cy_na, 8000, .inl f_na)), (h_nb, .inl (cy_nb, 8000, .inl f_nb)), (h_nc, .inl (cy_nc, 8000, .inl f_nc))]) hD hS hA [1, 2, 3, 4, 5] rfl
        refine va_calli (va_runV (As := [.int z3]) (rest := []) ⟨hx, hb, hml, hown, hts⟩ (c_X11_partsAt_e l dC dI H.size h_mm h_nv h_na h_nb h_nc vq62 cy_nv f_nv cy_na f_na cy_nb f_nb cy_nc f_nc z3 hf_nv hf_na hf_nb hf_nc (by first | exact k6 | omega)) (cwV 1 hts (gv hT w_m_X11_27 w_instanceMethod_X11_partsAt ws_sel_X11_partsAt w_ini_X11 w_code_X11_partsAt) rfl rfl rfl (by decide +kernel) ⟨(by dsimp only [headSpec]; omega), (by dsimp only [headSpec]; omega)⟩) ⟨pre_blind, va_recv hK hP (ci := 8) (q0 := 1) rfl rfl, pre_of hPc hKc hDc hN⟩ rfl rfl hl.1 rfl (lv_room (Nat.le_of_ble_eq_true rfl)) dX11_areAlike_127 ⟨(Nat.le_of_ble_eq_true rfl), (Nat.le_of_ble_eq_true rfl)⟩) hS (fun q _ h => hFc q h) hFc (fun r63 u t H locs ht hvm hq hB hz1 hk1 hS9 => ?_)
        obtain ⟨hP1, hD1⟩ := hB
        rw [ht] at hP1
        obtain ⟨hP9, hD9⟩ := va_join (wr := [(h_nn, .inl (cy_nn, 8000, .inr (.inl f_nn))), (h_bto, .inl (cy_bto, 256, .inl f_bto)), (h_bin, .inl (cy_bin, 256, .inl f_bin))]) (w1 := [(h_mm, .inr (8, (mo86 vq62 (.ref h_nv) (.ref h_na) (.ref h_nb) (.ref h_nc)))), (h_nv, .inl (cy_nv, 8000, .inl f_nv)), (h_na, .inl (cy_na, 8000, .inl f_na)), (h_nb, .inl (cy_nb, 8000, .inl f_nb)), (h_nc, .inl (cy_nc, 8000, .inl f_nc))]) hP hD [1, 2, 3, 4, 5] [0, 6, 7] rfl rfl (by decide) (by decide) hk1 hFc hP1 hD1
        clear hP hD hS hPc hDc hKc hFc hP1 hD1 hk1 hz1 ht hvm
        have hP : va_P (dC, dI) cls [(h_nn, .inl (cy_nn, 8000, .inr (.inl f_nn))), (h_bto, .inl (cy_bto, 256, .inl f_bto)), (h_bin, .inl (cy_bin, 256, .inl f_bin)), (h_mm, .inr (8, (mo86 vq62 (.ref h_nv) (.ref h_na) (.ref h_nb) (.ref h_nc)))), (h_nv, .inl (cy_nv, 8000, .inl f_nv)), (h_na, .inl (cy_na, 8000, .inl f_na)), (h_nb, .inl (cy_nb, 8000, .inl f_nb)), (h_nc, .inl (cy_nc, 8000, .inl f_nc))] H := hP9
        have hD : va_D A [(h_nn, .inl (cy_nn, 8000, .inr (.inl f_nn))), (h_bto, .inl (cy_bto, 256, .inl f_bto)), (h_bin, .inl (cy_bin, 256, .inl f_bin)), (h_mm, .inr (8, (mo86 vq62 (.ref h_nv) (.ref h_na) (.ref h_nb) (.ref h_nc)))), (h_nv, .inl (cy_nv, 8000, .inl f_nv)), (h_na, .inl (cy_na, 8000, .inl f_na)), (h_nb, .inl (cy_nb, 8000, .inl f_nb)), (h_nc, .inl (cy_nc, 8000, .inl f_nc))] := hD9
        have hS := hS9
        clear hP9 hD9 hS9
        rw [evq62] at hP hD
        replace hP : va_P (dC, dI) cls [(h_nn, .inl (cy_nn, 8000, .inr (.inl f_nn))), (h_bto, .inl (cy_bto, 256, .inl f_bto)), (h_bin, .inl (cy_bin, 256, .inl f_bin)), (h_mm, .inr (8, (mo137 v_mm (.ref h_nv) (.ref h_nn) (.ref h_na) (.ref h_nb) (.ref h_nc) (.ref h_bto) (.ref h_bin) (.int z17) (.int z18)))), (h_nv, .inl (cy_nv, 8000, .inl f_nv)), (h_na, .inl (cy_na, 8000, .inl f_na)), (h_nb, .inl (cy_nb, 8000, .inl f_nb)), (h_nc, .inl (cy_nc, 8000, .inl f_nc))] H := hP
        replace hD : va_D A [(h_nn, .inl (cy_nn, 8000, .inr (.inl f_nn))), (h_bto, .inl (cy_bto, 256, .inl f_bto)), (h_bin, .inl (cy_bin, 256, .inl f_bin)), (h_mm, .inr (8, (mo137 v_mm (.ref h_nv) (.ref h_nn) (.ref h_na) (.ref h_nb) (.ref h_nc) (.ref h_bto) (.ref h_bin) (.int z17) (.int z18)))), (h_nv, .inl (cy_nv, 8000, .inl f_nv)), (h_na, .inl (cy_na, 8000, .inl f_na)), (h_nb, .inl (cy_nb, 8000, .inl f_nb)), (h_nc, .inl (cy_nc, 8000, .inl f_nc))] := hD
        clear evq62 
        obtain ⟨k64, k65⟩ := hq
        replace k64 : 0 ≤ (r63).toInt ∧ (r63).toInt ≤ 3 := k64
        replace k65 : ((r63)).toInt = (npx f_nv f_na f_nb f_nc ((z3)).toInt.toNat) := k65
        refine lv_aload_n hx hb dX11_areAlike_130 rfl (lv_at hl 4 rfl) ?_
        refine lv_iload hx hb dX11_areAlike_131 (lv_at hl 1 rfl) ?_
        obtain ⟨vq66, evq66⟩ := mq137_86 v_mm (.ref h_nn) (.ref h_bto) (.ref h_bin) (.int z17) (.int z18)
        replace hP : va_P (dC, dI) cls [(h_nn, .inl (cy_nn, 8000, .inr (.inl f_nn))), (h_bto, .inl (cy_bto, 256, .inl f_bto)), (h_bin, .inl (cy_bin, 256, .inl f_bin)), (h_mm, .inr (8, (mo86 vq66 (.ref h_nv) (.ref h_na) (.ref h_nb) (.ref h_nc)))), (h_nv, .inl (cy_nv, 8000, .inl f_nv)), (h_na, .inl (cy_na, 8000, .inl f_na)), (h_nb, .inl (cy_nb, 8000, .inl f_nb)), (h_nc, .inl (cy_nc, 8000, .inl f_nc))] H := by rw [evq66]; exact hP
        replace hD : va_D A [(h_nn, .inl (cy_nn, 8000, .inr (.inl f_nn))), (h_bto, .inl (cy_bto, 256, .inl f_bto)), (h_bin, .inl (cy_bin, 256, .inl f_bin)), (h_mm, .inr (8, (mo86 vq66 (.ref h_nv) (.ref h_na) (.ref h_nb) (.ref h_nc)))), (h_nv, .inl (cy_nv, 8000, .inl f_nv)), (h_na, .inl (cy_na, 8000, .inl f_na)), (h_nb, .inl (cy_nb, 8000, .inl f_nb)), (h_nc, .inl (cy_nc, 8000, .inl f_nc))] := by rw [evq66]; exact hD
        have hPc := hP.sub (ws' := [(h_mm, .inr (8, (mo86 vq66 (.ref h_nv) (.ref h_na) (.ref h_nb) (.ref h_nc)))), (h_nv, .inl (cy_nv, 8000, .inl f_nv)), (h_na, .inl (cy_na, 8000, .inl f_na)), (h_nb, .inl (cy_nb, 8000, .inl f_nb)), (h_nc, .inl (cy_nc, 8000, .inl f_nc))]) [3, 4, 5, 6, 7] rfl
        have hDc := hD.sub (ws' := [(h_mm, .inr (8, (mo86 vq66 (.ref h_nv) (.ref h_na) (.ref h_nb) (.ref h_nc)))), (h_nv, .inl (cy_nv, 8000, .inl f_nv)), (h_na, .inl (cy_na, 8000, .inl f_na)), (h_nb, .inl (cy_nb, 8000, .inl f_nb)), (h_nc, .inl (cy_nc, 8000, .inl f_nc))]) [3, 4, 5, 6, 7] (by decide) rfl
        have hKc := hK.sub (tys' := [(cy_nv, .int), (cy_na, .int), (cy_nb, .int), (cy_nc, .int)]) [0, 1, 2, 3] rfl
        have hFc := va_free (wc := [(h_mm, .inr (8, (mo86 vq66 (.ref h_nv) (.ref h_na) (.ref h_nb) (.ref h_nc)))), (h_nv, .inl (cy_nv, 8000, .inl f_nv)), (h_na, .inl (cy_na, 8000, .inl f_na)), (h_nb, .inl (cy_nb, 8000, .inl f_nb)), (h_nc, .inl (cy_nc, 8000, .inl f_nc))]) hD hS hA [3, 4, 5, 6, 7] rfl
        refine va_calli (va_runV (As := [.int z17]) (rest := [.int r63]) ⟨hx, hb, hml, hown, hts⟩ (c_X11_partsAt_e l dC dI H.size h_mm h_nv h_na h_nb h_nc vq66 cy_nv f_nv cy_na f_na cy_nb f_nb cy_nc f_nc z17 hf_nv hf_na hf_nb hf_nc (by first | exact k20 | omega)) (cwV 1 hts (gv hT w_m_X11_27 w_instanceMethod_X11_partsAt ws_sel_X11_partsAt w_ini_X11 w_code_X11_partsAt) rfl rfl rfl (by decide +kernel) ⟨(by dsimp only [headSpec]; omega), (by dsimp only [headSpec]; omega)⟩) ⟨pre_blind, va_recv hK hP (ci := 8) (q0 := 3) rfl rfl, pre_of hPc hKc hDc hN⟩ rfl rfl hl.1 rfl (lv_room (Nat.le_of_ble_eq_true rfl)) dX11_areAlike_133 ⟨(Nat.le_of_ble_eq_true rfl), (Nat.le_of_ble_eq_true rfl)⟩) hS (fun q _ h => hFc q h) hFc (fun r67 u t H locs ht hvm hq hB hz1 hk1 hS9 => ?_)
        obtain ⟨hP1, hD1⟩ := hB
        rw [ht] at hP1
        obtain ⟨hP9, hD9⟩ := va_join (wr := [(h_nn, .inl (cy_nn, 8000, .inr (.inl f_nn))), (h_bto, .inl (cy_bto, 256, .inl f_bto)), (h_bin, .inl (cy_bin, 256, .inl f_bin))]) (w1 := [(h_mm, .inr (8, (mo86 vq66 (.ref h_nv) (.ref h_na) (.ref h_nb) (.ref h_nc)))), (h_nv, .inl (cy_nv, 8000, .inl f_nv)), (h_na, .inl (cy_na, 8000, .inl f_na)), (h_nb, .inl (cy_nb, 8000, .inl f_nb)), (h_nc, .inl (cy_nc, 8000, .inl f_nc))]) hP hD [3, 4, 5, 6, 7] [0, 1, 2] rfl rfl (by decide) (by decide) hk1 hFc hP1 hD1
        clear hP hD hS hPc hDc hKc hFc hP1 hD1 hk1 hz1 ht hvm
        have hP : va_P (dC, dI) cls [(h_nn, .inl (cy_nn, 8000, .inr (.inl f_nn))), (h_bto, .inl (cy_bto, 256, .inl f_bto)), (h_bin, .inl (cy_bin, 256, .inl f_bin)), (h_mm, .inr (8, (mo86 vq66 (.ref h_nv) (.ref h_na) (.ref h_nb) (.ref h_nc)))), (h_nv, .inl (cy_nv, 8000, .inl f_nv)), (h_na, .inl (cy_na, 8000, .inl f_na)), (h_nb, .inl (cy_nb, 8000, .inl f_nb)), (h_nc, .inl (cy_nc, 8000, .inl f_nc))] H := hP9
        have hD : va_D A [(h_nn, .inl (cy_nn, 8000, .inr (.inl f_nn))), (h_bto, .inl (cy_bto, 256, .inl f_bto)), (h_bin, .inl (cy_bin, 256, .inl f_bin)), (h_mm, .inr (8, (mo86 vq66 (.ref h_nv) (.ref h_na) (.ref h_nb) (.ref h_nc)))), (h_nv, .inl (cy_nv, 8000, .inl f_nv)), (h_na, .inl (cy_na, 8000, .inl f_na)), (h_nb, .inl (cy_nb, 8000, .inl f_nb)), (h_nc, .inl (cy_nc, 8000, .inl f_nc))] := hD9
        have hS := hS9
        clear hP9 hD9 hS9
        rw [evq66] at hP hD
        replace hP : va_P (dC, dI) cls [(h_nn, .inl (cy_nn, 8000, .inr (.inl f_nn))), (h_bto, .inl (cy_bto, 256, .inl f_bto)), (h_bin, .inl (cy_bin, 256, .inl f_bin)), (h_mm, .inr (8, (mo137 v_mm (.ref h_nv) (.ref h_nn) (.ref h_na) (.ref h_nb) (.ref h_nc) (.ref h_bto) (.ref h_bin) (.int z17) (.int z18)))), (h_nv, .inl (cy_nv, 8000, .inl f_nv)), (h_na, .inl (cy_na, 8000, .inl f_na)), (h_nb, .inl (cy_nb, 8000, .inl f_nb)), (h_nc, .inl (cy_nc, 8000, .inl f_nc))] H := hP
        replace hD : va_D A [(h_nn, .inl (cy_nn, 8000, .inr (.inl f_nn))), (h_bto, .inl (cy_bto, 256, .inl f_bto)), (h_bin, .inl (cy_bin, 256, .inl f_bin)), (h_mm, .inr (8, (mo137 v_mm (.ref h_nv) (.ref h_nn) (.ref h_na) (.ref h_nb) (.ref h_nc) (.ref h_bto) (.ref h_bin) (.int z17) (.int z18)))), (h_nv, .inl (cy_nv, 8000, .inl f_nv)), (h_na, .inl (cy_na, 8000, .inl f_na)), (h_nb, .inl (cy_nb, 8000, .inl f_nb)), (h_nc, .inl (cy_nc, 8000, .inl f_nc))] := hD
        clear evq66 
        obtain ⟨k68, k69⟩ := hq
        replace k68 : 0 ≤ (r67).toInt ∧ (r67).toInt ≤ 3 := k68
        replace k69 : ((r67)).toInt = (npx f_nv f_na f_nb f_nc ((z17)).toInt.toNat) := k69
        refine lv_icmp_eq (tgt := 141) hx hb dX11_areAlike_136 (by decide) (fun c70 => ?_) (fun c70 => ?_)
        · have kc70 := (cv_eq (rfl : (r63).toInt = (r63).toInt) (rfl : (r67).toInt = (r67).toInt)).mp c70
          refine lv_iconst (v := 0) hx hb dX11_areAlike_141 (by decide) ?_
          refine lv_istore (lv' := [(9, .int 0), (8, .int z18), (7, .int z17), (6, .int z4), (5, .int z3), (0, .ref h_mm), (1, .int p1), (2, .int p2), (3, .int p3), (4, .int p4)]) hx hb dX11_areAlike_142 hl (by decide) rfl (fun ls hl => ?_)
          have lp74 : ∀ (n : Nat) (x71 : Int32) (x72 : Int32) (x73 : Int32) (H : Heap) (locs : List Loc) (ls : Array Slot), (0 ≤ (x71).toInt ∧ (x71).toInt ≤ 3) → (0 ≤ (x72).toInt ∧ (x72).toInt ≤ 7999) → (0 ≤ (x73).toInt ∧ (x73).toInt ≤ 31) → (3 - (x71).toInt).toNat + 1 ≤ n → va_P (dC, dI) cls [(h_nn, .inl (cy_nn, 8000, .inr (.inl f_nn))), (h_bto, .inl (cy_bto, 256, .inl f_bto)), (h_bin, .inl (cy_bin, 256, .inl f_bin)), (h_mm, .inr (8, (mo137 v_mm (.ref h_nv) (.ref h_nn) (.ref h_na) (.ref h_nb) (.ref h_nc) (.ref h_bto) (.ref h_bin) (.int x72) (.int x73)))), (h_nv, .inl (cy_nv, 8000, .inl f_nv)), (h_na, .inl (cy_na, 8000, .inl f_na)), (h_nb, .inl (cy_nb, 8000, .inl f_nb)), (h_nc, .inl (cy_nc, 8000, .inl f_nc))] H → va_D A [(h_nn, .inl (cy_nn, 8000, .inr (.inl f_nn))), (h_bto, .inl (cy_bto, 256, .inl f_bto)), (h_bin, .inl (cy_bin, 256, .inl f_bin)), (h_mm, .inr (8, (mo137 v_mm (.ref h_nv) (.ref h_nn) (.ref h_na) (.ref h_nb) (.ref h_nc) (.ref h_bto) (.ref h_bin) (.int x72) (.int x73)))), (h_nv, .inl (cy_nv, 8000, .inl f_nv)), (h_na, .inl (cy_na, 8000, .inl f_na)), (h_nb, .inl (cy_nb, 8000, .inl f_nb)), (h_nc, .inl (cy_nc, 8000, .inl f_nc))] → va_S A s.heap H locs → lv_has ls 10 [(0, .ref h_mm), (1, .int p1), (2, .int p2), (3, .int p3), (4, .int p4), (5, .int z3), (6, .int z4), (7, .int z17), (8, .int z18), (9, .int x71)] → W p l e ({ frames := (fu + 1) + 2, cells := 0, slots := 0, locals := 29 * (fu + 1) + 45 } : Room) s m ([.ref h_mm, .int p1, .int p2, .int p3, .int p4] : List Value).toArray below meth c H locs 0 0 (MQ below (va_Qi (fun (r : Int32) (u : (Int32) × (Int32)) => (0 ≤ (u.1).toInt ∧ (u.1).toInt ≤ 7999) ∧ (0 ≤ (u.2).toInt ∧ (u.2).toInt ≤ 31) ∧ (0 ≤ r.toInt ∧ r.toInt ≤ 1)) (fun (u : (Int32) × (Int32)) (t : State) => va_P (dC, dI) cls [(h_mm, .inr (8, (mo137 v_mm (.ref h_nv) (.ref h_nn) (.ref h_na) (.ref h_nb) (.ref h_nc) (.ref h_bto) (.ref h_bin) (.int u.1) (.int u.2)))), (h_nv, .inl (cy_nv, 8000, .inl f_nv)), (h_na, .inl (cy_na, 8000, .inl f_na)), (h_nb, .inl (cy_nb, 8000, .inl f_nb)), (h_nc, .inl (cy_nc, 8000, .inl f_nc)), (h_bto, .inl (cy_bto, 256, .inl f_bto)), (h_bin, .inl (cy_bin, 256, .inl f_bin)), (h_nn, .inl (cy_nn, 8000, .inr (.inl f_nn)))] t.heap ∧ va_D A [(h_mm, .inr (8, (mo137 v_mm (.ref h_nv) (.ref h_nn) (.ref h_na) (.ref h_nb) (.ref h_nc) (.ref h_bto) (.ref h_bin) (.int u.1) (.int u.2)))), (h_nv, .inl (cy_nv, 8000, .inl f_nv)), (h_na, .inl (cy_na, 8000, .inl f_na)), (h_nb, .inl (cy_nb, 8000, .inl f_nb)), (h_nc, .inl (cy_nc, 8000, .inl f_nc)), (h_bto, .inl (cy_bto, 256, .inl f_bto)), (h_bin, .inl (cy_bin, 256, .inl f_bin)), (h_nn, .inl (cy_nn, 8000, .inr (.inl f_nn)))]) A) ([.ref h_mm, .int p1, .int p2, .int p3, .int p4] : List Value).toArray s 0 0 A) (F0 m 144 ls []) := by
            clear hP hD hS hl
            intro n
            induction n with
            | zero => intro x71 x72 x73 H locs ls klp74_0 klp74_1 klp74_2 hm hP hD hS hl; exact False.elim (by omega)
            | succ n ih => 
              intro x71 x72 x73 H locs ls klp74_0 klp74_1 klp74_2 hm hP hD hS hl
              have ih75 := ih
              clear ih
              refine lv_iload hx hb dX11_areAlike_144 (lv_at hl 9 rfl) ?_
              refine lv_aload_n hx hb dX11_areAlike_146 rfl (lv_at hl 0 rfl) ?_
              refine lv_iload hx hb dX11_areAlike_147 (lv_at hl 5 rfl) ?_
              obtain ⟨vq76, evq76⟩ := mq137_86 v_mm (.ref h_nn) (.ref h_bto) (.ref h_bin) (.int x72) (.int x73)
              replace hP : va_P (dC, dI) cls [(h_nn, .inl (cy_nn, 8000, .inr (.inl f_nn))), (h_bto, .inl (cy_bto, 256, .inl f_bto)), (h_bin, .inl (cy_bin, 256, .inl f_bin)), (h_mm, .inr (8, (mo86 vq76 (.ref h_nv) (.ref h_na) (.ref h_nb) (.ref h_nc)))), (h_nv, .inl (cy_nv, 8000, .inl f_nv)), (h_na, .inl (cy_na, 8000, .inl f_na)), (h_nb, .inl (cy_nb, 8000, .inl f_nb)), (h_nc, .inl (cy_nc, 8000, .inl f_nc))] H := by rw [evq76]; exact hP
              replace hD : va_D A [(h_nn, .inl (cy_nn, 8000, .inr (.inl f_nn))), (h_bto, .inl (cy_bto, 256, .inl f_bto)), (h_bin, .inl (cy_bin, 256, .inl f_bin)), (h_mm, .inr (8, (mo86 vq76 (.ref h_nv) (.ref h_na) (.ref h_nb) (.ref h_nc)))), (h_nv, .inl (cy_nv, 8000, .inl f_nv)), (h_na, .inl (cy_na, 8000, .inl f_na)), (h_nb, .inl (cy_nb, 8000, .inl f_nb)), (h_nc, .inl (cy_nc, 8000, .inl f_nc))] := by rw [evq76]; exact hD
              have hPc := hP.sub (ws' := [(h_mm, .inr (8, (mo86 vq76 (.ref h_nv) (.ref h_na) (.ref h_nb) (.ref h_nc)))), (h_nv, .inl (cy_nv, 8000, .inl f_nv)), (h_na, .inl (cy_na, 8000, .inl f_na)), (h_nb, .inl (cy_nb, 8000, .inl f_nb)), (h_nc, .inl (cy_nc, 8000, .inl f_nc))]) [3, 4, 5, 6, 7] rfl
              have hDc := hD.sub (ws' := [(h_mm, .inr (8, (mo86 vq76 (.ref h_nv) (.ref h_na) (.ref h_nb) (.ref h_nc)))), (h_nv, .inl (cy_nv, 8000, .inl f_nv)), (h_na, .inl (cy_na, 8000, .inl f_na)), (h_nb, .inl (cy_nb, 8000, .inl f_nb)), (h_nc, .inl (cy_nc, 8000, .inl f_nc))]) [3, 4, 5, 6, 7] (by decide) rfl
              have hKc := hK.sub (tys' := [(cy_nv, .int), (cy_na, .int), (cy_nb, .int), (cy_nc, .int)]) [0, 1, 2, 3] rfl
              have hFc := va_free (wc := [(h_mm, .inr (8, (mo86 vq76 (.ref h_nv) (.ref h_na) (.ref h_nb) (.ref h_nc)))), (h_nv, .inl (cy_nv, 8000, .inl f_nv)), (h_na, .inl (cy_na, 8000, .inl f_na)), (h_nb, .inl (cy_nb, 8000, .inl f_nb)), (h_nc, .inl (cy_nc, 8000, .inl f_nc))]) hD hS hA [3, 4, 5, 6, 7] rfl
              refine va_calli (va_runV (As := [.int z3]) (rest := [.int x71]) ⟨hx, hb, hml, hown, hts⟩ (c_X11_partsAt_e l dC dI H.size h_mm h_nv h_na h_nb h_nc vq76 cy_nv f_nv cy_na f_na cy_nb f_nb cy_nc f_nc z3 hf_nv hf_na hf_nb hf_nc (by first | exact k6 | omega)) (cwV 1 hts (gv hT w_m_X11_27 w_instanceMethod_X11_partsAt ws_sel_X11_partsAt w_ini_X11 w_code_X11_partsAt) rfl rfl rfl (by decide +kernel) ⟨(by dsimp only [headSpec]; omega), (by dsimp only [headSpec]; omega)⟩) ⟨pre_blind, va_recv hK hP (ci := 8) (q0 := 3) rfl rfl, pre_of hPc hKc hDc hN⟩ rfl rfl hl.1 rfl (lv_room (Nat.le_of_ble_eq_true rfl)) dX11_areAlike_149 ⟨(Nat.le_of_ble_eq_true rfl), (Nat.le_of_ble_eq_true rfl)⟩) hS (fun q _ h => hFc q h) hFc (fun r77 u t H locs ht hvm hq hB hz1 hk1 hS9 => ?_)
              obtain ⟨hP1, hD1⟩ := hB
              rw [ht] at hP1
              obtain ⟨hP9, hD9⟩ := va_join (wr := [(h_nn, .inl (cy_nn, 8000, .inr (.inl f_nn))), (h_bto, .inl (cy_bto, 256, .inl f_bto)), (h_bin, .inl (cy_bin, 256, .inl f_bin))]) (w1 := [(h_mm, .inr (8, (mo86 vq76 (.ref h_nv) (.ref h_na) (.ref h_nb) (.ref h_nc)))), (h_nv, .inl (cy_nv, 8000, .inl f_nv)), (h_na, .inl (cy_na, 8000, .inl f_na)), (h_nb, .inl (cy_nb, 8000, .inl f_nb)), (h_nc, .inl (cy_nc, 8000, .inl f_nc))]) hP hD [3, 4, 5, 6, 7] [0, 1, 2] rfl rfl (by decide) (by decide) hk1 hFc hP1 hD1
              clear hP hD hS hPc hDc hKc hFc hP1 hD1 hk1 hz1 ht hvm
              have hP : va_P (dC, dI) cls [(h_nn, .inl (cy_nn, 8000, .inr (.inl f_nn))), (h_bto, .inl (cy_bto, 256, .inl f_bto)), (h_bin, .inl (cy_bin, 256, .inl f_bin)), (h_mm, .inr (8, (mo86 vq76 (.ref h_nv) (.ref h_na) (.ref h_nb) (.ref h_nc)))), (h_nv, .inl (cy_nv, 8000, .inl f_nv)), (h_na, .inl (cy_na, 8000, .inl f_na)), (h_nb, .inl (cy_nb, 8000, .inl f_nb)), (h_nc, .inl (cy_nc, 8000, .inl f_nc))] H := hP9
              have hD : va_D A [(h_nn, .inl (cy_nn, 8000, .inr (.inl f_nn))), (h_bto, .inl (cy_bto, 256, .inl f_bto)), (h_bin, .inl (cy_bin, 256, .inl f_bin)), (h_mm, .inr (8, (mo86 vq76 (.ref h_nv) (.ref h_na) (.ref h_nb) (.ref h_nc)))), (h_nv, .inl (cy_nv, 8000, .inl f_nv)), (h_na, .inl (cy_na, 8000, .inl f_na)), (h_nb, .inl (cy_nb, 8000, .inl f_nb)), (h_nc, .inl (cy_nc, 8000, .inl f_nc))] := hD9
              have hS := hS9
              clear hP9 hD9 hS9
              rw [evq76] at hP hD
              replace hP : va_P (dC, dI) cls [(h_nn, .inl (cy_nn, 8000, .inr (.inl f_nn))), (h_bto, .inl (cy_bto, 256, .inl f_bto)), (h_bin, .inl (cy_bin, 256, .inl f_bin)), (h_mm, .inr (8, (mo137 v_mm (.ref h_nv) (.ref h_nn) (.ref h_na) (.ref h_nb) (.ref h_nc) (.ref h_bto) (.ref h_bin) (.int x72) (.int x73)))), (h_nv, .inl (cy_nv, 8000, .inl f_nv)), (h_na, .inl (cy_na, 8000, .inl f_na)), (h_nb, .inl (cy_nb, 8000, .inl f_nb)), (h_nc, .inl (cy_nc, 8000, .inl f_nc))] H := hP
              replace hD : va_D A [(h_nn, .inl (cy_nn, 8000, .inr (.inl f_nn))), (h_bto, .inl (cy_bto, 256, .inl f_bto)), (h_bin, .inl (cy_bin, 256, .inl f_bin)), (h_mm, .inr (8, (mo137 v_mm (.ref h_nv) (.ref h_nn) (.ref h_na) (.ref h_nb) (.ref h_nc) (.ref h_bto) (.ref h_bin) (.int x72) (.int x73)))), (h_nv, .inl (cy_nv, 8000, .inl f_nv)), (h_na, .inl (cy_na, 8000, .inl f_na)), (h_nb, .inl (cy_nb, 8000, .inl f_nb)), (h_nc, .inl (cy_nc, 8000, .inl f_nc))] := hD
              clear evq76 
              obtain ⟨k78, k79⟩ := hq
              replace k78 : 0 ≤ (r77).toInt ∧ (r77).toInt ≤ 3 := k78
              replace k79 : ((r77)).toInt = (npx f_nv f_na f_nb f_nc ((z3)).toInt.toNat) := k79
              refine lv_icmp_ge (tgt := 190) hx hb dX11_areAlike_152 (by decide) (fun c80 => ?_) (fun c80 => ?_)
              · have kc80 := (cv_le (rfl : (r77).toInt = (r77).toInt) (rfl : (x71).toInt = (x71).toInt)).mp c80
                refine lv_iconst (v := 1) hx hb dX11_areAlike_190 (by decide) ?_
                replace hP : va_P (dC, dI) cls [(h_mm, .inr (8, (mo137 v_mm (.ref h_nv) (.ref h_nn) (.ref h_na) (.ref h_nb) (.ref h_nc) (.ref h_bto) (.ref h_bin) (.int x72) (.int x73)))), (h_nv, .inl (cy_nv, 8000, .inl f_nv)), (h_na, .inl (cy_na, 8000, .inl f_na)), (h_nb, .inl (cy_nb, 8000, .inl f_nb)), (h_nc, .inl (cy_nc, 8000, .inl f_nc)), (h_bto, .inl (cy_bto, 256, .inl f_bto)), (h_bin, .inl (cy_bin, 256, .inl f_bin)), (h_nn, .inl (cy_nn, 8000, .inr (.inl f_nn)))] H := hP.sub [3, 4, 5, 6, 7, 1, 2, 0] rfl
                replace hD : va_D A [(h_mm, .inr (8, (mo137 v_mm (.ref h_nv) (.ref h_nn) (.ref h_na) (.ref h_nb) (.ref h_nc) (.ref h_bto) (.ref h_bin) (.int x72) (.int x73)))), (h_nv, .inl (cy_nv, 8000, .inl f_nv)), (h_na, .inl (cy_na, 8000, .inl f_na)), (h_nb, .inl (cy_nb, 8000, .inl f_nb)), (h_nc, .inl (cy_nc, 8000, .inl f_nc)), (h_bto, .inl (cy_bto, 256, .inl f_bto)), (h_bin, .inl (cy_bin, 256, .inl f_bin)), (h_nn, .inl (cy_nn, 8000, .inr (.inl f_nn)))] := hD.sub [3, 4, 5, 6, 7, 1, 2, 0] (by decide) rfl
                refine W.widen (k := 0) (n := 0) (Nat.le_of_ble_eq_true rfl) (Nat.le_of_ble_eq_true rfl) ?_
                have cst1 : (1 : Int32).toInt = 1 := by decide
                have w81 : 0 ≤ ((x72)).toInt ∧ ((x72)).toInt ≤ 7999 := by first | exact klp74_1 | omega
                have w82 : 0 ≤ ((x73)).toInt ∧ ((x73)).toInt ≤ 31 := by first | exact klp74_2 | omega
                have w83 : 0 ≤ (1 : Int32).toInt ∧ (1 : Int32).toInt ≤ 1 := by omega
                exact W.zret (v := 1) (ty := .boolean) hx hb hr (by decide) (fun t ht hW => ⟨⟨1, (x72, x73), rfl, ⟨w81, w82, w83⟩, by rw [ht]; exact hP, hD⟩, hS.F ht⟩) hS.2.2 dX11_areAlike_191
              · have kc80 := (not_congr (cv_le (rfl : (r77).toInt = (r77).toInt) (rfl : (x71).toInt = (x71).toInt))).mp c80
                refine lv_aload_n hx hb dX11_areAlike_155 rfl (lv_at hl 0 rfl) ?_
                refine lv_aload_n hx hb dX11_areAlike_156 rfl (lv_at hl 0 rfl) ?_
                refine lv_iload hx hb dX11_areAlike_157 (lv_at hl 5 rfl) ?_
                refine lv_iload hx hb dX11_areAlike_159 (lv_at hl 9 rfl) ?_
                obtain ⟨vq84, evq84⟩ := mq137_85 v_mm (.ref h_nv) (.ref h_nn) (.ref h_bto) (.ref h_bin) (.int x72) (.int x73)
                replace hP : va_P (dC, dI) cls [(h_nn, .inl (cy_nn, 8000, .inr (.inl f_nn))), (h_bto, .inl (cy_bto, 256, .inl f_bto)), (h_bin, .inl (cy_bin, 256, .inl f_bin)), (h_mm, .inr (8, (mo85 vq84 (.ref h_na) (.ref h_nb) (.ref h_nc)))), (h_nv, .inl (cy_nv, 8000, .inl f_nv)), (h_na, .inl (cy_na, 8000, .inl f_na)), (h_nb, .inl (cy_nb, 8000, .inl f_nb)), (h_nc, .inl (cy_nc, 8000, .inl f_nc))] H := by rw [evq84]; exact hP
                replace hD : va_D A [(h_nn, .inl (cy_nn, 8000, .inr (.inl f_nn))), (h_bto, .inl (cy_bto, 256, .inl f_bto)), (h_bin, .inl (cy_bin, 256, .inl f_bin)), (h_mm, .inr (8, (mo85 vq84 (.ref h_na) (.ref h_nb) (.ref h_nc)))), (h_nv, .inl (cy_nv, 8000, .inl f_nv)), (h_na, .inl (cy_na, 8000, .inl f_na)), (h_nb, .inl (cy_nb, 8000, .inl f_nb)), (h_nc, .inl (cy_nc, 8000, .inl f_nc))] := by rw [evq84]; exact hD
                have hPc := hP.sub (ws' := [(h_mm, .inr (8, (mo85 vq84 (.ref h_na) (.ref h_nb) (.ref h_nc)))), (h_na, .inl (cy_na, 8000, .inl f_na)), (h_nb, .inl (cy_nb, 8000, .inl f_nb)), (h_nc, .inl (cy_nc, 8000, .inl f_nc))]) [3, 5, 6, 7] rfl
                have hDc := hD.sub (ws' := [(h_mm, .inr (8, (mo85 vq84 (.ref h_na) (.ref h_nb) (.ref h_nc)))), (h_na, .inl (cy_na, 8000, .inl f_na)), (h_nb, .inl (cy_nb, 8000, .inl f_nb)), (h_nc, .inl (cy_nc, 8000, .inl f_nc))]) [3, 5, 6, 7] (by decide) rfl
                have hKc := hK.sub (tys' := [(cy_na, .int), (cy_nb, .int), (cy_nc, .int)]) [1, 2, 3] rfl
                have hFc := va_free (wc := [(h_mm, .inr (8, (mo85 vq84 (.ref h_na) (.ref h_nb) (.ref h_nc)))), (h_na, .inl (cy_na, 8000, .inl f_na)), (h_nb, .inl (cy_nb, 8000, .inl f_nb)), (h_nc, .inl (cy_nc, 8000, .inl f_nc))]) hD hS hA [3, 5, 6, 7] rfl
                refine va_calli (va_runV (As := [.int z3, .int x71]) (rest := [.ref h_mm]) ⟨hx, hb, hml, hown, hts⟩ (c_X11_part_e l dC dI H.size h_mm h_na h_nb h_nc vq84 cy_na f_na cy_nb f_nb cy_nc f_nc z3 x71 hf_na hf_nb hf_nc (by first | exact k6 | omega)) (cwV 2 hts (gv hT w_m_X11_31 w_instanceMethod_X11_part ws_sel_X11_part w_ini_X11 w_code_X11_part) rfl rfl rfl (by decide +kernel) ⟨(by dsimp only [headSpec]; omega), (by dsimp only [headSpec]; omega)⟩) ⟨pre_blind, va_recv hK hP (ci := 8) (q0 := 3) rfl rfl, pre_of hPc hKc hDc hN⟩ rfl rfl hl.1 rfl (lv_room (Nat.le_of_ble_eq_true rfl)) dX11_areAlike_161 ⟨(Nat.le_of_ble_eq_true rfl), (Nat.le_of_ble_eq_true rfl)⟩) hS (fun q _ h => hFc q h) hFc (fun r85 u t H locs ht hvm hq hB hz1 hk1 hS9 => ?_)
                obtain ⟨hP1, hD1⟩ := hB
                rw [ht] at hP1
                obtain ⟨hP9, hD9⟩ := va_join (wr := [(h_nn, .inl (cy_nn, 8000, .inr (.inl f_nn))), (h_bto, .inl (cy_bto, 256, .inl f_bto)), (h_bin, .inl (cy_bin, 256, .inl f_bin)), (h_nv, .inl (cy_nv, 8000, .inl f_nv))]) (w1 := [(h_mm, .inr (8, (mo85 vq84 (.ref h_na) (.ref h_nb) (.ref h_nc)))), (h_na, .inl (cy_na, 8000, .inl f_na)), (h_nb, .inl (cy_nb, 8000, .inl f_nb)), (h_nc, .inl (cy_nc, 8000, .inl f_nc))]) hP hD [3, 5, 6, 7] [0, 1, 2, 4] rfl rfl (by decide) (by decide) hk1 hFc hP1 hD1
                clear hP hD hS hPc hDc hKc hFc hP1 hD1 hk1 hz1 ht hvm
                have hP : va_P (dC, dI) cls [(h_nn, .inl (cy_nn, 8000, .inr (.inl f_nn))), (h_bto, .inl (cy_bto, 256, .inl f_bto)), (h_bin, .inl (cy_bin, 256, .inl f_bin)), (h_nv, .inl (cy_nv, 8000, .inl f_nv)), (h_mm, .inr (8, (mo85 vq84 (.ref h_na) (.ref h_nb) (.ref h_nc)))), (h_na, .inl (cy_na, 8000, .inl f_na)), (h_nb, .inl (cy_nb, 8000, .inl f_nb)), (h_nc, .inl (cy_nc, 8000, .inl f_nc))] H := hP9
                have hD : va_D A [(h_nn, .inl (cy_nn, 8000, .inr (.inl f_nn))), (h_bto, .inl (cy_bto, 256, .inl f_bto)), (h_bin, .inl (cy_bin, 256, .inl f_bin)), (h_nv, .inl (cy_nv, 8000, .inl f_nv)), (h_mm, .inr (8, (mo85 vq84 (.ref h_na) (.ref h_nb) (.ref h_nc)))), (h_na, .inl (cy_na, 8000, .inl f_na)), (h_nb, .inl (cy_nb, 8000, .inl f_nb)), (h_nc, .inl (cy_nc, 8000, .inl f_nc))] := hD9
                have hS := hS9
                clear hP9 hD9 hS9
                rw [evq84] at hP hD
                replace hP : va_P (dC, dI) cls [(h_nn, .inl (cy_nn, 8000, .inr (.inl f_nn))), (h_bto, .inl (cy_bto, 256, .inl f_bto)), (h_bin, .inl (cy_bin, 256, .inl f_bin)), (h_nv, .inl (cy_nv, 8000, .inl f_nv)), (h_mm, .inr (8, (mo137 v_mm (.ref h_nv) (.ref h_nn) (.ref h_na) (.ref h_nb) (.ref h_nc) (.ref h_bto) (.ref h_bin) (.int x72) (.int x73)))), (h_na, .inl (cy_na, 8000, .inl f_na)), (h_nb, .inl (cy_nb, 8000, .inl f_nb)), (h_nc, .inl (cy_nc, 8000, .inl f_nc))] H := hP
                replace hD : va_D A [(h_nn, .inl (cy_nn, 8000, .inr (.inl f_nn))), (h_bto, .inl (cy_bto, 256, .inl f_bto)), (h_bin, .inl (cy_bin, 256, .inl f_bin)), (h_nv, .inl (cy_nv, 8000, .inl f_nv)), (h_mm, .inr (8, (mo137 v_mm (.ref h_nv) (.ref h_nn) (.ref h_na) (.ref h_nb) (.ref h_nc) (.ref h_bto) (.ref h_bin) (.int x72) (.int x73)))), (h_na, .inl (cy_na, 8000, .inl f_na)), (h_nb, .inl (cy_nb, 8000, .inl f_nb)), (h_nc, .inl (cy_nc, 8000, .inl f_nc))] := hD
                clear evq84 
                obtain ⟨k86, k87⟩ := hq
                replace k86 : -1 ≤ (r85).toInt ∧ (r85).toInt ≤ 7999 := k86
                replace k87 : ((r85)).toInt = (ptx f_na f_nb f_nc ((z3)).toInt.toNat ((x71)).toInt).toInt := k87
                refine lv_iload hx hb dX11_areAlike_164 (lv_at hl 6 rfl) ?_
                refine lv_aload_n hx hb dX11_areAlike_166 rfl (lv_at hl 0 rfl) ?_
                refine lv_iload hx hb dX11_areAlike_167 (lv_at hl 7 rfl) ?_
                refine lv_iload hx hb dX11_areAlike_169 (lv_at hl 9 rfl) ?_
                obtain ⟨vq88, evq88⟩ := mq137_85 v_mm (.ref h_nv) (.ref h_nn) (.ref h_bto) (.ref h_bin) (.int x72) (.int x73)
                replace hP : va_P (dC, dI) cls [(h_nn, .inl (cy_nn, 8000, .inr (.inl f_nn))), (h_bto, .inl (cy_bto, 256, .inl f_bto)), (h_bin, .inl (cy_bin, 256, .inl f_bin)), (h_nv, .inl (cy_nv, 8000, .inl f_nv)), (h_mm, .inr (8, (mo85 vq88 (.ref h_na) (.ref h_nb) (.ref h_nc)))), (h_na, .inl (cy_na, 8000, .inl f_na)), (h_nb, .inl (cy_nb, 8000, .inl f_nb)), (h_nc, .inl (cy_nc, 8000, .inl f_nc))] H := by rw [evq88]; exact hP
                replace hD : va_D A [(h_nn, .inl (cy_nn, 8000, .inr (.inl f_nn))), (h_bto, .inl (cy_bto, 256, .inl f_bto)), (h_bin, .inl (cy_bin, 256, .inl f_bin)), (h_nv, .inl (cy_nv, 8000, .inl f_nv)), (h_mm, .inr (8, (mo85 vq88 (.ref h_na) (.ref h_nb) (.ref h_nc)))), (h_na, .inl (cy_na, 8000, .inl f_na)), (h_nb, .inl (cy_nb, 8000, .inl f_nb)), (h_nc, .inl (cy_nc, 8000, .inl f_nc))] := by rw [evq88]; exact hD
                have hPc := hP.sub (ws' := [(h_mm, .inr (8, (mo85 vq88 (.ref h_na) (.ref h_nb) (.ref h_nc)))), (h_na, .inl (cy_na, 8000, .inl f_na)), (h_nb, .inl (cy_nb, 8000, .inl f_nb)), (h_nc, .inl (cy_nc, 8000, .inl f_nc))]) [4, 5, 6, 7] rfl
                have hDc := hD.sub (ws' := [(h_mm, .inr (8, (mo85 vq88 (.ref h_na) (.ref h_nb) (.ref h_nc)))), (h_na, .inl (cy_na, 8000, .inl f_na)), (h_nb, .inl (cy_nb, 8000, .inl f_nb)), (h_nc, .inl (cy_nc, 8000, .inl f_nc))]) [4, 5, 6, 7] (by decide) rfl
                have hKc := hK.sub (tys' := [(cy_na, .int), (cy_nb, .int), (cy_nc, .int)]) [1, 2, 3] rfl
                have hFc := va_free (wc := [(h_mm, .inr (8, (mo85 vq88 (.ref h_na) (.ref h_nb) (.ref h_nc)))), (h_na, .inl (cy_na, 8000, .inl f_na)), (h_nb, .inl (cy_nb, 8000, .inl f_nb)), (h_nc, .inl (cy_nc, 8000, .inl f_nc))]) hD hS hA [4, 5, 6, 7] rfl
                refine va_calli (va_runV (As := [.int z17, .int x71]) (rest := [.int z4, .int r85, .ref h_mm]) ⟨hx, hb, hml, hown, hts⟩ (c_X11_part_e l dC dI H.size h_mm h_na h_nb h_nc vq88 cy_na f_na cy_nb f_nb cy_nc f_nc z17 x71 hf_na hf_nb hf_nc (by first | exact k20 | omega)) (cwV 2 hts (gv hT w_m_X11_31 w_instanceMethod_X11_part ws_sel_X11_part w_ini_X11 w_code_X11_part) rfl rfl rfl (by decide +kernel) ⟨(by dsimp only [headSpec]; omega), (by dsimp only [headSpec]; omega)⟩) ⟨pre_blind, va_recv hK hP (ci := 8) (q0 := 4) rfl rfl, pre_of hPc hKc hDc hN⟩ rfl rfl hl.1 rfl (lv_room (Nat.le_of_ble_eq_true rfl)) dX11_areAlike_171 ⟨(Nat.le_of_ble_eq_true rfl), (Nat.le_of_ble_eq_true rfl)⟩) hS (fun q _ h => hFc q h) hFc (fun r89 u t H locs ht hvm hq hB hz1 hk1 hS9 => ?_)
                obtain ⟨hP1, hD1⟩ := hB
                rw [ht] at hP1
                obtain ⟨hP9, hD9⟩ := va_join (wr := [(h_nn, .inl (cy_nn, 8000, .inr (.inl f_nn))), (h_bto, .inl (cy_bto, 256, .inl f_bto)), (h_bin, .inl (cy_bin, 256, .inl f_bin)), (h_nv, .inl (cy_nv, 8000, .inl f_nv))]) (w1 := [(h_mm, .inr (8, (mo85 vq88 (.ref h_na) (.ref h_nb) (.ref h_nc)))), (h_na, .inl (cy_na, 8000, .inl f_na)), (h_nb, .inl (cy_nb, 8000, .inl f_nb)), (h_nc, .inl (cy_nc, 8000, .inl f_nc))]) hP hD [4, 5, 6, 7] [0, 1, 2, 3] rfl rfl (by decide) (by decide) hk1 hFc hP1 hD1
                clear hP hD hS hPc hDc hKc hFc hP1 hD1 hk1 hz1 ht hvm
                have hP : va_P (dC, dI) cls [(h_nn, .inl (cy_nn, 8000, .inr (.inl f_nn))), (h_bto, .inl (cy_bto, 256, .inl f_bto)), (h_bin, .inl (cy_bin, 256, .inl f_bin)), (h_nv, .inl (cy_nv, 8000, .inl f_nv)), (h_mm, .inr (8, (mo85 vq88 (.ref h_na) (.ref h_nb) (.ref h_nc)))), (h_na, .inl (cy_na, 8000, .inl f_na)), (h_nb, .inl (cy_nb, 8000, .inl f_nb)), (h_nc, .inl (cy_nc, 8000, .inl f_nc))] H := hP9
                have hD : va_D A [(h_nn, .inl (cy_nn, 8000, .inr (.inl f_nn))), (h_bto, .inl (cy_bto, 256, .inl f_bto)), (h_bin, .inl (cy_bin, 256, .inl f_bin)), (h_nv, .inl (cy_nv, 8000, .inl f_nv)), (h_mm, .inr (8, (mo85 vq88 (.ref h_na) (.ref h_nb) (.ref h_nc)))), (h_na, .inl (cy_na, 8000, .inl f_na)), (h_nb, .inl (cy_nb, 8000, .inl f_nb)), (h_nc, .inl (cy_nc, 8000, .inl f_nc))] := hD9
                have hS := hS9
                clear hP9 hD9 hS9
                rw [evq88] at hP hD
                replace hP : va_P (dC, dI) cls [(h_nn, .inl (cy_nn, 8000, .inr (.inl f_nn))), (h_bto, .inl (cy_bto, 256, .inl f_bto)), (h_bin, .inl (cy_bin, 256, .inl f_bin)), (h_nv, .inl (cy_nv, 8000, .inl f_nv)), (h_mm, .inr (8, (mo137 v_mm (.ref h_nv) (.ref h_nn) (.ref h_na) (.ref h_nb) (.ref h_nc) (.ref h_bto) (.ref h_bin) (.int x72) (.int x73)))), (h_na, .inl (cy_na, 8000, .inl f_na)), (h_nb, .inl (cy_nb, 8000, .inl f_nb)), (h_nc, .inl (cy_nc, 8000, .inl f_nc))] H := hP
                replace hD : va_D A [(h_nn, .inl (cy_nn, 8000, .inr (.inl f_nn))), (h_bto, .inl (cy_bto, 256, .inl f_bto)), (h_bin, .inl (cy_bin, 256, .inl f_bin)), (h_nv, .inl (cy_nv, 8000, .inl f_nv)), (h_mm, .inr (8, (mo137 v_mm (.ref h_nv) (.ref h_nn) (.ref h_na) (.ref h_nb) (.ref h_nc) (.ref h_bto) (.ref h_bin) (.int x72) (.int x73)))), (h_na, .inl (cy_na, 8000, .inl f_na)), (h_nb, .inl (cy_nb, 8000, .inl f_nb)), (h_nc, .inl (cy_nc, 8000, .inl f_nc))] := hD
                clear evq88 
                obtain ⟨k90, k91⟩ := hq
                replace k90 : -1 ≤ (r89).toInt ∧ (r89).toInt ≤ 7999 := k90
                replace k91 : ((r89)).toInt = (ptx f_na f_nb f_nc ((z17)).toInt.toNat ((x71)).toInt).toInt := k91
                have ca9e : ptx f_na f_nb f_nc (z3).toInt.toNat (x71).toInt = r85 := Int32.toInt_inj.mp (by omega)
                have ca9c := ch_ok (nv := f_nv) (k := (x71).toInt) (x := (z3).toInt.toNat) hn_bi.1 (by omega) (by omega)
                rw [ca9e] at ca9c
                have ca9p := pa_ch (k := (x71).toInt) (k11) (by omega)
                rw [ca9e] at ca9p
                have cb9e : ptx f_na f_nb f_nc (z17).toInt.toNat (x71).toInt = r89 := Int32.toInt_inj.mp (by omega)
                have cb9c := ch_ok (nv := f_nv) (k := (x71).toInt) (x := (z17).toInt.toNat) hn_bi.1 (by omega) (by omega)
                rw [cb9e] at cb9c
                refine lv_iload hx hb dX11_areAlike_174 (lv_at hl 8 rfl) ?_
                have hPc := hP.sub (ws' := [(h_mm, .inr (8, (mo137 v_mm (.ref h_nv) (.ref h_nn) (.ref h_na) (.ref h_nb) (.ref h_nc) (.ref h_bto) (.ref h_bin) (.int x72) (.int x73)))), (h_nv, .inl (cy_nv, 8000, .inl f_nv)), (h_na, .inl (cy_na, 8000, .inl f_na)), (h_nb, .inl (cy_nb, 8000, .inl f_nb)), (h_nc, .inl (cy_nc, 8000, .inl f_nc)), (h_bto, .inl (cy_bto, 256, .inl f_bto)), (h_bin, .inl (cy_bin, 256, .inl f_bin)), (h_nn, .inl (cy_nn, 8000, .inr (.inl f_nn)))]) [4, 3, 5, 6, 7, 1, 2, 0] rfl
                have hDc := hD.sub (ws' := [(h_mm, .inr (8, (mo137 v_mm (.ref h_nv) (.ref h_nn) (.ref h_na) (.ref h_nb) (.ref h_nc) (.ref h_bto) (.ref h_bin) (.int x72) (.int x73)))), (h_nv, .inl (cy_nv, 8000, .inl f_nv)), (h_na, .inl (cy_na, 8000, .inl f_na)), (h_nb, .inl (cy_nb, 8000, .inl f_nb)), (h_nc, .inl (cy_nc, 8000, .inl f_nc)), (h_bto, .inl (cy_bto, 256, .inl f_bto)), (h_bin, .inl (cy_bin, 256, .inl f_bin)), (h_nn, .inl (cy_nn, 8000, .inr (.inl f_nn)))]) [4, 3, 5, 6, 7, 1, 2, 0] (by decide) rfl
                have hKc := hK.sub (tys' := [(cy_nv, .int), (cy_na, .int), (cy_nb, .int), (cy_nc, .int), (cy_bto, .int), (cy_bin, .int), (cy_nn, .long)]) [0, 1, 2, 3, 4, 5, 6] rfl
                have hFc := va_free (wc := [(h_mm, .inr (8, (mo137 v_mm (.ref h_nv) (.ref h_nn) (.ref h_na) (.ref h_nb) (.ref h_nc) (.ref h_bto) (.ref h_bin) (.int x72) (.int x73)))), (h_nv, .inl (cy_nv, 8000, .inl f_nv)), (h_na, .inl (cy_na, 8000, .inl f_na)), (h_nb, .inl (cy_nb, 8000, .inl f_nb)), (h_nc, .inl (cy_nc, 8000, .inl f_nc)), (h_bto, .inl (cy_bto, 256, .inl f_bto)), (h_bin, .inl (cy_bin, 256, .inl f_bin)), (h_nn, .inl (cy_nn, 8000, .inr (.inl f_nn)))]) hD hS hA [4, 3, 5, 6, 7, 1, 2, 0] rfl
                refine va_calli (va_runV (As := [.int r85, .int z4, .int r89, .int z18]) (rest := []) ⟨hx, hb, hml, hown, hts⟩ (ihf dC dI H.size h_mm h_nv h_na h_nb h_nc h_bto h_bin h_nn v_mm x72 x73 cy_nv f_nv cy_na f_na cy_nb f_nb cy_nc f_nc cy_bto f_bto cy_bin f_bin cy_nn f_nn r85 z4 r89 z18 i0 i1 N hz z5 (by first | exact klp74_1 | omega) (by first | exact klp74_2 | omega) hf_nv hf_na hf_nb hf_nc hf_bto hf_bin (by first | exact q0 | omega) (by first | exact q1 | omega) (by omega) (by first | exact k9 | omega) (by omega) (by first | exact k23 | omega) (by omega) hn_bi ca9p) (cwV 4 hts (gv hT w_m_X11_288 w_instanceMethod_X11_areAlike ws_sel_X11_areAlike w_ini_X11 w_code_X11_areAlike) rfl rfl rfl (by decide +kernel) ⟨(by dsimp only [headSpec]; omega), (by dsimp only [headSpec]; omega)⟩) ⟨pre_blind, va_recv hK hP (ci := 8) (q0 := 4) rfl rfl, pre_of hPc hKc hDc hN⟩ rfl rfl hl.1 rfl (lv_room (Nat.le_of_ble_eq_true rfl)) dX11_areAlike_176 ⟨(Nat.le_of_ble_eq_true rfl), (Nat.le_of_ble_eq_true rfl)⟩) hS (fun q _ h => hFc q h) hFc (fun r92 u t H locs ht hvm hq hB hz1 hk1 hS9 => ?_)
                obtain ⟨z93, z94⟩ := u
                obtain ⟨hP1, hD1⟩ := hB
                rw [ht] at hP1
                obtain ⟨hP9, hD9⟩ := va_join (wr := []) (w1 := [(h_mm, .inr (8, (mo137 v_mm (.ref h_nv) (.ref h_nn) (.ref h_na) (.ref h_nb) (.ref h_nc) (.ref h_bto) (.ref h_bin) (.int z93) (.int z94)))), (h_nv, .inl (cy_nv, 8000, .inl f_nv)), (h_na, .inl (cy_na, 8000, .inl f_na)), (h_nb, .inl (cy_nb, 8000, .inl f_nb)), (h_nc, .inl (cy_nc, 8000, .inl f_nc)), (h_bto, .inl (cy_bto, 256, .inl f_bto)), (h_bin, .inl (cy_bin, 256, .inl f_bin)), (h_nn, .inl (cy_nn, 8000, .inr (.inl f_nn)))]) hP hD [4, 3, 5, 6, 7, 1, 2, 0] [] rfl rfl (by decide) (by decide) hk1 hFc hP1 hD1
                clear hP hD hS hPc hDc hKc hFc hP1 hD1 hk1 hz1 ht hvm
                have hP : va_P (dC, dI) cls [(h_mm, .inr (8, (mo137 v_mm (.ref h_nv) (.ref h_nn) (.ref h_na) (.ref h_nb) (.ref h_nc) (.ref h_bto) (.ref h_bin) (.int z93) (.int z94)))), (h_nv, .inl (cy_nv, 8000, .inl f_nv)), (h_na, .inl (cy_na, 8000, .inl f_na)), (h_nb, .inl (cy_nb, 8000, .inl f_nb)), (h_nc, .inl (cy_nc, 8000, .inl f_nc)), (h_bto, .inl (cy_bto, 256, .inl f_bto)), (h_bin, .inl (cy_bin, 256, .inl f_bin)), (h_nn, .inl (cy_nn, 8000, .inr (.inl f_nn)))] H := hP9
                have hD : va_D A [(h_mm, .inr (8, (mo137 v_mm (.ref h_nv) (.ref h_nn) (.ref h_na) (.ref h_nb) (.ref h_nc) (.ref h_bto) (.ref h_bin) (.int z93) (.int z94)))), (h_nv, .inl (cy_nv, 8000, .inl f_nv)), (h_na, .inl (cy_na, 8000, .inl f_na)), (h_nb, .inl (cy_nb, 8000, .inl f_nb)), (h_nc, .inl (cy_nc, 8000, .inl f_nc)), (h_bto, .inl (cy_bto, 256, .inl f_bto)), (h_bin, .inl (cy_bin, 256, .inl f_bin)), (h_nn, .inl (cy_nn, 8000, .inr (.inl f_nn)))] := hD9
                have hS := hS9
                clear hP9 hD9 hS9
                obtain ⟨k95, k96, k97⟩ := hq
                replace k95 : 0 ≤ ((z93)).toInt ∧ ((z93)).toInt ≤ 7999 := k95
                replace k96 : 0 ≤ ((z94)).toInt ∧ ((z94)).toInt ≤ 31 := k96
                replace k97 : 0 ≤ (r92).toInt ∧ (r92).toInt ≤ 1 := k97
                refine lv_if_ne (tgt := 184) hx hb dX11_areAlike_179 (by decide) (fun c98 => ?_) (fun c98 => ?_)
                · have kc98 := (not_congr (cv_eq (rfl : (r92).toInt = (r92).toInt) (by decide : (0 : Int32).toInt = 0))).mp c98
                  obtain ⟨z99, ez99⟩ : ∃ y : Int32, y = x71 + 1 := ⟨_, rfl⟩
                  have tz99 : (z99).toInt = (x71).toInt + 1 := by rw [ez99]; exact i_add rfl (by decide) (by omega)
                  refine lv_iinc (v := z99) (lv' := [(9, .int z99), (0, .ref h_mm), (1, .int p1), (2, .int p2), (3, .int p3), (4, .int p4), (5, .int z3), (6, .int z4), (7, .int z17), (8, .int z18)]) hx hb dX11_areAlike_184 hl (k := 9) rfl (by rw [ez99]; rfl) (by decide) rfl (fun ls hl => ?_)
                  refine lv_goto (tgt := 144) hx hb dX11_areAlike_187 (by decide) ?_
                  replace hP : va_P (dC, dI) cls [(h_nn, .inl (cy_nn, 8000, .inr (.inl f_nn))), (h_bto, .inl (cy_bto, 256, .inl f_bto)), (h_bin, .inl (cy_bin, 256, .inl f_bin)), (h_mm, .inr (8, (mo137 v_mm (.ref h_nv) (.ref h_nn) (.ref h_na) (.ref h_nb) (.ref h_nc) (.ref h_bto) (.ref h_bin) (.int z93) (.int z94)))), (h_nv, .inl (cy_nv, 8000, .inl f_nv)), (h_na, .inl (cy_na, 8000, .inl f_na)), (h_nb, .inl (cy_nb, 8000, .inl f_nb)), (h_nc, .inl (cy_nc, 8000, .inl f_nc))] H := hP.sub [7, 5, 6, 0, 1, 2, 3, 4] rfl
                  replace hD : va_D A [(h_nn, .inl (cy_nn, 8000, .inr (.inl f_nn))), (h_bto, .inl (cy_bto, 256, .inl f_bto)), (h_bin, .inl (cy_bin, 256, .inl f_bin)), (h_mm, .inr (8, (mo137 v_mm (.ref h_nv) (.ref h_nn) (.ref h_na) (.ref h_nb) (.ref h_nc) (.ref h_bto) (.ref h_bin) (.int z93) (.int z94)))), (h_nv, .inl (cy_nv, 8000, .inl f_nv)), (h_na, .inl (cy_na, 8000, .inl f_na)), (h_nb, .inl (cy_nb, 8000, .inl f_nb)), (h_nc, .inl (cy_nc, 8000, .inl f_nc))] := hD.sub [7, 5, 6, 0, 1, 2, 3, 4] (by decide) rfl
                  exact ih75 (z99) (z93) (z94) _ _ _ (by omega) (by first | exact k95 | omega) (by first | exact k96 | omega) (by omega) hP hD hS (lv_sub hl [1, 2, 3, 4, 5, 6, 7, 8, 9, 0] rfl)
                · have kc98 := (cv_eq (rfl : (r92).toInt = (r92).toInt) (by decide : (0 : Int32).toInt = 0)).mp c98
                  refine lv_iconst (v := 0) hx hb dX11_areAlike_182 (by decide) ?_
                  refine W.widen (k := 0) (n := 0) (Nat.le_of_ble_eq_true rfl) (Nat.le_of_ble_eq_true rfl) ?_
                  have cst0 : (0 : Int32).toInt = 0 := by decide
                  have w100 : 0 ≤ ((z93)).toInt ∧ ((z93)).toInt ≤ 7999 := by first | exact k95 | omega
                  have w101 : 0 ≤ ((z94)).toInt ∧ ((z94)).toInt ≤ 31 := by first | exact k96 | omega
                  have w102 : 0 ≤ (0 : Int32).toInt ∧ (0 : Int32).toInt ≤ 1 := by omega
                  exact W.zret (v := 0) (ty := .boolean) hx hb hr (by decide) (fun t ht hW => ⟨⟨0, (z93, z94), rfl, ⟨w100, w101, w102⟩, by rw [ht]; exact hP, hD⟩, hS.F ht⟩) hS.2.2 dX11_areAlike_183
          have cst0 : (0 : Int32).toInt = 0 := by decide
          exact lp74 _ (0) (z17) (z18) _ _ _ (by decide) (by first | exact k20 | omega) (by first | exact k21 | omega) (Nat.le_refl _) hP hD hS (lv_sub hl [5, 6, 7, 8, 9, 4, 3, 2, 1, 0] rfl)
        · have kc70 := (not_congr (cv_eq (rfl : (r63).toInt = (r63).toInt) (rfl : (r67).toInt = (r67).toInt))).mp c70
          refine lv_iconst (v := 0) hx hb dX11_areAlike_139 (by decide) ?_
          replace hP : va_P (dC, dI) cls [(h_mm, .inr (8, (mo137 v_mm (.ref h_nv) (.ref h_nn) (.ref h_na) (.ref h_nb) (.ref h_nc) (.ref h_bto) (.ref h_bin) (.int z17) (.int z18)))), (h_nv, .inl (cy_nv, 8000, .inl f_nv)), (h_na, .inl (cy_na, 8000, .inl f_na)), (h_nb, .inl (cy_nb, 8000, .inl f_nb)), (h_nc, .inl (cy_nc, 8000, .inl f_nc)), (h_bto, .inl (cy_bto, 256, .inl f_bto)), (h_bin, .inl (cy_bin, 256, .inl f_bin)), (h_nn, .inl (cy_nn, 8000, .inr (.inl f_nn)))] H := hP.sub [3, 4, 5, 6, 7, 1, 2, 0] rfl
          replace hD : va_D A [(h_mm, .inr (8, (mo137 v_mm (.ref h_nv) (.ref h_nn) (.ref h_na) (.ref h_nb) (.ref h_nc) (.ref h_bto) (.ref h_bin) (.int z17) (.int z18)))), (h_nv, .inl (cy_nv, 8000, .inl f_nv)), (h_na, .inl (cy_na, 8000, .inl f_na)), (h_nb, .inl (cy_nb, 8000, .inl f_nb)), (h_nc, .inl (cy_nc, 8000, .inl f_nc)), (h_bto, .inl (cy_bto, 256, .inl f_bto)), (h_bin, .inl (cy_bin, 256, .inl f_bin)), (h_nn, .inl (cy_nn, 8000, .inr (.inl f_nn)))] := hD.sub [3, 4, 5, 6, 7, 1, 2, 0] (by decide) rfl
          refine W.widen (k := 0) (n := 0) (Nat.le_of_ble_eq_true rfl) (Nat.le_of_ble_eq_true rfl) ?_
          have cst0 : (0 : Int32).toInt = 0 := by decide
          have w103 : 0 ≤ ((z17)).toInt ∧ ((z17)).toInt ≤ 7999 := by first | exact k20 | omega
          have w104 : 0 ≤ ((z18)).toInt ∧ ((z18)).toInt ≤ 31 := by first | exact k21 | omega
          have w105 : 0 ≤ (0 : Int32).toInt ∧ (0 : Int32).toInt ≤ 1 := by omega
          exact W.zret (v := 0) (ty := .boolean) hx hb hr (by decide) (fun t ht hW => ⟨⟨0, (z17, z18), rfl, ⟨w103, w104, w105⟩, by rw [ht]; exact hP, hD⟩, hS.F ht⟩) hS.2.2 dX11_areAlike_140
    · have kc54 := (not_congr (cv_eq (rfl : (z53).toInt = (z53).toInt) (by decide : ((-1) : Int32).toInt = -1))).mp c54
      refine lv_aload_n hx hb dX11_areAlike_59 rfl (lv_at hl 4 rfl) ?_
      refine va_get (D := (dC, dI)) (ci := 8) (v := .ref h_nv) (C := RX11) (T := TX11) (N := 71) hx hb hw iwX11 hown hK hP 1 rfl rfl 1 (by decide) (hw _ w_f_X11_17) (fun _ h9 => h9) rfl dX11_areAlike_60 ?_
      refine lv_iload hx hb dX11_areAlike_63 (lv_at hl 3 rfl) ?_
      refine va_iald hx hb hK hP 2 0 rfl rfl (i := z3) (vp_in_iff.mpr (by omega)) dX11_areAlike_65 ?_
      refine lv_topi (fun z106 ez106 => ?_)
      have qz106 : (z106).toInt = (z29).toInt := by rw [ez106, ez29]
      have rz106 : -1 ≤ (z106).toInt ∧ (z106).toInt ≤ 7 := by rw [ez106]; exact hf_nv _
      refine lv_iconst (v := (-1)) hx hb dX11_areAlike_66 (by decide) ?_
      refine lv_icmp_eq (tgt := 104) hx hb dX11_areAlike_67 (by decide) (fun _ => ?_) (fun c107 => False.elim (by have kc107 := (not_congr (cv_eq (rfl : (z106).toInt = (z106).toInt) (by decide : ((-1) : Int32).toInt = -1))).mp c107; omega))
      refine lv_iconst (v := 0) hx hb dX11_areAlike_104 (by decide) ?_
      replace hP : va_P (dC, dI) cls [(h_mm, .inr (8, (mo137 v_mm (.ref h_nv) (.ref h_nn) (.ref h_na) (.ref h_nb) (.ref h_nc) (.ref h_bto) (.ref h_bin) (.int z17) (.int z18)))), (h_nv, .inl (cy_nv, 8000, .inl f_nv)), (h_na, .inl (cy_na, 8000, .inl f_na)), (h_nb, .inl (cy_nb, 8000, .inl f_nb)), (h_nc, .inl (cy_nc, 8000, .inl f_nc)), (h_bto, .inl (cy_bto, 256, .inl f_bto)), (h_bin, .inl (cy_bin, 256, .inl f_bin)), (h_nn, .inl (cy_nn, 8000, .inr (.inl f_nn)))] H := hP.sub [1, 2, 3, 4, 5, 6, 7, 0] rfl
      replace hD : va_D A [(h_mm, .inr (8, (mo137 v_mm (.ref h_nv) (.ref h_nn) (.ref h_na) (.ref h_nb) (.ref h_nc) (.ref h_bto) (.ref h_bin) (.int z17) (.int z18)))), (h_nv, .inl (cy_nv, 8000, .inl f_nv)), (h_na, .inl (cy_na, 8000, .inl f_na)), (h_nb, .inl (cy_nb, 8000, .inl f_nb)), (h_nc, .inl (cy_nc, 8000, .inl f_nc)), (h_bto, .inl (cy_bto, 256, .inl f_bto)), (h_bin, .inl (cy_bin, 256, .inl f_bin)), (h_nn, .inl (cy_nn, 8000, .inr (.inl f_nn)))] := hD.sub [1, 2, 3, 4, 5, 6, 7, 0] (by decide) rfl
      refine W.widen (k := 0) (n := 0) (Nat.le_of_ble_eq_true rfl) (Nat.le_of_ble_eq_true rfl) ?_
      have cst0 : (0 : Int32).toInt = 0 := by decide
      have w108 : 0 ≤ ((z17)).toInt ∧ ((z17)).toInt ≤ 7999 := by first | exact k20 | omega
      have w109 : 0 ≤ ((z18)).toInt ∧ ((z18)).toInt ≤ 31 := by first | exact k21 | omega
      have w110 : 0 ≤ (0 : Int32).toInt ∧ (0 : Int32).toInt ≤ 1 := by omega
      exact W.zret (v := 0) (ty := .boolean) hx hb hr (by decide) (fun t ht hW => ⟨⟨0, (z17, z18), rfl, ⟨w108, w109, w110⟩, by rw [ht]; exact hP, hD⟩, hS.F ht⟩) hS.2.2 dX11_areAlike_105

def K_X11_counts (l : Launch) (fu : Nat) : Prop := ∀ (dC : Nat → ClassId) (dI : Nat → Nat → Nat) (sz : Nat) (h_mm : Nat) (h_nv : Nat) (h_na : Nat) (h_nb : Nat) (h_nc : Nat) (h_bto : Nat) (h_bin : Nat) (v_mm : Nat → Value) (x_mm_goneTo : Int32) (x_mm_goneIn : Int32) (x_mm_counted : Int32) (cy_nv : ClassId) (f_nv : Nat → Int32) (cy_na : ClassId) (f_na : Nat → Int32) (cy_nb : ClassId) (f_nb : Nat → Int32) (cy_nc : ClassId) (f_nc : Nat → Int32) (cy_bto : ClassId) (f_bto : Nat → Int32) (cy_bin : ClassId) (f_bin : Nat → Int32) (p1 : Int32) (p2 : Int32) (p3 : Int32) (i0 : Int) (i1 : Int) (N : Int) (hz : Nat → Nat) (P : List Nat) (hx_mm_goneTo : 0 ≤ (x_mm_goneTo).toInt ∧ (x_mm_goneTo).toInt ≤ 7999) (hx_mm_goneIn : 0 ≤ (x_mm_goneIn).toInt ∧ (x_mm_goneIn).toInt ≤ 31) (hx_mm_counted : 0 ≤ (x_mm_counted).toInt ∧ (x_mm_counted).toInt ≤ 2001) (hf_nv : Rg (-1) 7 f_nv) (hf_na : Rg (-1) 7999 f_na) (hf_nb : Rg (-1) 7999 f_nb) (hf_nc : Rg (-1) 7999 f_nc) (hf_bto : Rg (-1) 7999 f_bto) (hf_bin : Rg 0 31 f_bin) (q0 : 0 ≤ i0 ∧ i0 ≤ i1 ∧ i1 ≤ 31) (q1 : N ≤ 8000) (q2 : 0 ≤ (p1).toInt ∧ (p1).toInt < N) (q3 : i0 ≤ (p2).toInt ∧ (p2).toInt ≤ i1) (q4 : 0 ≤ (p3).toInt ∧ (p3).toInt ≤ 2000) (q5 : hz (p1).toInt.toNat + 6 * (256 - (P).length) + 1 ≤ fu) (hn_bi : BI i0 i1 N hz f_nv f_na f_nb f_nc f_bto f_bin) (hn_pa : PA i0 P f_nv f_na f_nb f_nc f_bto f_bin (p1).toInt.toNat (p2).toInt), Met l yX11_counts (Ws yX11_counts cX11_counts 7 none) (({ frames := fu + 2, cells := 0, slots := 0, locals := 26 * fu + 45 } : Room)) (PRE (dC, dI) cls [(cy_nv, .int), (cy_na, .int), (cy_nb, .int), (cy_nc, .int), (cy_bto, .int), (cy_bin, .int)] [(h_mm, .inr (8, (mo138 v_mm (.ref h_nv) (.ref h_na) (.ref h_nb) (.ref h_nc) (.ref h_bto) (.ref h_bin) (.int x_mm_goneTo) (.int x_mm_goneIn) (.int x_mm_counted)))), (h_nv, .inl (cy_nv, 8000, .inl f_nv)), (h_na, .inl (cy_na, 8000, .inl f_na)), (h_nb, .inl (cy_nb, 8000, .inl f_nb)), (h_nc, .inl (cy_nc, 8000, .inl f_nc)), (h_bto, .inl (cy_bto, 256, .inl f_bto)), (h_bin, .inl (cy_bin, 256, .inl f_bin))] sz [.ref h_mm, .int p1, .int p2, .int p3]) (va_Qv (fun (u : (Int32) × (Int32) × (Int32)) => (0 ≤ (u.1).toInt ∧ (u.1).toInt ≤ 7999) ∧ (0 ≤ (u.2.1).toInt ∧ (u.2.1).toInt ≤ 31) ∧ (0 ≤ (u.2.2).toInt ∧ (u.2.2).toInt ≤ 2001)) (fun (u : (Int32) × (Int32) × (Int32)) (t : State) => va_P (dC, dI) cls [(h_mm, .inr (8, (mo138 v_mm (.ref h_nv) (.ref h_na) (.ref h_nb) (.ref h_nc) (.ref h_bto) (.ref h_bin) (.int u.1) (.int u.2.1) (.int u.2.2)))), (h_nv, .inl (cy_nv, 8000, .inl f_nv)), (h_na, .inl (cy_na, 8000, .inl f_na)), (h_nb, .inl (cy_nb, 8000, .inl f_nb)), (h_nc, .inl (cy_nc, 8000, .inl f_nc)), (h_bto, .inl (cy_bto, 256, .inl f_bto)), (h_bin, .inl (cy_bin, 256, .inl f_bin))] t.heap ∧ va_D (va_A [(h_mm, .inr (8, (mo138 v_mm (.ref h_nv) (.ref h_na) (.ref h_nb) (.ref h_nc) (.ref h_bto) (.ref h_bin) (.int x_mm_goneTo) (.int x_mm_goneIn) (.int x_mm_counted)))), (h_nv, .inl (cy_nv, 8000, .inl f_nv)), (h_na, .inl (cy_na, 8000, .inl f_na)), (h_nb, .inl (cy_nb, 8000, .inl f_nb)), (h_nc, .inl (cy_nc, 8000, .inl f_nc)), (h_bto, .inl (cy_bto, 256, .inl f_bto)), (h_bin, .inl (cy_bin, 256, .inl f_bin))] sz) [(h_mm, .inr (8, (mo138 v_mm (.ref h_nv) (.ref h_na) (.ref h_nb) (.ref h_nc) (.ref h_bto) (.ref h_bin) (.int u.1) (.int u.2.1) (.int u.2.2)))), (h_nv, .inl (cy_nv, 8000, .inl f_nv)), (h_na, .inl (cy_na, 8000, .inl f_na)), (h_nb, .inl (cy_nb, 8000, .inl f_nb)), (h_nc, .inl (cy_nc, 8000, .inl f_nc)), (h_bto, .inl (cy_bto, 256, .inl f_bto)), (h_bin, .inl (cy_bin, 256, .inl f_bin))]) (va_A [(h_mm, .inr (8, (mo138 v_mm (.ref h_nv) (.ref h_na) (.ref h_nb) (.ref h_nc) (.ref h_bto) (.ref h_bin) (.int x_mm_goneTo) (.int x_mm_goneIn) (.int x_mm_counted)))), (h_nv, .inl (cy_nv, 8000, .inl f_nv)), (h_na, .inl (cy_na, 8000, .inl f_na)), (h_nb, .inl (cy_nb, 8000, .inl f_nb)), (h_nc, .inl (cy_nc, 8000, .inl f_nc)), (h_bto, .inl (cy_bto, 256, .inl f_bto)), (h_bin, .inl (cy_bin, 256, .inl f_bin))] sz)) 0 0 (va_A [(h_mm, .inr (8, (mo138 v_mm (.ref h_nv) (.ref h_na) (.ref h_nb) (.ref h_nc) (.ref h_bto) (.ref h_bin) (.int x_mm_goneTo) (.int x_mm_goneIn) (.int x_mm_counted)))), (h_nv, .inl (cy_nv, 8000, .inl f_nv)), (h_na, .inl (cy_na, 8000, .inl f_na)), (h_nb, .inl (cy_nb, 8000, .inl f_nb)), (h_nc, .inl (cy_nc, 8000, .inl f_nc)), (h_bto, .inl (cy_bto, 256, .inl f_bto)), (h_bin, .inl (cy_bin, 256, .inl f_bin))] sz)
set_option maxHeartbeats 8000000 in
set_option maxRecDepth 100000 in
theorem c_X11_counts (l : Launch) (fu : Nat) : K_X11_counts l fu := by
  refine Nat.rec (motive := fun fu => K_X11_counts l fu) ?_ ?_ fu
  · intro dC dI sz h_mm h_nv h_na h_nb h_nc h_bto h_bin v_mm x_mm_goneTo x_mm_goneIn x_mm_counted cy_nv f_nv cy_na f_na cy_nb f_nb cy_nc f_nc cy_bto f_bto cy_bin f_bin p1 p2 p3 i0 i1 N hz P hx_mm_goneTo hx_mm_goneIn hx_mm_counted hf_nv hf_na hf_nb hf_nc hf_bto hf_bin q0 q1 q2 q3 q4 q5 hn_bi hn_pa
    have h09 : Nat.zero = 0 := rfl
    exact False.elim (by omega)
  intro fu ihf
  intro dC dI sz h_mm h_nv h_na h_nb h_nc h_bto h_bin v_mm x_mm_goneTo x_mm_goneIn x_mm_counted cy_nv f_nv cy_na f_na cy_nb f_nb cy_nc f_nc cy_bto f_bto cy_bin f_bin p1 p2 p3 i0 i1 N hz P hx_mm_goneTo hx_mm_goneIn hx_mm_counted hf_nv hf_na hf_nb hf_nc hf_bto hf_bin q0 q1 q2 q3 q4 q5 hn_bi hn_pa
  refine Met.ofW (cc := cX11_counts) (maxL := 7) (ret := none) (by decide) rfl ?_
  intro p e s m args below meth c s₁ B hml hv
  obtain ⟨rfl, hsz, hP, hK, hD0, hN⟩ := hv
  have hx := B.exec
  have hb := B.bytes
  have hr := B.returns
  have hts := atoms_spec (ws := Ws yX11_counts cX11_counts 7 none) B.pre
  have hT : ∀ w ∈ WALL, w ∈ Ws yX11_counts cX11_counts 7 none := fun w h => List.mem_cons_of_mem _ h
  have hw := fun w (h : w ∈ WALL) => hts w (hT w h)
  have hown : s.vm.findClass RX11 = some m.cls := findClass_of_methodNamed B.named
  have hlocks := B.notSynchronized
  subst hsz
  have hD := hD0.self (sz := s.heap.size)
  generalize hAe : va_A [(h_mm, .inr (8, (mo138 v_mm (.ref h_nv) (.ref h_na) (.ref h_nb) (.ref h_nc) (.ref h_bto) (.ref h_bin) (.int x_mm_goneTo) (.int x_mm_goneIn) (.int x_mm_counted)))), (h_nv, .inl (cy_nv, 8000, .inl f_nv)), (h_na, .inl (cy_na, 8000, .inl f_na)), (h_nb, .inl (cy_nb, 8000, .inl f_nb)), (h_nc, .inl (cy_nc, 8000, .inl f_nc)), (h_bto, .inl (cy_bto, 256, .inl f_bto)), (h_bin, .inl (cy_bin, 256, .inl f_bin))] s.heap.size = A at hD ⊢
  have hA : ∀ q : Nat, s.heap.size ≤ q → A q := fun q h => by rw [← hAe]; exact Or.inr h
  have hS : va_S A s.heap s.heap [] := va_S.rf
  have hl := lv_entry ([.ref h_mm, .int p1, .int p2, .int p3]) (n := 7) (Nat.le_of_ble_eq_true rfl)
  rw [lg_entry_eq]
  generalize (lg_sl ([.ref h_mm, .int p1, .int p2, .int p3]) ++ List.replicate (7 - (lg_sl ([.ref h_mm, .int p1, .int p2, .int p3])).length) Slot.unset).toArray = ls at hl ⊢
  have hl : lv_has ls 7 [(0, .ref h_mm), (1, .int p1), (2, .int p2), (3, .int p3)] := hl
  refine lv_aload_n hx hb dX11_counts_0 rfl (lv_at hl 0 rfl) ?_
  refine va_get (D := (dC, dI)) (ci := 8) (v := .int x_mm_counted) (C := RX11) (T := TX11) (N := 71) hx hb hw iwX11 hown hK hP 0 rfl rfl 33 (by decide) (hw _ w_f_X11_291) (fun _ h9 => h9) rfl dX11_counts_1 ?_
  refine lv_iload_n hx hb dX11_counts_4 rfl (lv_at hl 3 rfl) ?_
  refine lv_icmp_le (tgt := 9) hx hb dX11_counts_5 (by decide) (fun c1 => ?_) (fun c1 => ?_)
  · have kc1 := (cv_le (rfl : (x_mm_counted).toInt = (x_mm_counted).toInt) (rfl : (p3).toInt = (p3).toInt)).mp c1
    refine lv_aload_n hx hb dX11_counts_9 rfl (lv_at hl 0 rfl) ?_
    refine lv_aload_n hx hb dX11_counts_10 rfl (lv_at hl 0 rfl) ?_
    refine va_get (D := (dC, dI)) (ci := 8) (v := .int x_mm_counted) (C := RX11) (T := TX11) (N := 71) hx hb hw iwX11 hown hK hP 0 rfl rfl 33 (by decide) (hw _ w_f_X11_291) (fun _ h9 => h9) rfl dX11_counts_11 ?_
    refine lv_iconst (v := 1) hx hb dX11_counts_14 (by decide) ?_
    refine lv_iadd hx hb dX11_counts_15 ?_
    refine lv_topi (fun z2 ez2 => ?_)
    have tz2 : (z2).toInt = (x_mm_counted).toInt + 1 := by rw [ez2]; exact i_add rfl (by decide) (by omega)
    refine va_put (D := (dC, dI)) (ci := 8) (v := .int z2) (ty := tyX11 33) (C := RX11) (T := TX11) (N := 71) hx hb hw iwX11 tyX11 tyX11_ok nmX11 hown hK hP hD hS 0 rfl rfl 33 (by decide) (hw _ w_f_X11_291) (fun _ h9 => h9) rfl (tyX11_ok 33 (by decide)) rfl rfl (Nat.le_of_ble_eq_true rfl) dX11_counts_16 (fun H locs hP9 hD9 hS9 => ?_)
    clear hP hD hS
    have hP : va_P (dC, dI) cls [(h_mm, .inr (8, (mo138 v_mm (.ref h_nv) (.ref h_na) (.ref h_nb) (.ref h_nc) (.ref h_bto) (.ref h_bin) (.int x_mm_goneTo) (.int x_mm_goneIn) (.int z2)))), (h_nv, .inl (cy_nv, 8000, .inl f_nv)), (h_na, .inl (cy_na, 8000, .inl f_na)), (h_nb, .inl (cy_nb, 8000, .inl f_nb)), (h_nc, .inl (cy_nc, 8000, .inl f_nc)), (h_bto, .inl (cy_bto, 256, .inl f_bto)), (h_bin, .inl (cy_bin, 256, .inl f_bin))] H := hP9
    have hD : va_D A [(h_mm, .inr (8, (mo138 v_mm (.ref h_nv) (.ref h_na) (.ref h_nb) (.ref h_nc) (.ref h_bto) (.ref h_bin) (.int x_mm_goneTo) (.int x_mm_goneIn) (.int z2)))), (h_nv, .inl (cy_nv, 8000, .inl f_nv)), (h_na, .inl (cy_na, 8000, .inl f_na)), (h_nb, .inl (cy_nb, 8000, .inl f_nb)), (h_nc, .inl (cy_nc, 8000, .inl f_nc)), (h_bto, .inl (cy_bto, 256, .inl f_bto)), (h_bin, .inl (cy_bin, 256, .inl f_bin))] := hD9
    have hS := hS9
    clear hP9 hD9 hS9
    refine lv_aload_n hx hb dX11_counts_19 rfl (lv_at hl 0 rfl) ?_
    refine lv_iload_n hx hb dX11_counts_20 rfl (lv_at hl 1 rfl) ?_
    refine lv_iload_n hx hb dX11_counts_21 rfl (lv_at hl 2 rfl) ?_
    obtain ⟨vq3, evq3⟩ := mq138_134 v_mm (.int z2)
    replace hP : va_P (dC, dI) cls [(h_mm, .inr (8, (mo134 vq3 (.ref h_nv) (.ref h_na) (.ref h_nb) (.ref h_nc) (.ref h_bto) (.ref h_bin) (.int x_mm_goneTo) (.int x_mm_goneIn)))), (h_nv, .inl (cy_nv, 8000, .inl f_nv)), (h_na, .inl (cy_na, 8000, .inl f_na)), (h_nb, .inl (cy_nb, 8000, .inl f_nb)), (h_nc, .inl (cy_nc, 8000, .inl f_nc)), (h_bto, .inl (cy_bto, 256, .inl f_bto)), (h_bin, .inl (cy_bin, 256, .inl f_bin))] H := by rw [evq3]; exact hP
    replace hD : va_D A [(h_mm, .inr (8, (mo134 vq3 (.ref h_nv) (.ref h_na) (.ref h_nb) (.ref h_nc) (.ref h_bto) (.ref h_bin) (.int x_mm_goneTo) (.int x_mm_goneIn)))), (h_nv, .inl (cy_nv, 8000, .inl f_nv)), (h_na, .inl (cy_na, 8000, .inl f_na)), (h_nb, .inl (cy_nb, 8000, .inl f_nb)), (h_nc, .inl (cy_nc, 8000, .inl f_nc)), (h_bto, .inl (cy_bto, 256, .inl f_bto)), (h_bin, .inl (cy_bin, 256, .inl f_bin))] := by rw [evq3]; exact hD
    have hPc := hP.sub (ws' := [(h_mm, .inr (8, (mo134 vq3 (.ref h_nv) (.ref h_na) (.ref h_nb) (.ref h_nc) (.ref h_bto) (.ref h_bin) (.int x_mm_goneTo) (.int x_mm_goneIn)))), (h_nv, .inl (cy_nv, 8000, .inl f_nv)), (h_na, .inl (cy_na, 8000, .inl f_na)), (h_nb, .inl (cy_nb, 8000, .inl f_nb)), (h_nc, .inl (cy_nc, 8000, .inl f_nc)), (h_bto, .inl (cy_bto, 256, .inl f_bto)), (h_bin, .inl (cy_bin, 256, .inl f_bin))]) [0, 1, 2, 3, 4, 5, 6] rfl
    have hDc := hD.sub (ws' := [(h_mm, .inr (8, (mo134 vq3 (.ref h_nv) (.ref h_na) (.ref h_nb) (.ref h_nc) (.ref h_bto) (.ref h_bin) (.int x_mm_goneTo) (.int x_mm_goneIn)))), (h_nv, .inl (cy_nv, 8000, .inl f_nv)), (h_na, .inl (cy_na, 8000, .inl f_na)), (h_nb, .inl (cy_nb, 8000, .inl f_nb)), (h_nc, .inl (cy_nc, 8000, .inl f_nc)), (h_bto, .inl (cy_bto, 256, .inl f_bto)), (h_bin, .inl (cy_bin, 256, .inl f_bin))]) [0, 1, 2, 3, 4, 5, 6] (by decide) rfl
    have hKc := hK.sub (tys' := [(cy_nv, .int), (cy_na, .int), (cy_nb, .int), (cy_nc, .int), (cy_bto, .int), (cy_bin, .int)]) [0, 1, 2, 3, 4, 5] rfl
    have hFc := va_free (wc := [(h_mm, .inr (8, (mo134 vq3 (.ref h_nv) (.ref h_na) (.ref h_nb) (.ref h_nc) (.ref h_bto) (.ref h_bin) (.int x_mm_goneTo) (.int x_mm_goneIn)))), (h_nv, .inl (cy_nv, 8000, .inl f_nv)), (h_na, .inl (cy_na, 8000, .inl f_na)), (h_nb, .inl (cy_nb, 8000, .inl f_nb)), (h_nc, .inl (cy_nc, 8000, .inl f_nc)), (h_bto, .inl (cy_bto, 256, .inl f_bto)), (h_bin, .inl (cy_bin, 256, .inl f_bin))]) hD hS hA [0, 1, 2, 3, 4, 5, 6] rfl
    refine va_callv (va_runV (As := [.int p1, .int p2]) (rest := []) ⟨hx, hb, hml, hown, hts⟩ (c_X11_goesTo l dC dI H.size h_mm h_nv h_na h_nb h_nc h_bto h_bin vq3 x_mm_goneTo x_mm_goneIn cy_nv f_nv cy_na f_na cy_nb f_nb cy_nc f_nc cy_bto f_bto cy_bin f_bin p1 p2 i0 i1 N hz (RGW (fun _ => 0) f_nv f_na f_nb f_nc) P (fu + 1) (by first | exact hx_mm_goneTo | omega) (by first | exact hx_mm_goneIn | omega) hf_nv hf_na hf_nb hf_nc hf_bto hf_bin (by first | exact q0 | omega) (by first | exact q1 | omega) (by first | exact q2 | omega) (by first | exact q3 | omega) (by omega) hn_bi hn_pa rgw_grv) (cwV 2 hts (gv hT w_m_X11_273 w_instanceMethod_X11_goesTo ws_sel_X11_goesTo w_ini_X11 w_code_X11_goesTo) rfl rfl rfl (by decide +kernel) ⟨(by dsimp only [headSpec]; omega), (by dsimp only [headSpec]; omega)⟩) ⟨pre_blind, va_recv hK hP (ci := 8) (q0 := 0) rfl rfl, pre_of hPc hKc hDc hN⟩ rfl rfl hl.1 rfl (lv_room (Nat.le_of_ble_eq_true rfl)) dX11_counts_22 ⟨(Nat.le_of_ble_eq_true rfl), (Nat.le_of_ble_eq_true rfl)⟩) hS (fun q _ h => hFc q h) hFc (fun u t H locs ht hvm hq hB hz1 hk1 hS9 => ?_)
    obtain ⟨z5, z6, z7⟩ := u
    obtain ⟨hP1, hD1⟩ := hB
    rw [ht] at hP1
    obtain ⟨hP9, hD9⟩ := va_join (wr := []) (w1 := [(h_mm, .inr (8, (mo134 vq3 (.ref h_nv) (.ref h_na) (.ref h_nb) (.ref h_nc) (.ref h_bto) (.ref h_bin) (.int z5) (.int z6)))), (h_nv, .inl (cy_nv, 8000, .inl f_nv)), (h_na, .inl (cy_na, 8000, .inl f_na)), (h_nb, .inl (cy_nb, 8000, .inl f_nb)), (h_nc, .inl (cy_nc, 8000, .inl f_nc)), (h_bto, .inl (cy_bto, 256, .inl f_bto)), (h_bin, .inl (cy_bin, 256, .inl f_bin))]) hP hD [0, 1, 2, 3, 4, 5, 6] [] rfl rfl (by decide) (by decide) hk1 hFc hP1 hD1
    clear hP hD hS hPc hDc hKc hFc hP1 hD1 hk1 hz1 ht hvm
    have hP : va_P (dC, dI) cls [(h_mm, .inr (8, (mo134 vq3 (.ref h_nv) (.ref h_na) (.ref h_nb) (.ref h_nc) (.ref h_bto) (.ref h_bin) (.int z5) (.int z6)))), (h_nv, .inl (cy_nv, 8000, .inl f_nv)), (h_na, .inl (cy_na, 8000, .inl f_na)), (h_nb, .inl (cy_nb, 8000, .inl f_nb)), (h_nc, .inl (cy_nc, 8000, .inl f_nc)), (h_bto, .inl (cy_bto, 256, .inl f_bto)), (h_bin, .inl (cy_bin, 256, .inl f_bin))] H := hP9
    have hD : va_D A [(h_mm, .inr (8, (mo134 vq3 (.ref h_nv) (.ref h_na) (.ref h_nb) (.ref h_nc) (.ref h_bto) (.ref h_bin) (.int z5) (.int z6)))), (h_nv, .inl (cy_nv, 8000, .inl f_nv)), (h_na, .inl (cy_na, 8000, .inl f_na)), (h_nb, .inl (cy_nb, 8000, .inl f_nb)), (h_nc, .inl (cy_nc, 8000, .inl f_nc)), (h_bto, .inl (cy_bto, 256, .inl f_bto)), (h_bin, .inl (cy_bin, 256, .inl f_bin))] := hD9
    have hS := hS9
    clear hP9 hD9 hS9
    rw [evq3] at hP hD
    replace hP : va_P (dC, dI) cls [(h_mm, .inr (8, (mo138 v_mm (.ref h_nv) (.ref h_na) (.ref h_nb) (.ref h_nc) (.ref h_bto) (.ref h_bin) (.int z5) (.int z6) (.int z2)))), (h_nv, .inl (cy_nv, 8000, .inl f_nv)), (h_na, .inl (cy_na, 8000, .inl f_na)), (h_nb, .inl (cy_nb, 8000, .inl f_nb)), (h_nc, .inl (cy_nc, 8000, .inl f_nc)), (h_bto, .inl (cy_bto, 256, .inl f_bto)), (h_bin, .inl (cy_bin, 256, .inl f_bin))] H := hP
    replace hD : va_D A [(h_mm, .inr (8, (mo138 v_mm (.ref h_nv) (.ref h_na) (.ref h_nb) (.ref h_nc) (.ref h_bto) (.ref h_bin) (.int z5) (.int z6) (.int z2)))), (h_nv, .inl (cy_nv, 8000, .inl f_nv)), (h_na, .inl (cy_na, 8000, .inl f_na)), (h_nb, .inl (cy_nb, 8000, .inl f_nb)), (h_nc, .inl (cy_nc, 8000, .inl f_nc)), (h_bto, .inl (cy_bto, 256, .inl f_bto)), (h_bin, .inl (cy_bin, 256, .inl f_bin))] := hD
    clear evq3 
    obtain ⟨k8, k9, k10, k11, k12, k13, k14, k15, k16⟩ := hq
    replace k8 : 0 ≤ ((z5)).toInt ∧ ((z5)).toInt ≤ 7999 := k8
    replace k9 : 0 ≤ ((z6)).toInt ∧ ((z6)).toInt ≤ 31 := k9
    replace k10 : 0 ≤ ((z5)).toInt ∧ ((z5)).toInt < (N) := k10
    replace k11 : (i0) ≤ ((z6)).toInt ∧ ((z6)).toInt ≤ (i1) := k11
    replace k12 : (hz) ((z5)).toInt.toNat + 6 * (256 - ((z7)).length) + 1 ≤ ((fu + 1)) := k12
    replace k13 : PA (i0) (z7) f_nv f_na f_nb f_nc f_bto f_bin ((z5)).toInt.toNat ((z6)).toInt := k13
    replace k14 : (f_nv ((z5)).toInt.toNat).toInt = -1 ∨ (f_bto (8 * ((z6)).toInt + (f_nv ((z5)).toInt.toNat).toInt).toNat).toInt = -1 := k14
    replace k15 : ∀ tt : Nat, (f_bto tt).toInt = -1 → NR f_nv f_na f_nb f_nc f_bto f_bin ((z5)).toInt.toNat ((z6)).toInt tt → NR f_nv f_na f_nb f_nc f_bto f_bin ((p1)).toInt.toNat ((p2)).toInt tt := k15
    replace k16 : BRE ((RGW (fun _ => 0) f_nv f_na f_nb f_nc)) (BDW f_bto f_bin) (PLR (p1) (p2)) (PLR (z5) (z6)) := k16
    refine lv_aload_n hx hb dX11_counts_25 rfl (lv_at hl 0 rfl) ?_
    refine va_get (D := (dC, dI)) (ci := 8) (v := .int z5) (C := RX11) (T := TX11) (N := 71) hx hb hw iwX11 hown hK hP 0 rfl rfl 31 (by decide) (hw _ w_f_X11_264) (fun _ h9 => h9) rfl dX11_counts_26 ?_
    refine lv_istore (lv' := [(4, .int z5), (0, .ref h_mm), (1, .int p1), (2, .int p2), (3, .int p3)]) hx hb dX11_counts_29 hl (by decide) rfl (fun ls hl => ?_)
    refine lv_aload_n hx hb dX11_counts_31 rfl (lv_at hl 1 rfl) ?_
    refine va_get (D := (dC, dI)) (ci := 8) (v := .int z6) (C := RX11) (T := TX11) (N := 71) hx hb hw iwX11 hown hK hP 0 rfl rfl 32 (by decide) (hw _ w_f_X11_267) (fun _ h9 => h9) rfl dX11_counts_32 ?_
    refine lv_istore (lv' := [(5, .int z6), (4, .int z5), (0, .ref h_mm), (1, .int p1), (2, .int p2), (3, .int p3)]) hx hb dX11_counts_35 hl (by decide) rfl (fun ls hl => ?_)
    refine lv_iconst (v := 0) hx hb dX11_counts_37 (by decide) ?_
    refine lv_istore (lv' := [(6, .int 0), (5, .int z6), (4, .int z5), (0, .ref h_mm), (1, .int p1), (2, .int p2), (3, .int p3)]) hx hb dX11_counts_38 hl (by decide) rfl (fun ls hl => ?_)
    have lp21 : ∀ (n : Nat) (x17 : Int32) (x18 : Int32) (x19 : Int32) (x20 : Int32) (H : Heap) (locs : List Loc) (ls : Array Slot), (0 ≤ (x17).toInt ∧ (x17).toInt ≤ 3) → (0 ≤ (x18).toInt ∧ (x18).toInt ≤ 7999) → (0 ≤ (x19).toInt ∧ (x19).toInt ≤ 31) → (0 ≤ (x20).toInt ∧ (x20).toInt ≤ 2001) → (3 - (x17).toInt).toNat + 1 ≤ n → va_P (dC, dI) cls [(h_mm, .inr (8, (mo138 v_mm (.ref h_nv) (.ref h_na) (.ref h_nb) (.ref h_nc) (.ref h_bto) (.ref h_bin) (.int x18) (.int x19) (.int x20)))), (h_nv, .inl (cy_nv, 8000, .inl f_nv)), (h_na, .inl (cy_na, 8000, .inl f_na)), (h_nb, .inl (cy_nb, 8000, .inl f_nb)), (h_nc, .inl (cy_nc, 8000, .inl f_nc)), (h_bto, .inl (cy_bto, 256, .inl f_bto)), (h_bin, .inl (cy_bin, 256, .inl f_bin))] H → va_D A [(h_mm, .inr (8, (mo138 v_mm (.ref h_nv) (.ref h_na) (.ref h_nb) (.ref h_nc) (.ref h_bto) (.ref h_bin) (.int x18) (.int x19) (.int x20)))), (h_nv, .inl (cy_nv, 8000, .inl f_nv)), (h_na, .inl (cy_na, 8000, .inl f_na)), (h_nb, .inl (cy_nb, 8000, .inl f_nb)), (h_nc, .inl (cy_nc, 8000, .inl f_nc)), (h_bto, .inl (cy_bto, 256, .inl f_bto)), (h_bin, .inl (cy_bin, 256, .inl f_bin))] → va_S A s.heap H locs → lv_has ls 7 [(0, .ref h_mm), (1, .int p1), (2, .int p2), (3, .int p3), (4, .int z5), (5, .int z6), (6, .int x17)] → W p l e ({ frames := (fu + 1) + 2, cells := 0, slots := 0, locals := 26 * (fu + 1) + 45 } : Room) s m ([.ref h_mm, .int p1, .int p2, .int p3] : List Value).toArray below meth c H locs 0 0 (MQ below (va_Qv (fun (u : (Int32) × (Int32) × (Int32)) => (0 ≤ (u.1).toInt ∧ (u.1).toInt ≤ 7999) ∧ (0 ≤ (u.2.1).toInt ∧ (u.2.1).toInt ≤ 31) ∧ (0 ≤ (u.2.2).toInt ∧ (u.2.2).toInt ≤ 2001)) (fun (u : (Int32) × (Int32) × (Int32)) (t : State) => va_P (dC, dI) cls [(h_mm, .inr (8, (mo138 v_mm (.ref h_nv) (.ref h_na) (.ref h_nb) (.ref h_nc) (.ref h_bto) (.ref h_bin) (.int u.1) (.int u.2.1) (.int u.2.2)))), (h_nv, .inl (cy_nv, 8000, .inl f_nv)), (h_na, .inl (cy_na, 8000, .inl f_na)), (h_nb, .inl (cy_nb, 8000, .inl f_nb)), (h_nc, .inl (cy_nc, 8000, .inl f_nc)), (h_bto, .inl (cy_bto, 256, .inl f_bto)), (h_bin, .inl (cy_bin, 256, .inl f_bin))] t.heap ∧ va_D A [(h_mm, .inr (8, (mo138 v_mm (.ref h_nv) (.ref h_na) (.ref h_nb) (.ref h_nc) (.ref h_bto) (.ref h_bin) (.int u.1) (.int u.2.1) (.int u.2.2)))), (h_nv, .inl (cy_nv, 8000, .inl f_nv)), (h_na, .inl (cy_na, 8000, .inl f_na)), (h_nb, .inl (cy_nb, 8000, .inl f_nb)), (h_nc, .inl (cy_nc, 8000, .inl f_nc)), (h_bto, .inl (cy_bto, 256, .inl f_bto)), (h_bin, .inl (cy_bin, 256, .inl f_bin))]) A) ([.ref h_mm, .int p1, .int p2, .int p3] : List Value).toArray s 0 0 A) (F0 m 40 ls []) := by
      clear hP hD hS hl
      intro n
      induction n with
      | zero => intro x17 x18 x19 x20 H locs ls klp21_0 klp21_1 klp21_2 klp21_3 hm hP hD hS hl; exact False.elim (by omega)
      | succ n ih => 
        intro x17 x18 x19 x20 H locs ls klp21_0 klp21_1 klp21_2 klp21_3 hm hP hD hS hl
        have ih22 := ih
        clear ih
        refine lv_iload hx hb dX11_counts_40 (lv_at hl 6 rfl) ?_
        refine lv_aload_n hx hb dX11_counts_42 rfl (lv_at hl 0 rfl) ?_
        refine lv_iload hx hb dX11_counts_43 (lv_at hl 4 rfl) ?_
        obtain ⟨vq23, evq23⟩ := mq138_86 v_mm (.ref h_bto) (.ref h_bin) (.int x18) (.int x19) (.int x20)
        replace hP : va_P (dC, dI) cls [(h_mm, .inr (8, (mo86 vq23 (.ref h_nv) (.ref h_na) (.ref h_nb) (.ref h_nc)))), (h_nv, .inl (cy_nv, 8000, .inl f_nv)), (h_na, .inl (cy_na, 8000, .inl f_na)), (h_nb, .inl (cy_nb, 8000, .inl f_nb)), (h_nc, .inl (cy_nc, 8000, .inl f_nc)), (h_bto, .inl (cy_bto, 256, .inl f_bto)), (h_bin, .inl (cy_bin, 256, .inl f_bin))] H := by rw [evq23]; exact hP
        replace hD : va_D A [(h_mm, .inr (8, (mo86 vq23 (.ref h_nv) (.ref h_na) (.ref h_nb) (.ref h_nc)))), (h_nv, .inl (cy_nv, 8000, .inl f_nv)), (h_na, .inl (cy_na, 8000, .inl f_na)), (h_nb, .inl (cy_nb, 8000, .inl f_nb)), (h_nc, .inl (cy_nc, 8000, .inl f_nc)), (h_bto, .inl (cy_bto, 256, .inl f_bto)), (h_bin, .inl (cy_bin, 256, .inl f_bin))] := by rw [evq23]; exact hD
        have hPc := hP.sub (ws' := [(h_mm, .inr (8, (mo86 vq23 (.ref h_nv) (.ref h_na) (.ref h_nb) (.ref h_nc)))), (h_nv, .inl (cy_nv, 8000, .inl f_nv)), (h_na, .inl (cy_na, 8000, .inl f_na)), (h_nb, .inl (cy_nb, 8000, .inl f_nb)), (h_nc, .inl (cy_nc, 8000, .inl f_nc))]) [0, 1, 2, 3, 4] rfl
        have hDc := hD.sub (ws' := [(h_mm, .inr (8, (mo86 vq23 (.ref h_nv) (.ref h_na) (.ref h_nb) (.ref h_nc)))), (h_nv, .inl (cy_nv, 8000, .inl f_nv)), (h_na, .inl (cy_na, 8000, .inl f_na)), (h_nb, .inl (cy_nb, 8000, .inl f_nb)), (h_nc, .inl (cy_nc, 8000, .inl f_nc))]) [0, 1, 2, 3, 4] (by decide) rfl
        have hKc := hK.sub (tys' := [(cy_nv, .int), (cy_na, .int), (cy_nb, .int), (cy_nc, .int)]) [0, 1, 2, 3] rfl
        have hFc := va_free (wc := [(h_mm, .inr (8, (mo86 vq23 (.ref h_nv) (.ref h_na) (.ref h_nb) (.ref h_nc)))), (h_nv, .inl (cy_nv, 8000, .inl f_nv)), (h_na, .inl (cy_na, 8000, .inl f_na)), (h_nb, .inl (cy_nb, 8000, .inl f_nb)), (h_nc, .inl (cy_nc, 8000, .inl f_nc))]) hD hS hA [0, 1, 2, 3, 4] rfl
        refine va_calli (va_runV (As := [.int z5]) (rest := [.int x17]) ⟨hx, hb, hml, hown, hts⟩ (c_X11_partsAt_e l dC dI H.size h_mm h_nv h_na h_nb h_nc vq23 cy_nv f_nv cy_na f_na cy_nb f_nb cy_nc f_nc z5 hf_nv hf_na hf_nb hf_nc (by first | exact k8 | omega)) (cwV 1 hts (gv hT w_m_X11_27 w_instanceMethod_X11_partsAt ws_sel_X11_partsAt w_ini_X11 w_code_X11_partsAt) rfl rfl rfl (by decide +kernel) ⟨(by dsimp only [headSpec]; omega), (by dsimp only [headSpec]; omega)⟩) ⟨pre_blind, va_recv hK hP (ci := 8) (q0 := 0) rfl rfl, pre_of hPc hKc hDc hN⟩ rfl rfl hl.1 rfl (lv_room (Nat.le_of_ble_eq_true rfl)) dX11_counts_45 ⟨(Nat.le_of_ble_eq_true rfl), (Nat.le_of_ble_eq_true rfl)⟩) hS (fun q _ h => hFc q h) hFc (fun r24 u t H locs ht hvm hq hB hz1 hk1 hS9 => ?_)
        obtain ⟨hP1, hD1⟩ := hB
        rw [ht] at hP1
        obtain ⟨hP9, hD9⟩ := va_join (wr := [(h_bto, .inl (cy_bto, 256, .inl f_bto)), (h_bin, .inl (cy_bin, 256, .inl f_bin))]) (w1 := [(h_mm, .inr (8, (mo86 vq23 (.ref h_nv) (.ref h_na) (.ref h_nb) (.ref h_nc)))), (h_nv, .inl (cy_nv, 8000, .inl f_nv)), (h_na, .inl (cy_na, 8000, .inl f_na)), (h_nb, .inl (cy_nb, 8000, .inl f_nb)), (h_nc, .inl (cy_nc, 8000, .inl f_nc))]) hP hD [0, 1, 2, 3, 4] [5, 6] rfl rfl (by decide) (by decide) hk1 hFc hP1 hD1
        clear hP hD hS hPc hDc hKc hFc hP1 hD1 hk1 hz1 ht hvm
        have hP : va_P (dC, dI) cls [(h_bto, .inl (cy_bto, 256, .inl f_bto)), (h_bin, .inl (cy_bin, 256, .inl f_bin)), (h_mm, .inr (8, (mo86 vq23 (.ref h_nv) (.ref h_na) (.ref h_nb) (.ref h_nc)))), (h_nv, .inl (cy_nv, 8000, .inl f_nv)), (h_na, .inl (cy_na, 8000, .inl f_na)), (h_nb, .inl (cy_nb, 8000, .inl f_nb)), (h_nc, .inl (cy_nc, 8000, .inl f_nc))] H := hP9
        have hD : va_D A [(h_bto, .inl (cy_bto, 256, .inl f_bto)), (h_bin, .inl (cy_bin, 256, .inl f_bin)), (h_mm, .inr (8, (mo86 vq23 (.ref h_nv) (.ref h_na) (.ref h_nb) (.ref h_nc)))), (h_nv, .inl (cy_nv, 8000, .inl f_nv)), (h_na, .inl (cy_na, 8000, .inl f_na)), (h_nb, .inl (cy_nb, 8000, .inl f_nb)), (h_nc, .inl (cy_nc, 8000, .inl f_nc))] := hD9
        have hS := hS9
        clear hP9 hD9 hS9
        rw [evq23] at hP hD
        replace hP : va_P (dC, dI) cls [(h_bto, .inl (cy_bto, 256, .inl f_bto)), (h_bin, .inl (cy_bin, 256, .inl f_bin)), (h_mm, .inr (8, (mo138 v_mm (.ref h_nv) (.ref h_na) (.ref h_nb) (.ref h_nc) (.ref h_bto) (.ref h_bin) (.int x18) (.int x19) (.int x20)))), (h_nv, .inl (cy_nv, 8000, .inl f_nv)), (h_na, .inl (cy_na, 8000, .inl f_na)), (h_nb, .inl (cy_nb, 8000, .inl f_nb)), (h_nc, .inl (cy_nc, 8000, .inl f_nc))] H := hP
        replace hD : va_D A [(h_bto, .inl (cy_bto, 256, .inl f_bto)), (h_bin, .inl (cy_bin, 256, .inl f_bin)), (h_mm, .inr (8, (mo138 v_mm (.ref h_nv) (.ref h_na) (.ref h_nb) (.ref h_nc) (.ref h_bto) (.ref h_bin) (.int x18) (.int x19) (.int x20)))), (h_nv, .inl (cy_nv, 8000, .inl f_nv)), (h_na, .inl (cy_na, 8000, .inl f_na)), (h_nb, .inl (cy_nb, 8000, .inl f_nb)), (h_nc, .inl (cy_nc, 8000, .inl f_nc))] := hD
        clear evq23 
        obtain ⟨k25, k26⟩ := hq
        replace k25 : 0 ≤ (r24).toInt ∧ (r24).toInt ≤ 3 := k25
        replace k26 : ((r24)).toInt = (npx f_nv f_na f_nb f_nc ((z5)).toInt.toNat) := k26
        refine lv_icmp_ge (tgt := 80) hx hb dX11_counts_48 (by decide) (fun c27 => ?_) (fun c27 => ?_)
        · have kc27 := (cv_le (rfl : (r24).toInt = (r24).toInt) (rfl : (x17).toInt = (x17).toInt)).mp c27
          replace hP : va_P (dC, dI) cls [(h_mm, .inr (8, (mo138 v_mm (.ref h_nv) (.ref h_na) (.ref h_nb) (.ref h_nc) (.ref h_bto) (.ref h_bin) (.int x18) (.int x19) (.int x20)))), (h_nv, .inl (cy_nv, 8000, .inl f_nv)), (h_na, .inl (cy_na, 8000, .inl f_na)), (h_nb, .inl (cy_nb, 8000, .inl f_nb)), (h_nc, .inl (cy_nc, 8000, .inl f_nc)), (h_bto, .inl (cy_bto, 256, .inl f_bto)), (h_bin, .inl (cy_bin, 256, .inl f_bin))] H := hP.sub [2, 3, 4, 5, 6, 0, 1] rfl
          replace hD : va_D A [(h_mm, .inr (8, (mo138 v_mm (.ref h_nv) (.ref h_na) (.ref h_nb) (.ref h_nc) (.ref h_bto) (.ref h_bin) (.int x18) (.int x19) (.int x20)))), (h_nv, .inl (cy_nv, 8000, .inl f_nv)), (h_na, .inl (cy_na, 8000, .inl f_na)), (h_nb, .inl (cy_nb, 8000, .inl f_nb)), (h_nc, .inl (cy_nc, 8000, .inl f_nc)), (h_bto, .inl (cy_bto, 256, .inl f_bto)), (h_bin, .inl (cy_bin, 256, .inl f_bin))] := hD.sub [2, 3, 4, 5, 6, 0, 1] (by decide) rfl
          refine W.widen (k := 0) (n := 0) (Nat.le_of_ble_eq_true rfl) (Nat.le_of_ble_eq_true rfl) ?_
          have w28 : 0 ≤ ((x18)).toInt ∧ ((x18)).toInt ≤ 7999 := by first | exact klp21_1 | omega
          have w29 : 0 ≤ ((x19)).toInt ∧ ((x19)).toInt ≤ 31 := by first | exact klp21_2 | omega
          have w30 : 0 ≤ ((x20)).toInt ∧ ((x20)).toInt ≤ 2001 := by first | exact klp21_3 | omega
          exact W.vret hx hb hr (fun t ht hW => ⟨⟨(x18, x19, x20), rfl, ⟨w28, w29, w30⟩, by rw [ht]; exact hP, hD⟩, hS.F ht⟩) hS.2.2 dX11_counts_80
        · have kc27 := (not_congr (cv_le (rfl : (r24).toInt = (r24).toInt) (rfl : (x17).toInt = (x17).toInt))).mp c27
          refine lv_aload_n hx hb dX11_counts_51 rfl (lv_at hl 0 rfl) ?_
          refine va_get (D := (dC, dI)) (ci := 8) (v := .int x20) (C := RX11) (T := TX11) (N := 71) hx hb hw iwX11 hown hK hP 2 rfl rfl 33 (by decide) (hw _ w_f_X11_291) (fun _ h9 => h9) rfl dX11_counts_52 ?_
          refine lv_iload_n hx hb dX11_counts_55 rfl (lv_at hl 3 rfl) ?_
          refine lv_icmp_gt (tgt := 80) hx hb dX11_counts_56 (by decide) (fun c31 => ?_) (fun c31 => ?_)
          · have kc31 := (cv_lt (rfl : (p3).toInt = (p3).toInt) (rfl : (x20).toInt = (x20).toInt)).mp c31
            replace hP : va_P (dC, dI) cls [(h_mm, .inr (8, (mo138 v_mm (.ref h_nv) (.ref h_na) (.ref h_nb) (.ref h_nc) (.ref h_bto) (.ref h_bin) (.int x18) (.int x19) (.int x20)))), (h_nv, .inl (cy_nv, 8000, .inl f_nv)), (h_na, .inl (cy_na, 8000, .inl f_na)), (h_nb, .inl (cy_nb, 8000, .inl f_nb)), (h_nc, .inl (cy_nc, 8000, .inl f_nc)), (h_bto, .inl (cy_bto, 256, .inl f_bto)), (h_bin, .inl (cy_bin, 256, .inl f_bin))] H := hP.sub [2, 3, 4, 5, 6, 0, 1] rfl
            replace hD : va_D A [(h_mm, .inr (8, (mo138 v_mm (.ref h_nv) (.ref h_na) (.ref h_nb) (.ref h_nc) (.ref h_bto) (.ref h_bin) (.int x18) (.int x19) (.int x20)))), (h_nv, .inl (cy_nv, 8000, .inl f_nv)), (h_na, .inl (cy_na, 8000, .inl f_na)), (h_nb, .inl (cy_nb, 8000, .inl f_nb)), (h_nc, .inl (cy_nc, 8000, .inl f_nc)), (h_bto, .inl (cy_bto, 256, .inl f_bto)), (h_bin, .inl (cy_bin, 256, .inl f_bin))] := hD.sub [2, 3, 4, 5, 6, 0, 1] (by decide) rfl
            refine W.widen (k := 0) (n := 0) (Nat.le_of_ble_eq_true rfl) (Nat.le_of_ble_eq_true rfl) ?_
            have w32 : 0 ≤ ((x18)).toInt ∧ ((x18)).toInt ≤ 7999 := by first | exact klp21_1 | omega
            have w33 : 0 ≤ ((x19)).toInt ∧ ((x19)).toInt ≤ 31 := by first | exact klp21_2 | omega
            have w34 : 0 ≤ ((x20)).toInt ∧ ((x20)).toInt ≤ 2001 := by first | exact klp21_3 | omega
            exact W.vret hx hb hr (fun t ht hW => ⟨⟨(x18, x19, x20), rfl, ⟨w32, w33, w34⟩, by rw [ht]; exact hP, hD⟩, hS.F ht⟩) hS.2.2 dX11_counts_80
          · have kc31 := (not_congr (cv_lt (rfl : (p3).toInt = (p3).toInt) (rfl : (x20).toInt = (x20).toInt))).mp c31
            refine lv_aload_n hx hb dX11_counts_59 rfl (lv_at hl 0 rfl) ?_
            refine lv_aload_n hx hb dX11_counts_60 rfl (lv_at hl 0 rfl) ?_
            refine lv_iload hx hb dX11_counts_61 (lv_at hl 4 rfl) ?_
            refine lv_iload hx hb dX11_counts_63 (lv_at hl 6 rfl) ?_
            obtain ⟨vq35, evq35⟩ := mq138_85 v_mm (.ref h_nv) (.ref h_bto) (.ref h_bin) (.int x18) (.int x19) (.int x20)
            replace hP : va_P (dC, dI) cls [(h_bto, .inl (cy_bto, 256, .inl f_bto)), (h_bin, .inl (cy_bin, 256, .inl f_bin)), (h_mm, .inr (8, (mo85 vq35 (.ref h_na) (.ref h_nb) (.ref h_nc)))), (h_nv, .inl (cy_nv, 8000, .inl f_nv)), (h_na, .inl (cy_na, 8000, .inl f_na)), (h_nb, .inl (cy_nb, 8000, .inl f_nb)), (h_nc, .inl (cy_nc, 8000, .inl f_nc))] H := by rw [evq35]; exact hP
            replace hD : va_D A [(h_bto, .inl (cy_bto, 256, .inl f_bto)), (h_bin, .inl (cy_bin, 256, .inl f_bin)), (h_mm, .inr (8, (mo85 vq35 (.ref h_na) (.ref h_nb) (.ref h_nc)))), (h_nv, .inl (cy_nv, 8000, .inl f_nv)), (h_na, .inl (cy_na, 8000, .inl f_na)), (h_nb, .inl (cy_nb, 8000, .inl f_nb)), (h_nc, .inl (cy_nc, 8000, .inl f_nc))] := by rw [evq35]; exact hD
            have hPc := hP.sub (ws' := [(h_mm, .inr (8, (mo85 vq35 (.ref h_na) (.ref h_nb) (.ref h_nc)))), (h_na, .inl (cy_na, 8000, .inl f_na)), (h_nb, .inl (cy_nb, 8000, .inl f_nb)), (h_nc, .inl (cy_nc, 8000, .inl f_nc))]) [2, 4, 5, 6] rfl
            have hDc := hD.sub (ws' := [(h_mm, .inr (8, (mo85 vq35 (.ref h_na) (.ref h_nb) (.ref h_nc)))), (h_na, .inl (cy_na, 8000, .inl f_na)), (h_nb, .inl (cy_nb, 8000, .inl f_nb)), (h_nc, .inl (cy_nc, 8000, .inl f_nc))]) [2, 4, 5, 6] (by decide) rfl
            have hKc := hK.sub (tys' := [(cy_na, .int), (cy_nb, .int), (cy_nc, .int)]) [1, 2, 3] rfl
            have hFc := va_free (wc := [(h_mm, .inr (8, (mo85 vq35 (.ref h_na) (.ref h_nb) (.ref h_nc)))), (h_na, .inl (cy_na, 8000, .inl f_na)), (h_nb, .inl (cy_nb, 8000, .inl f_nb)), (h_nc, .inl (cy_nc, 8000, .inl f_nc))]) hD hS hA [2, 4, 5, 6] rfl
            refine va_calli (va_runV (As := [.int z5, .int x17]) (rest := [.ref h_mm]) ⟨hx, hb, hml, hown, hts⟩ (c_X11_part_e l dC dI H.size h_mm h_na h_nb h_nc vq35 cy_na f_na cy_nb f_nb cy_nc f_nc z5 x17 hf_na hf_nb hf_nc (by first | exact k8 | omega)) (cwV 2 hts (gv hT w_m_X11_31 w_instanceMethod_X11_part ws_sel_X11_part w_ini_X11 w_code_X11_part) rfl rfl rfl (by decide +kernel) ⟨(by dsimp only [headSpec]; omega), (by dsimp only [headSpec]; omega)⟩) ⟨pre_blind, va_recv hK hP (ci := 8) (q0 := 2) rfl rfl, pre_of hPc hKc hDc hN⟩ rfl rfl hl.1 rfl (lv_room (Nat.le_of_ble_eq_true rfl)) dX11_counts_65 ⟨(Nat.le_of_ble_eq_true rfl), (Nat.le_of_ble_eq_true rfl)⟩) hS (fun q _ h => hFc q h) hFc (fun r36 u t H locs ht hvm hq hB hz1 hk1 hS9 => ?_)
            obtain ⟨hP1, hD1⟩ := hB
            rw [ht] at hP1
            obtain ⟨hP9, hD9⟩ := va_join (wr := [(h_bto, .inl (cy_bto, 256, .inl f_bto)), (h_bin, .inl (cy_bin, 256, .inl f_bin)), (h_nv, .inl (cy_nv, 8000, .inl f_nv))]) (w1 := [(h_mm, .inr (8, (mo85 vq35 (.ref h_na) (.ref h_nb) (.ref h_nc)))), (h_na, .inl (cy_na, 8000, .inl f_na)), (h_nb, .inl (cy_nb, 8000, .inl f_nb)), (h_nc, .inl (cy_nc, 8000, .inl f_nc))]) hP hD [2, 4, 5, 6] [0, 1, 3] rfl rfl (by decide) (by decide) hk1 hFc hP1 hD1
            clear hP hD hS hPc hDc hKc hFc hP1 hD1 hk1 hz1 ht hvm
            have hP : va_P (dC, dI) cls [(h_bto, .inl (cy_bto, 256, .inl f_bto)), (h_bin, .inl (cy_bin, 256, .inl f_bin)), (h_nv, .inl (cy_nv, 8000, .inl f_nv)), (h_mm, .inr (8, (mo85 vq35 (.ref h_na) (.ref h_nb) (.ref h_nc)))), (h_na, .inl (cy_na, 8000, .inl f_na)), (h_nb, .inl (cy_nb, 8000, .inl f_nb)), (h_nc, .inl (cy_nc, 8000, .inl f_nc))] H := hP9
            have hD : va_D A [(h_bto, .inl (cy_bto, 256, .inl f_bto)), (h_bin, .inl (cy_bin, 256, .inl f_bin)), (h_nv, .inl (cy_nv, 8000, .inl f_nv)), (h_mm, .inr (8, (mo85 vq35 (.ref h_na) (.ref h_nb) (.ref h_nc)))), (h_na, .inl (cy_na, 8000, .inl f_na)), (h_nb, .inl (cy_nb, 8000, .inl f_nb)), (h_nc, .inl (cy_nc, 8000, .inl f_nc))] := hD9
            have hS := hS9
            clear hP9 hD9 hS9
            rw [evq35] at hP hD
            replace hP : va_P (dC, dI) cls [(h_bto, .inl (cy_bto, 256, .inl f_bto)), (h_bin, .inl (cy_bin, 256, .inl f_bin)), (h_nv, .inl (cy_nv, 8000, .inl f_nv)), (h_mm, .inr (8, (mo138 v_mm (.ref h_nv) (.ref h_na) (.ref h_nb) (.ref h_nc) (.ref h_bto) (.ref h_bin) (.int x18) (.int x19) (.int x20)))), (h_na, .inl (cy_na, 8000, .inl f_na)), (h_nb, .inl (cy_nb, 8000, .inl f_nb)), (h_nc, .inl (cy_nc, 8000, .inl f_nc))] H := hP
            replace hD : va_D A [(h_bto, .inl (cy_bto, 256, .inl f_bto)), (h_bin, .inl (cy_bin, 256, .inl f_bin)), (h_nv, .inl (cy_nv, 8000, .inl f_nv)), (h_mm, .inr (8, (mo138 v_mm (.ref h_nv) (.ref h_na) (.ref h_nb) (.ref h_nc) (.ref h_bto) (.ref h_bin) (.int x18) (.int x19) (.int x20)))), (h_na, .inl (cy_na, 8000, .inl f_na)), (h_nb, .inl (cy_nb, 8000, .inl f_nb)), (h_nc, .inl (cy_nc, 8000, .inl f_nc))] := hD
            clear evq35 
            obtain ⟨k37, k38⟩ := hq
            replace k37 : -1 ≤ (r36).toInt ∧ (r36).toInt ≤ 7999 := k37
            replace k38 : ((r36)).toInt = (ptx f_na f_nb f_nc ((z5)).toInt.toNat ((x17)).toInt).toInt := k38
            have cc9e : ptx f_na f_nb f_nc (z5).toInt.toNat (x17).toInt = r36 := Int32.toInt_inj.mp (by omega)
            have cc9c := ch_ok (nv := f_nv) (k := (x17).toInt) (x := (z5).toInt.toNat) hn_bi.1 (by omega) (by omega)
            rw [cc9e] at cc9c
            have cc9p := pa_ch (k := (x17).toInt) (k13) (by omega)
            rw [cc9e] at cc9p
            refine lv_iload hx hb dX11_counts_68 (lv_at hl 5 rfl) ?_
            refine lv_iload_n hx hb dX11_counts_70 rfl (lv_at hl 3 rfl) ?_
            have hPc := hP.sub (ws' := [(h_mm, .inr (8, (mo138 v_mm (.ref h_nv) (.ref h_na) (.ref h_nb) (.ref h_nc) (.ref h_bto) (.ref h_bin) (.int x18) (.int x19) (.int x20)))), (h_nv, .inl (cy_nv, 8000, .inl f_nv)), (h_na, .inl (cy_na, 8000, .inl f_na)), (h_nb, .inl (cy_nb, 8000, .inl f_nb)), (h_nc, .inl (cy_nc, 8000, .inl f_nc)), (h_bto, .inl (cy_bto, 256, .inl f_bto)), (h_bin, .inl (cy_bin, 256, .inl f_bin))]) [3, 2, 4, 5, 6, 0, 1] rfl
            have hDc := hD.sub (ws' := [(h_mm, .inr (8, (mo138 v_mm (.ref h_nv) (.ref h_na) (.ref h_nb) (.ref h_nc) (.ref h_bto) (.ref h_bin) (.int x18) (.int x19) (.int x20)))), (h_nv, .inl (cy_nv, 8000, .inl f_nv)), (h_na, .inl (cy_na, 8000, .inl f_na)), (h_nb, .inl (cy_nb, 8000, .inl f_nb)), (h_nc, .inl (cy_nc, 8000, .inl f_nc)), (h_bto, .inl (cy_bto, 256, .inl f_bto)), (h_bin, .inl (cy_bin, 256, .inl f_bin))]) [3, 2, 4, 5, 6, 0, 1] (by decide) rfl
            have hKc := hK.sub (tys' := [(cy_nv, .int), (cy_na, .int), (cy_nb, .int), (cy_nc, .int), (cy_bto, .int), (cy_bin, .int)]) [0, 1, 2, 3, 4, 5] rfl
            have hFc := va_free (wc := [(h_mm, .inr (8, (mo138 v_mm (.ref h_nv) (.ref h_na) (.ref h_nb) (.ref h_nc) (.ref h_bto) (.ref h_bin) (.int x18) (.int x19) (.int x20)))), (h_nv, .inl (cy_nv, 8000, .inl f_nv)), (h_na, .inl (cy_na, 8000, .inl f_na)), (h_nb, .inl (cy_nb, 8000, .inl f_nb)), (h_nc, .inl (cy_nc, 8000, .inl f_nc)), (h_bto, .inl (cy_bto, 256, .inl f_bto)), (h_bin, .inl (cy_bin, 256, .inl f_bin))]) hD hS hA [3, 2, 4, 5, 6, 0, 1] rfl
            refine va_callv (va_runV (As := [.int r36, .int z6, .int p3]) (rest := []) ⟨hx, hb, hml, hown, hts⟩ (ihf dC dI H.size h_mm h_nv h_na h_nb h_nc h_bto h_bin v_mm x18 x19 x20 cy_nv f_nv cy_na f_na cy_nb f_nb cy_nc f_nc cy_bto f_bto cy_bin f_bin r36 z6 p3 i0 i1 N hz z7 (by first | exact klp21_1 | omega) (by first | exact klp21_2 | omega) (by first | exact klp21_3 | omega) hf_nv hf_na hf_nb hf_nc hf_bto hf_bin (by first | exact q0 | omega) (by first | exact q1 | omega) (by omega) (by first | exact k11 | omega) (by first | exact q4 | omega) (by omega) hn_bi cc9p) (cwV 3 hts (gv hT w_m_X11_294 w_instanceMethod_X11_counts ws_sel_X11_counts w_ini_X11 w_code_X11_counts) rfl rfl rfl (by decide +kernel) ⟨(by dsimp only [headSpec]; omega), (by dsimp only [headSpec]; omega)⟩) ⟨pre_blind, va_recv hK hP (ci := 8) (q0 := 3) rfl rfl, pre_of hPc hKc hDc hN⟩ rfl rfl hl.1 rfl (lv_room (Nat.le_of_ble_eq_true rfl)) dX11_counts_71 ⟨(Nat.le_of_ble_eq_true rfl), (Nat.le_of_ble_eq_true rfl)⟩) hS (fun q _ h => hFc q h) hFc (fun u t H locs ht hvm hq hB hz1 hk1 hS9 => ?_)
            obtain ⟨z40, z41, z42⟩ := u
            obtain ⟨hP1, hD1⟩ := hB
            rw [ht] at hP1
            obtain ⟨hP9, hD9⟩ := va_join (wr := []) (w1 := [(h_mm, .inr (8, (mo138 v_mm (.ref h_nv) (.ref h_na) (.ref h_nb) (.ref h_nc) (.ref h_bto) (.ref h_bin) (.int z40) (.int z41) (.int z42)))), (h_nv, .inl (cy_nv, 8000, .inl f_nv)), (h_na, .inl (cy_na, 8000, .inl f_na)), (h_nb, .inl (cy_nb, 8000, .inl f_nb)), (h_nc, .inl (cy_nc, 8000, .inl f_nc)), (h_bto, .inl (cy_bto, 256, .inl f_bto)), (h_bin, .inl (cy_bin, 256, .inl f_bin))]) hP hD [3, 2, 4, 5, 6, 0, 1] [] rfl rfl (by decide) (by decide) hk1 hFc hP1 hD1
            clear hP hD hS hPc hDc hKc hFc hP1 hD1 hk1 hz1 ht hvm
            have hP : va_P (dC, dI) cls [(h_mm, .inr (8, (mo138 v_mm (.ref h_nv) (.ref h_na) (.ref h_nb) (.ref h_nc) (.ref h_bto) (.ref h_bin) (.int z40) (.int z41) (.int z42)))), (h_nv, .inl (cy_nv, 8000, .inl f_nv)), (h_na, .inl (cy_na, 8000, .inl f_na)), (h_nb, .inl (cy_nb, 8000, .inl f_nb)), (h_nc, .inl (cy_nc, 8000, .inl f_nc)), (h_bto, .inl (cy_bto, 256, .inl f_bto)), (h_bin, .inl (cy_bin, 256, .inl f_bin))] H := hP9
            have hD : va_D A [(h_mm, .inr (8, (mo138 v_mm (.ref h_nv) (.ref h_na) (.ref h_nb) (.ref h_nc) (.ref h_bto) (.ref h_bin) (.int z40) (.int z41) (.int z42)))), (h_nv, .inl (cy_nv, 8000, .inl f_nv)), (h_na, .inl (cy_na, 8000, .inl f_na)), (h_nb, .inl (cy_nb, 8000, .inl f_nb)), (h_nc, .inl (cy_nc, 8000, .inl f_nc)), (h_bto, .inl (cy_bto, 256, .inl f_bto)), (h_bin, .inl (cy_bin, 256, .inl f_bin))] := hD9
            have hS := hS9
            clear hP9 hD9 hS9
            obtain ⟨k43, k44, k45⟩ := hq
            replace k43 : 0 ≤ ((z40)).toInt ∧ ((z40)).toInt ≤ 7999 := k43
            replace k44 : 0 ≤ ((z41)).toInt ∧ ((z41)).toInt ≤ 31 := k44
            replace k45 : 0 ≤ ((z42)).toInt ∧ ((z42)).toInt ≤ 2001 := k45
            obtain ⟨z46, ez46⟩ : ∃ y : Int32, y = x17 + 1 := ⟨_, rfl⟩
            have tz46 : (z46).toInt = (x17).toInt + 1 := by rw [ez46]; exact i_add rfl (by decide) (by omega)
            refine lv_iinc (v := z46) (lv' := [(6, .int z46), (0, .ref h_mm), (1, .int p1), (2, .int p2), (3, .int p3), (4, .int z5), (5, .int z6)]) hx hb dX11_counts_74 hl (k := 6) rfl (by rw [ez46]; rfl) (by decide) rfl (fun ls hl => ?_)
            refine lv_goto (tgt := 40) hx hb dX11_counts_77 (by decide) ?_
            exact ih22 (z46) (z40) (z41) (z42) _ _ _ (by omega) (by first | exact k43 | omega) (by first | exact k44 | omega) (by first | exact k45 | omega) (by omega) hP hD hS (lv_sub hl [1, 2, 3, 4, 5, 6, 0] rfl)
    have cst0 : (0 : Int32).toInt = 0 := by decide
    exact lp21 _ (0) (z5) (z6) (z2) _ _ _ (by decide) (by first | exact k8 | omega) (by first | exact k9 | omega) (by omega) (Nat.le_refl _) hP hD hS (lv_sub hl [3, 4, 5, 6, 2, 1, 0] rfl)
  · have kc1 := (not_congr (cv_le (rfl : (x_mm_counted).toInt = (x_mm_counted).toInt) (rfl : (p3).toInt = (p3).toInt))).mp c1
    refine W.widen (k := 0) (n := 0) (Nat.le_of_ble_eq_true rfl) (Nat.le_of_ble_eq_true rfl) ?_
    have w47 : 0 ≤ ((x_mm_goneTo)).toInt ∧ ((x_mm_goneTo)).toInt ≤ 7999 := by first | exact hx_mm_goneTo | omega
    have w48 : 0 ≤ ((x_mm_goneIn)).toInt ∧ ((x_mm_goneIn)).toInt ≤ 31 := by first | exact hx_mm_goneIn | omega
    have w49 : 0 ≤ ((x_mm_counted)).toInt ∧ ((x_mm_counted)).toInt ≤ 2001 := by first | exact hx_mm_counted | omega
    exact W.vret hx hb hr (fun t ht hW => ⟨⟨(x_mm_goneTo, x_mm_goneIn, x_mm_counted), rfl, ⟨w47, w48, w49⟩, by rw [ht]; exact hP, hD⟩, hS.F ht⟩) hS.2.2 dX11_counts_8

set_option maxHeartbeats 8000000 in
set_option maxRecDepth 100000 in
theorem c_X11_isShort (l : Launch) (dC : Nat → ClassId) (dI : Nat → Nat → Nat) (sz : Nat) (h_mm : Nat) (h_nv : Nat) (h_na : Nat) (h_nb : Nat) (h_nc : Nat) (h_bto : Nat) (h_bin : Nat) (v_mm : Nat → Value) (x_mm_goneTo : Int32) (x_mm_goneIn : Int32) (x_mm_counted : Int32) (cy_nv : ClassId) (f_nv : Nat → Int32) (cy_na : ClassId) (f_na : Nat → Int32) (cy_nb : ClassId) (f_nb : Nat → Int32) (cy_nc : ClassId) (f_nc : Nat → Int32) (cy_bto : ClassId) (f_bto : Nat → Int32) (cy_bin : ClassId) (f_bin : Nat → Int32) (p1 : Int32) (p2 : Int32) (p3 : Int32) (i0 : Int) (i1 : Int) (N : Int) (hz : Nat → Nat) (hx_mm_goneTo : 0 ≤ (x_mm_goneTo).toInt ∧ (x_mm_goneTo).toInt ≤ 7999) (hx_mm_goneIn : 0 ≤ (x_mm_goneIn).toInt ∧ (x_mm_goneIn).toInt ≤ 31) (hx_mm_counted : 0 ≤ (x_mm_counted).toInt ∧ (x_mm_counted).toInt ≤ 2001) (hf_nv : Rg (-1) 7 f_nv) (hf_na : Rg (-1) 7999 f_na) (hf_nb : Rg (-1) 7999 f_nb) (hf_nc : Rg (-1) 7999 f_nc) (hf_bto : Rg (-1) 7999 f_bto) (hf_bin : Rg 0 31 f_bin) (q0 : 0 ≤ i0 ∧ i0 ≤ i1 ∧ i1 ≤ 31) (q1 : N ≤ 8000) (q2 : 0 ≤ (p1).toInt ∧ (p1).toInt < N) (q3 : i0 ≤ (p2).toInt ∧ (p2).toInt ≤ i1) (q4 : 0 ≤ (p3).toInt ∧ (p3).toInt ≤ 2000) (hn_bi : BI i0 i1 N hz f_nv f_na f_nb f_nc f_bto f_bin) : Met l yX11_isShort (Ws yX11_isShort cX11_isShort 4 (some .boolean)) (({ frames := 1547, cells := 0, slots := 0, locals := 40215 } : Room)) (PRE (dC, dI) cls [(cy_nv, .int), (cy_na, .int), (cy_nb, .int), (cy_nc, .int), (cy_bto, .int), (cy_bin, .int)] [(h_mm, .inr (8, (mo138 v_mm (.ref h_nv) (.ref h_na) (.ref h_nb) (.ref h_nc) (.ref h_bto) (.ref h_bin) (.int x_mm_goneTo) (.int x_mm_goneIn) (.int x_mm_counted)))), (h_nv, .inl (cy_nv, 8000, .inl f_nv)), (h_na, .inl (cy_na, 8000, .inl f_na)), (h_nb, .inl (cy_nb, 8000, .inl f_nb)), (h_nc, .inl (cy_nc, 8000, .inl f_nc)), (h_bto, .inl (cy_bto, 256, .inl f_bto)), (h_bin, .inl (cy_bin, 256, .inl f_bin))] sz [.ref h_mm, .int p1, .int p2, .int p3]) (va_Qi (fun (r : Int32) (u : (Int32) × (Int32) × (Int32)) => (0 ≤ (u.1).toInt ∧ (u.1).toInt ≤ 7999) ∧ (0 ≤ (u.2.1).toInt ∧ (u.2.1).toInt ≤ 31) ∧ (0 ≤ (u.2.2).toInt ∧ (u.2.2).toInt ≤ 2001) ∧ (0 ≤ r.toInt ∧ r.toInt ≤ 1)) (fun (u : (Int32) × (Int32) × (Int32)) (t : State) => va_P (dC, dI) cls [(h_mm, .inr (8, (mo138 v_mm (.ref h_nv) (.ref h_na) (.ref h_nb) (.ref h_nc) (.ref h_bto) (.ref h_bin) (.int u.1) (.int u.2.1) (.int u.2.2)))), (h_nv, .inl (cy_nv, 8000, .inl f_nv)), (h_na, .inl (cy_na, 8000, .inl f_na)), (h_nb, .inl (cy_nb, 8000, .inl f_nb)), (h_nc, .inl (cy_nc, 8000, .inl f_nc)), (h_bto, .inl (cy_bto, 256, .inl f_bto)), (h_bin, .inl (cy_bin, 256, .inl f_bin))] t.heap ∧ va_D (va_A [(h_mm, .inr (8, (mo138 v_mm (.ref h_nv) (.ref h_na) (.ref h_nb) (.ref h_nc) (.ref h_bto) (.ref h_bin) (.int x_mm_goneTo) (.int x_mm_goneIn) (.int x_mm_counted)))), (h_nv, .inl (cy_nv, 8000, .inl f_nv)), (h_na, .inl (cy_na, 8000, .inl f_na)), (h_nb, .inl (cy_nb, 8000, .inl f_nb)), (h_nc, .inl (cy_nc, 8000, .inl f_nc)), (h_bto, .inl (cy_bto, 256, .inl f_bto)), (h_bin, .inl (cy_bin, 256, .inl f_bin))] sz) [(h_mm, .inr (8, (mo138 v_mm (.ref h_nv) (.ref h_na) (.ref h_nb) (.ref h_nc) (.ref h_bto) (.ref h_bin) (.int u.1) (.int u.2.1) (.int u.2.2)))), (h_nv, .inl (cy_nv, 8000, .inl f_nv)), (h_na, .inl (cy_na, 8000, .inl f_na)), (h_nb, .inl (cy_nb, 8000, .inl f_nb)), (h_nc, .inl (cy_nc, 8000, .inl f_nc)), (h_bto, .inl (cy_bto, 256, .inl f_bto)), (h_bin, .inl (cy_bin, 256, .inl f_bin))]) (va_A [(h_mm, .inr (8, (mo138 v_mm (.ref h_nv) (.ref h_na) (.ref h_nb) (.ref h_nc) (.ref h_bto) (.ref h_bin) (.int x_mm_goneTo) (.int x_mm_goneIn) (.int x_mm_counted)))), (h_nv, .inl (cy_nv, 8000, .inl f_nv)), (h_na, .inl (cy_na, 8000, .inl f_na)), (h_nb, .inl (cy_nb, 8000, .inl f_nb)), (h_nc, .inl (cy_nc, 8000, .inl f_nc)), (h_bto, .inl (cy_bto, 256, .inl f_bto)), (h_bin, .inl (cy_bin, 256, .inl f_bin))] sz)) 0 0 (va_A [(h_mm, .inr (8, (mo138 v_mm (.ref h_nv) (.ref h_na) (.ref h_nb) (.ref h_nc) (.ref h_bto) (.ref h_bin) (.int x_mm_goneTo) (.int x_mm_goneIn) (.int x_mm_counted)))), (h_nv, .inl (cy_nv, 8000, .inl f_nv)), (h_na, .inl (cy_na, 8000, .inl f_na)), (h_nb, .inl (cy_nb, 8000, .inl f_nb)), (h_nc, .inl (cy_nc, 8000, .inl f_nc)), (h_bto, .inl (cy_bto, 256, .inl f_bto)), (h_bin, .inl (cy_bin, 256, .inl f_bin))] sz) := by
  refine Met.ofW (cc := cX11_isShort) (maxL := 4) (ret := (some .boolean)) (by decide) rfl ?_
  intro p e s m args below meth c s₁ B hml hv
  obtain ⟨rfl, hsz, hP, hK, hD0, hN⟩ := hv
  have hx := B.exec
  have hb := B.bytes
  have hr := B.returns
  have hts := atoms_spec (ws := Ws yX11_isShort cX11_isShort 4 (some .boolean)) B.pre
  have hT : ∀ w ∈ WALL, w ∈ Ws yX11_isShort cX11_isShort 4 (some .boolean) := fun w h => List.mem_cons_of_mem _ h
  have hw := fun w (h : w ∈ WALL) => hts w (hT w h)
  have hown : s.vm.findClass RX11 = some m.cls := findClass_of_methodNamed B.named
  have hlocks := B.notSynchronized
  subst hsz
  have hD := hD0.self (sz := s.heap.size)
  generalize hAe : va_A [(h_mm, .inr (8, (mo138 v_mm (.ref h_nv) (.ref h_na) (.ref h_nb) (.ref h_nc) (.ref h_bto) (.ref h_bin) (.int x_mm_goneTo) (.int x_mm_goneIn) (.int x_mm_counted)))), (h_nv, .inl (cy_nv, 8000, .inl f_nv)), (h_na, .inl (cy_na, 8000, .inl f_na)), (h_nb, .inl (cy_nb, 8000, .inl f_nb)), (h_nc, .inl (cy_nc, 8000, .inl f_nc)), (h_bto, .inl (cy_bto, 256, .inl f_bto)), (h_bin, .inl (cy_bin, 256, .inl f_bin))] s.heap.size = A at hD ⊢
  have hA : ∀ q : Nat, s.heap.size ≤ q → A q := fun q h => by rw [← hAe]; exact Or.inr h
  have hS : va_S A s.heap s.heap [] := va_S.rf
  have hl := lv_entry ([.ref h_mm, .int p1, .int p2, .int p3]) (n := 4) (Nat.le_of_ble_eq_true rfl)
  rw [lg_entry_eq]
  generalize (lg_sl ([.ref h_mm, .int p1, .int p2, .int p3]) ++ List.replicate (4 - (lg_sl ([.ref h_mm, .int p1, .int p2, .int p3])).length) Slot.unset).toArray = ls at hl ⊢
  have hl : lv_has ls 4 [(0, .ref h_mm), (1, .int p1), (2, .int p2), (3, .int p3)] := hl
  refine lv_aload_n hx hb dX11_isShort_0 rfl (lv_at hl 0 rfl) ?_
  refine lv_iconst (v := 0) hx hb dX11_isShort_1 (by decide) ?_
  refine va_put (D := (dC, dI)) (ci := 8) (v := .int 0) (ty := tyX11 33) (C := RX11) (T := TX11) (N := 71) hx hb hw iwX11 tyX11 tyX11_ok nmX11 hown hK hP hD hS 0 rfl rfl 33 (by decide) (hw _ w_f_X11_291) (fun _ h9 => h9) rfl (tyX11_ok 33 (by decide)) rfl rfl (Nat.le_of_ble_eq_true rfl) dX11_isShort_2 (fun H locs hP9 hD9 hS9 => ?_)
  clear hP hD hS
  have hP : va_P (dC, dI) cls [(h_mm, .inr (8, (mo138 v_mm (.ref h_nv) (.ref h_na) (.ref h_nb) (.ref h_nc) (.ref h_bto) (.ref h_bin) (.int x_mm_goneTo) (.int x_mm_goneIn) (.int 0)))), (h_nv, .inl (cy_nv, 8000, .inl f_nv)), (h_na, .inl (cy_na, 8000, .inl f_na)), (h_nb, .inl (cy_nb, 8000, .inl f_nb)), (h_nc, .inl (cy_nc, 8000, .inl f_nc)), (h_bto, .inl (cy_bto, 256, .inl f_bto)), (h_bin, .inl (cy_bin, 256, .inl f_bin))] H := hP9
  have hD : va_D A [(h_mm, .inr (8, (mo138 v_mm (.ref h_nv) (.ref h_na) (.ref h_nb) (.ref h_nc) (.ref h_bto) (.ref h_bin) (.int x_mm_goneTo) (.int x_mm_goneIn) (.int 0)))), (h_nv, .inl (cy_nv, 8000, .inl f_nv)), (h_na, .inl (cy_na, 8000, .inl f_na)), (h_nb, .inl (cy_nb, 8000, .inl f_nb)), (h_nc, .inl (cy_nc, 8000, .inl f_nc)), (h_bto, .inl (cy_bto, 256, .inl f_bto)), (h_bin, .inl (cy_bin, 256, .inl f_bin))] := hD9
  have hS := hS9
  clear hP9 hD9 hS9
  refine lv_aload_n hx hb dX11_isShort_5 rfl (lv_at hl 0 rfl) ?_
  refine lv_iload_n hx hb dX11_isShort_6 rfl (lv_at hl 1 rfl) ?_
  refine lv_iload_n hx hb dX11_isShort_7 rfl (lv_at hl 2 rfl) ?_
  have l09 : ([] : List Nat).length = 0 := rfl
  have hh9 := (hn_bi.1 (p1).toInt.toNat (by omega) (by omega)).2.2.2
  refine lv_iload_n hx hb dX11_isShort_8 rfl (lv_at hl 3 rfl) ?_
  have hPc := hP.sub (ws' := [(h_mm, .inr (8, (mo138 v_mm (.ref h_nv) (.ref h_na) (.ref h_nb) (.ref h_nc) (.ref h_bto) (.ref h_bin) (.int x_mm_goneTo) (.int x_mm_goneIn) (.int 0)))), (h_nv, .inl (cy_nv, 8000, .inl f_nv)), (h_na, .inl (cy_na, 8000, .inl f_na)), (h_nb, .inl (cy_nb, 8000, .inl f_nb)), (h_nc, .inl (cy_nc, 8000, .inl f_nc)), (h_bto, .inl (cy_bto, 256, .inl f_bto)), (h_bin, .inl (cy_bin, 256, .inl f_bin))]) [0, 1, 2, 3, 4, 5, 6] rfl
  have hDc := hD.sub (ws' := [(h_mm, .inr (8, (mo138 v_mm (.ref h_nv) (.ref h_na) (.ref h_nb) (.ref h_nc) (.ref h_bto) (.ref h_bin) (.int x_mm_goneTo) (.int x_mm_goneIn) (.int 0)))), (h_nv, .inl (cy_nv, 8000, .inl f_nv)), (h_na, .inl (cy_na, 8000, .inl f_na)), (h_nb, .inl (cy_nb, 8000, .inl f_nb)), (h_nc, .inl (cy_nc, 8000, .inl f_nc)), (h_bto, .inl (cy_bto, 256, .inl f_bto)), (h_bin, .inl (cy_bin, 256, .inl f_bin))]) [0, 1, 2, 3, 4, 5, 6] (by decide) rfl
  have hKc := hK.sub (tys' := [(cy_nv, .int), (cy_na, .int), (cy_nb, .int), (cy_nc, .int), (cy_bto, .int), (cy_bin, .int)]) [0, 1, 2, 3, 4, 5] rfl
  have hFc := va_free (wc := [(h_mm, .inr (8, (mo138 v_mm (.ref h_nv) (.ref h_na) (.ref h_nb) (.ref h_nc) (.ref h_bto) (.ref h_bin) (.int x_mm_goneTo) (.int x_mm_goneIn) (.int 0)))), (h_nv, .inl (cy_nv, 8000, .inl f_nv)), (h_na, .inl (cy_na, 8000, .inl f_na)), (h_nb, .inl (cy_nb, 8000, .inl f_nb)), (h_nc, .inl (cy_nc, 8000, .inl f_nc)), (h_bto, .inl (cy_bto, 256, .inl f_bto)), (h_bin, .inl (cy_bin, 256, .inl f_bin))]) hD hS hA [0, 1, 2, 3, 4, 5, 6] rfl
  refine va_callv (va_runV (As := [.int p1, .int p2, .int p3]) (rest := []) ⟨hx, hb, hml, hown, hts⟩ (c_X11_counts l 1544 dC dI H.size h_mm h_nv h_na h_nb h_nc h_bto h_bin v_mm x_mm_goneTo x_mm_goneIn 0 cy_nv f_nv cy_na f_na cy_nb f_nb cy_nc f_nc cy_bto f_bto cy_bin f_bin p1 p2 p3 i0 i1 N hz ([]) (by first | exact hx_mm_goneTo | omega) (by first | exact hx_mm_goneIn | omega) (by decide) hf_nv hf_na hf_nb hf_nc hf_bto hf_bin (by first | exact q0 | omega) (by first | exact q1 | omega) (by first | exact q2 | omega) (by first | exact q3 | omega) (by first | exact q4 | omega) (by omega) hn_bi pa_nil) (cwV 3 hts (gv hT w_m_X11_294 w_instanceMethod_X11_counts ws_sel_X11_counts w_ini_X11 w_code_X11_counts) rfl rfl rfl (by decide +kernel) ⟨(Nat.le_of_ble_eq_true rfl), (Nat.le_of_ble_eq_true rfl)⟩) ⟨pre_blind, va_recv hK hP (ci := 8) (q0 := 0) rfl rfl, pre_of hPc hKc hDc hN⟩ rfl rfl hl.1 rfl (lv_room (Nat.le_of_ble_eq_true rfl)) dX11_isShort_9 ⟨(Nat.le_of_ble_eq_true rfl), (Nat.le_of_ble_eq_true rfl)⟩) hS (fun q _ h => hFc q h) hFc (fun u t H locs ht hvm hq hB hz1 hk1 hS9 => ?_)
  obtain ⟨z2, z3, z4⟩ := u
  obtain ⟨hP1, hD1⟩ := hB
  rw [ht] at hP1
  obtain ⟨hP9, hD9⟩ := va_join (wr := []) (w1 := [(h_mm, .inr (8, (mo138 v_mm (.ref h_nv) (.ref h_na) (.ref h_nb) (.ref h_nc) (.ref h_bto) (.ref h_bin) (.int z2) (.int z3) (.int z4)))), (h_nv, .inl (cy_nv, 8000, .inl f_nv)), (h_na, .inl (cy_na, 8000, .inl f_na)), (h_nb, .inl (cy_nb, 8000, .inl f_nb)), (h_nc, .inl (cy_nc, 8000, .inl f_nc)), (h_bto, .inl (cy_bto, 256, .inl f_bto)), (h_bin, .inl (cy_bin, 256, .inl f_bin))]) hP hD [0, 1, 2, 3, 4, 5, 6] [] rfl rfl (by decide) (by decide) hk1 hFc hP1 hD1
  clear hP hD hS hPc hDc hKc hFc hP1 hD1 hk1 hz1 ht hvm
  have hP : va_P (dC, dI) cls [(h_mm, .inr (8, (mo138 v_mm (.ref h_nv) (.ref h_na) (.ref h_nb) (.ref h_nc) (.ref h_bto) (.ref h_bin) (.int z2) (.int z3) (.int z4)))), (h_nv, .inl (cy_nv, 8000, .inl f_nv)), (h_na, .inl (cy_na, 8000, .inl f_na)), (h_nb, .inl (cy_nb, 8000, .inl f_nb)), (h_nc, .inl (cy_nc, 8000, .inl f_nc)), (h_bto, .inl (cy_bto, 256, .inl f_bto)), (h_bin, .inl (cy_bin, 256, .inl f_bin))] H := hP9
  have hD : va_D A [(h_mm, .inr (8, (mo138 v_mm (.ref h_nv) (.ref h_na) (.ref h_nb) (.ref h_nc) (.ref h_bto) (.ref h_bin) (.int z2) (.int z3) (.int z4)))), (h_nv, .inl (cy_nv, 8000, .inl f_nv)), (h_na, .inl (cy_na, 8000, .inl f_na)), (h_nb, .inl (cy_nb, 8000, .inl f_nb)), (h_nc, .inl (cy_nc, 8000, .inl f_nc)), (h_bto, .inl (cy_bto, 256, .inl f_bto)), (h_bin, .inl (cy_bin, 256, .inl f_bin))] := hD9
  have hS := hS9
  clear hP9 hD9 hS9
  obtain ⟨k5, k6, k7⟩ := hq
  replace k5 : 0 ≤ ((z2)).toInt ∧ ((z2)).toInt ≤ 7999 := k5
  replace k6 : 0 ≤ ((z3)).toInt ∧ ((z3)).toInt ≤ 31 := k6
  replace k7 : 0 ≤ ((z4)).toInt ∧ ((z4)).toInt ≤ 2001 := k7
  refine lv_aload_n hx hb dX11_isShort_12 rfl (lv_at hl 0 rfl) ?_
  refine va_get (D := (dC, dI)) (ci := 8) (v := .int z4) (C := RX11) (T := TX11) (N := 71) hx hb hw iwX11 hown hK hP 0 rfl rfl 33 (by decide) (hw _ w_f_X11_291) (fun _ h9 => h9) rfl dX11_isShort_13 ?_
  refine lv_iload_n hx hb dX11_isShort_16 rfl (lv_at hl 3 rfl) ?_
  refine lv_icmp_gt (tgt := 24) hx hb dX11_isShort_17 (by decide) (fun c8 => ?_) (fun c8 => ?_)
  · have kc8 := (cv_lt (rfl : (p3).toInt = (p3).toInt) (rfl : (z4).toInt = (z4).toInt)).mp c8
    refine lv_iconst (v := 0) hx hb dX11_isShort_24 (by decide) ?_
    refine W.widen (k := 0) (n := 0) (Nat.le_of_ble_eq_true rfl) (Nat.le_of_ble_eq_true rfl) ?_
    have cst0 : (0 : Int32).toInt = 0 := by decide
    have w9 : 0 ≤ ((z2)).toInt ∧ ((z2)).toInt ≤ 7999 := by first | exact k5 | omega
    have w10 : 0 ≤ ((z3)).toInt ∧ ((z3)).toInt ≤ 31 := by first | exact k6 | omega
    have w11 : 0 ≤ ((z4)).toInt ∧ ((z4)).toInt ≤ 2001 := by first | exact k7 | omega
    have w12 : 0 ≤ (0 : Int32).toInt ∧ (0 : Int32).toInt ≤ 1 := by omega
    exact W.zret (v := 0) (ty := .boolean) hx hb hr (by decide) (fun t ht hW => ⟨⟨0, (z2, z3, z4), rfl, ⟨w9, w10, w11, w12⟩, by rw [ht]; exact hP, hD⟩, hS.F ht⟩) hS.2.2 dX11_isShort_25
  · have kc8 := (not_congr (cv_lt (rfl : (p3).toInt = (p3).toInt) (rfl : (z4).toInt = (z4).toInt))).mp c8
    refine lv_iconst (v := 1) hx hb dX11_isShort_20 (by decide) ?_
    refine lv_goto (tgt := 25) hx hb dX11_isShort_21 (by decide) ?_
    refine W.widen (k := 0) (n := 0) (Nat.le_of_ble_eq_true rfl) (Nat.le_of_ble_eq_true rfl) ?_
    have cst1 : (1 : Int32).toInt = 1 := by decide
    have w13 : 0 ≤ ((z2)).toInt ∧ ((z2)).toInt ≤ 7999 := by first | exact k5 | omega
    have w14 : 0 ≤ ((z3)).toInt ∧ ((z3)).toInt ≤ 31 := by first | exact k6 | omega
    have w15 : 0 ≤ ((z4)).toInt ∧ ((z4)).toInt ≤ 2001 := by first | exact k7 | omega
    have w16 : 0 ≤ (1 : Int32).toInt ∧ (1 : Int32).toInt ≤ 1 := by omega
    exact W.zret (v := 1) (ty := .boolean) hx hb hr (by decide) (fun t ht hW => ⟨⟨1, (z2, z3, z4), rfl, ⟨w13, w14, w15, w16⟩, by rw [ht]; exact hP, hD⟩, hS.F ht⟩) hS.2.2 dX11_isShort_25

set_option maxHeartbeats 8000000 in
set_option maxRecDepth 100000 in
theorem c_X11_takesBack_e (l : Launch) (dC : Nat → ClassId) (dI : Nat → Nat → Nat) (sz : Nat) (h_mm : Nat) (h_bto : Nat) (h_tra : Nat) (v_mm : Nat → Value) (x_mm_trailed : Int32) (cy_bto : ClassId) (f_bto : Nat → Int32) (cy_tra : ClassId) (f_tra : Nat → Int32) (p1 : Int32) (hx_mm_trailed : 0 ≤ (x_mm_trailed).toInt ∧ (x_mm_trailed).toInt ≤ 256) (hf_bto : Rg (-1) 7999 f_bto) (hf_tra : Rg 0 255 f_tra) (q0 : 0 ≤ (p1).toInt) (hn_trl : TRL (x_mm_trailed).toInt f_tra f_bto) : Met l yX11_takesBack (Ws yX11_takesBack cX11_takesBack 2 none) (({ frames := 0, cells := 0, slots := 0, locals := 0 } : Room)) (PRE (dC, dI) cls [(cy_bto, .int), (cy_tra, .int)] [(h_mm, .inr (8, (mo108 v_mm (.ref h_bto) (.ref h_tra) (.int x_mm_trailed)))), (h_bto, .inl (cy_bto, 256, .inl f_bto)), (h_tra, .inl (cy_tra, 256, .inl f_tra))] sz [.ref h_mm, .int p1]) (va_Qv (fun (u : (Int32) × (Nat → Int32)) => (0 ≤ (u.1).toInt ∧ (u.1).toInt ≤ 256) ∧ (Rg (-1) 7999 u.2) ∧ (((u.1).toInt = (p1).toInt ∧ (p1).toInt ≤ (x_mm_trailed).toInt) ∨ ((u.1).toInt = (x_mm_trailed).toInt ∧ (x_mm_trailed).toInt ≤ (p1).toInt)) ∧ (TRL (u.1).toInt f_tra u.2) ∧ (TBK (u.1).toInt (x_mm_trailed).toInt f_bto f_tra u.2)) (fun (u : (Int32) × (Nat → Int32)) (t : State) => va_P (dC, dI) cls [(h_mm, .inr (8, (mo108 v_mm (.ref h_bto) (.ref h_tra) (.int u.1)))), (h_bto, .inl (cy_bto, 256, .inl u.2)), (h_tra, .inl (cy_tra, 256, .inl f_tra))] t.heap ∧ va_D (va_A [(h_mm, .inr (8, (mo108 v_mm (.ref h_bto) (.ref h_tra) (.int x_mm_trailed)))), (h_bto, .inl (cy_bto, 256, .inl f_bto)), (h_tra, .inl (cy_tra, 256, .inl f_tra))] sz) [(h_mm, .inr (8, (mo108 v_mm (.ref h_bto) (.ref h_tra) (.int u.1)))), (h_bto, .inl (cy_bto, 256, .inl u.2)), (h_tra, .inl (cy_tra, 256, .inl f_tra))]) (va_A [(h_mm, .inr (8, (mo108 v_mm (.ref h_bto) (.ref h_tra) (.int x_mm_trailed)))), (h_bto, .inl (cy_bto, 256, .inl f_bto)), (h_tra, .inl (cy_tra, 256, .inl f_tra))] sz)) 0 0 (va_A [(h_mm, .inr (8, (mo108 v_mm (.ref h_bto) (.ref h_tra) (.int x_mm_trailed)))), (h_bto, .inl (cy_bto, 256, .inl f_bto)), (h_tra, .inl (cy_tra, 256, .inl f_tra))] sz) := by
  refine Met.ofW (cc := cX11_takesBack) (maxL := 2) (ret := none) (by decide) rfl ?_
  intro p e s m args below meth c s₁ B hml hv
  obtain ⟨rfl, hsz, hP, hK, hD0, hN⟩ := hv
  have hx := B.exec
  have hb := B.bytes
  have hr := B.returns
  have hts := atoms_spec (ws := Ws yX11_takesBack cX11_takesBack 2 none) B.pre
  have hT : ∀ w ∈ WALL, w ∈ Ws yX11_takesBack cX11_takesBack 2 none := fun w h => List.mem_cons_of_mem _ h
  have hw := fun w (h : w ∈ WALL) => hts w (hT w h)
  have hown : s.vm.findClass RX11 = some m.cls := findClass_of_methodNamed B.named
  have hlocks := B.notSynchronized
  subst hsz
  have hD := hD0.self (sz := s.heap.size)
  generalize hAe : va_A [(h_mm, .inr (8, (mo108 v_mm (.ref h_bto) (.ref h_tra) (.int x_mm_trailed)))), (h_bto, .inl (cy_bto, 256, .inl f_bto)), (h_tra, .inl (cy_tra, 256, .inl f_tra))] s.heap.size = A at hD ⊢
  have hA : ∀ q : Nat, s.heap.size ≤ q → A q := fun q h => by rw [← hAe]; exact Or.inr h
  have hS : va_S A s.heap s.heap [] := va_S.rf
  have hl := lv_entry ([.ref h_mm, .int p1]) (n := 2) (Nat.le_of_ble_eq_true rfl)
  rw [lg_entry_eq]
  generalize (lg_sl ([.ref h_mm, .int p1]) ++ List.replicate (2 - (lg_sl ([.ref h_mm, .int p1])).length) Slot.unset).toArray = ls at hl ⊢
  have hl : lv_has ls 2 [(0, .ref h_mm), (1, .int p1)] := hl
  have tb0 : TBK (x_mm_trailed).toInt (x_mm_trailed).toInt f_bto f_tra f_bto := tb_refl
  have lp3 : ∀ (n : Nat) (x1 : Int32) (f2 : Nat → Int32) (H : Heap) (locs : List Loc) (ls : Array Slot), (0 ≤ (x1).toInt ∧ (x1).toInt ≤ 256) → (Rg (-1) 7999 f2) → ((x1).toInt ≤ (x_mm_trailed).toInt) → ((p1).toInt ≤ (x1).toInt ∨ (x1).toInt = (x_mm_trailed).toInt) → (TRL (x1).toInt f_tra f2) → (TBK (x1).toInt (x_mm_trailed).toInt f_bto f_tra f2) → ((x1).toInt).toNat + 1 ≤ n → va_P (dC, dI) cls [(h_mm, .inr (8, (mo108 v_mm (.ref h_bto) (.ref h_tra) (.int x1)))), (h_bto, .inl (cy_bto, 256, .inl f2)), (h_tra, .inl (cy_tra, 256, .inl f_tra))] H → va_D A [(h_mm, .inr (8, (mo108 v_mm (.ref h_bto) (.ref h_tra) (.int x1)))), (h_bto, .inl (cy_bto, 256, .inl f2)), (h_tra, .inl (cy_tra, 256, .inl f_tra))] → va_S A s.heap H locs → lv_has ls 2 [(0, .ref h_mm), (1, .int p1)] → W p l e ({ frames := 0, cells := 0, slots := 0, locals := 0 } : Room) s m ([.ref h_mm, .int p1] : List Value).toArray below meth c H locs 0 0 (MQ below (va_Qv (fun (u : (Int32) × (Nat → Int32)) => (0 ≤ (u.1).toInt ∧ (u.1).toInt ≤ 256) ∧ (Rg (-1) 7999 u.2) ∧ (((u.1).toInt = (p1).toInt ∧ (p1).toInt ≤ (x_mm_trailed).toInt) ∨ ((u.1).toInt = (x_mm_trailed).toInt ∧ (x_mm_trailed).toInt ≤ (p1).toInt)) ∧ (TRL (u.1).toInt f_tra u.2) ∧ (TBK (u.1).toInt (x_mm_trailed).toInt f_bto f_tra u.2)) (fun (u : (Int32) × (Nat → Int32)) (t : State) => va_P (dC, dI) cls [(h_mm, .inr (8, (mo108 v_mm (.ref h_bto) (.ref h_tra) (.int u.1)))), (h_bto, .inl (cy_bto, 256, .inl u.2)), (h_tra, .inl (cy_tra, 256, .inl f_tra))] t.heap ∧ va_D A [(h_mm, .inr (8, (mo108 v_mm (.ref h_bto) (.ref h_tra) (.int u.1)))), (h_bto, .inl (cy_bto, 256, .inl u.2)), (h_tra, .inl (cy_tra, 256, .inl f_tra))]) A) ([.ref h_mm, .int p1] : List Value).toArray s 0 0 A) (F0 m 0 ls []) := by
    clear hP hD hS hl
    intro n
    induction n with
    | zero => intro x1 f2 H locs ls klp3_0 hf2 klp3_2 klp3_3 klp3_4 klp3_5 hm hP hD hS hl; exact False.elim (by omega)
    | succ n ih => 
      intro x1 f2 H locs ls klp3_0 hf2 klp3_2 klp3_3 klp3_4 klp3_5 hm hP hD hS hl
      have ih4 := ih
      clear ih
      refine lv_aload_n hx hb dX11_takesBack_0 rfl (lv_at hl 0 rfl) ?_
      refine va_get (D := (dC, dI)) (ci := 8) (v := .int x1) (C := RX11) (T := TX11) (N := 71) hx hb hw iwX11 hown hK hP 0 rfl rfl 30 (by decide) (hw _ w_f_X11_261) (fun _ h9 => h9) rfl dX11_takesBack_1 ?_
      refine lv_iload_n hx hb dX11_takesBack_4 rfl (lv_at hl 1 rfl) ?_
      refine lv_icmp_le (tgt := 36) hx hb dX11_takesBack_5 (by decide) (fun c5 => ?_) (fun c5 => ?_)
      · have kc5 := (cv_le (rfl : (x1).toInt = (x1).toInt) (rfl : (p1).toInt = (p1).toInt)).mp c5
        refine W.widen (k := 0) (n := 0) (Nat.le_of_ble_eq_true rfl) (Nat.le_of_ble_eq_true rfl) ?_
        have w6 : 0 ≤ ((x1)).toInt ∧ ((x1)).toInt ≤ 256 := by first | exact klp3_0 | omega
        have w7 : (((x1)).toInt = (p1).toInt ∧ (p1).toInt ≤ (x_mm_trailed).toInt) ∨ (((x1)).toInt = (x_mm_trailed).toInt ∧ (x_mm_trailed).toInt ≤ (p1).toInt) := by omega
        have w8 : TRL ((x1)).toInt f_tra (f2) := (trl_cast klp3_4 (by omega))
        have w9 : TBK ((x1)).toInt (x_mm_trailed).toInt f_bto f_tra (f2) := (tb_cast klp3_5 (by omega) (by omega))
        exact W.vret hx hb hr (fun t ht hW => ⟨⟨(x1, f2), rfl, ⟨w6, hf2, w7, w8, w9⟩, by rw [ht]; exact hP, hD⟩, hS.F ht⟩) hS.2.2 dX11_takesBack_36
      · have kc5 := (not_congr (cv_le (rfl : (x1).toInt = (x1).toInt) (rfl : (p1).toInt = (p1).toInt))).mp c5
        refine lv_aload_n hx hb dX11_takesBack_8 rfl (lv_at hl 0 rfl) ?_
        refine lv_aload_n hx hb dX11_takesBack_9 rfl (lv_at hl 0 rfl) ?_
        refine va_get (D := (dC, dI)) (ci := 8) (v := .int x1) (C := RX11) (T := TX11) (N := 71) hx hb hw iwX11 hown hK hP 0 rfl rfl 30 (by decide) (hw _ w_f_X11_261) (fun _ h9 => h9) rfl dX11_takesBack_10 ?_
        refine lv_iconst (v := 1) hx hb dX11_takesBack_13 (by decide) ?_
        refine lv_isub hx hb dX11_takesBack_14 ?_
        refine lv_topi (fun z10 ez10 => ?_)
        have tz10 : (z10).toInt = (x1).toInt - 1 := by rw [ez10]; exact i_sub rfl (by decide) (by omega)
        refine va_put (D := (dC, dI)) (ci := 8) (v := .int z10) (ty := tyX11 30) (C := RX11) (T := TX11) (N := 71) hx hb hw iwX11 tyX11 tyX11_ok nmX11 hown hK hP hD hS 0 rfl rfl 30 (by decide) (hw _ w_f_X11_261) (fun _ h9 => h9) rfl (tyX11_ok 30 (by decide)) rfl rfl (Nat.le_of_ble_eq_true rfl) dX11_takesBack_15 (fun H locs hP9 hD9 hS9 => ?_)
        clear hP hD hS
        have hP : va_P (dC, dI) cls [(h_mm, .inr (8, (mo108 v_mm (.ref h_bto) (.ref h_tra) (.int z10)))), (h_bto, .inl (cy_bto, 256, .inl f2)), (h_tra, .inl (cy_tra, 256, .inl f_tra))] H := hP9
        have hD : va_D A [(h_mm, .inr (8, (mo108 v_mm (.ref h_bto) (.ref h_tra) (.int z10)))), (h_bto, .inl (cy_bto, 256, .inl f2)), (h_tra, .inl (cy_tra, 256, .inl f_tra))] := hD9
        have hS := hS9
        clear hP9 hD9 hS9
        refine lv_aload_n hx hb dX11_takesBack_18 rfl (lv_at hl 0 rfl) ?_
        refine va_get (D := (dC, dI)) (ci := 8) (v := .ref h_bto) (C := RX11) (T := TX11) (N := 71) hx hb hw iwX11 hown hK hP 0 rfl rfl 27 (by decide) (hw _ w_f_X11_195) (fun _ h9 => h9) rfl dX11_takesBack_19 ?_
        refine lv_aload_n hx hb dX11_takesBack_22 rfl (lv_at hl 0 rfl) ?_
        refine va_get (D := (dC, dI)) (ci := 8) (v := .ref h_tra) (C := RX11) (T := TX11) (N := 71) hx hb hw iwX11 hown hK hP 0 rfl rfl 29 (by decide) (hw _ w_f_X11_201) (fun _ h9 => h9) rfl dX11_takesBack_23 ?_
        refine lv_aload_n hx hb dX11_takesBack_26 rfl (lv_at hl 0 rfl) ?_
        refine va_get (D := (dC, dI)) (ci := 8) (v := .int z10) (C := RX11) (T := TX11) (N := 71) hx hb hw iwX11 hown hK hP 0 rfl rfl 30 (by decide) (hw _ w_f_X11_261) (fun _ h9 => h9) rfl dX11_takesBack_27 ?_
        refine va_iald hx hb hK hP 2 1 rfl rfl (i := z10) (vp_in_iff.mpr (by omega)) dX11_takesBack_30 ?_
        refine lv_topi (fun z11 ez11 => ?_)
        have rz11 : 0 ≤ (z11).toInt ∧ (z11).toInt ≤ 255 := by rw [ez11]; exact hf_tra _
        refine lv_iconst (v := (-1)) hx hb dX11_takesBack_31 (by decide) ?_
        refine va_iast hx hb hK hP hD hS 1 0 rfl rfl (i := z11) (x := (-1)) (vp_in_iff.mpr (by omega)) dX11_takesBack_32 (fun H locs hP9 hD9 hS9 => ?_)
        obtain ⟨f12, ef12⟩ : ∃ g : Nat → Int32, g = upd f2 (Int32.toNatClampNeg z11) (-1) := ⟨_, rfl⟩
        clear hP hD hS
        have hP : va_P (dC, dI) cls [(h_mm, .inr (8, (mo108 v_mm (.ref h_bto) (.ref h_tra) (.int z10)))), (h_bto, .inl (cy_bto, 256, .inl f12)), (h_tra, .inl (cy_tra, 256, .inl f_tra))] H := by rw [ef12]; exact hP9
        have hD : va_D A [(h_mm, .inr (8, (mo108 v_mm (.ref h_bto) (.ref h_tra) (.int z10)))), (h_bto, .inl (cy_bto, 256, .inl f12)), (h_tra, .inl (cy_tra, 256, .inl f_tra))] := by rw [ef12]; exact hD9
        have hS := hS9
        clear hP9 hD9 hS9
        have hf12 : Rg (-1) 7999 f12 := by rw [ef12]; exact rg_upd hf2 (by decide)
        have tl13 : TRL (z10).toInt f_tra f12 := by rw [ef12]; exact trl_cast (trl_step (k := z10) klp3_4 (by omega) (by omega) hf_tra ez11) (by omega)
        have tb14 : TBK (z10).toInt (x_mm_trailed).toInt f_bto f_tra f12 := by rw [ef12]; exact tb_cast (tb_step (k := z10) klp3_5 (by omega) (by omega) hf_tra ez11) (by omega) rfl
        clear ef12
        refine lv_goto (tgt := 0) hx hb dX11_takesBack_33 (by decide) ?_
        exact ih4 (z10) (f12) _ _ _ (by omega) hf12 (by omega) (by omega) (trl_cast tl13 (by omega)) (tb_cast tb14 (by omega) (by omega)) (by omega) hP hD hS (lv_sub hl [0, 1] rfl)
  exact lp3 _ (x_mm_trailed) (f_bto) _ _ _ (by first | exact hx_mm_trailed | omega) hf_bto (by omega) (by omega) (trl_cast hn_trl (by omega)) (tb_cast tb0 (by omega) (by omega)) (Nat.le_refl _) hP hD hS (lv_sub hl [0, 1] rfl)

