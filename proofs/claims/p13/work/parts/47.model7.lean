theorem w_code_X11_areAlike : Cond.code yX11_areAlike prog_13_method_43_code 10 (some .boolean) ∈ WALL := wall_t (tb_6 231 (by decide +kernel)) rfl
theorem w_code_X11_binds : Cond.code yX11_binds prog_13_method_38_code 4 none ∈ WALL := wall_t (tb_6 145 (by decide +kernel)) rfl
theorem w_code_X11_counts : Cond.code yX11_counts prog_13_method_44_code 7 none ∈ WALL := wall_t (tb_6 223 (by decide +kernel)) rfl
theorem w_code_X11_goesTo : Cond.code yX11_goesTo prog_13_method_40_code 4 none ∈ WALL := wall_t (tb_6 133 (by decide +kernel)) rfl
theorem w_code_X11_holds : Cond.code yX11_holds prog_13_method_41_code 7 (some .boolean) ∈ WALL := wall_t (tb_6 141 (by decide +kernel)) rfl
theorem w_code_X11_slotOf : Cond.code yX11_slotOf prog_13_method_39_code 3 (some .int) ∈ WALL := wall_t (tb_6 137 (by decide +kernel)) rfl
theorem w_code_X11_unifies : Cond.code yX11_unifies prog_13_method_42_code 10 (some .boolean) ∈ WALL := wall_t (tb_6 129 (by decide +kernel)) rfl
theorem w_f_X11_198 : Cond.fieldLink "OppositePairsModel" 198 "OppositePairsModel" "boundIn" "[I" ∈ WALL := wall_t (tb_5 166 (by decide +kernel)) rfl
theorem w_f_X11_264 : Cond.fieldLink "OppositePairsModel" 264 "OppositePairsModel" "goneTo" "I" ∈ WALL := wall_t (tb_5 169 (by decide +kernel)) rfl
theorem w_f_X11_267 : Cond.fieldLink "OppositePairsModel" 267 "OppositePairsModel" "goneIn" "I" ∈ WALL := wall_t (tb_5 170 (by decide +kernel)) rfl
theorem w_f_X11_291 : Cond.fieldLink "OppositePairsModel" 291 "OppositePairsModel" "counted" "I" ∈ WALL := wall_t (tb_5 171 (by decide +kernel)) rfl
theorem w_instanceMethod_X11_areAlike : Cond.instanceMethod yX11_areAlike ∈ WALL := wall_t (tb_6 230 (by decide +kernel)) rfl
theorem w_instanceMethod_X11_binds : Cond.instanceMethod yX11_binds ∈ WALL := wall_t (tb_6 144 (by decide +kernel)) rfl
theorem w_instanceMethod_X11_counts : Cond.instanceMethod yX11_counts ∈ WALL := wall_t (tb_6 222 (by decide +kernel)) rfl
theorem w_instanceMethod_X11_goesTo : Cond.instanceMethod yX11_goesTo ∈ WALL := wall_t (tb_6 132 (by decide +kernel)) rfl
theorem w_instanceMethod_X11_holds : Cond.instanceMethod yX11_holds ∈ WALL := wall_t (tb_6 140 (by decide +kernel)) rfl
theorem w_instanceMethod_X11_slotOf : Cond.instanceMethod yX11_slotOf ∈ WALL := wall_t (tb_6 136 (by decide +kernel)) rfl
theorem w_instanceMethod_X11_unifies : Cond.instanceMethod yX11_unifies ∈ WALL := wall_t (tb_6 128 (by decide +kernel)) rfl
theorem w_m_X11_270 : Cond.methodLink "OppositePairsModel" 270 yX11_slotOf ∈ WALL := wall_t (tb_6 134 (by decide +kernel)) rfl
theorem w_m_X11_273 : Cond.methodLink "OppositePairsModel" 273 yX11_goesTo ∈ WALL := wall_t (tb_6 130 (by decide +kernel)) rfl
theorem w_m_X11_276 : Cond.methodLink "OppositePairsModel" 276 yX11_holds ∈ WALL := wall_t (tb_6 138 (by decide +kernel)) rfl
theorem w_m_X11_280 : Cond.methodLink "OppositePairsModel" 280 yX11_binds ∈ WALL := wall_t (tb_6 142 (by decide +kernel)) rfl
theorem w_m_X11_284 : Cond.methodLink "OppositePairsModel" 284 yX11_unifies ∈ WALL := wall_t (tb_6 126 (by decide +kernel)) rfl
theorem w_m_X11_288 : Cond.methodLink "OppositePairsModel" 288 yX11_areAlike ∈ WALL := wall_t (tb_6 228 (by decide +kernel)) rfl
theorem w_m_X11_294 : Cond.methodLink "OppositePairsModel" 294 yX11_counts ∈ WALL := wall_t (tb_6 220 (by decide +kernel)) rfl
theorem ws_sel_X11_areAlike : Cond.selects "OppositePairsModel" yX11_areAlike yX11_areAlike ∈ WALL := wall_s 134 (by decide +kernel) rfl
theorem ws_sel_X11_binds : Cond.selects "OppositePairsModel" yX11_binds yX11_binds ∈ WALL := wall_s 116 (by decide +kernel) rfl
theorem ws_sel_X11_counts : Cond.selects "OppositePairsModel" yX11_counts yX11_counts ∈ WALL := wall_s 132 (by decide +kernel) rfl
theorem ws_sel_X11_goesTo : Cond.selects "OppositePairsModel" yX11_goesTo yX11_goesTo ∈ WALL := wall_s 113 (by decide +kernel) rfl
theorem ws_sel_X11_holds : Cond.selects "OppositePairsModel" yX11_holds yX11_holds ∈ WALL := wall_s 115 (by decide +kernel) rfl
theorem ws_sel_X11_slotOf : Cond.selects "OppositePairsModel" yX11_slotOf yX11_slotOf ∈ WALL := wall_s 114 (by decide +kernel) rfl
theorem ws_sel_X11_unifies : Cond.selects "OppositePairsModel" yX11_unifies yX11_unifies ∈ WALL := wall_s 112 (by decide +kernel) rfl
theorem dX11_areAlike_0 : decode cX11_areAlike 0 = .ok (.aload_n 0, 1) := by decide +kernel
theorem dX11_areAlike_1 : decode cX11_areAlike 1 = .ok (.iload_n 1, 1) := by decide +kernel
theorem dX11_areAlike_10 : decode cX11_areAlike 10 = .ok (.istore 5, 2) := by decide +kernel
theorem dX11_areAlike_100 : decode cX11_areAlike 100 = .ok (.iconst 1, 1) := by decide +kernel
theorem dX11_areAlike_101 : decode cX11_areAlike 101 = .ok (.goto 4, 3) := by decide +kernel
theorem dX11_areAlike_104 : decode cX11_areAlike 104 = .ok (.iconst 0, 1) := by decide +kernel
theorem dX11_areAlike_105 : decode cX11_areAlike 105 = .ok (.ireturn, 1) := by decide +kernel
theorem dX11_areAlike_106 : decode cX11_areAlike 106 = .ok (.aload_n 0, 1) := by decide +kernel
theorem dX11_areAlike_107 : decode cX11_areAlike 107 = .ok (.getfield 23, 3) := by decide +kernel
theorem dX11_areAlike_110 : decode cX11_areAlike 110 = .ok (.iload 5, 2) := by decide +kernel
theorem dX11_areAlike_112 : decode cX11_areAlike 112 = .ok (.laload, 1) := by decide +kernel
theorem dX11_areAlike_113 : decode cX11_areAlike 113 = .ok (.aload_n 0, 1) := by decide +kernel
theorem dX11_areAlike_114 : decode cX11_areAlike 114 = .ok (.getfield 23, 3) := by decide +kernel
theorem dX11_areAlike_117 : decode cX11_areAlike 117 = .ok (.iload 7, 2) := by decide +kernel
theorem dX11_areAlike_119 : decode cX11_areAlike 119 = .ok (.laload, 1) := by decide +kernel
theorem dX11_areAlike_12 : decode cX11_areAlike 12 = .ok (.aload_n 0, 1) := by decide +kernel
theorem dX11_areAlike_120 : decode cX11_areAlike 120 = .ok (.lcmp, 1) := by decide +kernel
theorem dX11_areAlike_121 : decode cX11_areAlike 121 = .ok (.ifCond .ne 18, 3) := by decide +kernel
theorem dX11_areAlike_124 : decode cX11_areAlike 124 = .ok (.aload_n 0, 1) := by decide +kernel
theorem dX11_areAlike_125 : decode cX11_areAlike 125 = .ok (.iload 5, 2) := by decide +kernel
theorem dX11_areAlike_127 : decode cX11_areAlike 127 = .ok (.invokevirtual 27, 3) := by decide +kernel
theorem dX11_areAlike_13 : decode cX11_areAlike 13 = .ok (.getfield 267, 3) := by decide +kernel
theorem dX11_areAlike_130 : decode cX11_areAlike 130 = .ok (.aload_n 0, 1) := by decide +kernel
theorem dX11_areAlike_131 : decode cX11_areAlike 131 = .ok (.iload 7, 2) := by decide +kernel
theorem dX11_areAlike_133 : decode cX11_areAlike 133 = .ok (.invokevirtual 27, 3) := by decide +kernel
theorem dX11_areAlike_136 : decode cX11_areAlike 136 = .ok (.if_icmp .eq 5, 3) := by decide +kernel
theorem dX11_areAlike_139 : decode cX11_areAlike 139 = .ok (.iconst 0, 1) := by decide +kernel
theorem dX11_areAlike_140 : decode cX11_areAlike 140 = .ok (.ireturn, 1) := by decide +kernel
theorem dX11_areAlike_141 : decode cX11_areAlike 141 = .ok (.iconst 0, 1) := by decide +kernel
theorem dX11_areAlike_142 : decode cX11_areAlike 142 = .ok (.istore 9, 2) := by decide +kernel
theorem dX11_areAlike_144 : decode cX11_areAlike 144 = .ok (.iload 9, 2) := by decide +kernel
theorem dX11_areAlike_146 : decode cX11_areAlike 146 = .ok (.aload_n 0, 1) := by decide +kernel
theorem dX11_areAlike_147 : decode cX11_areAlike 147 = .ok (.iload 5, 2) := by decide +kernel
theorem dX11_areAlike_149 : decode cX11_areAlike 149 = .ok (.invokevirtual 27, 3) := by decide +kernel
theorem dX11_areAlike_152 : decode cX11_areAlike 152 = .ok (.if_icmp .ge 38, 3) := by decide +kernel
theorem dX11_areAlike_155 : decode cX11_areAlike 155 = .ok (.aload_n 0, 1) := by decide +kernel
theorem dX11_areAlike_156 : decode cX11_areAlike 156 = .ok (.aload_n 0, 1) := by decide +kernel
theorem dX11_areAlike_157 : decode cX11_areAlike 157 = .ok (.iload 5, 2) := by decide +kernel
theorem dX11_areAlike_159 : decode cX11_areAlike 159 = .ok (.iload 9, 2) := by decide +kernel
theorem dX11_areAlike_16 : decode cX11_areAlike 16 = .ok (.istore 6, 2) := by decide +kernel
theorem dX11_areAlike_161 : decode cX11_areAlike 161 = .ok (.invokevirtual 31, 3) := by decide +kernel
theorem dX11_areAlike_164 : decode cX11_areAlike 164 = .ok (.iload 6, 2) := by decide +kernel
theorem dX11_areAlike_166 : decode cX11_areAlike 166 = .ok (.aload_n 0, 1) := by decide +kernel
theorem dX11_areAlike_167 : decode cX11_areAlike 167 = .ok (.iload 7, 2) := by decide +kernel
theorem dX11_areAlike_169 : decode cX11_areAlike 169 = .ok (.iload 9, 2) := by decide +kernel
theorem dX11_areAlike_171 : decode cX11_areAlike 171 = .ok (.invokevirtual 31, 3) := by decide +kernel
theorem dX11_areAlike_174 : decode cX11_areAlike 174 = .ok (.iload 8, 2) := by decide +kernel
theorem dX11_areAlike_176 : decode cX11_areAlike 176 = .ok (.invokevirtual 288, 3) := by decide +kernel
theorem dX11_areAlike_179 : decode cX11_areAlike 179 = .ok (.ifCond .ne 5, 3) := by decide +kernel
theorem dX11_areAlike_18 : decode cX11_areAlike 18 = .ok (.aload_n 0, 1) := by decide +kernel
theorem dX11_areAlike_182 : decode cX11_areAlike 182 = .ok (.iconst 0, 1) := by decide +kernel
theorem dX11_areAlike_183 : decode cX11_areAlike 183 = .ok (.ireturn, 1) := by decide +kernel
theorem dX11_areAlike_184 : decode cX11_areAlike 184 = .ok (.iinc 9 1, 3) := by decide +kernel
theorem dX11_areAlike_187 : decode cX11_areAlike 187 = .ok (.goto (-43), 3) := by decide +kernel
theorem dX11_areAlike_19 : decode cX11_areAlike 19 = .ok (.iload_n 3, 1) := by decide +kernel
theorem dX11_areAlike_190 : decode cX11_areAlike 190 = .ok (.iconst 1, 1) := by decide +kernel
theorem dX11_areAlike_191 : decode cX11_areAlike 191 = .ok (.ireturn, 1) := by decide +kernel
theorem dX11_areAlike_2 : decode cX11_areAlike 2 = .ok (.iload_n 2, 1) := by decide +kernel
theorem dX11_areAlike_20 : decode cX11_areAlike 20 = .ok (.iload 4, 2) := by decide +kernel
theorem dX11_areAlike_22 : decode cX11_areAlike 22 = .ok (.invokevirtual 273, 3) := by decide +kernel
theorem dX11_areAlike_25 : decode cX11_areAlike 25 = .ok (.aload_n 0, 1) := by decide +kernel
theorem dX11_areAlike_26 : decode cX11_areAlike 26 = .ok (.getfield 264, 3) := by decide +kernel
theorem dX11_areAlike_29 : decode cX11_areAlike 29 = .ok (.istore 7, 2) := by decide +kernel
theorem dX11_areAlike_3 : decode cX11_areAlike 3 = .ok (.invokevirtual 273, 3) := by decide +kernel
theorem dX11_areAlike_31 : decode cX11_areAlike 31 = .ok (.aload_n 0, 1) := by decide +kernel
theorem dX11_areAlike_32 : decode cX11_areAlike 32 = .ok (.getfield 267, 3) := by decide +kernel
theorem dX11_areAlike_35 : decode cX11_areAlike 35 = .ok (.istore 8, 2) := by decide +kernel
theorem dX11_areAlike_37 : decode cX11_areAlike 37 = .ok (.aload_n 0, 1) := by decide +kernel
theorem dX11_areAlike_38 : decode cX11_areAlike 38 = .ok (.getfield 17, 3) := by decide +kernel
theorem dX11_areAlike_41 : decode cX11_areAlike 41 = .ok (.iload 5, 2) := by decide +kernel
theorem dX11_areAlike_43 : decode cX11_areAlike 43 = .ok (.iaload, 1) := by decide +kernel
theorem dX11_areAlike_44 : decode cX11_areAlike 44 = .ok (.iconst (-1), 1) := by decide +kernel
theorem dX11_areAlike_45 : decode cX11_areAlike 45 = .ok (.if_icmp .ne 14, 3) := by decide +kernel
theorem dX11_areAlike_48 : decode cX11_areAlike 48 = .ok (.aload_n 0, 1) := by decide +kernel
theorem dX11_areAlike_49 : decode cX11_areAlike 49 = .ok (.getfield 17, 3) := by decide +kernel
theorem dX11_areAlike_52 : decode cX11_areAlike 52 = .ok (.iload 7, 2) := by decide +kernel
theorem dX11_areAlike_54 : decode cX11_areAlike 54 = .ok (.iaload, 1) := by decide +kernel
theorem dX11_areAlike_55 : decode cX11_areAlike 55 = .ok (.iconst (-1), 1) := by decide +kernel
theorem dX11_areAlike_56 : decode cX11_areAlike 56 = .ok (.if_icmp .eq 50, 3) := by decide +kernel
theorem dX11_areAlike_59 : decode cX11_areAlike 59 = .ok (.aload_n 0, 1) := by decide +kernel
theorem dX11_areAlike_6 : decode cX11_areAlike 6 = .ok (.aload_n 0, 1) := by decide +kernel
theorem dX11_areAlike_60 : decode cX11_areAlike 60 = .ok (.getfield 17, 3) := by decide +kernel
theorem dX11_areAlike_63 : decode cX11_areAlike 63 = .ok (.iload 5, 2) := by decide +kernel
theorem dX11_areAlike_65 : decode cX11_areAlike 65 = .ok (.iaload, 1) := by decide +kernel
theorem dX11_areAlike_66 : decode cX11_areAlike 66 = .ok (.iconst (-1), 1) := by decide +kernel
theorem dX11_areAlike_67 : decode cX11_areAlike 67 = .ok (.if_icmp .eq 37, 3) := by decide +kernel
theorem dX11_areAlike_7 : decode cX11_areAlike 7 = .ok (.getfield 264, 3) := by decide +kernel
theorem dX11_areAlike_70 : decode cX11_areAlike 70 = .ok (.aload_n 0, 1) := by decide +kernel
theorem dX11_areAlike_71 : decode cX11_areAlike 71 = .ok (.getfield 17, 3) := by decide +kernel
theorem dX11_areAlike_74 : decode cX11_areAlike 74 = .ok (.iload 7, 2) := by decide +kernel
theorem dX11_areAlike_76 : decode cX11_areAlike 76 = .ok (.iaload, 1) := by decide +kernel
theorem dX11_areAlike_77 : decode cX11_areAlike 77 = .ok (.iconst (-1), 1) := by decide +kernel
theorem dX11_areAlike_78 : decode cX11_areAlike 78 = .ok (.if_icmp .eq 26, 3) := by decide +kernel
theorem dX11_areAlike_81 : decode cX11_areAlike 81 = .ok (.aload_n 0, 1) := by decide +kernel
theorem dX11_areAlike_82 : decode cX11_areAlike 82 = .ok (.iload 5, 2) := by decide +kernel
theorem dX11_areAlike_84 : decode cX11_areAlike 84 = .ok (.iload 6, 2) := by decide +kernel
theorem dX11_areAlike_86 : decode cX11_areAlike 86 = .ok (.invokevirtual 270, 3) := by decide +kernel
theorem dX11_areAlike_89 : decode cX11_areAlike 89 = .ok (.aload_n 0, 1) := by decide +kernel
theorem dX11_areAlike_90 : decode cX11_areAlike 90 = .ok (.iload 7, 2) := by decide +kernel
theorem dX11_areAlike_92 : decode cX11_areAlike 92 = .ok (.iload 8, 2) := by decide +kernel
theorem dX11_areAlike_94 : decode cX11_areAlike 94 = .ok (.invokevirtual 270, 3) := by decide +kernel
theorem dX11_areAlike_97 : decode cX11_areAlike 97 = .ok (.if_icmp .ne 7, 3) := by decide +kernel
theorem dX11_binds_0 : decode cX11_binds 0 = .ok (.aload_n 0, 1) := by decide +kernel
theorem dX11_binds_1 : decode cX11_binds 1 = .ok (.getfield 195, 3) := by decide +kernel
theorem dX11_binds_11 : decode cX11_binds 11 = .ok (.iload_n 1, 1) := by decide +kernel
theorem dX11_binds_12 : decode cX11_binds 12 = .ok (.iload_n 3, 1) := by decide +kernel
theorem dX11_binds_13 : decode cX11_binds 13 = .ok (.iastore, 1) := by decide +kernel
theorem dX11_binds_14 : decode cX11_binds 14 = .ok (.aload_n 0, 1) := by decide +kernel
theorem dX11_binds_15 : decode cX11_binds 15 = .ok (.getfield 201, 3) := by decide +kernel
theorem dX11_binds_18 : decode cX11_binds 18 = .ok (.aload_n 0, 1) := by decide +kernel
theorem dX11_binds_19 : decode cX11_binds 19 = .ok (.getfield 261, 3) := by decide +kernel
theorem dX11_binds_22 : decode cX11_binds 22 = .ok (.iload_n 1, 1) := by decide +kernel
theorem dX11_binds_23 : decode cX11_binds 23 = .ok (.iastore, 1) := by decide +kernel
theorem dX11_binds_24 : decode cX11_binds 24 = .ok (.aload_n 0, 1) := by decide +kernel
theorem dX11_binds_25 : decode cX11_binds 25 = .ok (.aload_n 0, 1) := by decide +kernel
theorem dX11_binds_26 : decode cX11_binds 26 = .ok (.getfield 261, 3) := by decide +kernel
theorem dX11_binds_29 : decode cX11_binds 29 = .ok (.iconst 1, 1) := by decide +kernel
theorem dX11_binds_30 : decode cX11_binds 30 = .ok (.iadd, 1) := by decide +kernel
theorem dX11_binds_31 : decode cX11_binds 31 = .ok (.putfield 261, 3) := by decide +kernel
theorem dX11_binds_34 : decode cX11_binds 34 = .ok (.return_, 1) := by decide +kernel
theorem dX11_binds_4 : decode cX11_binds 4 = .ok (.iload_n 1, 1) := by decide +kernel
theorem dX11_binds_5 : decode cX11_binds 5 = .ok (.iload_n 2, 1) := by decide +kernel
theorem dX11_binds_6 : decode cX11_binds 6 = .ok (.iastore, 1) := by decide +kernel
theorem dX11_binds_7 : decode cX11_binds 7 = .ok (.aload_n 0, 1) := by decide +kernel
theorem dX11_binds_8 : decode cX11_binds 8 = .ok (.getfield 198, 3) := by decide +kernel
theorem dX11_counts_0 : decode cX11_counts 0 = .ok (.aload_n 0, 1) := by decide +kernel
theorem dX11_counts_1 : decode cX11_counts 1 = .ok (.getfield 291, 3) := by decide +kernel
theorem dX11_counts_10 : decode cX11_counts 10 = .ok (.aload_n 0, 1) := by decide +kernel
theorem dX11_counts_11 : decode cX11_counts 11 = .ok (.getfield 291, 3) := by decide +kernel
theorem dX11_counts_14 : decode cX11_counts 14 = .ok (.iconst 1, 1) := by decide +kernel
theorem dX11_counts_15 : decode cX11_counts 15 = .ok (.iadd, 1) := by decide +kernel
theorem dX11_counts_16 : decode cX11_counts 16 = .ok (.putfield 291, 3) := by decide +kernel
theorem dX11_counts_19 : decode cX11_counts 19 = .ok (.aload_n 0, 1) := by decide +kernel
theorem dX11_counts_20 : decode cX11_counts 20 = .ok (.iload_n 1, 1) := by decide +kernel
theorem dX11_counts_21 : decode cX11_counts 21 = .ok (.iload_n 2, 1) := by decide +kernel
theorem dX11_counts_22 : decode cX11_counts 22 = .ok (.invokevirtual 273, 3) := by decide +kernel
theorem dX11_counts_25 : decode cX11_counts 25 = .ok (.aload_n 0, 1) := by decide +kernel
theorem dX11_counts_26 : decode cX11_counts 26 = .ok (.getfield 264, 3) := by decide +kernel
theorem dX11_counts_29 : decode cX11_counts 29 = .ok (.istore 4, 2) := by decide +kernel
theorem dX11_counts_31 : decode cX11_counts 31 = .ok (.aload_n 0, 1) := by decide +kernel
theorem dX11_counts_32 : decode cX11_counts 32 = .ok (.getfield 267, 3) := by decide +kernel
theorem dX11_counts_35 : decode cX11_counts 35 = .ok (.istore 5, 2) := by decide +kernel
theorem dX11_counts_37 : decode cX11_counts 37 = .ok (.iconst 0, 1) := by decide +kernel
theorem dX11_counts_38 : decode cX11_counts 38 = .ok (.istore 6, 2) := by decide +kernel
theorem dX11_counts_4 : decode cX11_counts 4 = .ok (.iload_n 3, 1) := by decide +kernel
theorem dX11_counts_40 : decode cX11_counts 40 = .ok (.iload 6, 2) := by decide +kernel
theorem dX11_counts_42 : decode cX11_counts 42 = .ok (.aload_n 0, 1) := by decide +kernel
theorem dX11_counts_43 : decode cX11_counts 43 = .ok (.iload 4, 2) := by decide +kernel
theorem dX11_counts_45 : decode cX11_counts 45 = .ok (.invokevirtual 27, 3) := by decide +kernel
theorem dX11_counts_48 : decode cX11_counts 48 = .ok (.if_icmp .ge 32, 3) := by decide +kernel
theorem dX11_counts_5 : decode cX11_counts 5 = .ok (.if_icmp .le 4, 3) := by decide +kernel
theorem dX11_counts_51 : decode cX11_counts 51 = .ok (.aload_n 0, 1) := by decide +kernel
theorem dX11_counts_52 : decode cX11_counts 52 = .ok (.getfield 291, 3) := by decide +kernel
theorem dX11_counts_55 : decode cX11_counts 55 = .ok (.iload_n 3, 1) := by decide +kernel
theorem dX11_counts_56 : decode cX11_counts 56 = .ok (.if_icmp .gt 24, 3) := by decide +kernel
theorem dX11_counts_59 : decode cX11_counts 59 = .ok (.aload_n 0, 1) := by decide +kernel
theorem dX11_counts_60 : decode cX11_counts 60 = .ok (.aload_n 0, 1) := by decide +kernel
theorem dX11_counts_61 : decode cX11_counts 61 = .ok (.iload 4, 2) := by decide +kernel
theorem dX11_counts_63 : decode cX11_counts 63 = .ok (.iload 6, 2) := by decide +kernel
theorem dX11_counts_65 : decode cX11_counts 65 = .ok (.invokevirtual 31, 3) := by decide +kernel
theorem dX11_counts_68 : decode cX11_counts 68 = .ok (.iload 5, 2) := by decide +kernel
theorem dX11_counts_70 : decode cX11_counts 70 = .ok (.iload_n 3, 1) := by decide +kernel
theorem dX11_counts_71 : decode cX11_counts 71 = .ok (.invokevirtual 294, 3) := by decide +kernel
theorem dX11_counts_74 : decode cX11_counts 74 = .ok (.iinc 6 1, 3) := by decide +kernel
theorem dX11_counts_77 : decode cX11_counts 77 = .ok (.goto (-37), 3) := by decide +kernel
theorem dX11_counts_8 : decode cX11_counts 8 = .ok (.return_, 1) := by decide +kernel
theorem dX11_counts_80 : decode cX11_counts 80 = .ok (.return_, 1) := by decide +kernel
theorem dX11_counts_9 : decode cX11_counts 9 = .ok (.aload_n 0, 1) := by decide +kernel
theorem dX11_goesTo_0 : decode cX11_goesTo 0 = .ok (.aload_n 0, 1) := by decide +kernel
theorem dX11_goesTo_1 : decode cX11_goesTo 1 = .ok (.iload_n 1, 1) := by decide +kernel
theorem dX11_goesTo_10 : decode cX11_goesTo 10 = .ok (.aload_n 0, 1) := by decide +kernel
theorem dX11_goesTo_11 : decode cX11_goesTo 11 = .ok (.getfield 17, 3) := by decide +kernel
theorem dX11_goesTo_14 : decode cX11_goesTo 14 = .ok (.aload_n 0, 1) := by decide +kernel
theorem dX11_goesTo_15 : decode cX11_goesTo 15 = .ok (.getfield 264, 3) := by decide +kernel
theorem dX11_goesTo_18 : decode cX11_goesTo 18 = .ok (.iaload, 1) := by decide +kernel
theorem dX11_goesTo_19 : decode cX11_goesTo 19 = .ok (.iconst (-1), 1) := by decide +kernel
theorem dX11_goesTo_2 : decode cX11_goesTo 2 = .ok (.putfield 264, 3) := by decide +kernel
theorem dX11_goesTo_20 : decode cX11_goesTo 20 = .ok (.if_icmp .eq 60, 3) := by decide +kernel
theorem dX11_goesTo_23 : decode cX11_goesTo 23 = .ok (.aload_n 0, 1) := by decide +kernel
theorem dX11_goesTo_24 : decode cX11_goesTo 24 = .ok (.getfield 195, 3) := by decide +kernel
theorem dX11_goesTo_27 : decode cX11_goesTo 27 = .ok (.aload_n 0, 1) := by decide +kernel
theorem dX11_goesTo_28 : decode cX11_goesTo 28 = .ok (.aload_n 0, 1) := by decide +kernel
theorem dX11_goesTo_29 : decode cX11_goesTo 29 = .ok (.getfield 264, 3) := by decide +kernel
theorem dX11_goesTo_32 : decode cX11_goesTo 32 = .ok (.aload_n 0, 1) := by decide +kernel
theorem dX11_goesTo_33 : decode cX11_goesTo 33 = .ok (.getfield 267, 3) := by decide +kernel
theorem dX11_goesTo_36 : decode cX11_goesTo 36 = .ok (.invokevirtual 270, 3) := by decide +kernel
theorem dX11_goesTo_39 : decode cX11_goesTo 39 = .ok (.iaload, 1) := by decide +kernel
theorem dX11_goesTo_40 : decode cX11_goesTo 40 = .ok (.iconst (-1), 1) := by decide +kernel
theorem dX11_goesTo_41 : decode cX11_goesTo 41 = .ok (.if_icmp .eq 39, 3) := by decide +kernel
theorem dX11_goesTo_44 : decode cX11_goesTo 44 = .ok (.aload_n 0, 1) := by decide +kernel
theorem dX11_goesTo_45 : decode cX11_goesTo 45 = .ok (.aload_n 0, 1) := by decide +kernel
theorem dX11_goesTo_46 : decode cX11_goesTo 46 = .ok (.getfield 264, 3) := by decide +kernel
theorem dX11_goesTo_49 : decode cX11_goesTo 49 = .ok (.aload_n 0, 1) := by decide +kernel
theorem dX11_goesTo_5 : decode cX11_goesTo 5 = .ok (.aload_n 0, 1) := by decide +kernel
theorem dX11_goesTo_50 : decode cX11_goesTo 50 = .ok (.getfield 267, 3) := by decide +kernel
theorem dX11_goesTo_53 : decode cX11_goesTo 53 = .ok (.invokevirtual 270, 3) := by decide +kernel
theorem dX11_goesTo_56 : decode cX11_goesTo 56 = .ok (.istore_n 3, 1) := by decide +kernel
theorem dX11_goesTo_57 : decode cX11_goesTo 57 = .ok (.aload_n 0, 1) := by decide +kernel
theorem dX11_goesTo_58 : decode cX11_goesTo 58 = .ok (.aload_n 0, 1) := by decide +kernel
theorem dX11_goesTo_59 : decode cX11_goesTo 59 = .ok (.getfield 195, 3) := by decide +kernel
theorem dX11_goesTo_6 : decode cX11_goesTo 6 = .ok (.iload_n 2, 1) := by decide +kernel
theorem dX11_goesTo_62 : decode cX11_goesTo 62 = .ok (.iload_n 3, 1) := by decide +kernel
theorem dX11_goesTo_63 : decode cX11_goesTo 63 = .ok (.iaload, 1) := by decide +kernel
theorem dX11_goesTo_64 : decode cX11_goesTo 64 = .ok (.putfield 264, 3) := by decide +kernel
theorem dX11_goesTo_67 : decode cX11_goesTo 67 = .ok (.aload_n 0, 1) := by decide +kernel
theorem dX11_goesTo_68 : decode cX11_goesTo 68 = .ok (.aload_n 0, 1) := by decide +kernel
theorem dX11_goesTo_69 : decode cX11_goesTo 69 = .ok (.getfield 198, 3) := by decide +kernel
theorem dX11_goesTo_7 : decode cX11_goesTo 7 = .ok (.putfield 267, 3) := by decide +kernel
theorem dX11_goesTo_72 : decode cX11_goesTo 72 = .ok (.iload_n 3, 1) := by decide +kernel
theorem dX11_goesTo_73 : decode cX11_goesTo 73 = .ok (.iaload, 1) := by decide +kernel
theorem dX11_goesTo_74 : decode cX11_goesTo 74 = .ok (.putfield 267, 3) := by decide +kernel
theorem dX11_goesTo_77 : decode cX11_goesTo 77 = .ok (.goto (-67), 3) := by decide +kernel
theorem dX11_goesTo_80 : decode cX11_goesTo 80 = .ok (.return_, 1) := by decide +kernel
theorem dX11_holds_0 : decode cX11_holds 0 = .ok (.aload_n 0, 1) := by decide +kernel
theorem dX11_holds_1 : decode cX11_holds 1 = .ok (.iload_n 1, 1) := by decide +kernel
theorem dX11_holds_10 : decode cX11_holds 10 = .ok (.istore 4, 2) := by decide +kernel
theorem dX11_holds_12 : decode cX11_holds 12 = .ok (.aload_n 0, 1) := by decide +kernel
theorem dX11_holds_13 : decode cX11_holds 13 = .ok (.getfield 267, 3) := by decide +kernel
theorem dX11_holds_16 : decode cX11_holds 16 = .ok (.istore 5, 2) := by decide +kernel
theorem dX11_holds_18 : decode cX11_holds 18 = .ok (.aload_n 0, 1) := by decide +kernel
theorem dX11_holds_19 : decode cX11_holds 19 = .ok (.getfield 17, 3) := by decide +kernel
theorem dX11_holds_2 : decode cX11_holds 2 = .ok (.iload_n 2, 1) := by decide +kernel
theorem dX11_holds_22 : decode cX11_holds 22 = .ok (.iload 4, 2) := by decide +kernel
theorem dX11_holds_24 : decode cX11_holds 24 = .ok (.iaload, 1) := by decide +kernel
theorem dX11_holds_25 : decode cX11_holds 25 = .ok (.iconst (-1), 1) := by decide +kernel
theorem dX11_holds_26 : decode cX11_holds 26 = .ok (.if_icmp .eq 21, 3) := by decide +kernel
theorem dX11_holds_29 : decode cX11_holds 29 = .ok (.aload_n 0, 1) := by decide +kernel
theorem dX11_holds_3 : decode cX11_holds 3 = .ok (.invokevirtual 273, 3) := by decide +kernel
theorem dX11_holds_30 : decode cX11_holds 30 = .ok (.iload 4, 2) := by decide +kernel
theorem dX11_holds_32 : decode cX11_holds 32 = .ok (.iload 5, 2) := by decide +kernel
theorem dX11_holds_34 : decode cX11_holds 34 = .ok (.invokevirtual 270, 3) := by decide +kernel
theorem dX11_holds_37 : decode cX11_holds 37 = .ok (.iload_n 3, 1) := by decide +kernel
theorem dX11_holds_38 : decode cX11_holds 38 = .ok (.if_icmp .ne 7, 3) := by decide +kernel
theorem dX11_holds_41 : decode cX11_holds 41 = .ok (.iconst 1, 1) := by decide +kernel
theorem dX11_holds_42 : decode cX11_holds 42 = .ok (.goto 4, 3) := by decide +kernel
theorem dX11_holds_45 : decode cX11_holds 45 = .ok (.iconst 0, 1) := by decide +kernel
theorem dX11_holds_46 : decode cX11_holds 46 = .ok (.ireturn, 1) := by decide +kernel
theorem dX11_holds_47 : decode cX11_holds 47 = .ok (.iconst 0, 1) := by decide +kernel
theorem dX11_holds_48 : decode cX11_holds 48 = .ok (.istore 6, 2) := by decide +kernel
theorem dX11_holds_50 : decode cX11_holds 50 = .ok (.iload 6, 2) := by decide +kernel
theorem dX11_holds_52 : decode cX11_holds 52 = .ok (.aload_n 0, 1) := by decide +kernel
theorem dX11_holds_53 : decode cX11_holds 53 = .ok (.iload 4, 2) := by decide +kernel
theorem dX11_holds_55 : decode cX11_holds 55 = .ok (.invokevirtual 27, 3) := by decide +kernel
theorem dX11_holds_58 : decode cX11_holds 58 = .ok (.if_icmp .ge 29, 3) := by decide +kernel
theorem dX11_holds_6 : decode cX11_holds 6 = .ok (.aload_n 0, 1) := by decide +kernel
theorem dX11_holds_61 : decode cX11_holds 61 = .ok (.aload_n 0, 1) := by decide +kernel
theorem dX11_holds_62 : decode cX11_holds 62 = .ok (.aload_n 0, 1) := by decide +kernel
theorem dX11_holds_63 : decode cX11_holds 63 = .ok (.iload 4, 2) := by decide +kernel
theorem dX11_holds_65 : decode cX11_holds 65 = .ok (.iload 6, 2) := by decide +kernel
theorem dX11_holds_67 : decode cX11_holds 67 = .ok (.invokevirtual 31, 3) := by decide +kernel
theorem dX11_holds_7 : decode cX11_holds 7 = .ok (.getfield 264, 3) := by decide +kernel
theorem dX11_holds_70 : decode cX11_holds 70 = .ok (.iload 5, 2) := by decide +kernel
theorem dX11_holds_72 : decode cX11_holds 72 = .ok (.iload_n 3, 1) := by decide +kernel
theorem dX11_holds_73 : decode cX11_holds 73 = .ok (.invokevirtual 276, 3) := by decide +kernel
theorem dX11_holds_76 : decode cX11_holds 76 = .ok (.ifCond .eq 5, 3) := by decide +kernel
theorem dX11_holds_79 : decode cX11_holds 79 = .ok (.iconst 1, 1) := by decide +kernel
theorem dX11_holds_80 : decode cX11_holds 80 = .ok (.ireturn, 1) := by decide +kernel
theorem dX11_holds_81 : decode cX11_holds 81 = .ok (.iinc 6 1, 3) := by decide +kernel
theorem dX11_holds_84 : decode cX11_holds 84 = .ok (.goto (-34), 3) := by decide +kernel
theorem dX11_holds_87 : decode cX11_holds 87 = .ok (.iconst 0, 1) := by decide +kernel
theorem dX11_holds_88 : decode cX11_holds 88 = .ok (.ireturn, 1) := by decide +kernel
theorem dX11_isShort_0 : decode cX11_isShort 0 = .ok (.aload_n 0, 1) := by decide +kernel
theorem dX11_isShort_1 : decode cX11_isShort 1 = .ok (.iconst 0, 1) := by decide +kernel
theorem dX11_isShort_12 : decode cX11_isShort 12 = .ok (.aload_n 0, 1) := by decide +kernel
theorem dX11_isShort_13 : decode cX11_isShort 13 = .ok (.getfield 291, 3) := by decide +kernel
theorem dX11_isShort_16 : decode cX11_isShort 16 = .ok (.iload_n 3, 1) := by decide +kernel
theorem dX11_isShort_17 : decode cX11_isShort 17 = .ok (.if_icmp .gt 7, 3) := by decide +kernel
theorem dX11_isShort_2 : decode cX11_isShort 2 = .ok (.putfield 291, 3) := by decide +kernel
theorem dX11_isShort_20 : decode cX11_isShort 20 = .ok (.iconst 1, 1) := by decide +kernel
theorem dX11_isShort_21 : decode cX11_isShort 21 = .ok (.goto 4, 3) := by decide +kernel
theorem dX11_isShort_24 : decode cX11_isShort 24 = .ok (.iconst 0, 1) := by decide +kernel
theorem dX11_isShort_25 : decode cX11_isShort 25 = .ok (.ireturn, 1) := by decide +kernel
theorem dX11_isShort_5 : decode cX11_isShort 5 = .ok (.aload_n 0, 1) := by decide +kernel
theorem dX11_isShort_6 : decode cX11_isShort 6 = .ok (.iload_n 1, 1) := by decide +kernel
theorem dX11_isShort_7 : decode cX11_isShort 7 = .ok (.iload_n 2, 1) := by decide +kernel
theorem dX11_isShort_8 : decode cX11_isShort 8 = .ok (.iload_n 3, 1) := by decide +kernel
theorem dX11_isShort_9 : decode cX11_isShort 9 = .ok (.invokevirtual 294, 3) := by decide +kernel
theorem dX11_unifies_0 : decode cX11_unifies 0 = .ok (.aload_n 0, 1) := by decide +kernel
theorem dX11_unifies_1 : decode cX11_unifies 1 = .ok (.iload_n 1, 1) := by decide +kernel
theorem dX11_unifies_10 : decode cX11_unifies 10 = .ok (.istore 5, 2) := by decide +kernel
theorem dX11_unifies_100 : decode cX11_unifies 100 = .ok (.iload 9, 2) := by decide +kernel
theorem dX11_unifies_102 : decode cX11_unifies 102 = .ok (.iload 7, 2) := by decide +kernel
theorem dX11_unifies_104 : decode cX11_unifies 104 = .ok (.iload 8, 2) := by decide +kernel
theorem dX11_unifies_106 : decode cX11_unifies 106 = .ok (.invokevirtual 280, 3) := by decide +kernel
theorem dX11_unifies_109 : decode cX11_unifies 109 = .ok (.iconst 1, 1) := by decide +kernel
theorem dX11_unifies_110 : decode cX11_unifies 110 = .ok (.ireturn, 1) := by decide +kernel
theorem dX11_unifies_111 : decode cX11_unifies 111 = .ok (.aload_n 0, 1) := by decide +kernel
theorem dX11_unifies_112 : decode cX11_unifies 112 = .ok (.getfield 17, 3) := by decide +kernel
theorem dX11_unifies_115 : decode cX11_unifies 115 = .ok (.iload 7, 2) := by decide +kernel
theorem dX11_unifies_117 : decode cX11_unifies 117 = .ok (.iaload, 1) := by decide +kernel
theorem dX11_unifies_118 : decode cX11_unifies 118 = .ok (.iconst (-1), 1) := by decide +kernel
theorem dX11_unifies_119 : decode cX11_unifies 119 = .ok (.if_icmp .eq 40, 3) := by decide +kernel
theorem dX11_unifies_12 : decode cX11_unifies 12 = .ok (.aload_n 0, 1) := by decide +kernel
theorem dX11_unifies_122 : decode cX11_unifies 122 = .ok (.aload_n 0, 1) := by decide +kernel
theorem dX11_unifies_123 : decode cX11_unifies 123 = .ok (.iload 7, 2) := by decide +kernel
theorem dX11_unifies_125 : decode cX11_unifies 125 = .ok (.iload 8, 2) := by decide +kernel
theorem dX11_unifies_127 : decode cX11_unifies 127 = .ok (.invokevirtual 270, 3) := by decide +kernel
theorem dX11_unifies_13 : decode cX11_unifies 13 = .ok (.getfield 267, 3) := by decide +kernel
theorem dX11_unifies_130 : decode cX11_unifies 130 = .ok (.istore 9, 2) := by decide +kernel
theorem dX11_unifies_132 : decode cX11_unifies 132 = .ok (.aload_n 0, 1) := by decide +kernel
theorem dX11_unifies_133 : decode cX11_unifies 133 = .ok (.iload 5, 2) := by decide +kernel
theorem dX11_unifies_135 : decode cX11_unifies 135 = .ok (.iload 6, 2) := by decide +kernel
theorem dX11_unifies_137 : decode cX11_unifies 137 = .ok (.iload 9, 2) := by decide +kernel
theorem dX11_unifies_139 : decode cX11_unifies 139 = .ok (.invokevirtual 276, 3) := by decide +kernel
theorem dX11_unifies_142 : decode cX11_unifies 142 = .ok (.ifCond .eq 5, 3) := by decide +kernel
theorem dX11_unifies_145 : decode cX11_unifies 145 = .ok (.iconst 0, 1) := by decide +kernel
theorem dX11_unifies_146 : decode cX11_unifies 146 = .ok (.ireturn, 1) := by decide +kernel
theorem dX11_unifies_147 : decode cX11_unifies 147 = .ok (.aload_n 0, 1) := by decide +kernel
theorem dX11_unifies_148 : decode cX11_unifies 148 = .ok (.iload 9, 2) := by decide +kernel
theorem dX11_unifies_150 : decode cX11_unifies 150 = .ok (.iload 5, 2) := by decide +kernel
theorem dX11_unifies_152 : decode cX11_unifies 152 = .ok (.iload 6, 2) := by decide +kernel
theorem dX11_unifies_154 : decode cX11_unifies 154 = .ok (.invokevirtual 280, 3) := by decide +kernel
theorem dX11_unifies_157 : decode cX11_unifies 157 = .ok (.iconst 1, 1) := by decide +kernel
theorem dX11_unifies_158 : decode cX11_unifies 158 = .ok (.ireturn, 1) := by decide +kernel
theorem dX11_unifies_159 : decode cX11_unifies 159 = .ok (.aload_n 0, 1) := by decide +kernel
theorem dX11_unifies_16 : decode cX11_unifies 16 = .ok (.istore 6, 2) := by decide +kernel
theorem dX11_unifies_160 : decode cX11_unifies 160 = .ok (.getfield 23, 3) := by decide +kernel
theorem dX11_unifies_163 : decode cX11_unifies 163 = .ok (.iload 5, 2) := by decide +kernel
theorem dX11_unifies_165 : decode cX11_unifies 165 = .ok (.laload, 1) := by decide +kernel
theorem dX11_unifies_166 : decode cX11_unifies 166 = .ok (.aload_n 0, 1) := by decide +kernel
theorem dX11_unifies_167 : decode cX11_unifies 167 = .ok (.getfield 23, 3) := by decide +kernel
theorem dX11_unifies_170 : decode cX11_unifies 170 = .ok (.iload 7, 2) := by decide +kernel
theorem dX11_unifies_172 : decode cX11_unifies 172 = .ok (.laload, 1) := by decide +kernel
theorem dX11_unifies_173 : decode cX11_unifies 173 = .ok (.lcmp, 1) := by decide +kernel
theorem dX11_unifies_174 : decode cX11_unifies 174 = .ok (.ifCond .ne 18, 3) := by decide +kernel
theorem dX11_unifies_177 : decode cX11_unifies 177 = .ok (.aload_n 0, 1) := by decide +kernel
theorem dX11_unifies_178 : decode cX11_unifies 178 = .ok (.iload 5, 2) := by decide +kernel
theorem dX11_unifies_18 : decode cX11_unifies 18 = .ok (.aload_n 0, 1) := by decide +kernel
theorem dX11_unifies_180 : decode cX11_unifies 180 = .ok (.invokevirtual 27, 3) := by decide +kernel
theorem dX11_unifies_183 : decode cX11_unifies 183 = .ok (.aload_n 0, 1) := by decide +kernel
theorem dX11_unifies_184 : decode cX11_unifies 184 = .ok (.iload 7, 2) := by decide +kernel
theorem dX11_unifies_186 : decode cX11_unifies 186 = .ok (.invokevirtual 27, 3) := by decide +kernel
theorem dX11_unifies_189 : decode cX11_unifies 189 = .ok (.if_icmp .eq 5, 3) := by decide +kernel
theorem dX11_unifies_19 : decode cX11_unifies 19 = .ok (.iload_n 3, 1) := by decide +kernel
theorem dX11_unifies_192 : decode cX11_unifies 192 = .ok (.iconst 0, 1) := by decide +kernel
theorem dX11_unifies_193 : decode cX11_unifies 193 = .ok (.ireturn, 1) := by decide +kernel
theorem dX11_unifies_194 : decode cX11_unifies 194 = .ok (.iconst 0, 1) := by decide +kernel
theorem dX11_unifies_195 : decode cX11_unifies 195 = .ok (.istore 9, 2) := by decide +kernel
theorem dX11_unifies_197 : decode cX11_unifies 197 = .ok (.iload 9, 2) := by decide +kernel
theorem dX11_unifies_199 : decode cX11_unifies 199 = .ok (.aload_n 0, 1) := by decide +kernel
theorem dX11_unifies_2 : decode cX11_unifies 2 = .ok (.iload_n 2, 1) := by decide +kernel
theorem dX11_unifies_20 : decode cX11_unifies 20 = .ok (.iload 4, 2) := by decide +kernel
theorem dX11_unifies_200 : decode cX11_unifies 200 = .ok (.iload 5, 2) := by decide +kernel
theorem dX11_unifies_202 : decode cX11_unifies 202 = .ok (.invokevirtual 27, 3) := by decide +kernel
theorem dX11_unifies_205 : decode cX11_unifies 205 = .ok (.if_icmp .ge 38, 3) := by decide +kernel
theorem dX11_unifies_208 : decode cX11_unifies 208 = .ok (.aload_n 0, 1) := by decide +kernel
theorem dX11_unifies_209 : decode cX11_unifies 209 = .ok (.aload_n 0, 1) := by decide +kernel
theorem dX11_unifies_210 : decode cX11_unifies 210 = .ok (.iload 5, 2) := by decide +kernel
theorem dX11_unifies_212 : decode cX11_unifies 212 = .ok (.iload 9, 2) := by decide +kernel
theorem dX11_unifies_214 : decode cX11_unifies 214 = .ok (.invokevirtual 31, 3) := by decide +kernel
theorem dX11_unifies_217 : decode cX11_unifies 217 = .ok (.iload 6, 2) := by decide +kernel
theorem dX11_unifies_219 : decode cX11_unifies 219 = .ok (.aload_n 0, 1) := by decide +kernel
theorem dX11_unifies_22 : decode cX11_unifies 22 = .ok (.invokevirtual 273, 3) := by decide +kernel
theorem dX11_unifies_220 : decode cX11_unifies 220 = .ok (.iload 7, 2) := by decide +kernel
theorem dX11_unifies_222 : decode cX11_unifies 222 = .ok (.iload 9, 2) := by decide +kernel
theorem dX11_unifies_224 : decode cX11_unifies 224 = .ok (.invokevirtual 31, 3) := by decide +kernel
theorem dX11_unifies_227 : decode cX11_unifies 227 = .ok (.iload 8, 2) := by decide +kernel
theorem dX11_unifies_229 : decode cX11_unifies 229 = .ok (.invokevirtual 284, 3) := by decide +kernel
theorem dX11_unifies_232 : decode cX11_unifies 232 = .ok (.ifCond .ne 5, 3) := by decide +kernel
theorem dX11_unifies_235 : decode cX11_unifies 235 = .ok (.iconst 0, 1) := by decide +kernel
theorem dX11_unifies_236 : decode cX11_unifies 236 = .ok (.ireturn, 1) := by decide +kernel
theorem dX11_unifies_237 : decode cX11_unifies 237 = .ok (.iinc 9 1, 3) := by decide +kernel
theorem dX11_unifies_240 : decode cX11_unifies 240 = .ok (.goto (-43), 3) := by decide +kernel
theorem dX11_unifies_243 : decode cX11_unifies 243 = .ok (.iconst 1, 1) := by decide +kernel
theorem dX11_unifies_244 : decode cX11_unifies 244 = .ok (.ireturn, 1) := by decide +kernel
theorem dX11_unifies_25 : decode cX11_unifies 25 = .ok (.aload_n 0, 1) := by decide +kernel
theorem dX11_unifies_26 : decode cX11_unifies 26 = .ok (.getfield 264, 3) := by decide +kernel
theorem dX11_unifies_29 : decode cX11_unifies 29 = .ok (.istore 7, 2) := by decide +kernel
theorem dX11_unifies_3 : decode cX11_unifies 3 = .ok (.invokevirtual 273, 3) := by decide +kernel
theorem dX11_unifies_31 : decode cX11_unifies 31 = .ok (.aload_n 0, 1) := by decide +kernel
theorem dX11_unifies_32 : decode cX11_unifies 32 = .ok (.getfield 267, 3) := by decide +kernel
theorem dX11_unifies_35 : decode cX11_unifies 35 = .ok (.istore 8, 2) := by decide +kernel
theorem dX11_unifies_37 : decode cX11_unifies 37 = .ok (.aload_n 0, 1) := by decide +kernel
theorem dX11_unifies_38 : decode cX11_unifies 38 = .ok (.getfield 17, 3) := by decide +kernel
theorem dX11_unifies_41 : decode cX11_unifies 41 = .ok (.iload 5, 2) := by decide +kernel
theorem dX11_unifies_43 : decode cX11_unifies 43 = .ok (.iaload, 1) := by decide +kernel
theorem dX11_unifies_44 : decode cX11_unifies 44 = .ok (.iconst (-1), 1) := by decide +kernel
theorem dX11_unifies_45 : decode cX11_unifies 45 = .ok (.if_icmp .eq 66, 3) := by decide +kernel
theorem dX11_unifies_48 : decode cX11_unifies 48 = .ok (.aload_n 0, 1) := by decide +kernel
theorem dX11_unifies_49 : decode cX11_unifies 49 = .ok (.iload 5, 2) := by decide +kernel
theorem dX11_unifies_51 : decode cX11_unifies 51 = .ok (.iload 6, 2) := by decide +kernel
theorem dX11_unifies_53 : decode cX11_unifies 53 = .ok (.invokevirtual 270, 3) := by decide +kernel
theorem dX11_unifies_56 : decode cX11_unifies 56 = .ok (.istore 9, 2) := by decide +kernel
theorem dX11_unifies_58 : decode cX11_unifies 58 = .ok (.aload_n 0, 1) := by decide +kernel
theorem dX11_unifies_59 : decode cX11_unifies 59 = .ok (.getfield 17, 3) := by decide +kernel
theorem dX11_unifies_6 : decode cX11_unifies 6 = .ok (.aload_n 0, 1) := by decide +kernel
theorem dX11_unifies_62 : decode cX11_unifies 62 = .ok (.iload 7, 2) := by decide +kernel
theorem dX11_unifies_64 : decode cX11_unifies 64 = .ok (.iaload, 1) := by decide +kernel
theorem dX11_unifies_65 : decode cX11_unifies 65 = .ok (.iconst (-1), 1) := by decide +kernel
theorem dX11_unifies_66 : decode cX11_unifies 66 = .ok (.if_icmp .eq 18, 3) := by decide +kernel
theorem dX11_unifies_69 : decode cX11_unifies 69 = .ok (.aload_n 0, 1) := by decide +kernel
theorem dX11_unifies_7 : decode cX11_unifies 7 = .ok (.getfield 264, 3) := by decide +kernel
theorem dX11_unifies_70 : decode cX11_unifies 70 = .ok (.iload 7, 2) := by decide +kernel
theorem dX11_unifies_72 : decode cX11_unifies 72 = .ok (.iload 8, 2) := by decide +kernel
theorem dX11_unifies_74 : decode cX11_unifies 74 = .ok (.invokevirtual 270, 3) := by decide +kernel
theorem dX11_unifies_77 : decode cX11_unifies 77 = .ok (.iload 9, 2) := by decide +kernel
theorem dX11_unifies_79 : decode cX11_unifies 79 = .ok (.if_icmp .ne 5, 3) := by decide +kernel
theorem dX11_unifies_82 : decode cX11_unifies 82 = .ok (.iconst 1, 1) := by decide +kernel
theorem dX11_unifies_83 : decode cX11_unifies 83 = .ok (.ireturn, 1) := by decide +kernel
theorem dX11_unifies_84 : decode cX11_unifies 84 = .ok (.aload_n 0, 1) := by decide +kernel
theorem dX11_unifies_85 : decode cX11_unifies 85 = .ok (.iload 7, 2) := by decide +kernel
theorem dX11_unifies_87 : decode cX11_unifies 87 = .ok (.iload 8, 2) := by decide +kernel
theorem dX11_unifies_89 : decode cX11_unifies 89 = .ok (.iload 9, 2) := by decide +kernel
theorem dX11_unifies_91 : decode cX11_unifies 91 = .ok (.invokevirtual 276, 3) := by decide +kernel
theorem dX11_unifies_94 : decode cX11_unifies 94 = .ok (.ifCond .eq 5, 3) := by decide +kernel
theorem dX11_unifies_97 : decode cX11_unifies 97 = .ok (.iconst 0, 1) := by decide +kernel
theorem dX11_unifies_98 : decode cX11_unifies 98 = .ok (.ireturn, 1) := by decide +kernel
theorem dX11_unifies_99 : decode cX11_unifies 99 = .ok (.aload_n 0, 1) := by decide +kernel
abbrev mo134 (v : Nat → Value) (a1 a3 a4 a5 a27 a28 a31 a32 : Value) : List Value := ((v 0) :: a1 :: (v 2) :: a3 :: a4 :: a5 :: (v 6) :: (v 7) :: (v 8) :: (v 9) :: (v 10) :: (v 11) :: (v 12) :: (v 13) :: (v 14) :: (v 15) :: (v 16) :: (v 17) :: (v 18) :: (v 19) :: (v 20) :: (v 21) :: (v 22) :: (v 23) :: (v 24) :: (v 25) :: (v 26) :: a27 :: a28 :: (v 29) :: (v 30) :: a31 :: a32 :: (v 33) :: (v 34) :: (v 35) :: (v 36) :: (v 37) :: (v 38) :: (v 39) :: (v 40) :: (v 41) :: (v 42) :: [(v 43), (v 44), (v 45), (v 46), (v 47), (v 48), (v 49), (v 50), (v 51), (v 52), (v 53), (v 54), (v 55), (v 56), (v 57), (v 58), (v 59), (v 60), (v 61), (v 62), (v 63), (v 64), (v 65), (v 66), (v 67), (v 68), (v 69), (v 70)])
abbrev mo135 (v : Nat → Value) (a27 a28 a29 a30 : Value) : List Value := ((v 0) :: (v 1) :: (v 2) :: (v 3) :: (v 4) :: (v 5) :: (v 6) :: (v 7) :: (v 8) :: (v 9) :: (v 10) :: (v 11) :: (v 12) :: (v 13) :: (v 14) :: (v 15) :: (v 16) :: (v 17) :: (v 18) :: (v 19) :: (v 20) :: (v 21) :: (v 22) :: (v 23) :: (v 24) :: (v 25) :: (v 26) :: a27 :: a28 :: a29 :: a30 :: (v 31) :: (v 32) :: (v 33) :: (v 34) :: (v 35) :: (v 36) :: (v 37) :: (v 38) :: (v 39) :: (v 40) :: (v 41) :: (v 42) :: [(v 43), (v 44), (v 45), (v 46), (v 47), (v 48), (v 49), (v 50), (v 51), (v 52), (v 53), (v 54), (v 55), (v 56), (v 57), (v 58), (v 59), (v 60), (v 61), (v 62), (v 63), (v 64), (v 65), (v 66), (v 67), (v 68), (v 69), (v 70)])
abbrev mo136 (v : Nat → Value) (a1 a2 a3 a4 a5 a27 a28 a29 a30 a31 a32 : Value) : List Value := ((v 0) :: a1 :: a2 :: a3 :: a4 :: a5 :: (v 6) :: (v 7) :: (v 8) :: (v 9) :: (v 10) :: (v 11) :: (v 12) :: (v 13) :: (v 14) :: (v 15) :: (v 16) :: (v 17) :: (v 18) :: (v 19) :: (v 20) :: (v 21) :: (v 22) :: (v 23) :: (v 24) :: (v 25) :: (v 26) :: a27 :: a28 :: a29 :: a30 :: a31 :: a32 :: (v 33) :: (v 34) :: (v 35) :: (v 36) :: (v 37) :: (v 38) :: (v 39) :: (v 40) :: (v 41) :: (v 42) :: [(v 43), (v 44), (v 45), (v 46), (v 47), (v 48), (v 49), (v 50), (v 51), (v 52), (v 53), (v 54), (v 55), (v 56), (v 57), (v 58), (v 59), (v 60), (v 61), (v 62), (v 63), (v 64), (v 65), (v 66), (v 67), (v 68), (v 69), (v 70)])
abbrev mo137 (v : Nat → Value) (a1 a2 a3 a4 a5 a27 a28 a31 a32 : Value) : List Value := ((v 0) :: a1 :: a2 :: a3 :: a4 :: a5 :: (v 6) :: (v 7) :: (v 8) :: (v 9) :: (v 10) :: (v 11) :: (v 12) :: (v 13) :: (v 14) :: (v 15) :: (v 16) :: (v 17) :: (v 18) :: (v 19) :: (v 20) :: (v 21) :: (v 22) :: (v 23) :: (v 24) :: (v 25) :: (v 26) :: a27 :: a28 :: (v 29) :: (v 30) :: a31 :: a32 :: (v 33) :: (v 34) :: (v 35) :: (v 36) :: (v 37) :: (v 38) :: (v 39) :: (v 40) :: (v 41) :: (v 42) :: [(v 43), (v 44), (v 45), (v 46), (v 47), (v 48), (v 49), (v 50), (v 51), (v 52), (v 53), (v 54), (v 55), (v 56), (v 57), (v 58), (v 59), (v 60), (v 61), (v 62), (v 63), (v 64), (v 65), (v 66), (v 67), (v 68), (v 69), (v 70)])
abbrev mo138 (v : Nat → Value) (a1 a3 a4 a5 a27 a28 a31 a32 a33 : Value) : List Value := ((v 0) :: a1 :: (v 2) :: a3 :: a4 :: a5 :: (v 6) :: (v 7) :: (v 8) :: (v 9) :: (v 10) :: (v 11) :: (v 12) :: (v 13) :: (v 14) :: (v 15) :: (v 16) :: (v 17) :: (v 18) :: (v 19) :: (v 20) :: (v 21) :: (v 22) :: (v 23) :: (v 24) :: (v 25) :: (v 26) :: a27 :: a28 :: (v 29) :: (v 30) :: a31 :: a32 :: a33 :: (v 34) :: (v 35) :: (v 36) :: (v 37) :: (v 38) :: (v 39) :: (v 40) :: (v 41) :: (v 42) :: [(v 43), (v 44), (v 45), (v 46), (v 47), (v 48), (v 49), (v 50), (v 51), (v 52), (v 53), (v 54), (v 55), (v 56), (v 57), (v 58), (v 59), (v 60), (v 61), (v 62), (v 63), (v 64), (v 65), (v 66), (v 67), (v 68), (v 69), (v 70)])
set_option maxRecDepth 100000 in
theorem mq134_129 (v : Nat → Value) (b3 b4 b5 b27 b28 b31 b32 : Value) : ∃ w : Nat → Value, ∀ (a1 : Value), mo129 w a1 = (mo134 v a1 b3 b4 b5 b27 b28 b31 b32) := ⟨fun k => List.getD (mo134 v .null b3 b4 b5 b27 b28 b31 b32) k .null, fun _ => rfl⟩
set_option maxRecDepth 100000 in
theorem mq134_86 (v : Nat → Value) (b27 b28 b31 b32 : Value) : ∃ w : Nat → Value, ∀ (a1 a3 a4 a5 : Value), mo86 w a1 a3 a4 a5 = (mo134 v a1 a3 a4 a5 b27 b28 b31 b32) := ⟨fun k => List.getD (mo134 v .null .null .null .null b27 b28 b31 b32) k .null, fun _ _ _ _ => rfl⟩
set_option maxRecDepth 100000 in
theorem mq134_85 (v : Nat → Value) (b1 b27 b28 b31 b32 : Value) : ∃ w : Nat → Value, ∀ (a3 a4 a5 : Value), mo85 w a3 a4 a5 = (mo134 v b1 a3 a4 a5 b27 b28 b31 b32) := ⟨fun k => List.getD (mo134 v b1 .null .null .null b27 b28 b31 b32) k .null, fun _ _ _ => rfl⟩
set_option maxRecDepth 100000 in
theorem mq136_134 (v : Nat → Value) (b2 b29 b30 : Value) : ∃ w : Nat → Value, ∀ (a1 a3 a4 a5 a27 a28 a31 a32 : Value), mo134 w a1 a3 a4 a5 a27 a28 a31 a32 = (mo136 v a1 b2 a3 a4 a5 a27 a28 b29 b30 a31 a32) := ⟨fun k => List.getD (mo136 v .null b2 .null .null .null .null .null b29 b30 .null .null) k .null, fun _ _ _ _ _ _ _ _ => rfl⟩
set_option maxRecDepth 100000 in
theorem mq136_86 (v : Nat → Value) (b2 b27 b28 b29 b30 b31 b32 : Value) : ∃ w : Nat → Value, ∀ (a1 a3 a4 a5 : Value), mo86 w a1 a3 a4 a5 = (mo136 v a1 b2 a3 a4 a5 b27 b28 b29 b30 b31 b32) := ⟨fun k => List.getD (mo136 v .null b2 .null .null .null b27 b28 b29 b30 b31 b32) k .null, fun _ _ _ _ => rfl⟩
set_option maxRecDepth 100000 in
theorem mq136_85 (v : Nat → Value) (b1 b2 b27 b28 b29 b30 b31 b32 : Value) : ∃ w : Nat → Value, ∀ (a3 a4 a5 : Value), mo85 w a3 a4 a5 = (mo136 v b1 b2 a3 a4 a5 b27 b28 b29 b30 b31 b32) := ⟨fun k => List.getD (mo136 v b1 b2 .null .null .null b27 b28 b29 b30 b31 b32) k .null, fun _ _ _ => rfl⟩
set_option maxRecDepth 100000 in
theorem mq136_129 (v : Nat → Value) (b2 b3 b4 b5 b27 b28 b29 b30 b31 b32 : Value) : ∃ w : Nat → Value, ∀ (a1 : Value), mo129 w a1 = (mo136 v a1 b2 b3 b4 b5 b27 b28 b29 b30 b31 b32) := ⟨fun k => List.getD (mo136 v .null b2 b3 b4 b5 b27 b28 b29 b30 b31 b32) k .null, fun _ => rfl⟩
set_option maxRecDepth 100000 in
theorem mq136_135 (v : Nat → Value) (b1 b2 b3 b4 b5 b31 b32 : Value) : ∃ w : Nat → Value, ∀ (a27 a28 a29 a30 : Value), mo135 w a27 a28 a29 a30 = (mo136 v b1 b2 b3 b4 b5 a27 a28 a29 a30 b31 b32) := ⟨fun k => List.getD (mo136 v b1 b2 b3 b4 b5 .null .null .null .null b31 b32) k .null, fun _ _ _ _ => rfl⟩
set_option maxRecDepth 100000 in
theorem mq137_134 (v : Nat → Value) (b2 : Value) : ∃ w : Nat → Value, ∀ (a1 a3 a4 a5 a27 a28 a31 a32 : Value), mo134 w a1 a3 a4 a5 a27 a28 a31 a32 = (mo137 v a1 b2 a3 a4 a5 a27 a28 a31 a32) := ⟨fun k => List.getD (mo137 v .null b2 .null .null .null .null .null .null .null) k .null, fun _ _ _ _ _ _ _ _ => rfl⟩
set_option maxRecDepth 100000 in
theorem mq137_129 (v : Nat → Value) (b2 b3 b4 b5 b27 b28 b31 b32 : Value) : ∃ w : Nat → Value, ∀ (a1 : Value), mo129 w a1 = (mo137 v a1 b2 b3 b4 b5 b27 b28 b31 b32) := ⟨fun k => List.getD (mo137 v .null b2 b3 b4 b5 b27 b28 b31 b32) k .null, fun _ => rfl⟩
set_option maxRecDepth 100000 in
theorem mq137_86 (v : Nat → Value) (b2 b27 b28 b31 b32 : Value) : ∃ w : Nat → Value, ∀ (a1 a3 a4 a5 : Value), mo86 w a1 a3 a4 a5 = (mo137 v a1 b2 a3 a4 a5 b27 b28 b31 b32) := ⟨fun k => List.getD (mo137 v .null b2 .null .null .null b27 b28 b31 b32) k .null, fun _ _ _ _ => rfl⟩
set_option maxRecDepth 100000 in
theorem mq137_85 (v : Nat → Value) (b1 b2 b27 b28 b31 b32 : Value) : ∃ w : Nat → Value, ∀ (a3 a4 a5 : Value), mo85 w a3 a4 a5 = (mo137 v b1 b2 a3 a4 a5 b27 b28 b31 b32) := ⟨fun k => List.getD (mo137 v b1 b2 .null .null .null b27 b28 b31 b32) k .null, fun _ _ _ => rfl⟩
set_option maxRecDepth 100000 in
theorem mq138_134 (v : Nat → Value) (b33 : Value) : ∃ w : Nat → Value, ∀ (a1 a3 a4 a5 a27 a28 a31 a32 : Value), mo134 w a1 a3 a4 a5 a27 a28 a31 a32 = (mo138 v a1 a3 a4 a5 a27 a28 a31 a32 b33) := ⟨fun k => List.getD (mo138 v .null .null .null .null .null .null .null .null b33) k .null, fun _ _ _ _ _ _ _ _ => rfl⟩
set_option maxRecDepth 100000 in
theorem mq138_86 (v : Nat → Value) (b27 b28 b31 b32 b33 : Value) : ∃ w : Nat → Value, ∀ (a1 a3 a4 a5 : Value), mo86 w a1 a3 a4 a5 = (mo138 v a1 a3 a4 a5 b27 b28 b31 b32 b33) := ⟨fun k => List.getD (mo138 v .null .null .null .null b27 b28 b31 b32 b33) k .null, fun _ _ _ _ => rfl⟩
set_option maxRecDepth 100000 in
theorem mq138_85 (v : Nat → Value) (b1 b27 b28 b31 b32 b33 : Value) : ∃ w : Nat → Value, ∀ (a3 a4 a5 : Value), mo85 w a3 a4 a5 = (mo138 v b1 a3 a4 a5 b27 b28 b31 b32 b33) := ⟨fun k => List.getD (mo138 v b1 .null .null .null b27 b28 b31 b32 b33) k .null, fun _ _ _ => rfl⟩
set_option maxHeartbeats 8000000 in
set_option maxRecDepth 100000 in
theorem c_X11_goesTo (l : Launch) (dC : Nat → ClassId) (dI : Nat → Nat → Nat) (sz : Nat) (h_mm : Nat) (h_nv : Nat) (h_na : Nat) (h_nb : Nat) (h_nc : Nat) (h_bto : Nat) (h_bin : Nat) (v_mm : Nat → Value) (x_mm_goneTo : Int32) (x_mm_goneIn : Int32) (cy_nv : ClassId) (f_nv : Nat → Int32) (cy_na : ClassId) (f_na : Nat → Int32) (cy_nb : ClassId) (f_nb : Nat → Int32) (cy_nc : ClassId) (f_nc : Nat → Int32) (cy_bto : ClassId) (f_bto : Nat → Int32) (cy_bin : ClassId) (f_bin : Nat → Int32) (p1 : Int32) (p2 : Int32) (i0 : Int) (i1 : Int) (N : Int) (hz : Nat → Nat) (g : GVT) (P : List Nat) (fu : Nat) (hx_mm_goneTo : 0 ≤ (x_mm_goneTo).toInt ∧ (x_mm_goneTo).toInt ≤ 7999) (hx_mm_goneIn : 0 ≤ (x_mm_goneIn).toInt ∧ (x_mm_goneIn).toInt ≤ 31) (hf_nv : Rg (-1) 7 f_nv) (hf_na : Rg (-1) 7999 f_na) (hf_nb : Rg (-1) 7999 f_nb) (hf_nc : Rg (-1) 7999 f_nc) (hf_bto : Rg (-1) 7999 f_bto) (hf_bin : Rg 0 31 f_bin) (q0 : 0 ≤ i0 ∧ i0 ≤ i1 ∧ i1 ≤ 31) (q1 : N ≤ 8000) (q2 : 0 ≤ (p1).toInt ∧ (p1).toInt < N) (q3 : i0 ≤ (p2).toInt ∧ (p2).toInt ≤ i1) (q4 : hz (p1).toInt.toNat + 6 * (256 - (P).length) + 1 ≤ fu) (hn_bi : BI i0 i1 N hz f_nv f_na f_nb f_nc f_bto f_bin) (hn_pa : PA i0 P f_nv f_na f_nb f_nc f_bto f_bin (p1).toInt.toNat (p2).toInt) (hn_grv : GRV g f_nv f_na f_nb f_nc) : Met l yX11_goesTo (Ws yX11_goesTo cX11_goesTo 4 none) (({ frames := 1, cells := 0, slots := 0, locals := 22 } : Room)) (PRE (dC, dI) cls [(cy_nv, .int), (cy_na, .int), (cy_nb, .int), (cy_nc, .int), (cy_bto, .int), (cy_bin, .int)] [(h_mm, .inr (8, (mo134 v_mm (.ref h_nv) (.ref h_na) (.ref h_nb) (.ref h_nc) (.ref h_bto) (.ref h_bin) (.int x_mm_goneTo) (.int x_mm_goneIn)))), (h_nv, .inl (cy_nv, 8000, .inl f_nv)), (h_na, .inl (cy_na, 8000, .inl f_na)), (h_nb, .inl (cy_nb, 8000, .inl f_nb)), (h_nc, .inl (cy_nc, 8000, .inl f_nc)), (h_bto, .inl (cy_bto, 256, .inl f_bto)), (h_bin, .inl (cy_bin, 256, .inl f_bin))] sz [.ref h_mm, .int p1, .int p2]) (va_Qv (fun (u : (Int32) × (Int32) × (List Nat)) => (0 ≤ (u.1).toInt ∧ (u.1).toInt ≤ 7999) ∧ (0 ≤ (u.2.1).toInt ∧ (u.2.1).toInt ≤ 31) ∧ (0 ≤ (u.1).toInt ∧ (u.1).toInt < N) ∧ (i0 ≤ (u.2.1).toInt ∧ (u.2.1).toInt ≤ i1) ∧ (hz (u.1).toInt.toNat + 6 * (256 - (u.2.2).length) + 1 ≤ fu) ∧ (PA i0 u.2.2 f_nv f_na f_nb f_nc f_bto f_bin (u.1).toInt.toNat (u.2.1).toInt) ∧ ((f_nv (u.1).toInt.toNat).toInt = -1 ∨ (f_bto (8 * (u.2.1).toInt + (f_nv (u.1).toInt.toNat).toInt).toNat).toInt = -1) ∧ (∀ tt : Nat, (f_bto tt).toInt = -1 → NR f_nv f_na f_nb f_nc f_bto f_bin (u.1).toInt.toNat (u.2.1).toInt tt → NR f_nv f_na f_nb f_nc f_bto f_bin (p1).toInt.toNat (p2).toInt tt) ∧ (BRE g (BDW f_bto f_bin) (PLR p1 p2) (PLR u.1 u.2.1))) (fun (u : (Int32) × (Int32) × (List Nat)) (t : State) => va_P (dC, dI) cls [(h_mm, .inr (8, (mo134 v_mm (.ref h_nv) (.ref h_na) (.ref h_nb) (.ref h_nc) (.ref h_bto) (.ref h_bin) (.int u.1) (.int u.2.1)))), (h_nv, .inl (cy_nv, 8000, .inl f_nv)), (h_na, .inl (cy_na, 8000, .inl f_na)), (h_nb, .inl (cy_nb, 8000, .inl f_nb)), (h_nc, .inl (cy_nc, 8000, .inl f_nc)), (h_bto, .inl (cy_bto, 256, .inl f_bto)), (h_bin, .inl (cy_bin, 256, .inl f_bin))] t.heap ∧ va_D (va_A [(h_mm, .inr (8, (mo134 v_mm (.ref h_nv) (.ref h_na) (.ref h_nb) (.ref h_nc) (.ref h_bto) (.ref h_bin) (.int x_mm_goneTo) (.int x_mm_goneIn)))), (h_nv, .inl (cy_nv, 8000, .inl f_nv)), (h_na, .inl (cy_na, 8000, .inl f_na)), (h_nb, .inl (cy_nb, 8000, .inl f_nb)), (h_nc, .inl (cy_nc, 8000, .inl f_nc)), (h_bto, .inl (cy_bto, 256, .inl f_bto)), (h_bin, .inl (cy_bin, 256, .inl f_bin))] sz) [(h_mm, .inr (8, (mo134 v_mm (.ref h_nv) (.ref h_na) (.ref h_nb) (.ref h_nc) (.ref h_bto) (.ref h_bin) (.int u.1) (.int u.2.1)))), (h_nv, .inl (cy_nv, 8000, .inl f_nv)), (h_na, .inl (cy_na, 8000, .inl f_na)), (h_nb, .inl (cy_nb, 8000, .inl f_nb)), (h_nc, .inl (cy_nc, 8000, .inl f_nc)), (h_bto, .inl (cy_bto, 256, .inl f_bto)), (h_bin, .inl (cy_bin, 256, .inl f_bin))]) (va_A [(h_mm, .inr (8, (mo134 v_mm (.ref h_nv) (.ref h_na) (.ref h_nb) (.ref h_nc) (.ref h_bto) (.ref h_bin) (.int x_mm_goneTo) (.int x_mm_goneIn)))), (h_nv, .inl (cy_nv, 8000, .inl f_nv)), (h_na, .inl (cy_na, 8000, .inl f_na)), (h_nb, .inl (cy_nb, 8000, .inl f_nb)), (h_nc, .inl (cy_nc, 8000, .inl f_nc)), (h_bto, .inl (cy_bto, 256, .inl f_bto)), (h_bin, .inl (cy_bin, 256, .inl f_bin))] sz)) 0 0 (va_A [(h_mm, .inr (8, (mo134 v_mm (.ref h_nv) (.ref h_na) (.ref h_nb) (.ref h_nc) (.ref h_bto) (.ref h_bin) (.int x_mm_goneTo) (.int x_mm_goneIn)))), (h_nv, .inl (cy_nv, 8000, .inl f_nv)), (h_na, .inl (cy_na, 8000, .inl f_na)), (h_nb, .inl (cy_nb, 8000, .inl f_nb)), (h_nc, .inl (cy_nc, 8000, .inl f_nc)), (h_bto, .inl (cy_bto, 256, .inl f_bto)), (h_bin, .inl (cy_bin, 256, .inl f_bin))] sz) := by
  refine Met.ofW (cc := cX11_goesTo) (maxL := 4) (ret := none) (by decide) rfl ?_
  intro p e s m args below meth c s₁ B hml hv
  obtain ⟨rfl, hsz, hP, hK, hD0, hN⟩ := hv
  have hx := B.exec
  have hb := B.bytes
  have hr := B.returns
  have hts := atoms_spec (ws := Ws yX11_goesTo cX11_goesTo 4 none) B.pre
  have hT : ∀ w ∈ WALL, w ∈ Ws yX11_goesTo cX11_goesTo 4 none := fun w h => List.mem_cons_of_mem _ h
  have hw := fun w (h : w ∈ WALL) => hts w (hT w h)
  have hown : s.vm.findClass RX11 = some m.cls := findClass_of_methodNamed B.named
  have hlocks := B.notSynchronized
  subst hsz
  have hD := hD0.self (sz := s.heap.size)
  generalize hAe : va_A [(h_mm, .inr (8, (mo134 v_mm (.ref h_nv) (.ref h_na) (.ref h_nb) (.ref h_nc) (.ref h_bto) (.ref h_bin) (.int x_mm_goneTo) (.int x_mm_goneIn)))), (h_nv, .inl (cy_nv, 8000, .inl f_nv)), (h_na, .inl (cy_na, 8000, .inl f_na)), (h_nb, .inl (cy_nb, 8000, .inl f_nb)), (h_nc, .inl (cy_nc, 8000, .inl f_nc)), (h_bto, .inl (cy_bto, 256, .inl f_bto)), (h_bin, .inl (cy_bin, 256, .inl f_bin))] s.heap.size = A at hD ⊢
  have hA : ∀ q : Nat, s.heap.size ≤ q → A q := fun q h => by rw [← hAe]; exact Or.inr h
  have hS : va_S A s.heap s.heap [] := va_S.rf
  have hl := lv_entry ([.ref h_mm, .int p1, .int p2]) (n := 4) (Nat.le_of_ble_eq_true rfl)
  rw [lg_entry_eq]
  generalize (lg_sl ([.ref h_mm, .int p1, .int p2]) ++ List.replicate (4 - (lg_sl ([.ref h_mm, .int p1, .int p2])).length) Slot.unset).toArray = ls at hl ⊢
  have hl : lv_has ls 4 [(0, .ref h_mm), (1, .int p1), (2, .int p2)] := hl
  refine lv_aload_n hx hb dX11_goesTo_0 rfl (lv_at hl 0 rfl) ?_
  refine lv_iload_n hx hb dX11_goesTo_1 rfl (lv_at hl 1 rfl) ?_
  refine va_put (D := (dC, dI)) (ci := 8) (v := .int p1) (ty := tyX11 31) (C := RX11) (T := TX11) (N := 71) hx hb hw iwX11 tyX11 tyX11_ok nmX11 hown hK hP hD hS 0 rfl rfl 31 (by decide) (hw _ w_f_X11_264) (fun _ h9 => h9) rfl (tyX11_ok 31 (by decide)) rfl rfl (Nat.le_of_ble_eq_true rfl) dX11_goesTo_2 (fun H locs hP9 hD9 hS9 => ?_)
  clear hP hD hS
  have hP : va_P (dC, dI) cls [(h_mm, .inr (8, (mo134 v_mm (.ref h_nv) (.ref h_na) (.ref h_nb) (.ref h_nc) (.ref h_bto) (.ref h_bin) (.int p1) (.int x_mm_goneIn)))), (h_nv, .inl (cy_nv, 8000, .inl f_nv)), (h_na, .inl (cy_na, 8000, .inl f_na)), (h_nb, .inl (cy_nb, 8000, .inl f_nb)), (h_nc, .inl (cy_nc, 8000, .inl f_nc)), (h_bto, .inl (cy_bto, 256, .inl f_bto)), (h_bin, .inl (cy_bin, 256, .inl f_bin))] H := hP9
  have hD : va_D A [(h_mm, .inr (8, (mo134 v_mm (.ref h_nv) (.ref h_na) (.ref h_nb) (.ref h_nc) (.ref h_bto) (.ref h_bin) (.int p1) (.int x_mm_goneIn)))), (h_nv, .inl (cy_nv, 8000, .inl f_nv)), (h_na, .inl (cy_na, 8000, .inl f_na)), (h_nb, .inl (cy_nb, 8000, .inl f_nb)), (h_nc, .inl (cy_nc, 8000, .inl f_nc)), (h_bto, .inl (cy_bto, 256, .inl f_bto)), (h_bin, .inl (cy_bin, 256, .inl f_bin))] := hD9
  have hS := hS9
  clear hP9 hD9 hS9
  refine lv_aload_n hx hb dX11_goesTo_5 rfl (lv_at hl 0 rfl) ?_
  refine lv_iload_n hx hb dX11_goesTo_6 rfl (lv_at hl 2 rfl) ?_
  refine va_put (D := (dC, dI)) (ci := 8) (v := .int p2) (ty := tyX11 32) (C := RX11) (T := TX11) (N := 71) hx hb hw iwX11 tyX11 tyX11_ok nmX11 hown hK hP hD hS 0 rfl rfl 32 (by decide) (hw _ w_f_X11_267) (fun _ h9 => h9) rfl (tyX11_ok 32 (by decide)) rfl rfl (Nat.le_of_ble_eq_true rfl) dX11_goesTo_7 (fun H locs hP9 hD9 hS9 => ?_)
  clear hP hD hS
  have hP : va_P (dC, dI) cls [(h_mm, .inr (8, (mo134 v_mm (.ref h_nv) (.ref h_na) (.ref h_nb) (.ref h_nc) (.ref h_bto) (.ref h_bin) (.int p1) (.int p2)))), (h_nv, .inl (cy_nv, 8000, .inl f_nv)), (h_na, .inl (cy_na, 8000, .inl f_na)), (h_nb, .inl (cy_nb, 8000, .inl f_nb)), (h_nc, .inl (cy_nc, 8000, .inl f_nc)), (h_bto, .inl (cy_bto, 256, .inl f_bto)), (h_bin, .inl (cy_bin, 256, .inl f_bin))] H := hP9
  have hD : va_D A [(h_mm, .inr (8, (mo134 v_mm (.ref h_nv) (.ref h_na) (.ref h_nb) (.ref h_nc) (.ref h_bto) (.ref h_bin) (.int p1) (.int p2)))), (h_nv, .inl (cy_nv, 8000, .inl f_nv)), (h_na, .inl (cy_na, 8000, .inl f_na)), (h_nb, .inl (cy_nb, 8000, .inl f_nb)), (h_nc, .inl (cy_nc, 8000, .inl f_nc)), (h_bto, .inl (cy_bto, 256, .inl f_bto)), (h_bin, .inl (cy_bin, 256, .inl f_bin))] := hD9
  have hS := hS9
  clear hP9 hD9 hS9
  have lp4 : ∀ (n : Nat) (x1 : Int32) (x2 : Int32) (gh3 : List Nat) (H : Heap) (locs : List Loc) (ls : Array Slot), (0 ≤ (x1).toInt ∧ (x1).toInt ≤ 7999) → (0 ≤ (x2).toInt ∧ (x2).toInt ≤ 31) → (0 ≤ (x1).toInt ∧ (x1).toInt < N) → (i0 ≤ (x2).toInt ∧ (x2).toInt ≤ i1) → (hz ((x1).toInt).toNat + 6 * (256 - (gh3).length) + 1 ≤ fu) → (PA i0 gh3 f_nv f_na f_nb f_nc f_bto f_bin ((x1).toInt).toNat (x2).toInt) → (∀ tt : Nat, (f_bto tt).toInt = -1 → NR f_nv f_na f_nb f_nc f_bto f_bin ((x1).toInt).toNat (x2).toInt tt → NR f_nv f_na f_nb f_nc f_bto f_bin (p1).toInt.toNat (p2).toInt tt) → (∀ q9 : Nat, BRE g (BDW f_bto f_bin) (PLR x1 x2) q9 → BRE g (BDW f_bto f_bin) (PLR p1 p2) q9) → (256 - ((gh3).length : Int)).toNat + 1 ≤ n → va_P (dC, dI) cls [(h_mm, .inr (8, (mo134 v_mm (.ref h_nv) (.ref h_na) (.ref h_nb) (.ref h_nc) (.ref h_bto) (.ref h_bin) (.int x1) (.int x2)))), (h_nv, .inl (cy_nv, 8000, .inl f_nv)), (h_na, .inl (cy_na, 8000, .inl f_na)), (h_nb, .inl (cy_nb, 8000, .inl f_nb)), (h_nc, .inl (cy_nc, 8000, .inl f_nc)), (h_bto, .inl (cy_bto, 256, .inl f_bto)), (h_bin, .inl (cy_bin, 256, .inl f_bin))] H → va_D A [(h_mm, .inr (8, (mo134 v_mm (.ref h_nv) (.ref h_na) (.ref h_nb) (.ref h_nc) (.ref h_bto) (.ref h_bin) (.int x1) (.int x2)))), (h_nv, .inl (cy_nv, 8000, .inl f_nv)), (h_na, .inl (cy_na, 8000, .inl f_na)), (h_nb, .inl (cy_nb, 8000, .inl f_nb)), (h_nc, .inl (cy_nc, 8000, .inl f_nc)), (h_bto, .inl (cy_bto, 256, .inl f_bto)), (h_bin, .inl (cy_bin, 256, .inl f_bin))] → va_S A s.heap H locs → lv_has ls 4 [(0, .ref h_mm), (1, .int p1), (2, .int p2)] → W p l e ({ frames := 1, cells := 0, slots := 0, locals := 22 } : Room) s m ([.ref h_mm, .int p1, .int p2] : List Value).toArray below meth c H locs 0 0 (MQ below (va_Qv (fun (u : (Int32) × (Int32) × (List Nat)) => (0 ≤ (u.1).toInt ∧ (u.1).toInt ≤ 7999) ∧ (0 ≤ (u.2.1).toInt ∧ (u.2.1).toInt ≤ 31) ∧ (0 ≤ (u.1).toInt ∧ (u.1).toInt < N) ∧ (i0 ≤ (u.2.1).toInt ∧ (u.2.1).toInt ≤ i1) ∧ (hz (u.1).toInt.toNat + 6 * (256 - (u.2.2).length) + 1 ≤ fu) ∧ (PA i0 u.2.2 f_nv f_na f_nb f_nc f_bto f_bin (u.1).toInt.toNat (u.2.1).toInt) ∧ ((f_nv (u.1).toInt.toNat).toInt = -1 ∨ (f_bto (8 * (u.2.1).toInt + (f_nv (u.1).toInt.toNat).toInt).toNat).toInt = -1) ∧ (∀ tt : Nat, (f_bto tt).toInt = -1 → NR f_nv f_na f_nb f_nc f_bto f_bin (u.1).toInt.toNat (u.2.1).toInt tt → NR f_nv f_na f_nb f_nc f_bto f_bin (p1).toInt.toNat (p2).toInt tt) ∧ (BRE g (BDW f_bto f_bin) (PLR p1 p2) (PLR u.1 u.2.1))) (fun (u : (Int32) × (Int32) × (List Nat)) (t : State) => va_P (dC, dI) cls [(h_mm, .inr (8, (mo134 v_mm (.ref h_nv) (.ref h_na) (.ref h_nb) (.ref h_nc) (.ref h_bto) (.ref h_bin) (.int u.1) (.int u.2.1)))), (h_nv, .inl (cy_nv, 8000, .inl f_nv)), (h_na, .inl (cy_na, 8000, .inl f_na)), (h_nb, .inl (cy_nb, 8000, .inl f_nb)), (h_nc, .inl (cy_nc, 8000, .inl f_nc)), (h_bto, .inl (cy_bto, 256, .inl f_bto)), (h_bin, .inl (cy_bin, 256, .inl f_bin))] t.heap ∧ va_D A [(h_mm, .inr (8, (mo134 v_mm (.ref h_nv) (.ref h_na) (.ref h_nb) (.ref h_nc) (.ref h_bto) (.ref h_bin) (.int u.1) (.int u.2.1)))), (h_nv, .inl (cy_nv, 8000, .inl f_nv)), (h_na, .inl (cy_na, 8000, .inl f_na)), (h_nb, .inl (cy_nb, 8000, .inl f_nb)), (h_nc, .inl (cy_nc, 8000, .inl f_nc)), (h_bto, .inl (cy_bto, 256, .inl f_bto)), (h_bin, .inl (cy_bin, 256, .inl f_bin))]) A) ([.ref h_mm, .int p1, .int p2] : List Value).toArray s 0 0 A) (F0 m 10 ls []) := by
    clear hP hD hS hl
    intro n
    induction n with
    | zero => intro x1 x2 gh3 H locs ls klp4_0 klp4_1 klp4_2 klp4_3 klp4_4 klp4_5 klp4_6 klp4_7 hm hP hD hS hl; exact False.elim (by omega)
    | succ n ih => 
      intro x1 x2 gh3 H locs ls klp4_0 klp4_1 klp4_2 klp4_3 klp4_4 klp4_5 klp4_6 klp4_7 hm hP hD hS hl
      have ih5 := ih
      clear ih
      refine lv_aload_n hx hb dX11_goesTo_10 rfl (lv_at hl 0 rfl) ?_
      refine va_get (D := (dC, dI)) (ci := 8) (v := .ref h_nv) (C := RX11) (T := TX11) (N := 71) hx hb hw iwX11 hown hK hP 0 rfl rfl 1 (by decide) (hw _ w_f_X11_17) (fun _ h9 => h9) rfl dX11_goesTo_11 ?_
      refine lv_aload_n hx hb dX11_goesTo_14 rfl (lv_at hl 0 rfl) ?_
      refine va_get (D := (dC, dI)) (ci := 8) (v := .int x1) (C := RX11) (T := TX11) (N := 71) hx hb hw iwX11 hown hK hP 0 rfl rfl 31 (by decide) (hw _ w_f_X11_264) (fun _ h9 => h9) rfl dX11_goesTo_15 ?_
      refine va_iald hx hb hK hP 1 0 rfl rfl (i := x1) (vp_in_iff.mpr (by omega)) dX11_goesTo_18 ?_
      refine lv_topi (fun z6 ez6 => ?_)
      have rz6 : -1 ≤ (z6).toInt ∧ (z6).toInt ≤ 7 := by rw [ez6]; exact hf_nv _
      refine lv_iconst (v := (-1)) hx hb dX11_goesTo_19 (by decide) ?_
      refine lv_icmp_eq (tgt := 80) hx hb dX11_goesTo_20 (by decide) (fun c7 => ?_) (fun c7 => ?_)
      · have kc7 := (cv_eq (rfl : (z6).toInt = (z6).toInt) (by decide : ((-1) : Int32).toInt = -1)).mp c7
        have hvz6 : (f_nv (x1).toInt.toNat).toInt = (z6).toInt := by rw [ez6, (clamp_nat (i := x1) (by omega))]
        refine W.widen (k := 0) (n := 0) (Nat.le_of_ble_eq_true rfl) (Nat.le_of_ble_eq_true rfl) ?_
        have w8 : 0 ≤ ((x1)).toInt ∧ ((x1)).toInt ≤ 7999 := by first | exact klp4_0 | omega
        have w9 : 0 ≤ ((x2)).toInt ∧ ((x2)).toInt ≤ 31 := by first | exact klp4_1 | omega
        have w10 : 0 ≤ ((x1)).toInt ∧ ((x1)).toInt < N := by first | exact klp4_2 | omega
        have w11 : i0 ≤ ((x2)).toInt ∧ ((x2)).toInt ≤ i1 := by first | exact klp4_3 | omega
        have w12 : hz ((x1)).toInt.toNat + 6 * (256 - ((gh3)).length) + 1 ≤ fu := by first | exact klp4_4 | omega
        have w13 : PA i0 (gh3) f_nv f_na f_nb f_nc f_bto f_bin ((x1)).toInt.toNat ((x2)).toInt := klp4_5
        have w14 : (f_nv ((x1)).toInt.toNat).toInt = -1 ∨ (f_bto (8 * ((x2)).toInt + (f_nv ((x1)).toInt.toNat).toInt).toNat).toInt = -1 := (Or.inl (by omega))
        have w15 : ∀ tt : Nat, (f_bto tt).toInt = -1 → NR f_nv f_na f_nb f_nc f_bto f_bin ((x1)).toInt.toNat ((x2)).toInt tt → NR f_nv f_na f_nb f_nc f_bto f_bin (p1).toInt.toNat (p2).toInt tt := klp4_6
        have w16 : BRE g (BDW f_bto f_bin) (PLR p1 p2) (PLR (x1) (x2)) := (klp4_7 _ (bre_ter (grv_ter hn_grv (by omega) (by omega) (Or.inl (by omega)))))
        exact W.vret hx hb hr (fun t ht hW => ⟨⟨(x1, x2, gh3), rfl, ⟨w8, w9, w10, w11, w12, w13, w14, w15, w16⟩, by rw [ht]; exact hP, hD⟩, hS.F ht⟩) hS.2.2 dX11_goesTo_80
      · have kc7 := (not_congr (cv_eq (rfl : (z6).toInt = (z6).toInt) (by decide : ((-1) : Int32).toInt = -1))).mp c7
        have hvz6 : (f_nv (x1).toInt.toNat).toInt = (z6).toInt := by rw [ez6, (clamp_nat (i := x1) (by omega))]
        refine lv_aload_n hx hb dX11_goesTo_23 rfl (lv_at hl 0 rfl) ?_
        refine va_get (D := (dC, dI)) (ci := 8) (v := .ref h_bto) (C := RX11) (T := TX11) (N := 71) hx hb hw iwX11 hown hK hP 0 rfl rfl 27 (by decide) (hw _ w_f_X11_195) (fun _ h9 => h9) rfl dX11_goesTo_24 ?_
        refine lv_aload_n hx hb dX11_goesTo_27 rfl (lv_at hl 0 rfl) ?_
        refine lv_aload_n hx hb dX11_goesTo_28 rfl (lv_at hl 0 rfl) ?_
        refine va_get (D := (dC, dI)) (ci := 8) (v := .int x1) (C := RX11) (T := TX11) (N := 71) hx hb hw iwX11 hown hK hP 0 rfl rfl 31 (by decide) (hw _ w_f_X11_264) (fun _ h9 => h9) rfl dX11_goesTo_29 ?_
        refine lv_aload_n hx hb dX11_goesTo_32 rfl (lv_at hl 0 rfl) ?_
        refine va_get (D := (dC, dI)) (ci := 8) (v := .int x2) (C := RX11) (T := TX11) (N := 71) hx hb hw iwX11 hown hK hP 0 rfl rfl 32 (by decide) (hw _ w_f_X11_267) (fun _ h9 => h9) rfl dX11_goesTo_33 ?_
        obtain ⟨vq17, evq17⟩ := mq134_129 v_mm (.ref h_na) (.ref h_nb) (.ref h_nc) (.ref h_bto) (.ref h_bin) (.int x1) (.int x2)
        replace hP : va_P (dC, dI) cls [(h_mm, .inr (8, (mo129 vq17 (.ref h_nv)))), (h_nv, .inl (cy_nv, 8000, .inl f_nv)), (h_na, .inl (cy_na, 8000, .inl f_na)), (h_nb, .inl (cy_nb, 8000, .inl f_nb)), (h_nc, .inl (cy_nc, 8000, .inl f_nc)), (h_bto, .inl (cy_bto, 256, .inl f_bto)), (h_bin, .inl (cy_bin, 256, .inl f_bin))] H := by rw [evq17]; exact hP
        replace hD : va_D A [(h_mm, .inr (8, (mo129 vq17 (.ref h_nv)))), (h_nv, .inl (cy_nv, 8000, .inl f_nv)), (h_na, .inl (cy_na, 8000, .inl f_na)), (h_nb, .inl (cy_nb, 8000, .inl f_nb)), (h_nc, .inl (cy_nc, 8000, .inl f_nc)), (h_bto, .inl (cy_bto, 256, .inl f_bto)), (h_bin, .inl (cy_bin, 256, .inl f_bin))] := by rw [evq17]; exact hD
        have hPc := hP.sub (ws' := [(h_mm, .inr (8, (mo129 vq17 (.ref h_nv)))), (h_nv, .inl (cy_nv, 8000, .inl f_nv))]) [0, 1] rfl
        have hDc := hD.sub (ws' := [(h_mm, .inr (8, (mo129 vq17 (.ref h_nv)))), (h_nv, .inl (cy_nv, 8000, .inl f_nv))]) [0, 1] (by decide) rfl
        have hKc := hK.sub (tys' := [(cy_nv, .int)]) [0] rfl
        have hFc := va_free (wc := [(h_mm, .inr (8, (mo129 vq17 (.ref h_nv)))), (h_nv, .inl (cy_nv, 8000, .inl f_nv))]) hD hS hA [0, 1] rfl
        refine va_calli (va_runV (As := [.int x1, .int x2]) (rest := [.ref h_bto]) ⟨hx, hb, hml, hown, hts⟩ (c_X11_slotOf l dC dI H.size h_mm h_nv vq17 cy_nv f_nv x1 x2 hf_nv (by first | exact klp4_0 | omega) (by first | exact klp4_1 | omega)) (cwV 2 hts (gv hT w_m_X11_270 w_instanceMethod_X11_slotOf ws_sel_X11_slotOf w_ini_X11 w_code_X11_slotOf) rfl rfl rfl (by decide +kernel) ⟨(Nat.le_of_ble_eq_true rfl), (Nat.le_of_ble_eq_true rfl)⟩) ⟨pre_blind, va_recv hK hP (ci := 8) (q0 := 0) rfl rfl, pre_of hPc hKc hDc hN⟩ rfl rfl hl.1 rfl (lv_room (Nat.le_of_ble_eq_true rfl)) dX11_goesTo_36 ⟨(Nat.le_of_ble_eq_true rfl), (Nat.le_of_ble_eq_true rfl)⟩) hS (fun q _ h => hFc q h) hFc (fun r18 u t H locs ht hvm hq hB hz1 hk1 hS9 => ?_)
        obtain ⟨hP1, hD1⟩ := hB
        rw [ht] at hP1
        obtain ⟨hP9, hD9⟩ := va_join (wr := [(h_na, .inl (cy_na, 8000, .inl f_na)), (h_nb, .inl (cy_nb, 8000, .inl f_nb)), (h_nc, .inl (cy_nc, 8000, .inl f_nc)), (h_bto, .inl (cy_bto, 256, .inl f_bto)), (h_bin, .inl (cy_bin, 256, .inl f_bin))]) (w1 := [(h_mm, .inr (8, (mo129 vq17 (.ref h_nv)))), (h_nv, .inl (cy_nv, 8000, .inl f_nv))]) hP hD [0, 1] [2, 3, 4, 5, 6] rfl rfl (by decide) (by decide) hk1 hFc hP1 hD1
        clear hP hD hS hPc hDc hKc hFc hP1 hD1 hk1 hz1 ht hvm
        have hP : va_P (dC, dI) cls [(h_na, .inl (cy_na, 8000, .inl f_na)), (h_nb, .inl (cy_nb, 8000, .inl f_nb)), (h_nc, .inl (cy_nc, 8000, .inl f_nc)), (h_bto, .inl (cy_bto, 256, .inl f_bto)), (h_bin, .inl (cy_bin, 256, .inl f_bin)), (h_mm, .inr (8, (mo129 vq17 (.ref h_nv)))), (h_nv, .inl (cy_nv, 8000, .inl f_nv))] H := hP9
        have hD : va_D A [(h_na, .inl (cy_na, 8000, .inl f_na)), (h_nb, .inl (cy_nb, 8000, .inl f_nb)), (h_nc, .inl (cy_nc, 8000, .inl f_nc)), (h_bto, .inl (cy_bto, 256, .inl f_bto)), (h_bin, .inl (cy_bin, 256, .inl f_bin)), (h_mm, .inr (8, (mo129 vq17 (.ref h_nv)))), (h_nv, .inl (cy_nv, 8000, .inl f_nv))] := hD9
        have hS := hS9
        clear hP9 hD9 hS9
        rw [evq17] at hP hD
        replace hP : va_P (dC, dI) cls [(h_na, .inl (cy_na, 8000, .inl f_na)), (h_nb, .inl (cy_nb, 8000, .inl f_nb)), (h_nc, .inl (cy_nc, 8000, .inl f_nc)), (h_bto, .inl (cy_bto, 256, .inl f_bto)), (h_bin, .inl (cy_bin, 256, .inl f_bin)), (h_mm, .inr (8, (mo134 v_mm (.ref h_nv) (.ref h_na) (.ref h_nb) (.ref h_nc) (.ref h_bto) (.ref h_bin) (.int x1) (.int x2)))), (h_nv, .inl (cy_nv, 8000, .inl f_nv))] H := hP
        replace hD : va_D A [(h_na, .inl (cy_na, 8000, .inl f_na)), (h_nb, .inl (cy_nb, 8000, .inl f_nb)), (h_nc, .inl (cy_nc, 8000, .inl f_nc)), (h_bto, .inl (cy_bto, 256, .inl f_bto)), (h_bin, .inl (cy_bin, 256, .inl f_bin)), (h_mm, .inr (8, (mo134 v_mm (.ref h_nv) (.ref h_na) (.ref h_nb) (.ref h_nc) (.ref h_bto) (.ref h_bin) (.int x1) (.int x2)))), (h_nv, .inl (cy_nv, 8000, .inl f_nv))] := hD
        clear evq17 
        obtain ⟨k19, k20⟩ := hq
        replace k19 : -1 ≤ (r18).toInt ∧ (r18).toInt ≤ 255 := k19
        replace k20 : ((r18)).toInt = 8 * ((x2)).toInt + (f_nv ((x1)).toInt.toNat).toInt := k20
        refine va_iald hx hb hK hP 3 4 rfl rfl (i := r18) (vp_in_iff.mpr (by omega)) dX11_goesTo_39 ?_
        refine lv_topi (fun z21 ez21 => ?_)
        have rz21 : -1 ≤ (z21).toInt ∧ (z21).toInt ≤ 7999 := by rw [ez21]; exact hf_bto _
        refine lv_iconst (v := (-1)) hx hb dX11_goesTo_40 (by decide) ?_
        refine lv_icmp_eq (tgt := 80) hx hb dX11_goesTo_41 (by decide) (fun c22 => ?_) (fun c22 => ?_)
        · have kc22 := (cv_eq (rfl : (z21).toInt = (z21).toInt) (by decide : ((-1) : Int32).toInt = -1)).mp c22
          have hvz6 : (f_nv (x1).toInt.toNat).toInt = (z6).toInt := by rw [ez6, (clamp_nat (i := x1) (by omega))]
          have ez9 : (8 * (x2).toInt + (f_nv (x1).toInt.toNat).toInt).toNat = (r18).toInt.toNat := by omega
          have tb9 : (f_bto (8 * (x2).toInt + (f_nv (x1).toInt.toNat).toInt).toNat).toInt = -1 := by rw [ez9, ← clamp_nat (i := r18) (by omega), ← ez21]; omega
          replace hP : va_P (dC, dI) cls [(h_mm, .inr (8, (mo134 v_mm (.ref h_nv) (.ref h_na) (.ref h_nb) (.ref h_nc) (.ref h_bto) (.ref h_bin) (.int x1) (.int x2)))), (h_nv, .inl (cy_nv, 8000, .inl f_nv)), (h_na, .inl (cy_na, 8000, .inl f_na)), (h_nb, .inl (cy_nb, 8000, .inl f_nb)), (h_nc, .inl (cy_nc, 8000, .inl f_nc)), (h_bto, .inl (cy_bto, 256, .inl f_bto)), (h_bin, .inl (cy_bin, 256, .inl f_bin))] H := hP.sub [5, 6, 0, 1, 2, 3, 4] rfl
          replace hD : va_D A [(h_mm, .inr (8, (mo134 v_mm (.ref h_nv) (.ref h_na) (.ref h_nb) (.ref h_nc) (.ref h_bto) (.ref h_bin) (.int x1) (.int x2)))), (h_nv, .inl (cy_nv, 8000, .inl f_nv)), (h_na, .inl (cy_na, 8000, .inl f_na)), (h_nb, .inl (cy_nb, 8000, .inl f_nb)), (h_nc, .inl (cy_nc, 8000, .inl f_nc)), (h_bto, .inl (cy_bto, 256, .inl f_bto)), (h_bin, .inl (cy_bin, 256, .inl f_bin))] := hD.sub [5, 6, 0, 1, 2, 3, 4] (by decide) rfl
          refine W.widen (k := 0) (n := 0) (Nat.le_of_ble_eq_true rfl) (Nat.le_of_ble_eq_true rfl) ?_
          have w23 : 0 ≤ ((x1)).toInt ∧ ((x1)).toInt ≤ 7999 := by first | exact klp4_0 | omega
          have w24 : 0 ≤ ((x2)).toInt ∧ ((x2)).toInt ≤ 31 := by first | exact klp4_1 | omega
          have w25 : 0 ≤ ((x1)).toInt ∧ ((x1)).toInt < N := by first | exact klp4_2 | omega
          have w26 : i0 ≤ ((x2)).toInt ∧ ((x2)).toInt ≤ i1 := by first | exact klp4_3 | omega
          have w27 : hz ((x1)).toInt.toNat + 6 * (256 - ((gh3)).length) + 1 ≤ fu := by first | exact klp4_4 | omega
          have w28 : PA i0 (gh3) f_nv f_na f_nb f_nc f_bto f_bin ((x1)).toInt.toNat ((x2)).toInt := klp4_5
          have w29 : (f_nv ((x1)).toInt.toNat).toInt = -1 ∨ (f_bto (8 * ((x2)).toInt + (f_nv ((x1)).toInt.toNat).toInt).toNat).toInt = -1 := (Or.inr tb9)
          have w30 : ∀ tt : Nat, (f_bto tt).toInt = -1 → NR f_nv f_na f_nb f_nc f_bto f_bin ((x1)).toInt.toNat ((x2)).toInt tt → NR f_nv f_na f_nb f_nc f_bto f_bin (p1).toInt.toNat (p2).toInt tt := klp4_6
          have w31 : BRE g (BDW f_bto f_bin) (PLR p1 p2) (PLR (x1) (x2)) := (klp4_7 _ (bre_ter (grv_ter hn_grv (by omega) (by omega) (Or.inr tb9))))
          exact W.vret hx hb hr (fun t ht hW => ⟨⟨(x1, x2, gh3), rfl, ⟨w23, w24, w25, w26, w27, w28, w29, w30, w31⟩, by rw [ht]; exact hP, hD⟩, hS.F ht⟩) hS.2.2 dX11_goesTo_80
        · have kc22 := (not_congr (cv_eq (rfl : (z21).toInt = (z21).toInt) (by decide : ((-1) : Int32).toInt = -1))).mp c22
          refine lv_aload_n hx hb dX11_goesTo_44 rfl (lv_at hl 0 rfl) ?_
          refine lv_aload_n hx hb dX11_goesTo_45 rfl (lv_at hl 0 rfl) ?_
          refine va_get (D := (dC, dI)) (ci := 8) (v := .int x1) (C := RX11) (T := TX11) (N := 71) hx hb hw iwX11 hown hK hP 5 rfl rfl 31 (by decide) (hw _ w_f_X11_264) (fun _ h9 => h9) rfl dX11_goesTo_46 ?_
          refine lv_aload_n hx hb dX11_goesTo_49 rfl (lv_at hl 0 rfl) ?_
          refine va_get (D := (dC, dI)) (ci := 8) (v := .int x2) (C := RX11) (T := TX11) (N := 71) hx hb hw iwX11 hown hK hP 5 rfl rfl 32 (by decide) (hw _ w_f_X11_267) (fun _ h9 => h9) rfl dX11_goesTo_50 ?_
          obtain ⟨vq32, evq32⟩ := mq134_129 v_mm (.ref h_na) (.ref h_nb) (.ref h_nc) (.ref h_bto) (.ref h_bin) (.int x1) (.int x2)
          replace hP : va_P (dC, dI) cls [(h_na, .inl (cy_na, 8000, .inl f_na)), (h_nb, .inl (cy_nb, 8000, .inl f_nb)), (h_nc, .inl (cy_nc, 8000, .inl f_nc)), (h_bto, .inl (cy_bto, 256, .inl f_bto)), (h_bin, .inl (cy_bin, 256, .inl f_bin)), (h_mm, .inr (8, (mo129 vq32 (.ref h_nv)))), (h_nv, .inl (cy_nv, 8000, .inl f_nv))] H := by rw [evq32]; exact hP
          replace hD : va_D A [(h_na, .inl (cy_na, 8000, .inl f_na)), (h_nb, .inl (cy_nb, 8000, .inl f_nb)), (h_nc, .inl (cy_nc, 8000, .inl f_nc)), (h_bto, .inl (cy_bto, 256, .inl f_bto)), (h_bin, .inl (cy_bin, 256, .inl f_bin)), (h_mm, .inr (8, (mo129 vq32 (.ref h_nv)))), (h_nv, .inl (cy_nv, 8000, .inl f_nv))] := by rw [evq32]; exact hD
          have hPc := hP.sub (ws' := [(h_mm, .inr (8, (mo129 vq32 (.ref h_nv)))), (h_nv, .inl (cy_nv, 8000, .inl f_nv))]) [5, 6] rfl
          have hDc := hD.sub (ws' := [(h_mm, .inr (8, (mo129 vq32 (.ref h_nv)))), (h_nv, .inl (cy_nv, 8000, .inl f_nv))]) [5, 6] (by decide) rfl
          have hKc := hK.sub (tys' := [(cy_nv, .int)]) [0] rfl
          have hFc := va_free (wc := [(h_mm, .inr (8, (mo129 vq32 (.ref h_nv)))), (h_nv, .inl (cy_nv, 8000, .inl f_nv))]) hD hS hA [5, 6] rfl
          refine va_calli (va_runV (As := [.int x1, .int x2]) (rest := []) ⟨hx, hb, hml, hown, hts⟩ (c_X11_slotOf l dC dI H.size h_mm h_nv vq32 cy_nv f_nv x1 x2 hf_nv (by first | exact klp4_0 | omega) (by first | exact klp4_1 | omega)) (cwV 2 hts (gv hT w_m_X11_270 w_instanceMethod_X11_slotOf ws_sel_X11_slotOf w_ini_X11 w_code_X11_slotOf) rfl rfl rfl (by decide +kernel) ⟨(Nat.le_of_ble_eq_true rfl), (Nat.le_of_ble_eq_true rfl)⟩) ⟨pre_blind, va_recv hK hP (ci := 8) (q0 := 5) rfl rfl, pre_of hPc hKc hDc hN⟩ rfl rfl hl.1 rfl (lv_room (Nat.le_of_ble_eq_true rfl)) dX11_goesTo_53 ⟨(Nat.le_of_ble_eq_true rfl), (Nat.le_of_ble_eq_true rfl)⟩) hS (fun q _ h => hFc q h) hFc (fun r33 u t H locs ht hvm hq hB hz1 hk1 hS9 => ?_)
          obtain ⟨hP1, hD1⟩ := hB
          rw [ht] at hP1
          obtain ⟨hP9, hD9⟩ := va_join (wr := [(h_na, .inl (cy_na, 8000, .inl f_na)), (h_nb, .inl (cy_nb, 8000, .inl f_nb)), (h_nc, .inl (cy_nc, 8000, .inl f_nc)), (h_bto, .inl (cy_bto, 256, .inl f_bto)), (h_bin, .inl (cy_bin, 256, .inl f_bin))]) (w1 := [(h_mm, .inr (8, (mo129 vq32 (.ref h_nv)))), (h_nv, .inl (cy_nv, 8000, .inl f_nv))]) hP hD [5, 6] [0, 1, 2, 3, 4] rfl rfl (by decide) (by decide) hk1 hFc hP1 hD1
          clear hP hD hS hPc hDc hKc hFc hP1 hD1 hk1 hz1 ht hvm
          have hP : va_P (dC, dI) cls [(h_na, .inl (cy_na, 8000, .inl f_na)), (h_nb, .inl (cy_nb, 8000, .inl f_nb)), (h_nc, .inl (cy_nc, 8000, .inl f_nc)), (h_bto, .inl (cy_bto, 256, .inl f_bto)), (h_bin, .inl (cy_bin, 256, .inl f_bin)), (h_mm, .inr (8, (mo129 vq32 (.ref h_nv)))), (h_nv, .inl (cy_nv, 8000, .inl f_nv))] H := hP9
          have hD : va_D A [(h_na, .inl (cy_na, 8000, .inl f_na)), (h_nb, .inl (cy_nb, 8000, .inl f_nb)), (h_nc, .inl (cy_nc, 8000, .inl f_nc)), (h_bto, .inl (cy_bto, 256, .inl f_bto)), (h_bin, .inl (cy_bin, 256, .inl f_bin)), (h_mm, .inr (8, (mo129 vq32 (.ref h_nv)))), (h_nv, .inl (cy_nv, 8000, .inl f_nv))] := hD9
          have hS := hS9
          clear hP9 hD9 hS9
          rw [evq32] at hP hD
          replace hP : va_P (dC, dI) cls [(h_na, .inl (cy_na, 8000, .inl f_na)), (h_nb, .inl (cy_nb, 8000, .inl f_nb)), (h_nc, .inl (cy_nc, 8000, .inl f_nc)), (h_bto, .inl (cy_bto, 256, .inl f_bto)), (h_bin, .inl (cy_bin, 256, .inl f_bin)), (h_mm, .inr (8, (mo134 v_mm (.ref h_nv) (.ref h_na) (.ref h_nb) (.ref h_nc) (.ref h_bto) (.ref h_bin) (.int x1) (.int x2)))), (h_nv, .inl (cy_nv, 8000, .inl f_nv))] H := hP
          replace hD : va_D A [(h_na, .inl (cy_na, 8000, .inl f_na)), (h_nb, .inl (cy_nb, 8000, .inl f_nb)), (h_nc, .inl (cy_nc, 8000, .inl f_nc)), (h_bto, .inl (cy_bto, 256, .inl f_bto)), (h_bin, .inl (cy_bin, 256, .inl f_bin)), (h_mm, .inr (8, (mo134 v_mm (.ref h_nv) (.ref h_na) (.ref h_nb) (.ref h_nc) (.ref h_bto) (.ref h_bin) (.int x1) (.int x2)))), (h_nv, .inl (cy_nv, 8000, .inl f_nv))] := hD
          clear evq32 
          obtain ⟨k34, k35⟩ := hq
          replace k34 : -1 ≤ (r33).toInt ∧ (r33).toInt ≤ 255 := k34
          replace k35 : ((r33)).toInt = 8 * ((x2)).toInt + (f_nv ((x1)).toInt.toNat).toInt := k35
          refine lv_istore_n (lv' := [(3, .int r33), (0, .ref h_mm), (1, .int p1), (2, .int p2)]) hx hb dX11_goesTo_56 rfl hl (by decide) rfl (fun ls hl => ?_)
          refine lv_aload_n hx hb dX11_goesTo_57 rfl (lv_at hl 1 rfl) ?_
          refine lv_aload_n hx hb dX11_goesTo_58 rfl (lv_at hl 1 rfl) ?_
          refine va_get (D := (dC, dI)) (ci := 8) (v := .ref h_bto) (C := RX11) (T := TX11) (N := 71) hx hb hw iwX11 hown hK hP 5 rfl rfl 27 (by decide) (hw _ w_f_X11_195) (fun _ h9 => h9) rfl dX11_goesTo_59 ?_
          refine lv_iload_n hx hb dX11_goesTo_62 rfl (lv_at hl 0 rfl) ?_
          refine va_iald hx hb hK hP 3 4 rfl rfl (i := r33) (vp_in_iff.mpr (by omega)) dX11_goesTo_63 ?_
          refine lv_topi (fun z36 ez36 => ?_)
          have rz36 : -1 ≤ (z36).toInt ∧ (z36).toInt ≤ 7999 := by rw [ez36]; exact hf_bto _
          refine va_put (D := (dC, dI)) (ci := 8) (v := .int z36) (ty := tyX11 31) (C := RX11) (T := TX11) (N := 71) hx hb hw iwX11 tyX11 tyX11_ok nmX11 hown hK hP hD hS 5 rfl rfl 31 (by decide) (hw _ w_f_X11_264) (fun _ h9 => h9) rfl (tyX11_ok 31 (by decide)) rfl rfl (Nat.le_of_ble_eq_true rfl) dX11_goesTo_64 (fun H locs hP9 hD9 hS9 => ?_)
          clear hP hD hS
          have hP : va_P (dC, dI) cls [(h_na, .inl (cy_na, 8000, .inl f_na)), (h_nb, .inl (cy_nb, 8000, .inl f_nb)), (h_nc, .inl (cy_nc, 8000, .inl f_nc)), (h_bto, .inl (cy_bto, 256, .inl f_bto)), (h_bin, .inl (cy_bin, 256, .inl f_bin)), (h_mm, .inr (8, (mo134 v_mm (.ref h_nv) (.ref h_na) (.ref h_nb) (.ref h_nc) (.ref h_bto) (.ref h_bin) (.int z36) (.int x2)))), (h_nv, .inl (cy_nv, 8000, .inl f_nv))] H := hP9
          have hD : va_D A [(h_na, .inl (cy_na, 8000, .inl f_na)), (h_nb, .inl (cy_nb, 8000, .inl f_nb)), (h_nc, .inl (cy_nc, 8000, .inl f_nc)), (h_bto, .inl (cy_bto, 256, .inl f_bto)), (h_bin, .inl (cy_bin, 256, .inl f_bin)), (h_mm, .inr (8, (mo134 v_mm (.ref h_nv) (.ref h_na) (.ref h_nb) (.ref h_nc) (.ref h_bto) (.ref h_bin) (.int z36) (.int x2)))), (h_nv, .inl (cy_nv, 8000, .inl f_nv))] := hD9
          have hS := hS9
          clear hP9 hD9 hS9
          refine lv_aload_n hx hb dX11_goesTo_67 rfl (lv_at hl 1 rfl) ?_
          refine lv_aload_n hx hb dX11_goesTo_68 rfl (lv_at hl 1 rfl) ?_
          refine va_get (D := (dC, dI)) (ci := 8) (v := .ref h_bin) (C := RX11) (T := TX11) (N := 71) hx hb hw iwX11 hown hK hP 5 rfl rfl 28 (by decide) (hw _ w_f_X11_198) (fun _ h9 => h9) rfl dX11_goesTo_69 ?_
          refine lv_iload_n hx hb dX11_goesTo_72 rfl (lv_at hl 0 rfl) ?_
          refine va_iald hx hb hK hP 4 5 rfl rfl (i := r33) (vp_in_iff.mpr (by omega)) dX11_goesTo_73 ?_
          refine lv_topi (fun z37 ez37 => ?_)
          have rz37 : 0 ≤ (z37).toInt ∧ (z37).toInt ≤ 31 := by rw [ez37]; exact hf_bin _
          refine va_put (D := (dC, dI)) (ci := 8) (v := .int z37) (ty := tyX11 32) (C := RX11) (T := TX11) (N := 71) hx hb hw iwX11 tyX11 tyX11_ok nmX11 hown hK hP hD hS 5 rfl rfl 32 (by decide) (hw _ w_f_X11_267) (fun _ h9 => h9) rfl (tyX11_ok 32 (by decide)) rfl rfl (Nat.le_of_ble_eq_true rfl) dX11_goesTo_74 (fun H locs hP9 hD9 hS9 => ?_)
          clear hP hD hS
          have hP : va_P (dC, dI) cls [(h_na, .inl (cy_na, 8000, .inl f_na)), (h_nb, .inl (cy_nb, 8000, .inl f_nb)), (h_nc, .inl (cy_nc, 8000, .inl f_nc)), (h_bto, .inl (cy_bto, 256, .inl f_bto)), (h_bin, .inl (cy_bin, 256, .inl f_bin)), (h_mm, .inr (8, (mo134 v_mm (.ref h_nv) (.ref h_na) (.ref h_nb) (.ref h_nc) (.ref h_bto) (.ref h_bin) (.int z36) (.int z37)))), (h_nv, .inl (cy_nv, 8000, .inl f_nv))] H := hP9
          have hD : va_D A [(h_na, .inl (cy_na, 8000, .inl f_na)), (h_nb, .inl (cy_nb, 8000, .inl f_nb)), (h_nc, .inl (cy_nc, 8000, .inl f_nc)), (h_bto, .inl (cy_bto, 256, .inl f_bto)), (h_bin, .inl (cy_bin, 256, .inl f_bin)), (h_mm, .inr (8, (mo134 v_mm (.ref h_nv) (.ref h_na) (.ref h_nb) (.ref h_nc) (.ref h_bto) (.ref h_bin) (.int z36) (.int z37)))), (h_nv, .inl (cy_nv, 8000, .inl f_nv))] := hD9
          have hS := hS9
          clear hP9 hD9 hS9
          have hvz6 : (f_nv (x1).toInt.toNat).toInt = (z6).toInt := by rw [ez6, (clamp_nat (i := x1) (by omega))]
          have er9 : r33 = r18 := Int32.toInt_inj.mp (by omega)
          have qb9 : (z36).toInt = (z21).toInt := by rw [ez36, ez21, er9]
          have cz9 := clamp_nat (i := r33) (by omega)
          have fb9 : f_bto (r33).toInt.toNat = z36 := by rw [← cz9, ← ez36]
          have fi9 : f_bin (r33).toInt.toNat = z37 := by rw [← cz9, ← ez37]
          have hb9 : ¬ (f_bto (r33).toInt.toNat).toInt = -1 := by rw [fb9]; omega
          have wb9 := wb_at (s := (r33).toInt.toNat) hn_bi (by omega) hb9
          rw [fb9, fi9] at wb9
          have pg9 := pa_go (s := (r33).toInt.toNat) (i := (x2).toInt) hn_bi klp4_5 (by omega) (by omega) (by omega) (by omega) hb9
          rw [fb9, fi9] at pg9
          have hh8 := (hn_bi.1 (x1).toInt.toNat (by omega) (by omega)).2.2.2
          have hh9 := (hn_bi.1 (z36).toInt.toNat (by omega) (by omega)).2.2.2
          have hl9 : (((r33).toInt.toNat :: gh3)).length = (gh3).length + 1 := rfl
          have pl9 := pg9.2
          have ng38 : ∀ tt : Nat, (f_bto tt).toInt = -1 → NR f_nv f_na f_nb f_nc f_bto f_bin (z36).toInt.toNat (z37).toInt tt → NR f_nv f_na f_nb f_nc f_bto f_bin (p1).toInt.toNat (p2).toInt tt := fun tt h1 h2 => klp4_6 tt h1 (nr_go (s := (r33).toInt.toNat) (by omega) (by omega) hb9 h1 (by rw [fb9, fi9]; exact h2))
          have bl39 : ∀ q9 : Nat, BRE g (BDW f_bto f_bin) (PLR z36 z37) q9 → BRE g (BDW f_bto f_bin) (PLR p1 p2) q9 := fun q9 h9 => klp4_7 q9 (grv_go (s := r33) hn_grv (by omega) (by omega) (by omega) (by omega) fb9 fi9 (by omega) (by omega) h9)
          refine lv_goto (tgt := 10) hx hb dX11_goesTo_77 (by decide) ?_
          replace hP : va_P (dC, dI) cls [(h_mm, .inr (8, (mo134 v_mm (.ref h_nv) (.ref h_na) (.ref h_nb) (.ref h_nc) (.ref h_bto) (.ref h_bin) (.int z36) (.int z37)))), (h_nv, .inl (cy_nv, 8000, .inl f_nv)), (h_na, .inl (cy_na, 8000, .inl f_na)), (h_nb, .inl (cy_nb, 8000, .inl f_nb)), (h_nc, .inl (cy_nc, 8000, .inl f_nc)), (h_bto, .inl (cy_bto, 256, .inl f_bto)), (h_bin, .inl (cy_bin, 256, .inl f_bin))] H := hP.sub [5, 6, 0, 1, 2, 3, 4] rfl
          replace hD : va_D A [(h_mm, .inr (8, (mo134 v_mm (.ref h_nv) (.ref h_na) (.ref h_nb) (.ref h_nc) (.ref h_bto) (.ref h_bin) (.int z36) (.int z37)))), (h_nv, .inl (cy_nv, 8000, .inl f_nv)), (h_na, .inl (cy_na, 8000, .inl f_na)), (h_nb, .inl (cy_nb, 8000, .inl f_nb)), (h_nc, .inl (cy_nc, 8000, .inl f_nc)), (h_bto, .inl (cy_bto, 256, .inl f_bto)), (h_bin, .inl (cy_bin, 256, .inl f_bin))] := hD.sub [5, 6, 0, 1, 2, 3, 4] (by decide) rfl
          exact ih5 (z36) (z37) (((r33).toInt.toNat :: gh3)) _ _ _ (by omega) (by omega) (by omega) (by omega) (by omega) pg9.1 ng38 bl39 (by omega) hP hD hS (lv_sub hl [1, 2, 3] rfl)
  exact lp4 _ (p1) (p2) (P) _ _ _ (by omega) (by omega) (by first | exact q2 | omega) (by first | exact q3 | omega) (by first | exact q4 | omega) hn_pa (fun tt _ h => h) (fun _ h => h) (Nat.le_refl _) hP hD hS (lv_sub hl [0, 1, 2] rfl)

def K_X11_holds (l : Launch) (fu : Nat) : Prop := ∀ (dC : Nat → ClassId) (dI : Nat → Nat → Nat) (sz : Nat) (h_mm : Nat) (h_nv : Nat) (h_na : Nat) (h_nb : Nat) (h_nc : Nat) (h_bto : Nat) (h_bin : Nat) (v_mm : Nat → Value) (x_mm_goneTo : Int32) (x_mm_goneIn : Int32) (cy_nv : ClassId) (f_nv : Nat → Int32) (cy_na : ClassId) (f_na : Nat → Int32) (cy_nb : ClassId) (f_nb : Nat → Int32) (cy_nc : ClassId) (f_nc : Nat → Int32) (cy_bto : ClassId) (f_bto : Nat → Int32) (cy_bin : ClassId) (f_bin : Nat → Int32) (p1 : Int32) (p2 : Int32) (p3 : Int32) (i0 : Int) (i1 : Int) (N : Int) (hz : Nat → Nat) (g : GVT) (P : List Nat) (hx_mm_goneTo : 0 ≤ (x_mm_goneTo).toInt ∧ (x_mm_goneTo).toInt ≤ 7999) (hx_mm_goneIn : 0 ≤ (x_mm_goneIn).toInt ∧ (x_mm_goneIn).toInt ≤ 31) (hf_nv : Rg (-1) 7 f_nv) (hf_na : Rg (-1) 7999 f_na) (hf_nb : Rg (-1) 7999 f_nb) (hf_nc : Rg (-1) 7999 f_nc) (hf_bto : Rg (-1) 7999 f_bto) (hf_bin : Rg 0 31 f_bin) (q0 : 0 ≤ i0 ∧ i0 ≤ i1 ∧ i1 ≤ 31) (q1 : N ≤ 8000) (q2 : 0 ≤ (p1).toInt ∧ (p1).toInt < N) (q3 : i0 ≤ (p2).toInt ∧ (p2).toInt ≤ i1) (q4 : 0 ≤ (p3).toInt ∧ (p3).toInt ≤ 255) (q5 : hz (p1).toInt.toNat + 6 * (256 - (P).length) + 1 ≤ fu) (q6 : (f_bto (p3).toInt.toNat).toInt = -1) (hn_bi : BI i0 i1 N hz f_nv f_na f_nb f_nc f_bto f_bin) (hn_pa : PA i0 P f_nv f_na f_nb f_nc f_bto f_bin (p1).toInt.toNat (p2).toInt) (hn_grv : GRV g f_nv f_na f_nb f_nc), Met l yX11_holds (Ws yX11_holds cX11_holds 7 (some .boolean)) (({ frames := fu + 2, cells := 0, slots := 0, locals := 26 * fu + 45 } : Room)) (PRE (dC, dI) cls [(cy_nv, .int), (cy_na, .int), (cy_nb, .int), (cy_nc, .int), (cy_bto, .int), (cy_bin, .int)] [(h_mm, .inr (8, (mo134 v_mm (.ref h_nv) (.ref h_na) (.ref h_nb) (.ref h_nc) (.ref h_bto) (.ref h_bin) (.int x_mm_goneTo) (.int x_mm_goneIn)))), (h_nv, .inl (cy_nv, 8000, .inl f_nv)), (h_na, .inl (cy_na, 8000, .inl f_na)), (h_nb, .inl (cy_nb, 8000, .inl f_nb)), (h_nc, .inl (cy_nc, 8000, .inl f_nc)), (h_bto, .inl (cy_bto, 256, .inl f_bto)), (h_bin, .inl (cy_bin, 256, .inl f_bin))] sz [.ref h_mm, .int p1, .int p2, .int p3]) (va_Qi (fun (r : Int32) (u : (Int32) × (Int32)) => (0 ≤ (u.1).toInt ∧ (u.1).toInt ≤ 7999) ∧ (0 ≤ (u.2).toInt ∧ (u.2).toInt ≤ 31) ∧ (0 ≤ r.toInt ∧ r.toInt ≤ 1) ∧ ((r).toInt = 1 ∨ NR f_nv f_na f_nb f_nc f_bto f_bin (p1).toInt.toNat (p2).toInt (p3).toInt.toNat) ∧ (((r).toInt = 1 ∧ OCC g (BDW f_bto f_bin) (PLR p1 p2) (p3).toInt.toNat) ∨ ((r).toInt = 0 ∧ ¬ OCC g (BDW f_bto f_bin) (PLR p1 p2) (p3).toInt.toNat))) (fun (u : (Int32) × (Int32)) (t : State) => va_P (dC, dI) cls [(h_mm, .inr (8, (mo134 v_mm (.ref h_nv) (.ref h_na) (.ref h_nb) (.ref h_nc) (.ref h_bto) (.ref h_bin) (.int u.1) (.int u.2)))), (h_nv, .inl (cy_nv, 8000, .inl f_nv)), (h_na, .inl (cy_na, 8000, .inl f_na)), (h_nb, .inl (cy_nb, 8000, .inl f_nb)), (h_nc, .inl (cy_nc, 8000, .inl f_nc)), (h_bto, .inl (cy_bto, 256, .inl f_bto)), (h_bin, .inl (cy_bin, 256, .inl f_bin))] t.heap ∧ va_D (va_A [(h_mm, .inr (8, (mo134 v_mm (.ref h_nv) (.ref h_na) (.ref h_nb) (.ref h_nc) (.ref h_bto) (.ref h_bin) (.int x_mm_goneTo) (.int x_mm_goneIn)))), (h_nv, .inl (cy_nv, 8000, .inl f_nv)), (h_na, .inl (cy_na, 8000, .inl f_na)), (h_nb, .inl (cy_nb, 8000, .inl f_nb)), (h_nc, .inl (cy_nc, 8000, .inl f_nc)), (h_bto, .inl (cy_bto, 256, .inl f_bto)), (h_bin, .inl (cy_bin, 256, .inl f_bin))] sz) [(h_mm, .inr (8, (mo134 v_mm (.ref h_nv) (.ref h_na) (.ref h_nb) (.ref h_nc) (.ref h_bto) (.ref h_bin) (.int u.1) (.int u.2)))), (h_nv, .inl (cy_nv, 8000, .inl f_nv)), (h_na, .inl (cy_na, 8000, .inl f_na)), (h_nb, .inl (cy_nb, 8000, .inl f_nb)), (h_nc, .inl (cy_nc, 8000, .inl f_nc)), (h_bto, .inl (cy_bto, 256, .inl f_bto)), (h_bin, .inl (cy_bin, 256, .inl f_bin))]) (va_A [(h_mm, .inr (8, (mo134 v_mm (.ref h_nv) (.ref h_na) (.ref h_nb) (.ref h_nc) (.ref h_bto) (.ref h_bin) (.int x_mm_goneTo) (.int x_mm_goneIn)))), (h_nv, .inl (cy_nv, 8000, .inl f_nv)), (h_na, .inl (cy_na, 8000, .inl f_na)), (h_nb, .inl (cy_nb, 8000, .inl f_nb)), (h_nc, .inl (cy_nc, 8000, .inl f_nc)), (h_bto, .inl (cy_bto, 256, .inl f_bto)), (h_bin, .inl (cy_bin, 256, .inl f_bin))] sz)) 0 0 (va_A [(h_mm, .inr (8, (mo134 v_mm (.ref h_nv) (.ref h_na) (.ref h_nb) (.ref h_nc) (.ref h_bto) (.ref h_bin) (.int x_mm_goneTo) (.int x_mm_goneIn)))), (h_nv, .inl (cy_nv, 8000, .inl f_nv)), (h_na, .inl (cy_na, 8000, .inl f_na)), (h_nb, .inl (cy_nb, 8000, .inl f_nb)), (h_nc, .inl (cy_nc, 8000, .inl f_nc)), (h_bto, .inl (cy_bto, 256, .inl f_bto)), (h_bin, .inl (cy_bin, 256, .inl f_bin))] sz)
set_option maxHeartbeats 8000000 in
set_option maxRecDepth 100000 in
theorem c_X11_holds (l : Launch) (fu : Nat) : K_X11_holds l fu := by
  refine Nat.rec (motive := fun fu => K_X11_holds l fu) ?_ ?_ fu
  · intro dC dI sz h_mm h_nv h_na h_nb h_nc h_bto h_bin v_mm x_mm_goneTo x_mm_goneIn cy_nv f_nv cy_na f_na cy_nb f_nb cy_nc f_nc cy_bto f_bto cy_bin f_bin p1 p2 p3 i0 i1 N hz g P hx_mm_goneTo hx_mm_goneIn hf_nv hf_na hf_nb hf_nc hf_bto hf_bin q0 q1 q2 q3 q4 q5 q6 hn_bi hn_pa hn_grv
    have h09 : Nat.zero = 0 := rfl
    exact False.elim (by omega)
  intro fu ihf
  intro dC dI sz h_mm h_nv h_na h_nb h_nc h_bto h_bin v_mm x_mm_goneTo x_mm_goneIn cy_nv f_nv cy_na f_na cy_nb f_nb cy_nc f_nc cy_bto f_bto cy_bin f_bin p1 p2 p3 i0 i1 N hz g P hx_mm_goneTo hx_mm_goneIn hf_nv hf_na hf_nb hf_nc hf_bto hf_bin q0 q1 q2 q3 q4 q5 q6 hn_bi hn_pa hn_grv
  refine Met.ofW (cc := cX11_holds) (maxL := 7) (ret := (some .boolean)) (by decide) rfl ?_
  intro p e s m args below meth c s₁ B hml hv
  obtain ⟨rfl, hsz, hP, hK, hD0, hN⟩ := hv
  have hx := B.exec
  have hb := B.bytes
  have hr := B.returns
  have hts := atoms_spec (ws := Ws yX11_holds cX11_holds 7 (some .boolean)) B.pre
  have hT : ∀ w ∈ WALL, w ∈ Ws yX11_holds cX11_holds 7 (some .boolean) := fun w h => List.mem_cons_of_mem _ h
  have hw := fun w (h : w ∈ WALL) => hts w (hT w h)
  have hown : s.vm.findClass RX11 = some m.cls := findClass_of_methodNamed B.named
  have hlocks := B.notSynchronized
  subst hsz
  have hD := hD0.self (sz := s.heap.size)
  generalize hAe : va_A [(h_mm, .inr (8, (mo134 v_mm (.ref h_nv) (.ref h_na) (.ref h_nb) (.ref h_nc) (.ref h_bto) (.ref h_bin) (.int x_mm_goneTo) (.int x_mm_goneIn)))), (h_nv, .inl (cy_nv, 8000, .inl f_nv)), (h_na, .inl (cy_na, 8000, .inl f_na)), (h_nb, .inl (cy_nb, 8000, .inl f_nb)), (h_nc, .inl (cy_nc, 8000, .inl f_nc)), (h_bto, .inl (cy_bto, 256, .inl f_bto)), (h_bin, .inl (cy_bin, 256, .inl f_bin))] s.heap.size = A at hD ⊢
  have hA : ∀ q : Nat, s.heap.size ≤ q → A q := fun q h => by rw [← hAe]; exact Or.inr h
  have hS : va_S A s.heap s.heap [] := va_S.rf
  have hl := lv_entry ([.ref h_mm, .int p1, .int p2, .int p3]) (n := 7) (Nat.le_of_ble_eq_true rfl)
  rw [lg_entry_eq]
  generalize (lg_sl ([.ref h_mm, .int p1, .int p2, .int p3]) ++ List.replicate (7 - (lg_sl ([.ref h_mm, .int p1, .int p2, .int p3])).length) Slot.unset).toArray = ls at hl ⊢
  have hl : lv_has ls 7 [(0, .ref h_mm), (1, .int p1), (2, .int p2), (3, .int p3)] := hl
  refine lv_aload_n hx hb dX11_holds_0 rfl (lv_at hl 0 rfl) ?_
  refine lv_iload_n hx hb dX11_holds_1 rfl (lv_at hl 1 rfl) ?_
  refine lv_iload_n hx hb dX11_holds_2 rfl (lv_at hl 2 rfl) ?_
  have hPc := hP.sub (ws' := [(h_mm, .inr (8, (mo134 v_mm (.ref h_nv) (.ref h_na) (.ref h_nb) (.ref h_nc) (.ref h_bto) (.ref h_bin) (.int x_mm_goneTo) (.int x_mm_goneIn)))), (h_nv, .inl (cy_nv, 8000, .inl f_nv)), (h_na, .inl (cy_na, 8000, .inl f_na)), (h_nb, .inl (cy_nb, 8000, .inl f_nb)), (h_nc, .inl (cy_nc, 8000, .inl f_nc)), (h_bto, .inl (cy_bto, 256, .inl f_bto)), (h_bin, .inl (cy_bin, 256, .inl f_bin))]) [0, 1, 2, 3, 4, 5, 6] rfl
  have hDc := hD.sub (ws' := [(h_mm, .inr (8, (mo134 v_mm (.ref h_nv) (.ref h_na) (.ref h_nb) (.ref h_nc) (.ref h_bto) (.ref h_bin) (.int x_mm_goneTo) (.int x_mm_goneIn)))), (h_nv, .inl (cy_nv, 8000, .inl f_nv)), (h_na, .inl (cy_na, 8000, .inl f_na)), (h_nb, .inl (cy_nb, 8000, .inl f_nb)), (h_nc, .inl (cy_nc, 8000, .inl f_nc)), (h_bto, .inl (cy_bto, 256, .inl f_bto)), (h_bin, .inl (cy_bin, 256, .inl f_bin))]) [0, 1, 2, 3, 4, 5, 6] (by decide) rfl
  have hKc := hK.sub (tys' := [(cy_nv, .int), (cy_na, .int), (cy_nb, .int), (cy_nc, .int), (cy_bto, .int), (cy_bin, .int)]) [0, 1, 2, 3, 4, 5] rfl
  have hFc := va_free (wc := [(h_mm, .inr (8, (mo134 v_mm (.ref h_nv) (.ref h_na) (.ref h_nb) (.ref h_nc) (.ref h_bto) (.ref h_bin) (.int x_mm_goneTo) (.int x_mm_goneIn)))), (h_nv, .inl (cy_nv, 8000, .inl f_nv)), (h_na, .inl (cy_na, 8000, .inl f_na)), (h_nb, .inl (cy_nb, 8000, .inl f_nb)), (h_nc, .inl (cy_nc, 8000, .inl f_nc)), (h_bto, .inl (cy_bto, 256, .inl f_bto)), (h_bin, .inl (cy_bin, 256, .inl f_bin))]) hD hS hA [0, 1, 2, 3, 4, 5, 6] rfl
  refine va_callv (va_runV (As := [.int p1, .int p2]) (rest := []) ⟨hx, hb, hml, hown, hts⟩ (c_X11_goesTo l dC dI s.heap.size h_mm h_nv h_na h_nb h_nc h_bto h_bin v_mm x_mm_goneTo x_mm_goneIn cy_nv f_nv cy_na f_na cy_nb f_nb cy_nc f_nc cy_bto f_bto cy_bin f_bin p1 p2 i0 i1 N hz g P (fu + 1) (by first | exact hx_mm_goneTo | omega) (by first | exact hx_mm_goneIn | omega) hf_nv hf_na hf_nb hf_nc hf_bto hf_bin (by first | exact q0 | omega) (by first | exact q1 | omega) (by first | exact q2 | omega) (by first | exact q3 | omega) (by omega) hn_bi hn_pa hn_grv) (cwV 2 hts (gv hT w_m_X11_273 w_instanceMethod_X11_goesTo ws_sel_X11_goesTo w_ini_X11 w_code_X11_goesTo) rfl rfl rfl (by decide +kernel) ⟨(by dsimp only [headSpec]; omega), (by dsimp only [headSpec]; omega)⟩) ⟨pre_blind, va_recv hK hP (ci := 8) (q0 := 0) rfl rfl, pre_of hPc hKc hDc hN⟩ rfl rfl hl.1 rfl (lv_room (Nat.le_of_ble_eq_true rfl)) dX11_holds_3 ⟨(Nat.le_of_ble_eq_true rfl), (Nat.le_of_ble_eq_true rfl)⟩) hS (fun q _ h => hFc q h) hFc (fun u t H locs ht hvm hq hB hz1 hk1 hS9 => ?_)
  obtain ⟨z2, z3, z4⟩ := u
  obtain ⟨hP1, hD1⟩ := hB
  rw [ht] at hP1
  obtain ⟨hP9, hD9⟩ := va_join (wr := []) (w1 := [(h_mm, .inr (8, (mo134 v_mm (.ref h_nv) (.ref h_na) (.ref h_nb) (.ref h_nc) (.ref h_bto) (.ref h_bin) (.int z2) (.int z3)))), (h_nv, .inl (cy_nv, 8000, .inl f_nv)), (h_na, .inl (cy_na, 8000, .inl f_na)), (h_nb, .inl (cy_nb, 8000, .inl f_nb)), (h_nc, .inl (cy_nc, 8000, .inl f_nc)), (h_bto, .inl (cy_bto, 256, .inl f_bto)), (h_bin, .inl (cy_bin, 256, .inl f_bin))]) hP hD [0, 1, 2, 3, 4, 5, 6] [] rfl rfl (by decide) (by decide) hk1 hFc hP1 hD1
  clear hP hD hS hPc hDc hKc hFc hP1 hD1 hk1 hz1 ht hvm
  have hP : va_P (dC, dI) cls [(h_mm, .inr (8, (mo134 v_mm (.ref h_nv) (.ref h_na) (.ref h_nb) (.ref h_nc) (.ref h_bto) (.ref h_bin) (.int z2) (.int z3)))), (h_nv, .inl (cy_nv, 8000, .inl f_nv)), (h_na, .inl (cy_na, 8000, .inl f_na)), (h_nb, .inl (cy_nb, 8000, .inl f_nb)), (h_nc, .inl (cy_nc, 8000, .inl f_nc)), (h_bto, .inl (cy_bto, 256, .inl f_bto)), (h_bin, .inl (cy_bin, 256, .inl f_bin))] H := hP9
  have hD : va_D A [(h_mm, .inr (8, (mo134 v_mm (.ref h_nv) (.ref h_na) (.ref h_nb) (.ref h_nc) (.ref h_bto) (.ref h_bin) (.int z2) (.int z3)))), (h_nv, .inl (cy_nv, 8000, .inl f_nv)), (h_na, .inl (cy_na, 8000, .inl f_na)), (h_nb, .inl (cy_nb, 8000, .inl f_nb)), (h_nc, .inl (cy_nc, 8000, .inl f_nc)), (h_bto, .inl (cy_bto, 256, .inl f_bto)), (h_bin, .inl (cy_bin, 256, .inl f_bin))] := hD9
  have hS := hS9
  clear hP9 hD9 hS9
  obtain ⟨k5, k6, k7, k8, k9, k10, k11, k12, k13⟩ := hq
  replace k5 : 0 ≤ ((z2)).toInt ∧ ((z2)).toInt ≤ 7999 := k5
  replace k6 : 0 ≤ ((z3)).toInt ∧ ((z3)).toInt ≤ 31 := k6
  replace k7 : 0 ≤ ((z2)).toInt ∧ ((z2)).toInt < (N) := k7
  replace k8 : (i0) ≤ ((z3)).toInt ∧ ((z3)).toInt ≤ (i1) := k8
  replace k9 : (hz) ((z2)).toInt.toNat + 6 * (256 - ((z4)).length) + 1 ≤ ((fu + 1)) := k9
  replace k10 : PA (i0) (z4) f_nv f_na f_nb f_nc f_bto f_bin ((z2)).toInt.toNat ((z3)).toInt := k10
  replace k11 : (f_nv ((z2)).toInt.toNat).toInt = -1 ∨ (f_bto (8 * ((z3)).toInt + (f_nv ((z2)).toInt.toNat).toInt).toNat).toInt = -1 := k11
  replace k12 : ∀ tt : Nat, (f_bto tt).toInt = -1 → NR f_nv f_na f_nb f_nc f_bto f_bin ((z2)).toInt.toNat ((z3)).toInt tt → NR f_nv f_na f_nb f_nc f_bto f_bin ((p1)).toInt.toNat ((p2)).toInt tt := k12
  replace k13 : BRE (g) (BDW f_bto f_bin) (PLR (p1) (p2)) (PLR (z2) (z3)) := k13
  refine lv_aload_n hx hb dX11_holds_6 rfl (lv_at hl 0 rfl) ?_
  refine va_get (D := (dC, dI)) (ci := 8) (v := .int z2) (C := RX11) (T := TX11) (N := 71) hx hb hw iwX11 hown hK hP 0 rfl rfl 31 (by decide) (hw _ w_f_X11_264) (fun _ h9 => h9) rfl dX11_holds_7 ?_
  refine lv_istore (lv' := [(4, .int z2), (0, .ref h_mm), (1, .int p1), (2, .int p2), (3, .int p3)]) hx hb dX11_holds_10 hl (by decide) rfl (fun ls hl => ?_)
  refine lv_aload_n hx hb dX11_holds_12 rfl (lv_at hl 1 rfl) ?_
  refine va_get (D := (dC, dI)) (ci := 8) (v := .int z3) (C := RX11) (T := TX11) (N := 71) hx hb hw iwX11 hown hK hP 0 rfl rfl 32 (by decide) (hw _ w_f_X11_267) (fun _ h9 => h9) rfl dX11_holds_13 ?_
  refine lv_istore (lv' := [(5, .int z3), (4, .int z2), (0, .ref h_mm), (1, .int p1), (2, .int p2), (3, .int p3)]) hx hb dX11_holds_16 hl (by decide) rfl (fun ls hl => ?_)
  refine lv_aload_n hx hb dX11_holds_18 rfl (lv_at hl 2 rfl) ?_
  refine va_get (D := (dC, dI)) (ci := 8) (v := .ref h_nv) (C := RX11) (T := TX11) (N := 71) hx hb hw iwX11 hown hK hP 0 rfl rfl 1 (by decide) (hw _ w_f_X11_17) (fun _ h9 => h9) rfl dX11_holds_19 ?_
  refine lv_iload hx hb dX11_holds_22 (lv_at hl 1 rfl) ?_
  refine va_iald hx hb hK hP 1 0 rfl rfl (i := z2) (vp_in_iff.mpr (by omega)) dX11_holds_24 ?_
  refine lv_topi (fun z14 ez14 => ?_)
  have rz14 : -1 ≤ (z14).toInt ∧ (z14).toInt ≤ 7 := by rw [ez14]; exact hf_nv _
  refine lv_iconst (v := (-1)) hx hb dX11_holds_25 (by decide) ?_
  refine lv_icmp_eq (tgt := 47) hx hb dX11_holds_26 (by decide) (fun c15 => ?_) (fun c15 => ?_)
  · have kc15 := (cv_eq (rfl : (z14).toInt = (z14).toInt) (by decide : ((-1) : Int32).toInt = -1)).mp c15
    have hvz14 : (f_nv (z2).toInt.toNat).toInt = (z14).toInt := by rw [ez14, (clamp_nat (i := z2) (by omega))]
    have nk0 : ∀ j : Int, 0 ≤ j → j < 0 → NR f_nv f_na f_nb f_nc f_bto f_bin (ptx f_na f_nb f_nc (z2).toInt.toNat j).toInt.toNat (z3).toInt (p3).toInt.toNat := fun j h1 h2 => absurd h2 (by omega)
    have gv9 := grv_v (i := z3) hn_grv (show 0 ≤ (z2).toInt ∧ (z2).toInt < 8000 by omega)
    have ga9 := grv_a (i := z3) hn_grv (show 0 ≤ (z2).toInt ∧ (z2).toInt < 8000 by omega)
    have np9 : 0 ≤ npx f_nv f_na f_nb f_nc (z2).toInt.toNat := npx_nn
    have cst0 : (0 : Int32).toInt = 0 := by decide
    refine lv_iconst (v := 0) hx hb dX11_holds_47 (by decide) ?_
    refine lv_istore (lv' := [(6, .int 0), (5, .int z3), (4, .int z2), (0, .ref h_mm), (1, .int p1), (2, .int p2), (3, .int p3)]) hx hb dX11_holds_48 hl (by decide) rfl (fun ls hl => ?_)
    have lp19 : ∀ (n : Nat) (x16 : Int32) (x17 : Int32) (x18 : Int32) (H : Heap) (locs : List Loc) (ls : Array Slot), (0 ≤ (x16).toInt ∧ (x16).toInt ≤ 3) → (0 ≤ (x17).toInt ∧ (x17).toInt ≤ 7999) → (0 ≤ (x18).toInt ∧ (x18).toInt ≤ 31) → ((x16).toInt ≤ npx f_nv f_na f_nb f_nc ((z2).toInt).toNat) → (∀ j : Int, 0 ≤ j → j < (x16).toInt → NR f_nv f_na f_nb f_nc f_bto f_bin (ptx f_na f_nb f_nc ((z2).toInt).toNat j).toInt.toNat (z3).toInt (p3).toInt.toNat) → (OCK g (BDW f_bto f_bin) (PLR z2 z3) (p3).toInt.toNat ((x16).toInt)) → (3 - (x16).toInt).toNat + 1 ≤ n → va_P (dC, dI) cls [(h_mm, .inr (8, (mo134 v_mm (.ref h_nv) (.ref h_na) (.ref h_nb) (.ref h_nc) (.ref h_bto) (.ref h_bin) (.int x17) (.int x18)))), (h_nv, .inl (cy_nv, 8000, .inl f_nv)), (h_na, .inl (cy_na, 8000, .inl f_na)), (h_nb, .inl (cy_nb, 8000, .inl f_nb)), (h_nc, .inl (cy_nc, 8000, .inl f_nc)), (h_bto, .inl (cy_bto, 256, .inl f_bto)), (h_bin, .inl (cy_bin, 256, .inl f_bin))] H → va_D A [(h_mm, .inr (8, (mo134 v_mm (.ref h_nv) (.ref h_na) (.ref h_nb) (.ref h_nc) (.ref h_bto) (.ref h_bin) (.int x17) (.int x18)))), (h_nv, .inl (cy_nv, 8000, .inl f_nv)), (h_na, .inl (cy_na, 8000, .inl f_na)), (h_nb, .inl (cy_nb, 8000, .inl f_nb)), (h_nc, .inl (cy_nc, 8000, .inl f_nc)), (h_bto, .inl (cy_bto, 256, .inl f_bto)), (h_bin, .inl (cy_bin, 256, .inl f_bin))] → va_S A s.heap H locs → lv_has ls 7 [(0, .ref h_mm), (1, .int p1), (2, .int p2), (3, .int p3), (4, .int z2), (5, .int z3), (6, .int x16)] → W p l e ({ frames := (fu + 1) + 2, cells := 0, slots := 0, locals := 26 * (fu + 1) + 45 } : Room) s m ([.ref h_mm, .int p1, .int p2, .int p3] : List Value).toArray below meth c H locs 0 0 (MQ below (va_Qi (fun (r : Int32) (u : (Int32) × (Int32)) => (0 ≤ (u.1).toInt ∧ (u.1).toInt ≤ 7999) ∧ (0 ≤ (u.2).toInt ∧ (u.2).toInt ≤ 31) ∧ (0 ≤ r.toInt ∧ r.toInt ≤ 1) ∧ ((r).toInt = 1 ∨ NR f_nv f_na f_nb f_nc f_bto f_bin (p1).toInt.toNat (p2).toInt (p3).toInt.toNat) ∧ (((r).toInt = 1 ∧ OCC g (BDW f_bto f_bin) (PLR p1 p2) (p3).toInt.toNat) ∨ ((r).toInt = 0 ∧ ¬ OCC g (BDW f_bto f_bin) (PLR p1 p2) (p3).toInt.toNat))) (fun (u : (Int32) × (Int32)) (t : State) => va_P (dC, dI) cls [(h_mm, .inr (8, (mo134 v_mm (.ref h_nv) (.ref h_na) (.ref h_nb) (.ref h_nc) (.ref h_bto) (.ref h_bin) (.int u.1) (.int u.2)))), (h_nv, .inl (cy_nv, 8000, .inl f_nv)), (h_na, .inl (cy_na, 8000, .inl f_na)), (h_nb, .inl (cy_nb, 8000, .inl f_nb)), (h_nc, .inl (cy_nc, 8000, .inl f_nc)), (h_bto, .inl (cy_bto, 256, .inl f_bto)), (h_bin, .inl (cy_bin, 256, .inl f_bin))] t.heap ∧ va_D A [(h_mm, .inr (8, (mo134 v_mm (.ref h_nv) (.ref h_na) (.ref h_nb) (.ref h_nc) (.ref h_bto) (.ref h_bin) (.int u.1) (.int u.2)))), (h_nv, .inl (cy_nv, 8000, .inl f_nv)), (h_na, .inl (cy_na, 8000, .inl f_na)), (h_nb, .inl (cy_nb, 8000, .inl f_nb)), (h_nc, .inl (cy_nc, 8000, .inl f_nc)), (h_bto, .inl (cy_bto, 256, .inl f_bto)), (h_bin, .inl (cy_bin, 256, .inl f_bin))]) A) ([.ref h_mm, .int p1, .int p2, .int p3] : List Value).toArray s 0 0 A) (F0 m 50 ls []) := by
      clear hP hD hS hl
      intro n
      induction n with
      | zero => intro x16 x17 x18 H locs ls klp19_0 klp19_1 klp19_2 klp19_3 klp19_4 klp19_5 hm hP hD hS hl; exact False.elim (by omega)
      | succ n ih => 
        intro x16 x17 x18 H locs ls klp19_0 klp19_1 klp19_2 klp19_3 klp19_4 klp19_5 hm hP hD hS hl
        have ih20 := ih
        clear ih
        refine lv_iload hx hb dX11_holds_50 (lv_at hl 6 rfl) ?_
        refine lv_aload_n hx hb dX11_holds_52 rfl (lv_at hl 0 rfl) ?_
        refine lv_iload hx hb dX11_holds_53 (lv_at hl 4 rfl) ?_
        obtain ⟨vq21, evq21⟩ := mq134_86 v_mm (.ref h_bto) (.ref h_bin) (.int x17) (.int x18)
        replace hP : va_P (dC, dI) cls [(h_mm, .inr (8, (mo86 vq21 (.ref h_nv) (.ref h_na) (.ref h_nb) (.ref h_nc)))), (h_nv, .inl (cy_nv, 8000, .inl f_nv)), (h_na, .inl (cy_na, 8000, .inl f_na)), (h_nb, .inl (cy_nb, 8000, .inl f_nb)), (h_nc, .inl (cy_nc, 8000, .inl f_nc)), (h_bto, .inl (cy_bto, 256, .inl f_bto)), (h_bin, .inl (cy_bin, 256, .inl f_bin))] H := by rw [evq21]; exact hP
        replace hD : va_D A [(h_mm, .inr (8, (mo86 vq21 (.ref h_nv) (.ref h_na) (.ref h_nb) (.ref h_nc)))), (h_nv, .inl (cy_nv, 8000, .inl f_nv)), (h_na, .inl (cy_na, 8000, .inl f_na)), (h_nb, .inl (cy_nb, 8000, .inl f_nb)), (h_nc, .inl (cy_nc, 8000, .inl f_nc)), (h_bto, .inl (cy_bto, 256, .inl f_bto)), (h_bin, .inl (cy_bin, 256, .inl f_bin))] := by rw [evq21]; exact hD
        have hPc := hP.sub (ws' := [(h_mm, .inr (8, (mo86 vq21 (.ref h_nv) (.ref h_na) (.ref h_nb) (.ref h_nc)))), (h_nv, .inl (cy_nv, 8000, .inl f_nv)), (h_na, .inl (cy_na, 8000, .inl f_na)), (h_nb, .inl (cy_nb, 8000, .inl f_nb)), (h_nc, .inl (cy_nc, 8000, .inl f_nc))]) [0, 1, 2, 3, 4] rfl
        have hDc := hD.sub (ws' := [(h_mm, .inr (8, (mo86 vq21 (.ref h_nv) (.ref h_na) (.ref h_nb) (.ref h_nc)))), (h_nv, .inl (cy_nv, 8000, .inl f_nv)), (h_na, .inl (cy_na, 8000, .inl f_na)), (h_nb, .inl (cy_nb, 8000, .inl f_nb)), (h_nc, .inl (cy_nc, 8000, .inl f_nc))]) [0, 1, 2, 3, 4] (by decide) rfl
        have hKc := hK.sub (tys' := [(cy_nv, .int), (cy_na, .int), (cy_nb, .int), (cy_nc, .int)]) [0, 1, 2, 3] rfl
        have hFc := va_free (wc := [(h_mm, .inr (8, (mo86 vq21 (.ref h_nv) (.ref h_na) (.ref h_nb) (.ref h_nc)))), (h_nv, .inl (cy_nv, 8000, .inl f_nv)), (h_na, .inl (cy_na, 8000, .inl f_na)), (h_nb, .inl (cy_nb, 8000, .inl f_nb)), (h_nc, .inl (cy_nc, 8000, .inl f_nc))]) hD hS hA [0, 1, 2, 3, 4] rfl
        refine va_calli (va_runV (As := [.int z2]) (rest := [.int x16]) ⟨hx, hb, hml, hown, hts⟩ (c_X11_partsAt_e l dC dI H.size h_mm h_nv h_na h_nb h_nc vq21 cy_nv f_nv cy_na f_na cy_nb f_nb cy_nc f_nc z2 hf_nv hf_na hf_nb hf_nc (by first | exact k5 | omega)) (cwV 1 hts (gv hT w_m_X11_27 w_instanceMethod_X11_partsAt ws_sel_X11_partsAt w_ini_X11 w_code_X11_partsAt) rfl rfl rfl (by decide +kernel) ⟨(by dsimp only [headSpec]; omega), (by dsimp only [headSpec]; omega)⟩) ⟨pre_blind, va_recv hK hP (ci := 8) (q0 := 0) rfl rfl, pre_of hPc hKc hDc hN⟩ rfl rfl hl.1 rfl (lv_room (Nat.le_of_ble_eq_true rfl)) dX11_holds_55 ⟨(Nat.le_of_ble_eq_true rfl), (Nat.le_of_ble_eq_true rfl)⟩) hS (fun q _ h => hFc q h) hFc (fun r22 u t H locs ht hvm hq hB hz1 hk1 hS9 => ?_)
        obtain ⟨hP1, hD1⟩ := hB
        rw [ht] at hP1
        obtain ⟨hP9, hD9⟩ := va_join (wr := [(h_bto, .inl (cy_bto, 256, .inl f_bto)), (h_bin, .inl (cy_bin, 256, .inl f_bin))]) (w1 := [(h_mm, .inr (8, (mo86 vq21 (.ref h_nv) (.ref h_na) (.ref h_nb) (.ref h_nc)))), (h_nv, .inl (cy_nv, 8000, .inl f_nv)), (h_na, .inl (cy_na, 8000, .inl f_na)), (h_nb, .inl (cy_nb, 8000, .inl f_nb)), (h_nc, .inl (cy_nc, 8000, .inl f_nc))]) hP hD [0, 1, 2, 3, 4] [5, 6] rfl rfl (by decide) (by decide) hk1 hFc hP1 hD1
        clear hP hD hS hPc hDc hKc hFc hP1 hD1 hk1 hz1 ht hvm
        have hP : va_P (dC, dI) cls [(h_bto, .inl (cy_bto, 256, .inl f_bto)), (h_bin, .inl (cy_bin, 256, .inl f_bin)), (h_mm, .inr (8, (mo86 vq21 (.ref h_nv) (.ref h_na) (.ref h_nb) (.ref h_nc)))), (h_nv, .inl (cy_nv, 8000, .inl f_nv)), (h_na, .inl (cy_na, 8000, .inl f_na)), (h_nb, .inl (cy_nb, 8000, .inl f_nb)), (h_nc, .inl (cy_nc, 8000, .inl f_nc))] H := hP9
        have hD : va_D A [(h_bto, .inl (cy_bto, 256, .inl f_bto)), (h_bin, .inl (cy_bin, 256, .inl f_bin)), (h_mm, .inr (8, (mo86 vq21 (.ref h_nv) (.ref h_na) (.ref h_nb) (.ref h_nc)))), (h_nv, .inl (cy_nv, 8000, .inl f_nv)), (h_na, .inl (cy_na, 8000, .inl f_na)), (h_nb, .inl (cy_nb, 8000, .inl f_nb)), (h_nc, .inl (cy_nc, 8000, .inl f_nc))] := hD9
        have hS := hS9
        clear hP9 hD9 hS9
        rw [evq21] at hP hD
        replace hP : va_P (dC, dI) cls [(h_bto, .inl (cy_bto, 256, .inl f_bto)), (h_bin, .inl (cy_bin, 256, .inl f_bin)), (h_mm, .inr (8, (mo134 v_mm (.ref h_nv) (.ref h_na) (.ref h_nb) (.ref h_nc) (.ref h_bto) (.ref h_bin) (.int x17) (.int x18)))), (h_nv, .inl (cy_nv, 8000, .inl f_nv)), (h_na, .inl (cy_na, 8000, .inl f_na)), (h_nb, .inl (cy_nb, 8000, .inl f_nb)), (h_nc, .inl (cy_nc, 8000, .inl f_nc))] H := hP
        replace hD : va_D A [(h_bto, .inl (cy_bto, 256, .inl f_bto)), (h_bin, .inl (cy_bin, 256, .inl f_bin)), (h_mm, .inr (8, (mo134 v_mm (.ref h_nv) (.ref h_na) (.ref h_nb) (.ref h_nc) (.ref h_bto) (.ref h_bin) (.int x17) (.int x18)))), (h_nv, .inl (cy_nv, 8000, .inl f_nv)), (h_na, .inl (cy_na, 8000, .inl f_na)), (h_nb, .inl (cy_nb, 8000, .inl f_nb)), (h_nc, .inl (cy_nc, 8000, .inl f_nc))] := hD
        clear evq21 
        obtain ⟨k23, k24⟩ := hq
        replace k23 : 0 ≤ (r22).toInt ∧ (r22).toInt ≤ 3 := k23
        replace k24 : ((r22)).toInt = (npx f_nv f_na f_nb f_nc ((z2)).toInt.toNat) := k24
        refine lv_icmp_ge (tgt := 87) hx hb dX11_holds_58 (by decide) (fun c25 => ?_) (fun c25 => ?_)
        · have kc25 := (cv_le (rfl : (r22).toInt = (r22).toInt) (rfl : (x16).toInt = (x16).toInt)).mp c25
          have bt9 : (BDW f_bto f_bin) (p3).toInt.toNat < 0 := by unfold BDW; rw [if_pos q6]; decide
          refine lv_iconst (v := 0) hx hb dX11_holds_87 (by decide) ?_
          replace hP : va_P (dC, dI) cls [(h_mm, .inr (8, (mo134 v_mm (.ref h_nv) (.ref h_na) (.ref h_nb) (.ref h_nc) (.ref h_bto) (.ref h_bin) (.int x17) (.int x18)))), (h_nv, .inl (cy_nv, 8000, .inl f_nv)), (h_na, .inl (cy_na, 8000, .inl f_na)), (h_nb, .inl (cy_nb, 8000, .inl f_nb)), (h_nc, .inl (cy_nc, 8000, .inl f_nc)), (h_bto, .inl (cy_bto, 256, .inl f_bto)), (h_bin, .inl (cy_bin, 256, .inl f_bin))] H := hP.sub [2, 3, 4, 5, 6, 0, 1] rfl
          replace hD : va_D A [(h_mm, .inr (8, (mo134 v_mm (.ref h_nv) (.ref h_na) (.ref h_nb) (.ref h_nc) (.ref h_bto) (.ref h_bin) (.int x17) (.int x18)))), (h_nv, .inl (cy_nv, 8000, .inl f_nv)), (h_na, .inl (cy_na, 8000, .inl f_na)), (h_nb, .inl (cy_nb, 8000, .inl f_nb)), (h_nc, .inl (cy_nc, 8000, .inl f_nc)), (h_bto, .inl (cy_bto, 256, .inl f_bto)), (h_bin, .inl (cy_bin, 256, .inl f_bin))] := hD.sub [2, 3, 4, 5, 6, 0, 1] (by decide) rfl
          refine W.widen (k := 0) (n := 0) (Nat.le_of_ble_eq_true rfl) (Nat.le_of_ble_eq_true rfl) ?_
          have cst0 : (0 : Int32).toInt = 0 := by decide
          have w26 : 0 ≤ ((x17)).toInt ∧ ((x17)).toInt ≤ 7999 := by first | exact klp19_1 | omega
          have w27 : 0 ≤ ((x18)).toInt ∧ ((x18)).toInt ≤ 31 := by first | exact klp19_2 | omega
          have w28 : 0 ≤ (0 : Int32).toInt ∧ (0 : Int32).toInt ≤ 1 := by omega
          have w29 : ((0 : Int32)).toInt = 1 ∨ NR f_nv f_na f_nb f_nc f_bto f_bin (p1).toInt.toNat (p2).toInt (p3).toInt.toNat := (Or.inr (k12 _ q6 (nr_node (by omega) (fun j h1 h2 => klp19_4 j h1 (by omega)))))
          have w30 : (((0 : Int32)).toInt = 1 ∧ OCC g (BDW f_bto f_bin) (PLR p1 p2) (p3).toInt.toNat) ∨ (((0 : Int32)).toInt = 0 ∧ ¬ OCC g (BDW f_bto f_bin) (PLR p1 p2) (p3).toInt.toNat) := (Or.inr ⟨by decide, ock_end klp19_5 k13 bt9 (by rw [gv9]; omega) (by rw [ga9]; omega)⟩)
          exact W.zret (v := 0) (ty := .boolean) hx hb hr (by decide) (fun t ht hW => ⟨⟨0, (x17, x18), rfl, ⟨w26, w27, w28, w29, w30⟩, by rw [ht]; exact hP, hD⟩, hS.F ht⟩) hS.2.2 dX11_holds_88
        · have kc25 := (not_congr (cv_le (rfl : (r22).toInt = (r22).toInt) (rfl : (x16).toInt = (x16).toInt))).mp c25
          refine lv_aload_n hx hb dX11_holds_61 rfl (lv_at hl 0 rfl) ?_
          refine lv_aload_n hx hb dX11_holds_62 rfl (lv_at hl 0 rfl) ?_
          refine lv_iload hx hb dX11_holds_63 (lv_at hl 4 rfl) ?_
          refine lv_iload hx hb dX11_holds_65 (lv_at hl 6 rfl) ?_
          obtain ⟨vq31, evq31⟩ := mq134_85 v_mm (.ref h_nv) (.ref h_bto) (.ref h_bin) (.int x17) (.int x18)
          replace hP : va_P (dC, dI) cls [(h_bto, .inl (cy_bto, 256, .inl f_bto)), (h_bin, .inl (cy_bin, 256, .inl f_bin)), (h_mm, .inr (8, (mo85 vq31 (.ref h_na) (.ref h_nb) (.ref h_nc)))), (h_nv, .inl (cy_nv, 8000, .inl f_nv)), (h_na, .inl (cy_na, 8000, .inl f_na)), (h_nb, .inl (cy_nb, 8000, .inl f_nb)), (h_nc, .inl (cy_nc, 8000, .inl f_nc))] H := by rw [evq31]; exact hP
          replace hD : va_D A [(h_bto, .inl (cy_bto, 256, .inl f_bto)), (h_bin, .inl (cy_bin, 256, .inl f_bin)), (h_mm, .inr (8, (mo85 vq31 (.ref h_na) (.ref h_nb) (.ref h_nc)))), (h_nv, .inl (cy_nv, 8000, .inl f_nv)), (h_na, .inl (cy_na, 8000, .inl f_na)), (h_nb, .inl (cy_nb, 8000, .inl f_nb)), (h_nc, .inl (cy_nc, 8000, .inl f_nc))] := by rw [evq31]; exact hD
          have hPc := hP.sub (ws' := [(h_mm, .inr (8, (mo85 vq31 (.ref h_na) (.ref h_nb) (.ref h_nc)))), (h_na, .inl (cy_na, 8000, .inl f_na)), (h_nb, .inl (cy_nb, 8000, .inl f_nb)), (h_nc, .inl (cy_nc, 8000, .inl f_nc))]) [2, 4, 5, 6] rfl
          have hDc := hD.sub (ws' := [(h_mm, .inr (8, (mo85 vq31 (.ref h_na) (.ref h_nb) (.ref h_nc)))), (h_na, .inl (cy_na, 8000, .inl f_na)), (h_nb, .inl (cy_nb, 8000, .inl f_nb)), (h_nc, .inl (cy_nc, 8000, .inl f_nc))]) [2, 4, 5, 6] (by decide) rfl
          have hKc := hK.sub (tys' := [(cy_na, .int), (cy_nb, .int), (cy_nc, .int)]) [1, 2, 3] rfl
          have hFc := va_free (wc := [(h_mm, .inr (8, (mo85 vq31 (.ref h_na) (.ref h_nb) (.ref h_nc)))), (h_na, .inl (cy_na, 8000, .inl f_na)), (h_nb, .inl (cy_nb, 8000, .inl f_nb)), (h_nc, .inl (cy_nc, 8000, .inl f_nc))]) hD hS hA [2, 4, 5, 6] rfl
          refine va_calli (va_runV (As := [.int z2, .int x16]) (rest := [.ref h_mm]) ⟨hx, hb, hml, hown, hts⟩ (c_X11_part_e l dC dI H.size h_mm h_na h_nb h_nc vq31 cy_na f_na cy_nb f_nb cy_nc f_nc z2 x16 hf_na hf_nb hf_nc (by first | exact k5 | omega)) (cwV 2 hts (gv hT w_m_X11_31 w_instanceMethod_X11_part ws_sel_X11_part w_ini_X11 w_code_X11_part) rfl rfl rfl (by decide +kernel) ⟨(by dsimp only [headSpec]; omega), (by dsimp only [headSpec]; omega)⟩) ⟨pre_blind, va_recv hK hP (ci := 8) (q0 := 2) rfl rfl, pre_of hPc hKc hDc hN⟩ rfl rfl hl.1 rfl (lv_room (Nat.le_of_ble_eq_true rfl)) dX11_holds_67 ⟨(Nat.le_of_ble_eq_true rfl), (Nat.le_of_ble_eq_true rfl)⟩) hS (fun q _ h => hFc q h) hFc (fun r32 u t H locs ht hvm hq hB hz1 hk1 hS9 => ?_)
          obtain ⟨hP1, hD1⟩ := hB
          rw [ht] at hP1
          obtain ⟨hP9, hD9⟩ := va_join (wr := [(h_bto, .inl (cy_bto, 256, .inl f_bto)), (h_bin, .inl (cy_bin, 256, .inl f_bin)), (h_nv, .inl (cy_nv, 8000, .inl f_nv))]) (w1 := [(h_mm, .inr (8, (mo85 vq31 (.ref h_na) (.ref h_nb) (.ref h_nc)))), (h_na, .inl (cy_na, 8000, .inl f_na)), (h_nb, .inl (cy_nb, 8000, .inl f_nb)), (h_nc, .inl (cy_nc, 8000, .inl f_nc))]) hP hD [2, 4, 5, 6] [0, 1, 3] rfl rfl (by decide) (by decide) hk1 hFc hP1 hD1
          clear hP hD hS hPc hDc hKc hFc hP1 hD1 hk1 hz1 ht hvm
          have hP : va_P (dC, dI) cls [(h_bto, .inl (cy_bto, 256, .inl f_bto)), (h_bin, .inl (cy_bin, 256, .inl f_bin)), (h_nv, .inl (cy_nv, 8000, .inl f_nv)), (h_mm, .inr (8, (mo85 vq31 (.ref h_na) (.ref h_nb) (.ref h_nc)))), (h_na, .inl (cy_na, 8000, .inl f_na)), (h_nb, .inl (cy_nb, 8000, .inl f_nb)), (h_nc, .inl (cy_nc, 8000, .inl f_nc))] H := hP9
          have hD : va_D A [(h_bto, .inl (cy_bto, 256, .inl f_bto)), (h_bin, .inl (cy_bin, 256, .inl f_bin)), (h_nv, .inl (cy_nv, 8000, .inl f_nv)), (h_mm, .inr (8, (mo85 vq31 (.ref h_na) (.ref h_nb) (.ref h_nc)))), (h_na, .inl (cy_na, 8000, .inl f_na)), (h_nb, .inl (cy_nb, 8000, .inl f_nb)), (h_nc, .inl (cy_nc, 8000, .inl f_nc))] := hD9
          have hS := hS9
          clear hP9 hD9 hS9
          rw [evq31] at hP hD
          replace hP : va_P (dC, dI) cls [(h_bto, .inl (cy_bto, 256, .inl f_bto)), (h_bin, .inl (cy_bin, 256, .inl f_bin)), (h_nv, .inl (cy_nv, 8000, .inl f_nv)), (h_mm, .inr (8, (mo134 v_mm (.ref h_nv) (.ref h_na) (.ref h_nb) (.ref h_nc) (.ref h_bto) (.ref h_bin) (.int x17) (.int x18)))), (h_na, .inl (cy_na, 8000, .inl f_na)), (h_nb, .inl (cy_nb, 8000, .inl f_nb)), (h_nc, .inl (cy_nc, 8000, .inl f_nc))] H := hP
          replace hD : va_D A [(h_bto, .inl (cy_bto, 256, .inl f_bto)), (h_bin, .inl (cy_bin, 256, .inl f_bin)), (h_nv, .inl (cy_nv, 8000, .inl f_nv)), (h_mm, .inr (8, (mo134 v_mm (.ref h_nv) (.ref h_na) (.ref h_nb) (.ref h_nc) (.ref h_bto) (.ref h_bin) (.int x17) (.int x18)))), (h_na, .inl (cy_na, 8000, .inl f_na)), (h_nb, .inl (cy_nb, 8000, .inl f_nb)), (h_nc, .inl (cy_nc, 8000, .inl f_nc))] := hD
          clear evq31 
          obtain ⟨k33, k34⟩ := hq
          replace k33 : -1 ≤ (r32).toInt ∧ (r32).toInt ≤ 7999 := k33
          replace k34 : ((r32)).toInt = (ptx f_na f_nb f_nc ((z2)).toInt.toNat ((x16)).toInt).toInt := k34
          have cc9e : ptx f_na f_nb f_nc (z2).toInt.toNat (x16).toInt = r32 := Int32.toInt_inj.mp (by omega)
          have cc9c := ch_ok (nv := f_nv) (k := (x16).toInt) (x := (z2).toInt.toNat) hn_bi.1 (by omega) (by omega)
          rw [cc9e] at cc9c
          have cc9p := pa_ch (k := (x16).toInt) (k10) (by omega)
          rw [cc9e] at cc9p
          have kg9 := grv_k (i := z3) hn_grv (show 0 ≤ (z2).toInt ∧ (z2).toInt < 8000 by omega) (by omega) cc9e
          refine lv_iload hx hb dX11_holds_70 (lv_at hl 5 rfl) ?_
          refine lv_iload_n hx hb dX11_holds_72 rfl (lv_at hl 3 rfl) ?_
          have hPc := hP.sub (ws' := [(h_mm, .inr (8, (mo134 v_mm (.ref h_nv) (.ref h_na) (.ref h_nb) (.ref h_nc) (.ref h_bto) (.ref h_bin) (.int x17) (.int x18)))), (h_nv, .inl (cy_nv, 8000, .inl f_nv)), (h_na, .inl (cy_na, 8000, .inl f_na)), (h_nb, .inl (cy_nb, 8000, .inl f_nb)), (h_nc, .inl (cy_nc, 8000, .inl f_nc)), (h_bto, .inl (cy_bto, 256, .inl f_bto)), (h_bin, .inl (cy_bin, 256, .inl f_bin))]) [3, 2, 4, 5, 6, 0, 1] rfl
          have hDc := hD.sub (ws' := [(h_mm, .inr (8, (mo134 v_mm (.ref h_nv) (.ref h_na) (.ref h_nb) (.ref h_nc) (.ref h_bto) (.ref h_bin) (.int x17) (.int x18)))), (h_nv, .inl (cy_nv, 8000, .inl f_nv)), (h_na, .inl (cy_na, 8000, .inl f_na)), (h_nb, .inl (cy_nb, 8000, .inl f_nb)), (h_nc, .inl (cy_nc, 8000, .inl f_nc)), (h_bto, .inl (cy_bto, 256, .inl f_bto)), (h_bin, .inl (cy_bin, 256, .inl f_bin))]) [3, 2, 4, 5, 6, 0, 1] (by decide) rfl
          have hKc := hK.sub (tys' := [(cy_nv, .int), (cy_na, .int), (cy_nb, .int), (cy_nc, .int), (cy_bto, .int), (cy_bin, .int)]) [0, 1, 2, 3, 4, 5] rfl
          have hFc := va_free (wc := [(h_mm, .inr (8, (mo134 v_mm (.ref h_nv) (.ref h_na) (.ref h_nb) (.ref h_nc) (.ref h_bto) (.ref h_bin) (.int x17) (.int x18)))), (h_nv, .inl (cy_nv, 8000, .inl f_nv)), (h_na, .inl (cy_na, 8000, .inl f_na)), (h_nb, .inl (cy_nb, 8000, .inl f_nb)), (h_nc, .inl (cy_nc, 8000, .inl f_nc)), (h_bto, .inl (cy_bto, 256, .inl f_bto)), (h_bin, .inl (cy_bin, 256, .inl f_bin))]) hD hS hA [3, 2, 4, 5, 6, 0, 1] rfl
          refine va_calli (va_runV (As := [.int r32, .int z3, .int p3]) (rest := []) ⟨hx, hb, hml, hown, hts⟩ (ihf dC dI H.size h_mm h_nv h_na h_nb h_nc h_bto h_bin v_mm x17 x18 cy_nv f_nv cy_na f_na cy_nb f_nb cy_nc f_nc cy_bto f_bto cy_bin f_bin r32 z3 p3 i0 i1 N hz g z4 (by first | exact klp19_1 | omega) (by first | exact klp19_2 | omega) hf_nv hf_na hf_nb hf_nc hf_bto hf_bin (by first | exact q0 | omega) (by first | exact q1 | omega) (by omega) (by first | exact k8 | omega) (by first | exact q4 | omega) (by omega) (by first | exact q6 | omega) hn_bi cc9p hn_grv) (cwV 3 hts (gv hT w_m_X11_276 w_instanceMethod_X11_holds ws_sel_X11_holds w_ini_X11 w_code_X11_holds) rfl rfl rfl (by decide +kernel) ⟨(by dsimp only [headSpec]; omega), (by dsimp only [headSpec]; omega)⟩) ⟨pre_blind, va_recv hK hP (ci := 8) (q0 := 3) rfl rfl, pre_of hPc hKc hDc hN⟩ rfl rfl hl.1 rfl (lv_room (Nat.le_of_ble_eq_true rfl)) dX11_holds_73 ⟨(Nat.le_of_ble_eq_true rfl), (Nat.le_of_ble_eq_true rfl)⟩) hS (fun q _ h => hFc q h) hFc (fun r35 u t H locs ht hvm hq hB hz1 hk1 hS9 => ?_)
          obtain ⟨z36, z37⟩ := u
          obtain ⟨hP1, hD1⟩ := hB
          rw [ht] at hP1
          obtain ⟨hP9, hD9⟩ := va_join (wr := []) (w1 := [(h_mm, .inr (8, (mo134 v_mm (.ref h_nv) (.ref h_na) (.ref h_nb) (.ref h_nc) (.ref h_bto) (.ref h_bin) (.int z36) (.int z37)))), (h_nv, .inl (cy_nv, 8000, .inl f_nv)), (h_na, .inl (cy_na, 8000, .inl f_na)), (h_nb, .inl (cy_nb, 8000, .inl f_nb)), (h_nc, .inl (cy_nc, 8000, .inl f_nc)), (h_bto, .inl (cy_bto, 256, .inl f_bto)), (h_bin, .inl (cy_bin, 256, .inl f_bin))]) hP hD [3, 2, 4, 5, 6, 0, 1] [] rfl rfl (by decide) (by decide) hk1 hFc hP1 hD1
          clear hP hD hS hPc hDc hKc hFc hP1 hD1 hk1 hz1 ht hvm
          have hP : va_P (dC, dI) cls [(h_mm, .inr (8, (mo134 v_mm (.ref h_nv) (.ref h_na) (.ref h_nb) (.ref h_nc) (.ref h_bto) (.ref h_bin) (.int z36) (.int z37)))), (h_nv, .inl (cy_nv, 8000, .inl f_nv)), (h_na, .inl (cy_na, 8000, .inl f_na)), (h_nb, .inl (cy_nb, 8000, .inl f_nb)), (h_nc, .inl (cy_nc, 8000, .inl f_nc)), (h_bto, .inl (cy_bto, 256, .inl f_bto)), (h_bin, .inl (cy_bin, 256, .inl f_bin))] H := hP9
          have hD : va_D A [(h_mm, .inr (8, (mo134 v_mm (.ref h_nv) (.ref h_na) (.ref h_nb) (.ref h_nc) (.ref h_bto) (.ref h_bin) (.int z36) (.int z37)))), (h_nv, .inl (cy_nv, 8000, .inl f_nv)), (h_na, .inl (cy_na, 8000, .inl f_na)), (h_nb, .inl (cy_nb, 8000, .inl f_nb)), (h_nc, .inl (cy_nc, 8000, .inl f_nc)), (h_bto, .inl (cy_bto, 256, .inl f_bto)), (h_bin, .inl (cy_bin, 256, .inl f_bin))] := hD9
          have hS := hS9
          clear hP9 hD9 hS9
          obtain ⟨k38, k39, k40, k41, k42⟩ := hq
          replace k38 : 0 ≤ ((z36)).toInt ∧ ((z36)).toInt ≤ 7999 := k38
          replace k39 : 0 ≤ ((z37)).toInt ∧ ((z37)).toInt ≤ 31 := k39
          replace k40 : 0 ≤ (r35).toInt ∧ (r35).toInt ≤ 1 := k40
          replace k41 : ((r35)).toInt = 1 ∨ NR f_nv f_na f_nb f_nc f_bto f_bin ((r32)).toInt.toNat ((z3)).toInt ((p3)).toInt.toNat := k41
          replace k42 : (((r35)).toInt = 1 ∧ OCC (g) (BDW f_bto f_bin) (PLR (r32) (z3)) ((p3)).toInt.toNat) ∨ (((r35)).toInt = 0 ∧ ¬ OCC (g) (BDW f_bto f_bin) (PLR (r32) (z3)) ((p3)).toInt.toNat) := k42
          refine lv_if_eq (tgt := 81) hx hb dX11_holds_76 (by decide) (fun c43 => ?_) (fun c43 => ?_)
          · have kc43 := (cv_eq (rfl : (r35).toInt = (r35).toInt) (by decide : (0 : Int32).toInt = 0)).mp c43
            have nk44 : ∀ j : Int, 0 ≤ j → j < (x16).toInt + 1 → NR f_nv f_na f_nb f_nc f_bto f_bin (ptx f_na f_nb f_nc (z2).toInt.toNat j).toInt.toNat (z3).toInt (p3).toInt.toNat := nrk_step klp19_4 (by rw [cc9e]; exact (k41).resolve_left (by omega))
            obtain ⟨z45, ez45⟩ : ∃ y : Int32, y = x16 + 1 := ⟨_, rfl⟩
            have tz45 : (z45).toInt = (x16).toInt + 1 := by rw [ez45]; exact i_add rfl (by decide) (by omega)
            refine lv_iinc (v := z45) (lv' := [(6, .int z45), (0, .ref h_mm), (1, .int p1), (2, .int p2), (3, .int p3), (4, .int z2), (5, .int z3)]) hx hb dX11_holds_81 hl (k := 6) rfl (by rw [ez45]; rfl) (by decide) rfl (fun ls hl => ?_)
            refine lv_goto (tgt := 50) hx hb dX11_holds_84 (by decide) ?_
            exact ih20 (z45) (z36) (z37) _ _ _ (by omega) (by first | exact k38 | omega) (by first | exact k39 | omega) (by omega) (fun j h1 h2 => nk44 j h1 (by omega)) (ock_step klp19_5 kg9 ((k42.resolve_left (fun q9 => absurd q9.1 (by omega))).2) (by omega)) (by omega) hP hD hS (lv_sub hl [1, 2, 3, 4, 5, 6, 0] rfl)
          · have kc43 := (not_congr (cv_eq (rfl : (r35).toInt = (r35).toInt) (by decide : (0 : Int32).toInt = 0))).mp c43
            have oc9 := (k42.resolve_right (fun q9 => absurd q9.1 (by omega))).2
            rw [← kg9] at oc9
            have od9 := occ_bre k13 (occ_kid (by rw [gv9]; omega) (by rw [ga9]; omega) oc9)
            refine lv_iconst (v := 1) hx hb dX11_holds_79 (by decide) ?_
            refine W.widen (k := 0) (n := 0) (Nat.le_of_ble_eq_true rfl) (Nat.le_of_ble_eq_true rfl) ?_
            have cst1 : (1 : Int32).toInt = 1 := by decide
            have w46 : 0 ≤ ((z36)).toInt ∧ ((z36)).toInt ≤ 7999 := by first | exact k38 | omega
            have w47 : 0 ≤ ((z37)).toInt ∧ ((z37)).toInt ≤ 31 := by first | exact k39 | omega
            have w48 : 0 ≤ (1 : Int32).toInt ∧ (1 : Int32).toInt ≤ 1 := by omega
            have w49 : ((1 : Int32)).toInt = 1 ∨ NR f_nv f_na f_nb f_nc f_bto f_bin (p1).toInt.toNat (p2).toInt (p3).toInt.toNat := (Or.inl (by decide))
            have w50 : (((1 : Int32)).toInt = 1 ∧ OCC g (BDW f_bto f_bin) (PLR p1 p2) (p3).toInt.toNat) ∨ (((1 : Int32)).toInt = 0 ∧ ¬ OCC g (BDW f_bto f_bin) (PLR p1 p2) (p3).toInt.toNat) := (Or.inl ⟨by decide, od9⟩)
            exact W.zret (v := 1) (ty := .boolean) hx hb hr (by decide) (fun t ht hW => ⟨⟨1, (z36, z37), rfl, ⟨w46, w47, w48, w49, w50⟩, by rw [ht]; exact hP, hD⟩, hS.F ht⟩) hS.2.2 dX11_holds_80
    have cst0 : (0 : Int32).toInt = 0 := by decide
    exact lp19 _ (0) (z2) (z3) _ _ _ (by decide) (by first | exact k5 | omega) (by first | exact k6 | omega) (by omega) (fun j h1 h2 => nk0 j h1 (by omega)) (ock_zero (by decide)) (Nat.le_refl _) hP hD hS (lv_sub hl [3, 4, 5, 6, 2, 1, 0] rfl)
  · have kc15 := (not_congr (cv_eq (rfl : (z14).toInt = (z14).toInt) (by decide : ((-1) : Int32).toInt = -1))).mp c15
    refine lv_aload_n hx hb dX11_holds_29 rfl (lv_at hl 2 rfl) ?_
    refine lv_iload hx hb dX11_holds_30 (lv_at hl 1 rfl) ?_
    refine lv_iload hx hb dX11_holds_32 (lv_at hl 0 rfl) ?_
    obtain ⟨vq51, evq51⟩ := mq134_129 v_mm (.ref h_na) (.ref h_nb) (.ref h_nc) (.ref h_bto) (.ref h_bin) (.int z2) (.int z3)
    replace hP : va_P (dC, dI) cls [(h_mm, .inr (8, (mo129 vq51 (.ref h_nv)))), (h_nv, .inl (cy_nv, 8000, .inl f_nv)), (h_na, .inl (cy_na, 8000, .inl f_na)), (h_nb, .inl (cy_nb, 8000, .inl f_nb)), (h_nc, .inl (cy_nc, 8000, .inl f_nc)), (h_bto, .inl (cy_bto, 256, .inl f_bto)), (h_bin, .inl (cy_bin, 256, .inl f_bin))] H := by rw [evq51]; exact hP
    replace hD : va_D A [(h_mm, .inr (8, (mo129 vq51 (.ref h_nv)))), (h_nv, .inl (cy_nv, 8000, .inl f_nv)), (h_na, .inl (cy_na, 8000, .inl f_na)), (h_nb, .inl (cy_nb, 8000, .inl f_nb)), (h_nc, .inl (cy_nc, 8000, .inl f_nc)), (h_bto, .inl (cy_bto, 256, .inl f_bto)), (h_bin, .inl (cy_bin, 256, .inl f_bin))] := by rw [evq51]; exact hD
    have hPc := hP.sub (ws' := [(h_mm, .inr (8, (mo129 vq51 (.ref h_nv)))), (h_nv, .inl (cy_nv, 8000, .inl f_nv))]) [0, 1] rfl
    have hDc := hD.sub (ws' := [(h_mm, .inr (8, (mo129 vq51 (.ref h_nv)))), (h_nv, .inl (cy_nv, 8000, .inl f_nv))]) [0, 1] (by decide) rfl
    have hKc := hK.sub (tys' := [(cy_nv, .int)]) [0] rfl
    have hFc := va_free (wc := [(h_mm, .inr (8, (mo129 vq51 (.ref h_nv)))), (h_nv, .inl (cy_nv, 8000, .inl f_nv))]) hD hS hA [0, 1] rfl
    refine va_calli (va_runV (As := [.int z2, .int z3]) (rest := []) ⟨hx, hb, hml, hown, hts⟩ (c_X11_slotOf l dC dI H.size h_mm h_nv vq51 cy_nv f_nv z2 z3 hf_nv (by first | exact k5 | omega) (by first | exact k6 | omega)) (cwV 2 hts (gv hT w_m_X11_270 w_instanceMethod_X11_slotOf ws_sel_X11_slotOf w_ini_X11 w_code_X11_slotOf) rfl rfl rfl (by decide +kernel) ⟨(by dsimp only [headSpec]; omega), (by dsimp only [headSpec]; omega)⟩) ⟨pre_blind, va_recv hK hP (ci := 8) (q0 := 0) rfl rfl, pre_of hPc hKc hDc hN⟩ rfl rfl hl.1 rfl (lv_room (Nat.le_of_ble_eq_true rfl)) dX11_holds_34 ⟨(Nat.le_of_ble_eq_true rfl), (Nat.le_of_ble_eq_true rfl)⟩) hS (fun q _ h => hFc q h) hFc (fun r52 u t H locs ht hvm hq hB hz1 hk1 hS9 => ?_)
    obtain ⟨hP1, hD1⟩ := hB
    rw [ht] at hP1
    obtain ⟨hP9, hD9⟩ := va_join (wr := [(h_na, .inl (cy_na, 8000, .inl f_na)), (h_nb, .inl (cy_nb, 8000, .inl f_nb)), (h_nc, .inl (cy_nc, 8000, .inl f_nc)), (h_bto, .inl (cy_bto, 256, .inl f_bto)), (h_bin, .inl (cy_bin, 256, .inl f_bin))]) (w1 := [(h_mm, .inr (8, (mo129 vq51 (.ref h_nv)))), (h_nv, .inl (cy_nv, 8000, .inl f_nv))]) hP hD [0, 1] [2, 3, 4, 5, 6] rfl rfl (by decide) (by decide) hk1 hFc hP1 hD1
    clear hP hD hS hPc hDc hKc hFc hP1 hD1 hk1 hz1 ht hvm
    have hP : va_P (dC, dI) cls [(h_na, .inl (cy_na, 8000, .inl f_na)), (h_nb, .inl (cy_nb, 8000, .inl f_nb)), (h_nc, .inl (cy_nc, 8000, .inl f_nc)), (h_bto, .inl (cy_bto, 256, .inl f_bto)), (h_bin, .inl (cy_bin, 256, .inl f_bin)), (h_mm, .inr (8, (mo129 vq51 (.ref h_nv)))), (h_nv, .inl (cy_nv, 8000, .inl f_nv))] H := hP9
    have hD : va_D A [(h_na, .inl (cy_na, 8000, .inl f_na)), (h_nb, .inl (cy_nb, 8000, .inl f_nb)), (h_nc, .inl (cy_nc, 8000, .inl f_nc)), (h_bto, .inl (cy_bto, 256, .inl f_bto)), (h_bin, .inl (cy_bin, 256, .inl f_bin)), (h_mm, .inr (8, (mo129 vq51 (.ref h_nv)))), (h_nv, .inl (cy_nv, 8000, .inl f_nv))] := hD9
    have hS := hS9
    clear hP9 hD9 hS9
    rw [evq51] at hP hD
    replace hP : va_P (dC, dI) cls [(h_na, .inl (cy_na, 8000, .inl f_na)), (h_nb, .inl (cy_nb, 8000, .inl f_nb)), (h_nc, .inl (cy_nc, 8000, .inl f_nc)), (h_bto, .inl (cy_bto, 256, .inl f_bto)), (h_bin, .inl (cy_bin, 256, .inl f_bin)), (h_mm, .inr (8, (mo134 v_mm (.ref h_nv) (.ref h_na) (.ref h_nb) (.ref h_nc) (.ref h_bto) (.ref h_bin) (.int z2) (.int z3)))), (h_nv, .inl (cy_nv, 8000, .inl f_nv))] H := hP
    replace hD : va_D A [(h_na, .inl (cy_na, 8000, .inl f_na)), (h_nb, .inl (cy_nb, 8000, .inl f_nb)), (h_nc, .inl (cy_nc, 8000, .inl f_nc)), (h_bto, .inl (cy_bto, 256, .inl f_bto)), (h_bin, .inl (cy_bin, 256, .inl f_bin)), (h_mm, .inr (8, (mo134 v_mm (.ref h_nv) (.ref h_na) (.ref h_nb) (.ref h_nc) (.ref h_bto) (.ref h_bin) (.int z2) (.int z3)))), (h_nv, .inl (cy_nv, 8000, .inl f_nv))] := hD
    clear evq51 
    obtain ⟨k53, k54⟩ := hq
    replace k53 : -1 ≤ (r52).toInt ∧ (r52).toInt ≤ 255 := k53
    replace k54 : ((r52)).toInt = 8 * ((z3)).toInt + (f_nv ((z2)).toInt.toNat).toInt := k54
    refine lv_iload_n hx hb dX11_holds_37 rfl (lv_at hl 5 rfl) ?_
    refine lv_icmp_ne (tgt := 45) hx hb dX11_holds_38 (by decide) (fun c55 => ?_) (fun c55 => ?_)
    · have kc55 := (not_congr (cv_eq (rfl : (r52).toInt = (r52).toInt) (rfl : (p3).toInt = (p3).toInt))).mp c55
      have hvz14 : (f_nv (z2).toInt.toNat).toInt = (z14).toInt := by rw [ez14, (clamp_nat (i := z2) (by omega))]
      have tb9 := (k11).resolve_left (by omega)
      have gv9 := grv_v (i := z3) hn_grv (show 0 ≤ (z2).toInt ∧ (z2).toInt < 8000 by omega)
      have gc9 := grv_c (i := z3) hn_grv (show 0 ≤ (z2).toInt ∧ (z2).toInt < 8000 by omega) (by omega) (by omega)
      have bt9 : (BDW f_bto f_bin) (p3).toInt.toNat < 0 := by unfold BDW; rw [if_pos q6]; decide
      have no9 : ¬ OCC g (BDW f_bto f_bin) (PLR p1 p2) (p3).toInt.toNat := fun h9 => by have e9 := occ_tvar (bre_ter2 k13) (by omega) (occ_in k13 bt9 h9); omega
      refine lv_iconst (v := 0) hx hb dX11_holds_45 (by decide) ?_
      replace hP : va_P (dC, dI) cls [(h_mm, .inr (8, (mo134 v_mm (.ref h_nv) (.ref h_na) (.ref h_nb) (.ref h_nc) (.ref h_bto) (.ref h_bin) (.int z2) (.int z3)))), (h_nv, .inl (cy_nv, 8000, .inl f_nv)), (h_na, .inl (cy_na, 8000, .inl f_na)), (h_nb, .inl (cy_nb, 8000, .inl f_nb)), (h_nc, .inl (cy_nc, 8000, .inl f_nc)), (h_bto, .inl (cy_bto, 256, .inl f_bto)), (h_bin, .inl (cy_bin, 256, .inl f_bin))] H := hP.sub [5, 6, 0, 1, 2, 3, 4] rfl
      replace hD : va_D A [(h_mm, .inr (8, (mo134 v_mm (.ref h_nv) (.ref h_na) (.ref h_nb) (.ref h_nc) (.ref h_bto) (.ref h_bin) (.int z2) (.int z3)))), (h_nv, .inl (cy_nv, 8000, .inl f_nv)), (h_na, .inl (cy_na, 8000, .inl f_na)), (h_nb, .inl (cy_nb, 8000, .inl f_nb)), (h_nc, .inl (cy_nc, 8000, .inl f_nc)), (h_bto, .inl (cy_bto, 256, .inl f_bto)), (h_bin, .inl (cy_bin, 256, .inl f_bin))] := hD.sub [5, 6, 0, 1, 2, 3, 4] (by decide) rfl
      refine W.widen (k := 0) (n := 0) (Nat.le_of_ble_eq_true rfl) (Nat.le_of_ble_eq_true rfl) ?_
      have cst0 : (0 : Int32).toInt = 0 := by decide
      have w56 : 0 ≤ ((z2)).toInt ∧ ((z2)).toInt ≤ 7999 := by first | exact k5 | omega
      have w57 : 0 ≤ ((z3)).toInt ∧ ((z3)).toInt ≤ 31 := by first | exact k6 | omega
      have w58 : 0 ≤ (0 : Int32).toInt ∧ (0 : Int32).toInt ≤ 1 := by omega
      have w59 : ((0 : Int32)).toInt = 1 ∨ NR f_nv f_na f_nb f_nc f_bto f_bin (p1).toInt.toNat (p2).toInt (p3).toInt.toNat := (Or.inr (k12 _ q6 (nr_var (s := (8 * (z3).toInt + (f_nv (z2).toInt.toNat).toInt).toNat) (by omega) (by omega) tb9 (by omega))))
      have w60 : (((0 : Int32)).toInt = 1 ∧ OCC g (BDW f_bto f_bin) (PLR p1 p2) (p3).toInt.toNat) ∨ (((0 : Int32)).toInt = 0 ∧ ¬ OCC g (BDW f_bto f_bin) (PLR p1 p2) (p3).toInt.toNat) := (Or.inr ⟨by decide, no9⟩)
      exact W.zret (v := 0) (ty := .boolean) hx hb hr (by decide) (fun t ht hW => ⟨⟨0, (z2, z3), rfl, ⟨w56, w57, w58, w59, w60⟩, by rw [ht]; exact hP, hD⟩, hS.F ht⟩) hS.2.2 dX11_holds_46
    · have kc55 := (cv_eq (rfl : (r52).toInt = (r52).toInt) (rfl : (p3).toInt = (p3).toInt)).mp c55
      have hvz14 : (f_nv (z2).toInt.toNat).toInt = (z14).toInt := by rw [ez14, (clamp_nat (i := z2) (by omega))]
      have gv9 := grv_v (i := z3) hn_grv (show 0 ≤ (z2).toInt ∧ (z2).toInt < 8000 by omega)
      have gc9 := grv_c (i := z3) hn_grv (show 0 ≤ (z2).toInt ∧ (z2).toInt < 8000 by omega) (by omega) (by omega)
      have oc9 : OCC g (BDW f_bto f_bin) (PLR p1 p2) (p3).toInt.toNat := by have h9 := occ_bre k13 (occ_var (g := g) (b := (BDW f_bto f_bin)) (p := (PLR z2 z3)) (by omega)); rwa [show g.2.1 (PLR z2 z3) = (p3).toInt.toNat by omega] at h9
      refine lv_iconst (v := 1) hx hb dX11_holds_41 (by decide) ?_
      refine lv_goto (tgt := 46) hx hb dX11_holds_42 (by decide) ?_
      replace hP : va_P (dC, dI) cls [(h_mm, .inr (8, (mo134 v_mm (.ref h_nv) (.ref h_na) (.ref h_nb) (.ref h_nc) (.ref h_bto) (.ref h_bin) (.int z2) (.int z3)))), (h_nv, .inl (cy_nv, 8000, .inl f_nv)), (h_na, .inl (cy_na, 8000, .inl f_na)), (h_nb, .inl (cy_nb, 8000, .inl f_nb)), (h_nc, .inl (cy_nc, 8000, .inl f_nc)), (h_bto, .inl (cy_bto, 256, .inl f_bto)), (h_bin, .inl (cy_bin, 256, .inl f_bin))] H := hP.sub [5, 6, 0, 1, 2, 3, 4] rfl
      replace hD : va_D A [(h_mm, .inr (8, (mo134 v_mm (.ref h_nv) (.ref h_na) (.ref h_nb) (.ref h_nc) (.ref h_bto) (.ref h_bin) (.int z2) (.int z3)))), (h_nv, .inl (cy_nv, 8000, .inl f_nv)), (h_na, .inl (cy_na, 8000, .inl f_na)), (h_nb, .inl (cy_nb, 8000, .inl f_nb)), (h_nc, .inl (cy_nc, 8000, .inl f_nc)), (h_bto, .inl (cy_bto, 256, .inl f_bto)), (h_bin, .inl (cy_bin, 256, .inl f_bin))] := hD.sub [5, 6, 0, 1, 2, 3, 4] (by decide) rfl
      refine W.widen (k := 0) (n := 0) (Nat.le_of_ble_eq_true rfl) (Nat.le_of_ble_eq_true rfl) ?_
      have cst1 : (1 : Int32).toInt = 1 := by decide
      have w61 : 0 ≤ ((z2)).toInt ∧ ((z2)).toInt ≤ 7999 := by first | exact k5 | omega
      have w62 : 0 ≤ ((z3)).toInt ∧ ((z3)).toInt ≤ 31 := by first | exact k6 | omega
      have w63 : 0 ≤ (1 : Int32).toInt ∧ (1 : Int32).toInt ≤ 1 := by omega
      have w64 : ((1 : Int32)).toInt = 1 ∨ NR f_nv f_na f_nb f_nc f_bto f_bin (p1).toInt.toNat (p2).toInt (p3).toInt.toNat := (Or.inl (by decide))
      have w65 : (((1 : Int32)).toInt = 1 ∧ OCC g (BDW f_bto f_bin) (PLR p1 p2) (p3).toInt.toNat) ∨ (((1 : Int32)).toInt = 0 ∧ ¬ OCC g (BDW f_bto f_bin) (PLR p1 p2) (p3).toInt.toNat) := (Or.inl ⟨by decide, oc9⟩)
      exact W.zret (v := 1) (ty := .boolean) hx hb hr (by decide) (fun t ht hW => ⟨⟨1, (z2, z3), rfl, ⟨w61, w62, w63, w64, w65⟩, by rw [ht]; exact hP, hD⟩, hS.F ht⟩) hS.2.2 dX11_holds_46

set_option maxHeartbeats 8000000 in
set_option maxRecDepth 100000 in
theorem c_X11_binds (l : Launch) (dC : Nat → ClassId) (dI : Nat → Nat → Nat) (sz : Nat) (h_mm : Nat) (h_bto : Nat) (h_bin : Nat) (h_tra : Nat) (v_mm : Nat → Value) (x_mm_trailed : Int32) (cy_bto : ClassId) (f_bto : Nat → Int32) (cy_bin : ClassId) (f_bin : Nat → Int32) (cy_tra : ClassId) (f_tra : Nat → Int32) (p1 : Int32) (p2 : Int32) (p3 : Int32) (hx_mm_trailed : 0 ≤ (x_mm_trailed).toInt ∧ (x_mm_trailed).toInt ≤ 256) (hf_bto : Rg (-1) 7999 f_bto) (hf_bin : Rg 0 31 f_bin) (hf_tra : Rg 0 255 f_tra) (q0 : 0 ≤ (p1).toInt ∧ (p1).toInt ≤ 255) (q1 : 0 ≤ (p2).toInt ∧ (p2).toInt ≤ 7999) (q2 : 0 ≤ (p3).toInt ∧ (p3).toInt ≤ 31) (q3 : (x_mm_trailed).toInt ≤ 255) : Met l yX11_binds (Ws yX11_binds cX11_binds 4 none) (({ frames := 0, cells := 0, slots := 0, locals := 0 } : Room)) (PRE (dC, dI) cls [(cy_bto, .int), (cy_bin, .int), (cy_tra, .int)] [(h_mm, .inr (8, (mo135 v_mm (.ref h_bto) (.ref h_bin) (.ref h_tra) (.int x_mm_trailed)))), (h_bto, .inl (cy_bto, 256, .inl f_bto)), (h_bin, .inl (cy_bin, 256, .inl f_bin)), (h_tra, .inl (cy_tra, 256, .inl f_tra))] sz [.ref h_mm, .int p1, .int p2, .int p3]) (va_Qv (fun (u : (Int32) × (Nat → Int32) × (Nat → Int32) × (Nat → Int32)) => (0 ≤ (u.1).toInt ∧ (u.1).toInt ≤ 256) ∧ (Rg (-1) 7999 u.2.1) ∧ (Rg 0 31 u.2.2.1) ∧ (Rg 0 255 u.2.2.2) ∧ ((u.1).toInt = (x_mm_trailed).toInt + 1) ∧ (u.2.1 = upd f_bto (Int32.toNatClampNeg p1) p2 ∧ u.2.2.1 = upd f_bin (Int32.toNatClampNeg p1) p3 ∧ u.2.2.2 = upd f_tra (Int32.toNatClampNeg x_mm_trailed) p1)) (fun (u : (Int32) × (Nat → Int32) × (Nat → Int32) × (Nat → Int32)) (t : State) => va_P (dC, dI) cls [(h_mm, .inr (8, (mo135 v_mm (.ref h_bto) (.ref h_bin) (.ref h_tra) (.int u.1)))), (h_bto, .inl (cy_bto, 256, .inl u.2.1)), (h_bin, .inl (cy_bin, 256, .inl u.2.2.1)), (h_tra, .inl (cy_tra, 256, .inl u.2.2.2))] t.heap ∧ va_D (va_A [(h_mm, .inr (8, (mo135 v_mm (.ref h_bto) (.ref h_bin) (.ref h_tra) (.int x_mm_trailed)))), (h_bto, .inl (cy_bto, 256, .inl f_bto)), (h_bin, .inl (cy_bin, 256, .inl f_bin)), (h_tra, .inl (cy_tra, 256, .inl f_tra))] sz) [(h_mm, .inr (8, (mo135 v_mm (.ref h_bto) (.ref h_bin) (.ref h_tra) (.int u.1)))), (h_bto, .inl (cy_bto, 256, .inl u.2.1)), (h_bin, .inl (cy_bin, 256, .inl u.2.2.1)), (h_tra, .inl (cy_tra, 256, .inl u.2.2.2))]) (va_A [(h_mm, .inr (8, (mo135 v_mm (.ref h_bto) (.ref h_bin) (.ref h_tra) (.int x_mm_trailed)))), (h_bto, .inl (cy_bto, 256, .inl f_bto)), (h_bin, .inl (cy_bin, 256, .inl f_bin)), (h_tra, .inl (cy_tra, 256, .inl f_tra))] sz)) 0 0 (va_A [(h_mm, .inr (8, (mo135 v_mm (.ref h_bto) (.ref h_bin) (.ref h_tra) (.int x_mm_trailed)))), (h_bto, .inl (cy_bto, 256, .inl f_bto)), (h_bin, .inl (cy_bin, 256, .inl f_bin)), (h_tra, .inl (cy_tra, 256, .inl f_tra))] sz) := by
  refine Met.ofW (cc := cX11_binds) (maxL := 4) (ret := none) (by decide) rfl ?_
  intro p e s m args below meth c s₁ B hml hv
  obtain ⟨rfl, hsz, hP, hK, hD0, hN⟩ := hv
  have hx := B.exec
  have hb := B.bytes
  have hr := B.returns
  have hts := atoms_spec (ws := Ws yX11_binds cX11_binds 4 none) B.pre
  have hT : ∀ w ∈ WALL, w ∈ Ws yX11_binds cX11_binds 4 none := fun w h => List.mem_cons_of_mem _ h
  have hw := fun w (h : w ∈ WALL) => hts w (hT w h)
  have hown : s.vm.findClass RX11 = some m.cls := findClass_of_methodNamed B.named
  have hlocks := B.notSynchronized
  subst hsz
  have hD := hD0.self (sz := s.heap.size)
  generalize hAe : va_A [(h_mm, .inr (8, (mo135 v_mm (.ref h_bto) (.ref h_bin) (.ref h_tra) (.int x_mm_trailed)))), (h_bto, .inl (cy_bto, 256, .inl f_bto)), (h_bin, .inl (cy_bin, 256, .inl f_bin)), (h_tra, .inl (cy_tra, 256, .inl f_tra))] s.heap.size = A at hD ⊢
  have hA : ∀ q : Nat, s.heap.size ≤ q → A q := fun q h => by rw [← hAe]; exact Or.inr h
  have hS : va_S A s.heap s.heap [] := va_S.rf
  have hl := lv_entry ([.ref h_mm, .int p1, .int p2, .int p3]) (n := 4) (Nat.le_of_ble_eq_true rfl)
  rw [lg_entry_eq]
  generalize (lg_sl ([.ref h_mm, .int p1, .int p2, .int p3]) ++ List.replicate (4 - (lg_sl ([.ref h_mm, .int p1, .int p2, .int p3])).length) Slot.unset).toArray = ls at hl ⊢
  have hl : lv_has ls 4 [(0, .ref h_mm), (1, .int p1), (2, .int p2), (3, .int p3)] := hl
  refine lv_aload_n hx hb dX11_binds_0 rfl (lv_at hl 0 rfl) ?_
  refine va_get (D := (dC, dI)) (ci := 8) (v := .ref h_bto) (C := RX11) (T := TX11) (N := 71) hx hb hw iwX11 hown hK hP 0 rfl rfl 27 (by decide) (hw _ w_f_X11_195) (fun _ h9 => h9) rfl dX11_binds_1 ?_
  refine lv_iload_n hx hb dX11_binds_4 rfl (lv_at hl 1 rfl) ?_
  refine lv_iload_n hx hb dX11_binds_5 rfl (lv_at hl 2 rfl) ?_
  refine va_iast hx hb hK hP hD hS 1 0 rfl rfl (i := p1) (x := p2) (vp_in_iff.mpr (by omega)) dX11_binds_6 (fun H locs hP9 hD9 hS9 => ?_)
  obtain ⟨f1, ef1⟩ : ∃ g : Nat → Int32, g = upd f_bto (Int32.toNatClampNeg p1) p2 := ⟨_, rfl⟩
  clear hP hD hS
  have hP : va_P (dC, dI) cls [(h_mm, .inr (8, (mo135 v_mm (.ref h_bto) (.ref h_bin) (.ref h_tra) (.int x_mm_trailed)))), (h_bto, .inl (cy_bto, 256, .inl f1)), (h_bin, .inl (cy_bin, 256, .inl f_bin)), (h_tra, .inl (cy_tra, 256, .inl f_tra))] H := by rw [ef1]; exact hP9
  have hD : va_D A [(h_mm, .inr (8, (mo135 v_mm (.ref h_bto) (.ref h_bin) (.ref h_tra) (.int x_mm_trailed)))), (h_bto, .inl (cy_bto, 256, .inl f1)), (h_bin, .inl (cy_bin, 256, .inl f_bin)), (h_tra, .inl (cy_tra, 256, .inl f_tra))] := by rw [ef1]; exact hD9
  have hS := hS9
  clear hP9 hD9 hS9
  have hf1 : Rg (-1) 7999 f1 := by rw [ef1]; exact rg_upd hf_bto (by omega)
  refine lv_aload_n hx hb dX11_binds_7 rfl (lv_at hl 0 rfl) ?_
  refine va_get (D := (dC, dI)) (ci := 8) (v := .ref h_bin) (C := RX11) (T := TX11) (N := 71) hx hb hw iwX11 hown hK hP 0 rfl rfl 28 (by decide) (hw _ w_f_X11_198) (fun _ h9 => h9) rfl dX11_binds_8 ?_
  refine lv_iload_n hx hb dX11_binds_11 rfl (lv_at hl 1 rfl) ?_
  refine lv_iload_n hx hb dX11_binds_12 rfl (lv_at hl 3 rfl) ?_
  refine va_iast hx hb hK hP hD hS 2 1 rfl rfl (i := p1) (x := p3) (vp_in_iff.mpr (by omega)) dX11_binds_13 (fun H locs hP9 hD9 hS9 => ?_)
  obtain ⟨f2, ef2⟩ : ∃ g : Nat → Int32, g = upd f_bin (Int32.toNatClampNeg p1) p3 := ⟨_, rfl⟩
  clear hP hD hS
  have hP : va_P (dC, dI) cls [(h_mm, .inr (8, (mo135 v_mm (.ref h_bto) (.ref h_bin) (.ref h_tra) (.int x_mm_trailed)))), (h_bto, .inl (cy_bto, 256, .inl f1)), (h_bin, .inl (cy_bin, 256, .inl f2)), (h_tra, .inl (cy_tra, 256, .inl f_tra))] H := by rw [ef2]; exact hP9
  have hD : va_D A [(h_mm, .inr (8, (mo135 v_mm (.ref h_bto) (.ref h_bin) (.ref h_tra) (.int x_mm_trailed)))), (h_bto, .inl (cy_bto, 256, .inl f1)), (h_bin, .inl (cy_bin, 256, .inl f2)), (h_tra, .inl (cy_tra, 256, .inl f_tra))] := by rw [ef2]; exact hD9
  have hS := hS9
  clear hP9 hD9 hS9
  have hf2 : Rg 0 31 f2 := by rw [ef2]; exact rg_upd hf_bin (by omega)
  refine lv_aload_n hx hb dX11_binds_14 rfl (lv_at hl 0 rfl) ?_
  refine va_get (D := (dC, dI)) (ci := 8) (v := .ref h_tra) (C := RX11) (T := TX11) (N := 71) hx hb hw iwX11 hown hK hP 0 rfl rfl 29 (by decide) (hw _ w_f_X11_201) (fun _ h9 => h9) rfl dX11_binds_15 ?_
  refine lv_aload_n hx hb dX11_binds_18 rfl (lv_at hl 0 rfl) ?_
  refine va_get (D := (dC, dI)) (ci := 8) (v := .int x_mm_trailed) (C := RX11) (T := TX11) (N := 71) hx hb hw iwX11 hown hK hP 0 rfl rfl 30 (by decide) (hw _ w_f_X11_261) (fun _ h9 => h9) rfl dX11_binds_19 ?_
  refine lv_iload_n hx hb dX11_binds_22 rfl (lv_at hl 1 rfl) ?_
  refine va_iast hx hb hK hP hD hS 3 2 rfl rfl (i := x_mm_trailed) (x := p1) (vp_in_iff.mpr (by omega)) dX11_binds_23 (fun H locs hP9 hD9 hS9 => ?_)
  obtain ⟨f3, ef3⟩ : ∃ g : Nat → Int32, g = upd f_tra (Int32.toNatClampNeg x_mm_trailed) p1 := ⟨_, rfl⟩
  clear hP hD hS
  have hP : va_P (dC, dI) cls [(h_mm, .inr (8, (mo135 v_mm (.ref h_bto) (.ref h_bin) (.ref h_tra) (.int x_mm_trailed)))), (h_bto, .inl (cy_bto, 256, .inl f1)), (h_bin, .inl (cy_bin, 256, .inl f2)), (h_tra, .inl (cy_tra, 256, .inl f3))] H := by rw [ef3]; exact hP9
  have hD : va_D A [(h_mm, .inr (8, (mo135 v_mm (.ref h_bto) (.ref h_bin) (.ref h_tra) (.int x_mm_trailed)))), (h_bto, .inl (cy_bto, 256, .inl f1)), (h_bin, .inl (cy_bin, 256, .inl f2)), (h_tra, .inl (cy_tra, 256, .inl f3))] := by rw [ef3]; exact hD9
  have hS := hS9
  clear hP9 hD9 hS9
  have hf3 : Rg 0 255 f3 := by rw [ef3]; exact rg_upd hf_tra (by omega)
  refine lv_aload_n hx hb dX11_binds_24 rfl (lv_at hl 0 rfl) ?_
  refine lv_aload_n hx hb dX11_binds_25 rfl (lv_at hl 0 rfl) ?_
  refine va_get (D := (dC, dI)) (ci := 8) (v := .int x_mm_trailed) (C := RX11) (T := TX11) (N := 71) hx hb hw iwX11 hown hK hP 0 rfl rfl 30 (by decide) (hw _ w_f_X11_261) (fun _ h9 => h9) rfl dX11_binds_26 ?_
  refine lv_iconst (v := 1) hx hb dX11_binds_29 (by decide) ?_
  refine lv_iadd hx hb dX11_binds_30 ?_
  refine lv_topi (fun z4 ez4 => ?_)
  have tz4 : (z4).toInt = (x_mm_trailed).toInt + 1 := by rw [ez4]; exact i_add rfl (by decide) (by omega)
  refine va_put (D := (dC, dI)) (ci := 8) (v := .int z4) (ty := tyX11 30) (C := RX11) (T := TX11) (N := 71) hx hb hw iwX11 tyX11 tyX11_ok nmX11 hown hK hP hD hS 0 rfl rfl 30 (by decide) (hw _ w_f_X11_261) (fun _ h9 => h9) rfl (tyX11_ok 30 (by decide)) rfl rfl (Nat.le_of_ble_eq_true rfl) dX11_binds_31 (fun H locs hP9 hD9 hS9 => ?_)
  clear hP hD hS
  have hP : va_P (dC, dI) cls [(h_mm, .inr (8, (mo135 v_mm (.ref h_bto) (.ref h_bin) (.ref h_tra) (.int z4)))), (h_bto, .inl (cy_bto, 256, .inl f1)), (h_bin, .inl (cy_bin, 256, .inl f2)), (h_tra, .inl (cy_tra, 256, .inl f3))] H := hP9
  have hD : va_D A [(h_mm, .inr (8, (mo135 v_mm (.ref h_bto) (.ref h_bin) (.ref h_tra) (.int z4)))), (h_bto, .inl (cy_bto, 256, .inl f1)), (h_bin, .inl (cy_bin, 256, .inl f2)), (h_tra, .inl (cy_tra, 256, .inl f3))] := hD9
  have hS := hS9
  clear hP9 hD9 hS9
  refine W.widen (k := 0) (n := 0) (Nat.le_of_ble_eq_true rfl) (Nat.le_of_ble_eq_true rfl) ?_
  have w5 : 0 ≤ ((z4)).toInt ∧ ((z4)).toInt ≤ 256 := by omega
  have w6 : ((z4)).toInt = (x_mm_trailed).toInt + 1 := by omega
  have w7 : (f1) = upd f_bto (Int32.toNatClampNeg p1) p2 ∧ (f2) = upd f_bin (Int32.toNatClampNeg p1) p3 ∧ (f3) = upd f_tra (Int32.toNatClampNeg x_mm_trailed) p1 := ⟨ef1, ef2, ef3⟩
  exact W.vret hx hb hr (fun t ht hW => ⟨⟨(z4, f1, f2, f3), rfl, ⟨w5, hf1, hf2, hf3, w6, w7⟩, by rw [ht]; exact hP, hD⟩, hS.F ht⟩) hS.2.2 dX11_binds_34

def K_X11_unifies (l : Launch) (fu : Nat) : Prop := ∀ (dC : Nat → ClassId) (dI : Nat → Nat → Nat) (sz : Nat) (h_mm : Nat) (h_nv : Nat) (h_na : Nat) (h_nb : Nat) (h_nc : Nat) (h_bto : Nat) (h_bin : Nat) (h_nn : Nat) (h_tra : Nat) (v_mm : Nat → Value) (x_mm_trailed : Int32) (x_mm_goneTo : Int32) (x_mm_goneIn : Int32) (cy_nv : ClassId) (f_nv : Nat → Int32) (cy_na : ClassId) (f_na : Nat → Int32) (cy_nb : ClassId) (f_nb : Nat → Int32) (cy_nc : ClassId) (f_nc : Nat → Int32) (cy_bto : ClassId) (f_bto : Nat → Int32) (cy_bin : ClassId) (f_bin : Nat → Int32) (cy_nn : ClassId) (f_nn : Nat → Int64) (cy_tra : ClassId) (f_tra : Nat → Int32) (p1 : Int32) (p2 : Int32) (p3 : Int32) (p4 : Int32) (i0 : Int) (i1 : Int) (N : Int) (hz : Nat → Nat) (g : GVT) (P : List Nat) (Q : List Nat) (hx_mm_trailed : 0 ≤ (x_mm_trailed).toInt ∧ (x_mm_trailed).toInt ≤ 256) (hx_mm_goneTo : 0 ≤ (x_mm_goneTo).toInt ∧ (x_mm_goneTo).toInt ≤ 7999) (hx_mm_goneIn : 0 ≤ (x_mm_goneIn).toInt ∧ (x_mm_goneIn).toInt ≤ 31) (hf_nv : Rg (-1) 7 f_nv) (hf_na : Rg (-1) 7999 f_na) (hf_nb : Rg (-1) 7999 f_nb) (hf_nc : Rg (-1) 7999 f_nc) (hf_bto : Rg (-1) 7999 f_bto) (hf_bin : Rg 0 31 f_bin) (hf_tra : Rg 0 255 f_tra) (q0 : 0 ≤ i0 ∧ i0 ≤ i1 ∧ i1 ≤ 31) (q1 : N ≤ 8000) (q2 : 0 ≤ (p1).toInt ∧ (p1).toInt < N) (q3 : i0 ≤ (p2).toInt ∧ (p2).toInt ≤ i1) (q4 : 0 ≤ (p3).toInt ∧ (p3).toInt < N) (q5 : i0 ≤ (p4).toInt ∧ (p4).toInt ≤ i1) (q6 : hz (p1).toInt.toNat + 6 * (256 - (P).length) + 1 ≤ fu) (q7 : hz (p3).toInt.toNat + 6 * (256 - (Q).length) + 1 ≤ fu) (hn_bi : BI i0 i1 N hz f_nv f_na f_nb f_nc f_bto f_bin) (hn_trl : TRL (x_mm_trailed).toInt f_tra f_bto) (hn_pa : PA i0 P f_nv f_na f_nb f_nc f_bto f_bin (p1).toInt.toNat (p2).toInt) (hn_paq : PA i0 Q f_nv f_na f_nb f_nc f_bto f_bin (p3).toInt.toNat (p4).toInt) (hn_grv : GRV g f_nv f_na f_nb f_nc) (hn_grn : GRN g f_nn), Met l yX11_unifies (Ws yX11_unifies cX11_unifies 10 (some .boolean)) (({ frames := fu + 3, cells := 0, slots := 0, locals := 29 * fu + 71 } : Room)) (PRE (dC, dI) cls [(cy_nv, .int), (cy_na, .int), (cy_nb, .int), (cy_nc, .int), (cy_bto, .int), (cy_bin, .int), (cy_nn, .long), (cy_tra, .int)] [(h_mm, .inr (8, (mo136 v_mm (.ref h_nv) (.ref h_nn) (.ref h_na) (.ref h_nb) (.ref h_nc) (.ref h_bto) (.ref h_bin) (.ref h_tra) (.int x_mm_trailed) (.int x_mm_goneTo) (.int x_mm_goneIn)))), (h_nv, .inl (cy_nv, 8000, .inl f_nv)), (h_na, .inl (cy_na, 8000, .inl f_na)), (h_nb, .inl (cy_nb, 8000, .inl f_nb)), (h_nc, .inl (cy_nc, 8000, .inl f_nc)), (h_bto, .inl (cy_bto, 256, .inl f_bto)), (h_bin, .inl (cy_bin, 256, .inl f_bin)), (h_nn, .inl (cy_nn, 8000, .inr (.inl f_nn))), (h_tra, .inl (cy_tra, 256, .inl f_tra))] sz [.ref h_mm, .int p1, .int p2, .int p3, .int p4]) (va_Qi (fun (r : Int32) (u : (Int32) × (Int32) × (Int32) × (Nat → Int32) × (Nat → Int32) × (Nat → Int32)) => (0 ≤ (u.1).toInt ∧ (u.1).toInt ≤ 256) ∧ (0 ≤ (u.2.1).toInt ∧ (u.2.1).toInt ≤ 7999) ∧ (0 ≤ (u.2.2.1).toInt ∧ (u.2.2.1).toInt ≤ 31) ∧ (Rg (-1) 7999 u.2.2.2.1) ∧ (Rg 0 31 u.2.2.2.2.1) ∧ (Rg 0 255 u.2.2.2.2.2) ∧ (0 ≤ r.toInt ∧ r.toInt ≤ 1) ∧ (BI i0 i1 N hz f_nv f_na f_nb f_nc u.2.2.2.1 u.2.2.2.2.1) ∧ (TRL (u.1).toInt u.2.2.2.2.2 u.2.2.2.1) ∧ (GRW (x_mm_trailed).toInt (u.1).toInt f_bto f_bin f_tra u.2.2.2.1 u.2.2.2.2.1 u.2.2.2.2.2) ∧ (GHI f_bto f_bin u.2.2.2.1 u.2.2.2.2.1) ∧ (UNX g (BDW f_bto f_bin) (BDW u.2.2.2.1 u.2.2.2.2.1) (PLR p1 p2) (PLR p3 p4) (r).toInt)) (fun (u : (Int32) × (Int32) × (Int32) × (Nat → Int32) × (Nat → Int32) × (Nat → Int32)) (t : State) => va_P (dC, dI) cls [(h_mm, .inr (8, (mo136 v_mm (.ref h_nv) (.ref h_nn) (.ref h_na) (.ref h_nb) (.ref h_nc) (.ref h_bto) (.ref h_bin) (.ref h_tra) (.int u.1) (.int u.2.1) (.int u.2.2.1)))), (h_nv, .inl (cy_nv, 8000, .inl f_nv)), (h_na, .inl (cy_na, 8000, .inl f_na)), (h_nb, .inl (cy_nb, 8000, .inl f_nb)), (h_nc, .inl (cy_nc, 8000, .inl f_nc)), (h_bto, .inl (cy_bto, 256, .inl u.2.2.2.1)), (h_bin, .inl (cy_bin, 256, .inl u.2.2.2.2.1)), (h_nn, .inl (cy_nn, 8000, .inr (.inl f_nn))), (h_tra, .inl (cy_tra, 256, .inl u.2.2.2.2.2))] t.heap ∧ va_D (va_A [(h_mm, .inr (8, (mo136 v_mm (.ref h_nv) (.ref h_nn) (.ref h_na) (.ref h_nb) (.ref h_nc) (.ref h_bto) (.ref h_bin) (.ref h_tra) (.int x_mm_trailed) (.int x_mm_goneTo) (.int x_mm_goneIn)))), (h_nv, .inl (cy_nv, 8000, .inl f_nv)), (h_na, .inl (cy_na, 8000, .inl f_na)), (h_nb, .inl (cy_nb, 8000, .inl f_nb)), (h_nc, .inl (cy_nc, 8000, .inl f_nc)), (h_bto, .inl (cy_bto, 256, .inl f_bto)), (h_bin, .inl (cy_bin, 256, .inl f_bin)), (h_nn, .inl (cy_nn, 8000, .inr (.inl f_nn))), (h_tra, .inl (cy_tra, 256, .inl f_tra))] sz) [(h_mm, .inr (8, (mo136 v_mm (.ref h_nv) (.ref h_nn) (.ref h_na) (.ref h_nb) (.ref h_nc) (.ref h_bto) (.ref h_bin) (.ref h_tra) (.int u.1) (.int u.2.1) (.int u.2.2.1)))), (h_nv, .inl (cy_nv, 8000, .inl f_nv)), (h_na, .inl (cy_na, 8000, .inl f_na)), (h_nb, .inl (cy_nb, 8000, .inl f_nb)), (h_nc, .inl (cy_nc, 8000, .inl f_nc)), (h_bto, .inl (cy_bto, 256, .inl u.2.2.2.1)), (h_bin, .inl (cy_bin, 256, .inl u.2.2.2.2.1)), (h_nn, .inl (cy_nn, 8000, .inr (.inl f_nn))), (h_tra, .inl (cy_tra, 256, .inl u.2.2.2.2.2))]) (va_A [(h_mm, .inr (8, (mo136 v_mm (.ref h_nv) (.ref h_nn) (.ref h_na) (.ref h_nb) (.ref h_nc) (.ref h_bto) (.ref h_bin) (.ref h_tra) (.int x_mm_trailed) (.int x_mm_goneTo) (.int x_mm_goneIn)))), (h_nv, .inl (cy_nv, 8000, .inl f_nv)), (h_na, .inl (cy_na, 8000, .inl f_na)), (h_nb, .inl (cy_nb, 8000, .inl f_nb)), (h_nc, .inl (cy_nc, 8000, .inl f_nc)), (h_bto, .inl (cy_bto, 256, .inl f_bto)), (h_bin, .inl (cy_bin, 256, .inl f_bin)), (h_nn, .inl (cy_nn, 8000, .inr (.inl f_nn))), (h_tra, .inl (cy_tra, 256, .inl f_tra))] sz)) 0 0 (va_A [(h_mm, .inr (8, (mo136 v_mm (.ref h_nv) (.ref h_nn) (.ref h_na) (.ref h_nb) (.ref h_nc) (.ref h_bto) (.ref h_bin) (.ref h_tra) (.int x_mm_trailed) (.int x_mm_goneTo) (.int x_mm_goneIn)))), (h_nv, .inl (cy_nv, 8000, .inl f_nv)), (h_na, .inl (cy_na, 8000, .inl f_na)), (h_nb, .inl (cy_nb, 8000, .inl f_nb)), (h_nc, .inl (cy_nc, 8000, .inl f_nc)), (h_bto, .inl (cy_bto, 256, .inl f_bto)), (h_bin, .inl (cy_bin, 256, .inl f_bin)), (h_nn, .inl (cy_nn, 8000, .inr (.inl f_nn))), (h_tra, .inl (cy_tra, 256, .inl f_tra))] sz)
set_option maxHeartbeats 8000000 in
set_option maxRecDepth 100000 in
theorem c_X11_unifies (l : Launch) (fu : Nat) : K_X11_unifies l fu := by
  refine Nat.rec (motive := fun fu => K_X11_unifies l fu) ?_ ?_ fu
  · intro dC dI sz h_mm h_nv h_na h_nb h_nc h_bto h_bin h_nn h_tra v_mm x_mm_trailed x_mm_goneTo x_mm_goneIn cy_nv f_nv cy_na f_na cy_nb f_nb cy_nc f_nc cy_bto f_bto cy_bin f_bin cy_nn f_nn cy_tra f_tra p1 p2 p3 p4 i0 i1 N hz g P Q hx_mm_trailed hx_mm_goneTo hx_mm_goneIn hf_nv hf_na hf_nb hf_nc hf_bto hf_bin hf_tra q0 q1 q2 q3 q4 q5 q6 q7 hn_bi hn_trl hn_pa hn_paq hn_grv hn_grn
    have h09 : Nat.zero = 0 := rfl
    exact False.elim (by omega)
  intro fu ihf
  intro dC dI sz h_mm h_nv h_na h_nb h_nc h_bto h_bin h_nn h_tra v_mm x_mm_trailed x_mm_goneTo x_mm_goneIn cy_nv f_nv cy_na f_na cy_nb f_nb cy_nc f_nc cy_bto f_bto cy_bin f_bin cy_nn f_nn cy_tra f_tra p1 p2 p3 p4 i0 i1 N hz g P Q hx_mm_trailed hx_mm_goneTo hx_mm_goneIn hf_nv hf_na hf_nb hf_nc hf_bto hf_bin hf_tra q0 q1 q2 q3 q4 q5 q6 q7 hn_bi hn_trl hn_pa hn_paq hn_grv hn_grn
  refine Met.ofW (cc := cX11_unifies) (maxL := 10) (ret := (some .boolean)) (by decide) rfl ?_
  intro p e s m args below meth c s₁ B hml hv
  obtain ⟨rfl, hsz, hP, hK, hD0, hN⟩ := hv
  have hx := B.exec
  have hb := B.bytes
  have hr := B.returns
  have hts := atoms_spec (ws := Ws yX11_unifies cX11_unifies 10 (some .boolean)) B.pre
  have hT : ∀ w ∈ WALL, w ∈ Ws yX11_unifies cX11_unifies 10 (some .boolean) := fun w h => List.mem_cons_of_mem _ h
  have hw := fun w (h : w ∈ WALL) => hts w (hT w h)
  have hown : s.vm.findClass RX11 = some m.cls := findClass_of_methodNamed B.named
  have hlocks := B.notSynchronized
  subst hsz
  have hD := hD0.self (sz := s.heap.size)
  generalize hAe : va_A [(h_mm, .inr (8, (mo136 v_mm (.ref h_nv) (.ref h_nn) (.ref h_na) (.ref h_nb) (.ref h_nc) (.ref h_bto) (.ref h_bin) (.ref h_tra) (.int x_mm_trailed) (.int x_mm_goneTo) (.int x_mm_goneIn)))), (h_nv, .inl (cy_nv, 8000, .inl f_nv)), (h_na, .inl (cy_na, 8000, .inl f_na)), (h_nb, .inl (cy_nb, 8000, .inl f_nb)), (h_nc, .inl (cy_nc, 8000, .inl f_nc)), (h_bto, .inl (cy_bto, 256, .inl f_bto)), (h_bin, .inl (cy_bin, 256, .inl f_bin)), (h_nn, .inl (cy_nn, 8000, .inr (.inl f_nn))), (h_tra, .inl (cy_tra, 256, .inl f_tra))] s.heap.size = A at hD ⊢
  have hA : ∀ q : Nat, s.heap.size ≤ q → A q := fun q h => by rw [← hAe]; exact Or.inr h
  have hS : va_S A s.heap s.heap [] := va_S.rf
  have hl := lv_entry ([.ref h_mm, .int p1, .int p2, .int p3, .int p4]) (n := 10) (Nat.le_of_ble_eq_true rfl)
  rw [lg_entry_eq]
  generalize (lg_sl ([.ref h_mm, .int p1, .int p2, .int p3, .int p4]) ++ List.replicate (10 - (lg_sl ([.ref h_mm, .int p1, .int p2, .int p3, .int p4])).length) Slot.unset).toArray = ls at hl ⊢
  have hl : lv_has ls 10 [(0, .ref h_mm), (1, .int p1), (2, .int p2), (3, .int p3), (4, .int p4)] := hl
  have gr0 : GRW (x_mm_trailed).toInt (x_mm_trailed).toInt f_bto f_bin f_tra f_bto f_bin f_tra := gr_refl
  refine lv_aload_n hx hb dX11_unifies_0 rfl (lv_at hl 0 rfl) ?_
  refine lv_iload_n hx hb dX11_unifies_1 rfl (lv_at hl 1 rfl) ?_
  refine lv_iload_n hx hb dX11_unifies_2 rfl (lv_at hl 2 rfl) ?_
  obtain ⟨vq1, evq1⟩ := mq136_134 v_mm (.ref h_nn) (.ref h_tra) (.int x_mm_trailed)
  replace hP : va_P (dC, dI) cls [(h_mm, .inr (8, (mo134 vq1 (.ref h_nv) (.ref h_na) (.ref h_nb) (.ref h_nc) (.ref h_bto) (.ref h_bin) (.int x_mm_goneTo) (.int x_mm_goneIn)))), (h_nv, .inl (cy_nv, 8000, .inl f_nv)), (h_na, .inl (cy_na, 8000, .inl f_na)), (h_nb, .inl (cy_nb, 8000, .inl f_nb)), (h_nc, .inl (cy_nc, 8000, .inl f_nc)), (h_bto, .inl (cy_bto, 256, .inl f_bto)), (h_bin, .inl (cy_bin, 256, .inl f_bin)), (h_nn, .inl (cy_nn, 8000, .inr (.inl f_nn))), (h_tra, .inl (cy_tra, 256, .inl f_tra))] s.heap := by rw [evq1]; exact hP
  replace hD : va_D A [(h_mm, .inr (8, (mo134 vq1 (.ref h_nv) (.ref h_na) (.ref h_nb) (.ref h_nc) (.ref h_bto) (.ref h_bin) (.int x_mm_goneTo) (.int x_mm_goneIn)))), (h_nv, .inl (cy_nv, 8000, .inl f_nv)), (h_na, .inl (cy_na, 8000, .inl f_na)), (h_nb, .inl (cy_nb, 8000, .inl f_nb)), (h_nc, .inl (cy_nc, 8000, .inl f_nc)), (h_bto, .inl (cy_bto, 256, .inl f_bto)), (h_bin, .inl (cy_bin, 256, .inl f_bin)), (h_nn, .inl (cy_nn, 8000, .inr (.inl f_nn))), (h_tra, .inl (cy_tra, 256, .inl f_tra))] := by rw [evq1]; exact hD
  have hPc := hP.sub (ws' := [(h_mm, .inr (8, (mo134 vq1 (.ref h_nv) (.ref h_na) (.ref h_nb) (.ref h_nc) (.ref h_bto) (.ref h_bin) (.int x_mm_goneTo) (.int x_mm_goneIn)))), (h_nv, .inl (cy_nv, 8000, .inl f_nv)), (h_na, .inl (cy_na, 8000, .inl f_na)), (h_nb, .inl (cy_nb, 8000, .inl f_nb)), (h_nc, .inl (cy_nc, 8000, .inl f_nc)), (h_bto, .inl (cy_bto, 256, .inl f_bto)), (h_bin, .inl (cy_bin, 256, .inl f_bin))]) [0, 1, 2, 3, 4, 5, 6] rfl
  have hDc := hD.sub (ws' := [(h_mm, .inr (8, (mo134 vq1 (.ref h_nv) (.ref h_na) (.ref h_nb) (.ref h_nc) (.ref h_bto) (.ref h_bin) (.int x_mm_goneTo) (.int x_mm_goneIn)))), (h_nv, .inl (cy_nv, 8000, .inl f_nv)), (h_na, .inl (cy_na, 8000, .inl f_na)), (h_nb, .inl (cy_nb, 8000, .inl f_nb)), (h_nc, .inl (cy_nc, 8000, .inl f_nc)), (h_bto, .inl (cy_bto, 256, .inl f_bto)), (h_bin, .inl (cy_bin, 256, .inl f_bin))]) [0, 1, 2, 3, 4, 5, 6] (by decide) rfl
  have hKc := hK.sub (tys' := [(cy_nv, .int), (cy_na, .int), (cy_nb, .int), (cy_nc, .int), (cy_bto, .int), (cy_bin, .int)]) [0, 1, 2, 3, 4, 5] rfl
  have hFc := va_free (wc := [(h_mm, .inr (8, (mo134 vq1 (.ref h_nv) (.ref h_na) (.ref h_nb) (.ref h_nc) (.ref h_bto) (.ref h_bin) (.int x_mm_goneTo) (.int x_mm_goneIn)))), (h_nv, .inl (cy_nv, 8000, .inl f_nv)), (h_na, .inl (cy_na, 8000, .inl f_na)), (h_nb, .inl (cy_nb, 8000, .inl f_nb)), (h_nc, .inl (cy_nc, 8000, .inl f_nc)), (h_bto, .inl (cy_bto, 256, .inl f_bto)), (h_bin, .inl (cy_bin, 256, .inl f_bin))]) hD hS hA [0, 1, 2, 3, 4, 5, 6] rfl
  refine va_callv (va_runV (As := [.int p1, .int p2]) (rest := []) ⟨hx, hb, hml, hown, hts⟩ (c_X11_goesTo l dC dI s.heap.size h_mm h_nv h_na h_nb h_nc h_bto h_bin vq1 x_mm_goneTo x_mm_goneIn cy_nv f_nv cy_na f_na cy_nb f_nb cy_nc f_nc cy_bto f_bto cy_bin f_bin p1 p2 i0 i1 N hz g P (fu + 1) (by first | exact hx_mm_goneTo | omega) (by first | exact hx_mm_goneIn | omega) hf_nv hf_na hf_nb hf_nc hf_bto hf_bin (by first | exact q0 | omega) (by first | exact q1 | omega) (by first | exact q2 | omega) (by first | exact q3 | omega) (by omega) hn_bi hn_pa hn_grv) (cwV 2 hts (gv hT w_m_X11_273 w_instanceMethod_X11_goesTo ws_sel_X11_goesTo w_ini_X11 w_code_X11_goesTo) rfl rfl rfl (by decide +kernel) ⟨(by dsimp only [headSpec]; omega), (by dsimp only [headSpec]; omega)⟩) ⟨pre_blind, va_recv hK hP (ci := 8) (q0 := 0) rfl rfl, pre_of hPc hKc hDc hN⟩ rfl rfl hl.1 rfl (lv_room (Nat.le_of_ble_eq_true rfl)) dX11_unifies_3 ⟨(Nat.le_of_ble_eq_true rfl), (Nat.le_of_ble_eq_true rfl)⟩) hS (fun q _ h => hFc q h) hFc (fun u t H locs ht hvm hq hB hz1 hk1 hS9 => ?_)
  obtain ⟨z3, z4, z5⟩ := u
  obtain ⟨hP1, hD1⟩ := hB
  rw [ht] at hP1
  obtain ⟨hP9, hD9⟩ := va_join (wr := [(h_nn, .inl (cy_nn, 8000, .inr (.inl f_nn))), (h_tra, .inl (cy_tra, 256, .inl f_tra))]) (w1 := [(h_mm, .inr (8, (mo134 vq1 (.ref h_nv) (.ref h_na) (.ref h_nb) (.ref h_nc) (.ref h_bto) (.ref h_bin) (.int z3) (.int z4)))), (h_nv, .inl (cy_nv, 8000, .inl f_nv)), (h_na, .inl (cy_na, 8000, .inl f_na)), (h_nb, .inl (cy_nb, 8000, .inl f_nb)), (h_nc, .inl (cy_nc, 8000, .inl f_nc)), (h_bto, .inl (cy_bto, 256, .inl f_bto)), (h_bin, .inl (cy_bin, 256, .inl f_bin))]) hP hD [0, 1, 2, 3, 4, 5, 6] [7, 8] rfl rfl (by decide) (by decide) hk1 hFc hP1 hD1
  clear hP hD hS hPc hDc hKc hFc hP1 hD1 hk1 hz1 ht hvm
  have hP : va_P (dC, dI) cls [(h_nn, .inl (cy_nn, 8000, .inr (.inl f_nn))), (h_tra, .inl (cy_tra, 256, .inl f_tra)), (h_mm, .inr (8, (mo134 vq1 (.ref h_nv) (.ref h_na) (.ref h_nb) (.ref h_nc) (.ref h_bto) (.ref h_bin) (.int z3) (.int z4)))), (h_nv, .inl (cy_nv, 8000, .inl f_nv)), (h_na, .inl (cy_na, 8000, .inl f_na)), (h_nb, .inl (cy_nb, 8000, .inl f_nb)), (h_nc, .inl (cy_nc, 8000, .inl f_nc)), (h_bto, .inl (cy_bto, 256, .inl f_bto)), (h_bin, .inl (cy_bin, 256, .inl f_bin))] H := hP9
  have hD : va_D A [(h_nn, .inl (cy_nn, 8000, .inr (.inl f_nn))), (h_tra, .inl (cy_tra, 256, .inl f_tra)), (h_mm, .inr (8, (mo134 vq1 (.ref h_nv) (.ref h_na) (.ref h_nb) (.ref h_nc) (.ref h_bto) (.ref h_bin) (.int z3) (.int z4)))), (h_nv, .inl (cy_nv, 8000, .inl f_nv)), (h_na, .inl (cy_na, 8000, .inl f_na)), (h_nb, .inl (cy_nb, 8000, .inl f_nb)), (h_nc, .inl (cy_nc, 8000, .inl f_nc)), (h_bto, .inl (cy_bto, 256, .inl f_bto)), (h_bin, .inl (cy_bin, 256, .inl f_bin))] := hD9
  have hS := hS9
  clear hP9 hD9 hS9
  rw [evq1] at hP hD
  replace hP : va_P (dC, dI) cls [(h_nn, .inl (cy_nn, 8000, .inr (.inl f_nn))), (h_tra, .inl (cy_tra, 256, .inl f_tra)), (h_mm, .inr (8, (mo136 v_mm (.ref h_nv) (.ref h_nn) (.ref h_na) (.ref h_nb) (.ref h_nc) (.ref h_bto) (.ref h_bin) (.ref h_tra) (.int x_mm_trailed) (.int z3) (.int z4)))), (h_nv, .inl (cy_nv, 8000, .inl f_nv)), (h_na, .inl (cy_na, 8000, .inl f_na)), (h_nb, .inl (cy_nb, 8000, .inl f_nb)), (h_nc, .inl (cy_nc, 8000, .inl f_nc)), (h_bto, .inl (cy_bto, 256, .inl f_bto)), (h_bin, .inl (cy_bin, 256, .inl f_bin))] H := hP
  replace hD : va_D A [(h_nn, .inl (cy_nn, 8000, .inr (.inl f_nn))), (h_tra, .inl (cy_tra, 256, .inl f_tra)), (h_mm, .inr (8, (mo136 v_mm (.ref h_nv) (.ref h_nn) (.ref h_na) (.ref h_nb) (.ref h_nc) (.ref h_bto) (.ref h_bin) (.ref h_tra) (.int x_mm_trailed) (.int z3) (.int z4)))), (h_nv, .inl (cy_nv, 8000, .inl f_nv)), (h_na, .inl (cy_na, 8000, .inl f_na)), (h_nb, .inl (cy_nb, 8000, .inl f_nb)), (h_nc, .inl (cy_nc, 8000, .inl f_nc)), (h_bto, .inl (cy_bto, 256, .inl f_bto)), (h_bin, .inl (cy_bin, 256, .inl f_bin))] := hD
  clear evq1 
  obtain ⟨k6, k7, k8, k9, k10, k11, k12, k13, k14⟩ := hq
  replace k6 : 0 ≤ ((z3)).toInt ∧ ((z3)).toInt ≤ 7999 := k6
  replace k7 : 0 ≤ ((z4)).toInt ∧ ((z4)).toInt ≤ 31 := k7
  replace k8 : 0 ≤ ((z3)).toInt ∧ ((z3)).toInt < (N) := k8
  replace k9 : (i0) ≤ ((z4)).toInt ∧ ((z4)).toInt ≤ (i1) := k9
  replace k10 : (hz) ((z3)).toInt.toNat + 6 * (256 - ((z5)).length) + 1 ≤ ((fu + 1)) := k10
  replace k11 : PA (i0) (z5) f_nv f_na f_nb f_nc f_bto f_bin ((z3)).toInt.toNat ((z4)).toInt := k11
  replace k12 : (f_nv ((z3)).toInt.toNat).toInt = -1 ∨ (f_bto (8 * ((z4)).toInt + (f_nv ((z3)).toInt.toNat).toInt).toNat).toInt = -1 := k12
  replace k13 : ∀ tt : Nat, (f_bto tt).toInt = -1 → NR f_nv f_na f_nb f_nc f_bto f_bin ((z3)).toInt.toNat ((z4)).toInt tt → NR f_nv f_na f_nb f_nc f_bto f_bin ((p1)).toInt.toNat ((p2)).toInt tt := k13
  replace k14 : BRE (g) (BDW f_bto f_bin) (PLR (p1) (p2)) (PLR (z3) (z4)) := k14
  refine lv_aload_n hx hb dX11_unifies_6 rfl (lv_at hl 0 rfl) ?_
  refine va_get (D := (dC, dI)) (ci := 8) (v := .int z3) (C := RX11) (T := TX11) (N := 71) hx hb hw iwX11 hown hK hP 2 rfl rfl 31 (by decide) (hw _ w_f_X11_264) (fun _ h9 => h9) rfl dX11_unifies_7 ?_
  refine lv_istore (lv' := [(5, .int z3), (0, .ref h_mm), (1, .int p1), (2, .int p2), (3, .int p3), (4, .int p4)]) hx hb dX11_unifies_10 hl (by decide) rfl (fun ls hl => ?_)
  refine lv_aload_n hx hb dX11_unifies_12 rfl (lv_at hl 1 rfl) ?_
  refine va_get (D := (dC, dI)) (ci := 8) (v := .int z4) (C := RX11) (T := TX11) (N := 71) hx hb hw iwX11 hown hK hP 2 rfl rfl 32 (by decide) (hw _ w_f_X11_267) (fun _ h9 => h9) rfl dX11_unifies_13 ?_
  refine lv_istore (lv' := [(6, .int z4), (5, .int z3), (0, .ref h_mm), (1, .int p1), (2, .int p2), (3, .int p3), (4, .int p4)]) hx hb dX11_unifies_16 hl (by decide) rfl (fun ls hl => ?_)
  refine lv_aload_n hx hb dX11_unifies_18 rfl (lv_at hl 2 rfl) ?_
  refine lv_iload_n hx hb dX11_unifies_19 rfl (lv_at hl 5 rfl) ?_
  refine lv_iload hx hb dX11_unifies_20 (lv_at hl 6 rfl) ?_
  obtain ⟨vq15, evq15⟩ := mq136_134 v_mm (.ref h_nn) (.ref h_tra) (.int x_mm_trailed)
  replace hP : va_P (dC, dI) cls [(h_nn, .inl (cy_nn, 8000, .inr (.inl f_nn))), (h_tra, .inl (cy_tra, 256, .inl f_tra)), (h_mm, .inr (8, (mo134 vq15 (.ref h_nv) (.ref h_na) (.ref h_nb) (.ref h_nc) (.ref h_bto) (.ref h_bin) (.int z3) (.int z4)))), (h_nv, .inl (cy_nv, 8000, .inl f_nv)), (h_na, .inl (cy_na, 8000, .inl f_na)), (h_nb, .inl (cy_nb, 8000, .inl f_nb)), (h_nc, .inl (cy_nc, 8000, .inl f_nc)), (h_bto, .inl (cy_bto, 256, .inl f_bto)), (h_bin, .inl (cy_bin, 256, .inl f_bin))] H := by rw [evq15]; exact hP
  replace hD : va_D A [(h_nn, .inl (cy_nn, 8000, .inr (.inl f_nn))), (h_tra, .inl (cy_tra, 256, .inl f_tra)), (h_mm, .inr (8, (mo134 vq15 (.ref h_nv) (.ref h_na) (.ref h_nb) (.ref h_nc) (.ref h_bto) (.ref h_bin) (.int z3) (.int z4)))), (h_nv, .inl (cy_nv, 8000, .inl f_nv)), (h_na, .inl (cy_na, 8000, .inl f_na)), (h_nb, .inl (cy_nb, 8000, .inl f_nb)), (h_nc, .inl (cy_nc, 8000, .inl f_nc)), (h_bto, .inl (cy_bto, 256, .inl f_bto)), (h_bin, .inl (cy_bin, 256, .inl f_bin))] := by rw [evq15]; exact hD
  have hPc := hP.sub (ws' := [(h_mm, .inr (8, (mo134 vq15 (.ref h_nv) (.ref h_na) (.ref h_nb) (.ref h_nc) (.ref h_bto) (.ref h_bin) (.int z3) (.int z4)))), (h_nv, .inl (cy_nv, 8000, .inl f_nv)), (h_na, .inl (cy_na, 8000, .inl f_na)), (h_nb, .inl (cy_nb, 8000, .inl f_nb)), (h_nc, .inl (cy_nc, 8000, .inl f_nc)), (h_bto, .inl (cy_bto, 256, .inl f_bto)), (h_bin, .inl (cy_bin, 256, .inl f_bin))]) [2, 3, 4, 5, 6, 7, 8] rfl
  have hDc := hD.sub (ws' := [(h_mm, .inr (8, (mo134 vq15 (.ref h_nv) (.ref h_na) (.ref h_nb) (.ref h_nc) (.ref h_bto) (.ref h_bin) (.int z3) (.int z4)))), (h_nv, .inl (cy_nv, 8000, .inl f_nv)), (h_na, .inl (cy_na, 8000, .inl f_na)), (h_nb, .inl (cy_nb, 8000, .inl f_nb)), (h_nc, .inl (cy_nc, 8000, .inl f_nc)), (h_bto, .inl (cy_bto, 256, .inl f_bto)), (h_bin, .inl (cy_bin, 256, .inl f_bin))]) [2, 3, 4, 5, 6, 7, 8] (by decide) rfl
  have hKc := hK.sub (tys' := [(cy_nv, .int), (cy_na, .int), (cy_nb, .int), (cy_nc, .int), (cy_bto, .int), (cy_bin, .int)]) [0, 1, 2, 3, 4, 5] rfl
  have hFc := va_free (wc := [(h_mm, .inr (8, (mo134 vq15 (.ref h_nv) (.ref h_na) (.ref h_nb) (.ref h_nc) (.ref h_bto) (.ref h_bin) (.int z3) (.int z4)))), (h_nv, .inl (cy_nv, 8000, .inl f_nv)), (h_na, .inl (cy_na, 8000, .inl f_na)), (h_nb, .inl (cy_nb, 8000, .inl f_nb)), (h_nc, .inl (cy_nc, 8000, .inl f_nc)), (h_bto, .inl (cy_bto, 256, .inl f_bto)), (h_bin, .inl (cy_bin, 256, .inl f_bin))]) hD hS hA [2, 3, 4, 5, 6, 7, 8] rfl
  refine va_callv (va_runV (As := [.int p3, .int p4]) (rest := []) ⟨hx, hb, hml, hown, hts⟩ (c_X11_goesTo l dC dI H.size h_mm h_nv h_na h_nb h_nc h_bto h_bin vq15 z3 z4 cy_nv f_nv cy_na f_na cy_nb f_nb cy_nc f_nc cy_bto f_bto cy_bin f_bin p3 p4 i0 i1 N hz g Q (fu + 1) (by first | exact k6 | omega) (by first | exact k7 | omega) hf_nv hf_na hf_nb hf_nc hf_bto hf_bin (by first | exact q0 | omega) (by first | exact q1 | omega) (by first | exact q4 | omega) (by first | exact q5 | omega) (by omega) hn_bi hn_paq hn_grv) (cwV 2 hts (gv hT w_m_X11_273 w_instanceMethod_X11_goesTo ws_sel_X11_goesTo w_ini_X11 w_code_X11_goesTo) rfl rfl rfl (by decide +kernel) ⟨(by dsimp only [headSpec]; omega), (by dsimp only [headSpec]; omega)⟩) ⟨pre_blind, va_recv hK hP (ci := 8) (q0 := 2) rfl rfl, pre_of hPc hKc hDc hN⟩ rfl rfl hl.1 rfl (lv_room (Nat.le_of_ble_eq_true rfl)) dX11_unifies_22 ⟨(Nat.le_of_ble_eq_true rfl), (Nat.le_of_ble_eq_true rfl)⟩) hS (fun q _ h => hFc q h) hFc (fun u t H locs ht hvm hq hB hz1 hk1 hS9 => ?_)
  obtain ⟨z17, z18, z19⟩ := u
  obtain ⟨hP1, hD1⟩ := hB
  rw [ht] at hP1
  obtain ⟨hP9, hD9⟩ := va_join (wr := [(h_nn, .inl (cy_nn, 8000, .inr (.inl f_nn))), (h_tra, .inl (cy_tra, 256, .inl f_tra))]) (w1 := [(h_mm, .inr (8, (mo134 vq15 (.ref h_nv) (.ref h_na) (.ref h_nb) (.ref h_nc) (.ref h_bto) (.ref h_bin) (.int z17) (.int z18)))), (h_nv, .inl (cy_nv, 8000, .inl f_nv)), (h_na, .inl (cy_na, 8000, .inl f_na)), (h_nb, .inl (cy_nb, 8000, .inl f_nb)), (h_nc, .inl (cy_nc, 8000, .inl f_nc)), (h_bto, .inl (cy_bto, 256, .inl f_bto)), (h_bin, .inl (cy_bin, 256, .inl f_bin))]) hP hD [2, 3, 4, 5, 6, 7, 8] [0, 1] rfl rfl (by decide) (by decide) hk1 hFc hP1 hD1
  clear hP hD hS hPc hDc hKc hFc hP1 hD1 hk1 hz1 ht hvm
  have hP : va_P (dC, dI) cls [(h_nn, .inl (cy_nn, 8000, .inr (.inl f_nn))), (h_tra, .inl (cy_tra, 256, .inl f_tra)), (h_mm, .inr (8, (mo134 vq15 (.ref h_nv) (.ref h_na) (.ref h_nb) (.ref h_nc) (.ref h_bto) (.ref h_bin) (.int z17) (.int z18)))), (h_nv, .inl (cy_nv, 8000, .inl f_nv)), (h_na, .inl (cy_na, 8000, .inl f_na)), (h_nb, .inl (cy_nb, 8000, .inl f_nb)), (h_nc, .inl (cy_nc, 8000, .inl f_nc)), (h_bto, .inl (cy_bto, 256, .inl f_bto)), (h_bin, .inl (cy_bin, 256, .inl f_bin))] H := hP9
  have hD : va_D A [(h_nn, .inl (cy_nn, 8000, .inr (.inl f_nn))), (h_tra, .inl (cy_tra, 256, .inl f_tra)), (h_mm, .inr (8, (mo134 vq15 (.ref h_nv) (.ref h_na) (.ref h_nb) (.ref h_nc) (.ref h_bto) (.ref h_bin) (.int z17) (.int z18)))), (h_nv, .inl (cy_nv, 8000, .inl f_nv)), (h_na, .inl (cy_na, 8000, .inl f_na)), (h_nb, .inl (cy_nb, 8000, .inl f_nb)), (h_nc, .inl (cy_nc, 8000, .inl f_nc)), (h_bto, .inl (cy_bto, 256, .inl f_bto)), (h_bin, .inl (cy_bin, 256, .inl f_bin))] := hD9
  have hS := hS9
  clear hP9 hD9 hS9
  rw [evq15] at hP hD
  replace hP : va_P (dC, dI) cls [(h_nn, .inl (cy_nn, 8000, .inr (.inl f_nn))), (h_tra, .inl (cy_tra, 256, .inl f_tra)), (h_mm, .inr (8, (mo136 v_mm (.ref h_nv) (.ref h_nn) (.ref h_na) (.ref h_nb) (.ref h_nc) (.ref h_bto) (.ref h_bin) (.ref h_tra) (.int x_mm_trailed) (.int z17) (.int z18)))), (h_nv, .inl (cy_nv, 8000, .inl f_nv)), (h_na, .inl (cy_na, 8000, .inl f_na)), (h_nb, .inl (cy_nb, 8000, .inl f_nb)), (h_nc, .inl (cy_nc, 8000, .inl f_nc)), (h_bto, .inl (cy_bto, 256, .inl f_bto)), (h_bin, .inl (cy_bin, 256, .inl f_bin))] H := hP
  replace hD : va_D A [(h_nn, .inl (cy_nn, 8000, .inr (.inl f_nn))), (h_tra, .inl (cy_tra, 256, .inl f_tra)), (h_mm, .inr (8, (mo136 v_mm (.ref h_nv) (.ref h_nn) (.ref h_na) (.ref h_nb) (.ref h_nc) (.ref h_bto) (.ref h_bin) (.ref h_tra) (.int x_mm_trailed) (.int z17) (.int z18)))), (h_nv, .inl (cy_nv, 8000, .inl f_nv)), (h_na, .inl (cy_na, 8000, .inl f_na)), (h_nb, .inl (cy_nb, 8000, .inl f_nb)), (h_nc, .inl (cy_nc, 8000, .inl f_nc)), (h_bto, .inl (cy_bto, 256, .inl f_bto)), (h_bin, .inl (cy_bin, 256, .inl f_bin))] := hD
  clear evq15 
  obtain ⟨k20, k21, k22, k23, k24, k25, k26, k27, k28⟩ := hq
  replace k20 : 0 ≤ ((z17)).toInt ∧ ((z17)).toInt ≤ 7999 := k20
  replace k21 : 0 ≤ ((z18)).toInt ∧ ((z18)).toInt ≤ 31 := k21
  replace k22 : 0 ≤ ((z17)).toInt ∧ ((z17)).toInt < (N) := k22
  replace k23 : (i0) ≤ ((z18)).toInt ∧ ((z18)).toInt ≤ (i1) := k23
  replace k24 : (hz) ((z17)).toInt.toNat + 6 * (256 - ((z19)).length) + 1 ≤ ((fu + 1)) := k24
  replace k25 : PA (i0) (z19) f_nv f_na f_nb f_nc f_bto f_bin ((z17)).toInt.toNat ((z18)).toInt := k25
  replace k26 : (f_nv ((z17)).toInt.toNat).toInt = -1 ∨ (f_bto (8 * ((z18)).toInt + (f_nv ((z17)).toInt.toNat).toInt).toNat).toInt = -1 := k26
  replace k27 : ∀ tt : Nat, (f_bto tt).toInt = -1 → NR f_nv f_na f_nb f_nc f_bto f_bin ((z17)).toInt.toNat ((z18)).toInt tt → NR f_nv f_na f_nb f_nc f_bto f_bin ((p3)).toInt.toNat ((p4)).toInt tt := k27
  replace k28 : BRE (g) (BDW f_bto f_bin) (PLR (p3) (p4)) (PLR (z17) (z18)) := k28
  refine lv_aload_n hx hb dX11_unifies_25 rfl (lv_at hl 2 rfl) ?_
  refine va_get (D := (dC, dI)) (ci := 8) (v := .int z17) (C := RX11) (T := TX11) (N := 71) hx hb hw iwX11 hown hK hP 2 rfl rfl 31 (by decide) (hw _ w_f_X11_264) (fun _ h9 => h9) rfl dX11_unifies_26 ?_
  refine lv_istore (lv' := [(7, .int z17), (6, .int z4), (5, .int z3), (0, .ref h_mm), (1, .int p1), (2, .int p2), (3, .int p3), (4, .int p4)]) hx hb dX11_unifies_29 hl (by decide) rfl (fun ls hl => ?_)
  refine lv_aload_n hx hb dX11_unifies_31 rfl (lv_at hl 3 rfl) ?_
  refine va_get (D := (dC, dI)) (ci := 8) (v := .int z18) (C := RX11) (T := TX11) (N := 71) hx hb hw iwX11 hown hK hP 2 rfl rfl 32 (by decide) (hw _ w_f_X11_267) (fun _ h9 => h9) rfl dX11_unifies_32 ?_
  refine lv_istore (lv' := [(8, .int z18), (7, .int z17), (6, .int z4), (5, .int z3), (0, .ref h_mm), (1, .int p1), (2, .int p2), (3, .int p3), (4, .int p4)]) hx hb dX11_unifies_35 hl (by decide) rfl (fun ls hl => ?_)
  refine lv_aload_n hx hb dX11_unifies_37 rfl (lv_at hl 4 rfl) ?_
  refine va_get (D := (dC, dI)) (ci := 8) (v := .ref h_nv) (C := RX11) (T := TX11) (N := 71) hx hb hw iwX11 hown hK hP 2 rfl rfl 1 (by decide) (hw _ w_f_X11_17) (fun _ h9 => h9) rfl dX11_unifies_38 ?_
  refine lv_iload hx hb dX11_unifies_41 (lv_at hl 3 rfl) ?_
  refine va_iald hx hb hK hP 3 0 rfl rfl (i := z3) (vp_in_iff.mpr (by omega)) dX11_unifies_43 ?_
  refine lv_topi (fun z29 ez29 => ?_)
  have rz29 : -1 ≤ (z29).toInt ∧ (z29).toInt ≤ 7 := by rw [ez29]; exact hf_nv _
  refine lv_iconst (v := (-1)) hx hb dX11_unifies_44 (by decide) ?_
  refine lv_icmp_eq (tgt := 111) hx hb dX11_unifies_45 (by decide) (fun c30 => ?_) (fun c30 => ?_)
  · have kc30 := (cv_eq (rfl : (z29).toInt = (z29).toInt) (by decide : ((-1) : Int32).toInt = -1)).mp c30
    have hvz29 : (f_nv (z3).toInt.toNat).toInt = (z29).toInt := by rw [ez29, (clamp_nat (i := z3) (by omega))]
    have gv9a := grv_v (i := z4) hn_grv (show 0 ≤ (z3).toInt ∧ (z3).toInt < 8000 by omega)
    have ga9a := grv_a (i := z4) hn_grv (show 0 ≤ (z3).toInt ∧ (z3).toInt < 8000 by omega)
    refine lv_aload_n hx hb dX11_unifies_111 rfl (lv_at hl 4 rfl) ?_
    refine va_get (D := (dC, dI)) (ci := 8) (v := .ref h_nv) (C := RX11) (T := TX11) (N := 71) hx hb hw iwX11 hown hK hP 2 rfl rfl 1 (by decide) (hw _ w_f_X11_17) (fun _ h9 => h9) rfl dX11_unifies_112 ?_
    refine lv_iload hx hb dX11_unifies_115 (lv_at hl 1 rfl) ?_
    refine va_iald hx hb hK hP 3 0 rfl rfl (i := z17) (vp_in_iff.mpr (by omega)) dX11_unifies_117 ?_
    refine lv_topi (fun z31 ez31 => ?_)
    have rz31 : -1 ≤ (z31).toInt ∧ (z31).toInt ≤ 7 := by rw [ez31]; exact hf_nv _
    refine lv_iconst (v := (-1)) hx hb dX11_unifies_118 (by decide) ?_
    refine lv_icmp_eq (tgt := 159) hx hb dX11_unifies_119 (by decide) (fun c32 => ?_) (fun c32 => ?_)
    · have kc32 := (cv_eq (rfl : (z31).toInt = (z31).toInt) (by decide : ((-1) : Int32).toInt = -1)).mp c32
      refine lv_aload_n hx hb dX11_unifies_159 rfl (lv_at hl 4 rfl) ?_
      refine va_get (D := (dC, dI)) (ci := 8) (v := .ref h_nn) (C := RX11) (T := TX11) (N := 71) hx hb hw iwX11 hown hK hP 2 rfl rfl 2 (by decide) (hw _ w_f_X11_23) (fun _ h9 => h9) rfl dX11_unifies_160 ?_
      refine lv_iload hx hb dX11_unifies_163 (lv_at hl 3 rfl) ?_
      refine va_lald hx hb hK hP 0 6 rfl rfl (i := z3) (vp_in_iff.mpr (by omega)) dX11_unifies_165 ?_
      refine lv_topl (fun z33 ez33 => ?_)
      have nnz33 : (f_nn (z3).toInt.toNat).toInt = (z33).toInt := by rw [ez33, clamp_nat (i := z3) (by omega)]
      refine lv_aload_n hx hb dX11_unifies_166 rfl (lv_at hl 4 rfl) ?_
      refine va_get (D := (dC, dI)) (ci := 8) (v := .ref h_nn) (C := RX11) (T := TX11) (N := 71) hx hb hw iwX11 hown hK hP 2 rfl rfl 2 (by decide) (hw _ w_f_X11_23) (fun _ h9 => h9) rfl dX11_unifies_167 ?_
      refine lv_iload hx hb dX11_unifies_170 (lv_at hl 1 rfl) ?_
      refine va_lald hx hb hK hP 0 6 rfl rfl (i := z17) (vp_in_iff.mpr (by omega)) dX11_unifies_172 ?_
      refine lv_topl (fun z34 ez34 => ?_)
      have nnz34 : (f_nn (z17).toInt.toNat).toInt = (z34).toInt := by rw [ez34, clamp_nat (i := z17) (by omega)]
      refine W.lcmp hx hb dX11_unifies_173 ?_
      refine lv_topi (fun z35 ez35 => ?_)
      have gz35 := lgc z33 z34
      rw [← ez35] at gz35
      refine lv_if_ne (tgt := 192) hx hb dX11_unifies_174 (by decide) (fun c36 => ?_) (fun c36 => ?_)
      · have kc36 := (not_congr (cv_eq (rfl : (z35).toInt = (z35).toInt) (by decide : (0 : Int32).toInt = 0))).mp c36
        have hvz31 : (f_nv (z17).toInt.toNat).toInt = (z31).toInt := by rw [ez31, (clamp_nat (i := z17) (by omega))]
        have gv9b := grv_v (i := z18) hn_grv (show 0 ≤ (z17).toInt ∧ (z17).toInt < 8000 by omega)
        have ga9b := grv_a (i := z18) hn_grv (show 0 ≤ (z17).toInt ∧ (z17).toInt < 8000 by omega)
        have gn9a := grn_n (i := z4) hn_grn (show 0 ≤ (z3).toInt ∧ (z3).toInt < 8000 by omega)
        have gn9b := grn_n (i := z18) hn_grn (show 0 ≤ (z17).toInt ∧ (z17).toInt < 8000 by omega)
        refine lv_iconst (v := 0) hx hb dX11_unifies_192 (by decide) ?_
        replace hP : va_P (dC, dI) cls [(h_mm, .inr (8, (mo136 v_mm (.ref h_nv) (.ref h_nn) (.ref h_na) (.ref h_nb) (.ref h_nc) (.ref h_bto) (.ref h_bin) (.ref h_tra) (.int x_mm_trailed) (.int z17) (.int z18)))), (h_nv, .inl (cy_nv, 8000, .inl f_nv)), (h_na, .inl (cy_na, 8000, .inl f_na)), (h_nb, .inl (cy_nb, 8000, .inl f_nb)), (h_nc, .inl (cy_nc, 8000, .inl f_nc)), (h_bto, .inl (cy_bto, 256, .inl f_bto)), (h_bin, .inl (cy_bin, 256, .inl f_bin)), (h_nn, .inl (cy_nn, 8000, .inr (.inl f_nn))), (h_tra, .inl (cy_tra, 256, .inl f_tra))] H := hP.sub [2, 3, 4, 5, 6, 7, 8, 0, 1] rfl
        replace hD : va_D A [(h_mm, .inr (8, (mo136 v_mm (.ref h_nv) (.ref h_nn) (.ref h_na) (.ref h_nb) (.ref h_nc) (.ref h_bto) (.ref h_bin) (.ref h_tra) (.int x_mm_trailed) (.int z17) (.int z18)))), (h_nv, .inl (cy_nv, 8000, .inl f_nv)), (h_na, .inl (cy_na, 8000, .inl f_na)), (h_nb, .inl (cy_nb, 8000, .inl f_nb)), (h_nc, .inl (cy_nc, 8000, .inl f_nc)), (h_bto, .inl (cy_bto, 256, .inl f_bto)), (h_bin, .inl (cy_bin, 256, .inl f_bin)), (h_nn, .inl (cy_nn, 8000, .inr (.inl f_nn))), (h_tra, .inl (cy_tra, 256, .inl f_tra))] := hD.sub [2, 3, 4, 5, 6, 7, 8, 0, 1] (by decide) rfl
        refine W.widen (k := 0) (n := 0) (Nat.le_of_ble_eq_true rfl) (Nat.le_of_ble_eq_true rfl) ?_
        have cst0 : (0 : Int32).toInt = 0 := by decide
        have w37 : 0 ≤ ((x_mm_trailed)).toInt ∧ ((x_mm_trailed)).toInt ≤ 256 := by first | exact hx_mm_trailed | omega
        have w38 : 0 ≤ ((z17)).toInt ∧ ((z17)).toInt ≤ 7999 := by first | exact k20 | omega
        have w39 : 0 ≤ ((z18)).toInt ∧ ((z18)).toInt ≤ 31 := by first | exact k21 | omega
        have w40 : 0 ≤ (0 : Int32).toInt ∧ (0 : Int32).toInt ≤ 1 := by omega
        have w41 : BI i0 i1 N hz f_nv f_na f_nb f_nc (f_bto) (f_bin) := hn_bi
        have w42 : TRL ((x_mm_trailed)).toInt (f_tra) (f_bto) := (trl_cast hn_trl (by omega))
        have w43 : GRW (x_mm_trailed).toInt ((x_mm_trailed)).toInt f_bto f_bin f_tra (f_bto) (f_bin) (f_tra) := (gr_cast gr0 (by omega) (by omega))
        have w44 : GHI f_bto f_bin (f_bto) (f_bin) := ghi_rf
        have w45 : UNX g (BDW f_bto f_bin) (BDW (f_bto) (f_bin)) (PLR p1 p2) (PLR p3 p4) ((0 : Int32)).toInt := (unx_name k14 k28 (by rw [gv9a]; omega) (by rw [gv9b]; omega) (by rw [gn9a, gn9b, ga9a, ga9b]; omega) (by decide))
        exact W.zret (v := 0) (ty := .boolean) hx hb hr (by decide) (fun t ht hW => ⟨⟨0, (x_mm_trailed, z17, z18, f_bto, f_bin, f_tra), rfl, ⟨w37, w38, w39, hf_bto, hf_bin, hf_tra, w40, w41, w42, w43, w44, w45⟩, by rw [ht]; exact hP, hD⟩, hS.F ht⟩) hS.2.2 dX11_unifies_193
      · have kc36 := (cv_eq (rfl : (z35).toInt = (z35).toInt) (by decide : (0 : Int32).toInt = 0)).mp c36
        refine lv_aload_n hx hb dX11_unifies_177 rfl (lv_at hl 4 rfl) ?_
        refine lv_iload hx hb dX11_unifies_178 (lv_at hl 3 rfl) ?_
        obtain ⟨vq46, evq46⟩ := mq136_86 v_mm (.ref h_nn) (.ref h_bto) (.ref h_bin) (.ref h_tra) (.int x_mm_trailed) (.int z17) (.int z18)
        replace hP : va_P (dC, dI) cls [(h_nn, .inl (cy_nn, 8000, .inr (.inl f_nn))), (h_tra, .inl (cy_tra, 256, .inl f_tra)), (h_mm, .inr (8, (mo86 vq46 (.ref h_nv) (.ref h_na) (.ref h_nb) (.ref h_nc)))), (h_nv, .inl (cy_nv, 8000, .inl f_nv)), (h_na, .inl (cy_na, 8000, .inl f_na)), (h_nb, .inl (cy_nb, 8000, .inl f_nb)), (h_nc, .inl (cy_nc, 8000, .inl f_nc)), (h_bto, .inl (cy_bto, 256, .inl f_bto)), (h_bin, .inl (cy_bin, 256, .inl f_bin))] H := by rw [evq46]; exact hP
        replace hD : va_D A [(h_nn, .inl (cy_nn, 8000, .inr (.inl f_nn))), (h_tra, .inl (cy_tra, 256, .inl f_tra)), (h_mm, .inr (8, (mo86 vq46 (.ref h_nv) (.ref h_na) (.ref h_nb) (.ref h_nc)))), (h_nv, .inl (cy_nv, 8000, .inl f_nv)), (h_na, .inl (cy_na, 8000, .inl f_na)), (h_nb, .inl (cy_nb, 8000, .inl f_nb)), (h_nc, .inl (cy_nc, 8000, .inl f_nc)), (h_bto, .inl (cy_bto, 256, .inl f_bto)), (h_bin, .inl (cy_bin, 256, .inl f_bin))] := by rw [evq46]; exact hD
        have hPc := hP.sub (ws' := [(h_mm, .inr (8, (mo86 vq46 (.ref h_nv) (.ref h_na) (.ref h_nb) (.ref h_nc)))), (h_nv, .inl (cy_nv, 8000, .inl f_nv)), (h_na, .inl (cy_na, 8000, .inl f_na)), (h_nb, .inl (cy_nb, 8000, .inl f_nb)), (h_nc, .inl (cy_nc, 8000, .inl f_nc))]) [2, 3, 4, 5, 6] rfl
        have hDc := hD.sub (ws' := [(h_mm, .inr (8, (mo86 vq46 (.ref h_nv) (.ref h_na) (.ref h_nb) (.ref h_nc)))), (h_nv, .inl (cy_nv, 8000, .inl f_nv)), (h_na, .inl (cy_na, 8000, .inl f_na)), (h_nb, .inl (cy_nb, 8000, .inl f_nb)), (h_nc, .inl (cy_nc, 8000, .inl f_nc))]) [2, 3, 4, 5, 6] (by decide) rfl
        have hKc := hK.sub (tys' := [(cy_nv, .int), (cy_na, .int), (cy_nb, .int), (cy_nc, .int)]) [0, 1, 2, 3] rfl
        have hFc := va_free (wc := [(h_mm, .inr (8, (mo86 vq46 (.ref h_nv) (.ref h_na) (.ref h_nb) (.ref h_nc)))), (h_nv, .inl (cy_nv, 8000, .inl f_nv)), (h_na, .inl (cy_na, 8000, .inl f_na)), (h_nb, .inl (cy_nb, 8000, .inl f_nb)), (h_nc, .inl (cy_nc, 8000, .inl f_nc))]) hD hS hA [2, 3, 4, 5, 6] rfl
        refine va_calli (va_runV (As := [.int z3]) (rest := []) ⟨hx, hb, hml, hown, hts⟩ (c_X11_partsAt_e l dC dI H.size h_mm h_nv h_na h_nb h_nc vq46 cy_nv f_nv cy_na f_na cy_nb f_nb cy_nc f_nc z3 hf_nv hf_na hf_nb hf_nc (by first | exact k6 | omega)) (cwV 1 hts (gv hT w_m_X11_27 w_instanceMethod_X11_partsAt ws_sel_X11_partsAt w_ini_X11 w_code_X11_partsAt) rfl rfl rfl (by decide +kernel) ⟨(by dsimp only [headSpec]; omega), (by dsimp only [headSpec]; omega)⟩) ⟨pre_blind, va_recv hK hP (ci := 8) (q0 := 2) rfl rfl, pre_of hPc hKc hDc hN⟩ rfl rfl hl.1 rfl (lv_room (Nat.le_of_ble_eq_true rfl)) dX11_unifies_180 ⟨(Nat.le_of_ble_eq_true rfl), (Nat.le_of_ble_eq_true rfl)⟩) hS (fun q _ h => hFc q h) hFc (fun r47 u t H locs ht hvm hq hB hz1 hk1 hS9 => ?_)
        obtain ⟨hP1, hD1⟩ := hB
        rw [ht] at hP1
        obtain ⟨hP9, hD9⟩ := va_join (wr := [(h_nn, .inl (cy_nn, 8000, .inr (.inl f_nn))), (h_tra, .inl (cy_tra, 256, .inl f_tra)), (h_bto, .inl (cy_bto, 256, .inl f_bto)), (h_bin, .inl (cy_bin, 256, .inl f_bin))]) (w1 := [(h_mm, .inr (8, (mo86 vq46 (.ref h_nv) (.ref h_na) (.ref h_nb) (.ref h_nc)))), (h_nv, .inl (cy_nv, 8000, .inl f_nv)), (h_na, .inl (cy_na, 8000, .inl f_na)), (h_nb, .inl (cy_nb, 8000, .inl f_nb)), (h_nc, .inl (cy_nc, 8000, .inl f_nc))]) hP hD [2, 3, 4, 5, 6] [0, 1, 7, 8] rfl rfl (by decide) (by decide) hk1 hFc hP1 hD1
        clear hP hD hS hPc hDc hKc hFc hP1 hD1 hk1 hz1 ht hvm
        have hP : va_P (dC, dI) cls [(h_nn, .inl (cy_nn, 8000, .inr (.inl f_nn))), (h_tra, .inl (cy_tra, 256, .inl f_tra)), (h_bto, .inl (cy_bto, 256, .inl f_bto)), (h_bin, .inl (cy_bin, 256, .inl f_bin)), (h_mm, .inr (8, (mo86 vq46 (.ref h_nv) (.ref h_na) (.ref h_nb) (.ref h_nc)))), (h_nv, .inl (cy_nv, 8000, .inl f_nv)), (h_na, .inl (cy_na, 8000, .inl f_na)), (h_nb, .inl (cy_nb, 8000, .inl f_nb)), (h_nc, .inl (cy_nc, 8000, .inl f_nc))] H := hP9
        have hD : va_D A [(h_nn, .inl (cy_nn, 8000, .inr (.inl f_nn))), (h_tra, .inl (cy_tra, 256, .inl f_tra)), (h_bto, .inl (cy_bto, 256, .inl f_bto)), (h_bin, .inl (cy_bin, 256, .inl f_bin)), (h_mm, .inr (8, (mo86 vq46 (.ref h_nv) (.ref h_na) (.ref h_nb) (.ref h_nc)))), (h_nv, .inl (cy_nv, 8000, .inl f_nv)), (h_na, .inl (cy_na, 8000, .inl f_na)), (h_nb, .inl (cy_nb, 8000, .inl f_nb)), (h_nc, .inl (cy_nc, 8000, .inl f_nc))] := hD9
        have hS := hS9
        clear hP9 hD9 hS9
        rw [evq46] at hP hD
        replace hP : va_P (dC, dI) cls [(h_nn, .inl (cy_nn, 8000, .inr (.inl f_nn))), (h_tra, .inl (cy_tra, 256, .inl f_tra)), (h_bto, .inl (cy_bto, 256, .inl f_bto)), (h_bin, .inl (cy_bin, 256, .inl f_bin)), (h_mm, .inr (8, (mo136 v_mm (.ref h_nv) (.ref h_nn) (.ref h_na) (.ref h_nb) (.ref h_nc) (.ref h_bto) (.ref h_bin) (.ref h_tra) (.int x_mm_trailed) (.int z17) (.int z18)))), (h_nv, .inl (cy_nv, 8000, .inl f_nv)), (h_na, .inl (cy_na, 8000, .inl f_na)), (h_nb, .inl (cy_nb, 8000, .inl f_nb)), (h_nc, .inl (cy_nc, 8000, .inl f_nc))] H := hP
        replace hD : va_D A [(h_nn, .inl (cy_nn, 8000, .inr (.inl f_nn))), (h_tra, .inl (cy_tra, 256, .inl f_tra)), (h_bto, .inl (cy_bto, 256, .inl f_bto)), (h_bin, .inl (cy_bin, 256, .inl f_bin)), (h_mm, .inr (8, (mo136 v_mm (.ref h_nv) (.ref h_nn) (.ref h_na) (.ref h_nb) (.ref h_nc) (.ref h_bto) (.ref h_bin) (.ref h_tra) (.int x_mm_trailed) (.int z17) (.int z18)))), (h_nv, .inl (cy_nv, 8000, .inl f_nv)), (h_na, .inl (cy_na, 8000, .inl f_na)), (h_nb, .inl (cy_nb, 8000, .inl f_nb)), (h_nc, .inl (cy_nc, 8000, .inl f_nc))] := hD
        clear evq46 
        obtain ⟨k48, k49⟩ := hq
        replace k48 : 0 ≤ (r47).toInt ∧ (r47).toInt ≤ 3 := k48
        replace k49 : ((r47)).toInt = (npx f_nv f_na f_nb f_nc ((z3)).toInt.toNat) := k49
        refine lv_aload_n hx hb dX11_unifies_183 rfl (lv_at hl 4 rfl) ?_
        refine lv_iload hx hb dX11_unifies_184 (lv_at hl 1 rfl) ?_
        obtain ⟨vq50, evq50⟩ := mq136_86 v_mm (.ref h_nn) (.ref h_bto) (.ref h_bin) (.ref h_tra) (.int x_mm_trailed) (.int z17) (.int z18)
        replace hP : va_P (dC, dI) cls [(h_nn, .inl (cy_nn, 8000, .inr (.inl f_nn))), (h_tra, .inl (cy_tra, 256, .inl f_tra)), (h_bto, .inl (cy_bto, 256, .inl f_bto)), (h_bin, .inl (cy_bin, 256, .inl f_bin)), (h_mm, .inr (8, (mo86 vq50 (.ref h_nv) (.ref h_na) (.ref h_nb) (.ref h_nc)))), (h_nv, .inl (cy_nv, 8000, .inl f_nv)), (h_na, .inl (cy_na, 8000, .inl f_na)), (h_nb, .inl (cy_nb, 8000, .inl f_nb)), (h_nc, .inl (cy_nc, 8000, .inl f_nc))] H := by rw [evq50]; exact hP
        replace hD : va_D A [(h_nn, .inl (cy_nn, 8000, .inr (.inl f_nn))), (h_tra, .inl (cy_tra, 256, .inl f_tra)), (h_bto, .inl (cy_bto, 256, .inl f_bto)), (h_bin, .inl (cy_bin, 256, .inl f_bin)), (h_mm, .inr (8, (mo86 vq50 (.ref h_nv) (.ref h_na) (.ref h_nb) (.ref h_nc)))), (h_nv, .inl (cy_nv, 8000, .inl f_nv)), (h_na, .inl (cy_na, 8000, .inl f_na)), (h_nb, .inl (cy_nb, 8000, .inl f_nb)), (h_nc, .inl (cy_nc, 8000, .inl f_nc))] := by rw [evq50]; exact hD
        have hPc := hP.sub (ws' := [(h_mm, .inr (8, (mo86 vq50 (.ref h_nv) (.ref h_na) (.ref h_nb) (.ref h_nc)))), (h_nv, .inl (cy_nv, 8000, .inl f_nv)), (h_na, .inl (cy_na, 8000, .inl f_na)), (h_nb, .inl (cy_nb, 8000, .inl f_nb)), (h_nc, .inl (cy_nc, 8000, .inl f_nc))]) [4, 5, 6, 7, 8] rfl
        have hDc := hD.sub (ws' := [(h_mm, .inr (8, (mo86 vq50 (.ref h_nv) (.ref h_na) (.ref h_nb) (.ref h_nc)))), (h_nv, .inl (cy_nv, 8000, .inl f_nv)), (h_na, .inl (cy_na, 8000, .inl f_na)), (h_nb, .inl (cy_nb, 8000, .inl f_nb)), (h_nc, .inl (cy_nc, 8000, .inl f_nc))]) [4, 5, 6, 7, 8] (by decide) rfl
        have hKc := hK.sub (tys' := [(cy_nv, .int), (cy_na, .int), (cy_nb, .int), (cy_nc, .int)]) [0, 1, 2, 3] rfl
        have hFc := va_free (wc := [(h_mm, .inr (8, (mo86 vq50 (.ref h_nv) (.ref h_na) (.ref h_nb) (.ref h_nc)))), (h_nv, .inl (cy_nv, 8000, .inl f_nv)), (h_na, .inl (cy_na, 8000, .inl f_na)), (h_nb, .inl (cy_nb, 8000, .inl f_nb)), (h_nc, .inl (cy_nc, 8000, .inl f_nc))]) hD hS hA [4, 5, 6, 7, 8] rfl
        refine va_calli (va_runV (As := [.int z17]) (rest := [.int r47]) ⟨hx, hb, hml, hown, hts⟩ (c_X11_partsAt_e l dC dI H.size h_mm h_nv h_na h_nb h_nc vq50 cy_nv f_nv cy_na f_na cy_nb f_nb cy_nc f_nc z17 hf_nv hf_na hf_nb hf_nc (by first | exact k20 | omega)) (cwV 1 hts (gv hT w_m_X11_27 w_instanceMethod_X11_partsAt ws_sel_X11_partsAt w_ini_X11 w_code_X11_partsAt) rfl rfl rfl (by decide +kernel) ⟨(by dsimp only [headSpec]; omega), (by dsimp only [headSpec]; omega)⟩) ⟨pre_blind, va_recv hK hP (ci := 8) (q0 := 4) rfl rfl, pre_of hPc hKc hDc hN⟩ rfl rfl hl.1 rfl (lv_room (Nat.le_of_ble_eq_true rfl)) dX11_unifies_186 ⟨(Nat.le_of_ble_eq_true rfl), (Nat.le_of_ble_eq_true rfl)⟩) hS (fun q _ h => hFc q h) hFc (fun r51 u t H locs ht hvm hq hB hz1 hk1 hS9 => ?_)
        obtain ⟨hP1, hD1⟩ := hB
        rw [ht] at hP1
        obtain ⟨hP9, hD9⟩ := va_join (wr := [(h_nn, .inl (cy_nn, 8000, .inr (.inl f_nn))), (h_tra, .inl (cy_tra, 256, .inl f_tra)), (h_bto, .inl (cy_bto, 256, .inl f_bto)), (h_bin, .inl (cy_bin, 256, .inl f_bin))]) (w1 := [(h_mm, .inr (8, (mo86 vq50 (.ref h_nv) (.ref h_na) (.ref h_nb) (.ref h_nc)))), (h_nv, .inl (cy_nv, 8000, .inl f_nv)), (h_na, .inl (cy_na, 8000, .inl f_na)), (h_nb, .inl (cy_nb, 8000, .inl f_nb)), (h_nc, .inl (cy_nc, 8000, .inl f_nc))]) hP hD [4, 5, 6, 7, 8] [0, 1, 2, 3] rfl rfl (by decide) (by decide) hk1 hFc hP1 hD1
        clear hP hD hS hPc hDc hKc hFc hP1 hD1 hk1 hz1 ht hvm
        have hP : va_P (dC, dI) cls [(h_nn, .inl (cy_nn, 8000, .inr (.inl f_nn))), (h_tra, .inl (cy_tra, 256, .inl f_tra)), (h_bto, .inl (cy_bto, 256, .inl f_bto)), (h_bin, .inl (cy_bin, 256, .inl f_bin)), (h_mm, .inr (8, (mo86 vq50 (.ref h_nv) (.ref h_na) (.ref h_nb) (.ref h_nc)))), (h_nv, .inl (cy_nv, 8000, .inl f_nv)), (h_na, .inl (cy_na, 8000, .inl f_na)), (h_nb, .inl (cy_nb, 8000, .inl f_nb)), (h_nc, .inl (cy_nc, 8000, .inl f_nc))] H := hP9
        have hD : va_D A [(h_nn, .inl (cy_nn, 8000, .inr (.inl f_nn))), (h_tra, .inl (cy_tra, 256, .inl f_tra)), (h_bto, .inl (cy_bto, 256, .inl f_bto)), (h_bin, .inl (cy_bin, 256, .inl f_bin)), (h_mm, .inr (8, (mo86 vq50 (.ref h_nv) (.ref h_na) (.ref h_nb) (.ref h_nc)))), (h_nv, .inl (cy_nv, 8000, .inl f_nv)), (h_na, .inl (cy_na, 8000, .inl f_na)), (h_nb, .inl (cy_nb, 8000, .inl f_nb)), (h_nc, .inl (cy_nc, 8000, .inl f_nc))] := hD9
        have hS := hS9
        clear hP9 hD9 hS9
        rw [evq50] at hP hD
        replace hP : va_P (dC, dI) cls [(h_nn, .inl (cy_nn, 8000, .inr (.inl f_nn))), (h_tra, .inl (cy_tra, 256, .inl f_tra)), (h_bto, .inl (cy_bto, 256, .inl f_bto)), (h_bin, .inl (cy_bin, 256, .inl f_bin)), (h_mm, .inr (8, (mo136 v_mm (.ref h_nv) (.ref h_nn) (.ref h_na) (.ref h_nb) (.ref h_nc) (.ref h_bto) (.ref h_bin) (.ref h_tra) (.int x_mm_trailed) (.int z17) (.int z18)))), (h_nv, .inl (cy_nv, 8000, .inl f_nv)), (h_na, .inl (cy_na, 8000, .inl f_na)), (h_nb, .inl (cy_nb, 8000, .inl f_nb)), (h_nc, .inl (cy_nc, 8000, .inl f_nc))] H := hP
        replace hD : va_D A [(h_nn, .inl (cy_nn, 8000, .inr (.inl f_nn))), (h_tra, .inl (cy_tra, 256, .inl f_tra)), (h_bto, .inl (cy_bto, 256, .inl f_bto)), (h_bin, .inl (cy_bin, 256, .inl f_bin)), (h_mm, .inr (8, (mo136 v_mm (.ref h_nv) (.ref h_nn) (.ref h_na) (.ref h_nb) (.ref h_nc) (.ref h_bto) (.ref h_bin) (.ref h_tra) (.int x_mm_trailed) (.int z17) (.int z18)))), (h_nv, .inl (cy_nv, 8000, .inl f_nv)), (h_na, .inl (cy_na, 8000, .inl f_na)), (h_nb, .inl (cy_nb, 8000, .inl f_nb)), (h_nc, .inl (cy_nc, 8000, .inl f_nc))] := hD
        clear evq50 
        obtain ⟨k52, k53⟩ := hq
        replace k52 : 0 ≤ (r51).toInt ∧ (r51).toInt ≤ 3 := k52
        replace k53 : ((r51)).toInt = (npx f_nv f_na f_nb f_nc ((z17)).toInt.toNat) := k53
        refine lv_icmp_eq (tgt := 194) hx hb dX11_unifies_189 (by decide) (fun c54 => ?_) (fun c54 => ?_)
        · have kc54 := (cv_eq (rfl : (r47).toInt = (r47).toInt) (rfl : (r51).toInt = (r51).toInt)).mp c54
          have hvz31 : (f_nv (z17).toInt.toNat).toInt = (z31).toInt := by rw [ez31, (clamp_nat (i := z17) (by omega))]
          have gv9b := grv_v (i := z18) hn_grv (show 0 ≤ (z17).toInt ∧ (z17).toInt < 8000 by omega)
          have ga9b := grv_a (i := z18) hn_grv (show 0 ≤ (z17).toInt ∧ (z17).toInt < 8000 by omega)
          have gn9a := grn_n (i := z4) hn_grn (show 0 ≤ (z3).toInt ∧ (z3).toInt < 8000 by omega)
          have gn9b := grn_n (i := z18) hn_grn (show 0 ≤ (z17).toInt ∧ (z17).toInt < 8000 by omega)
          refine lv_iconst (v := 0) hx hb dX11_unifies_194 (by decide) ?_
          refine lv_istore (lv' := [(9, .int 0), (8, .int z18), (7, .int z17), (6, .int z4), (5, .int z3), (0, .ref h_mm), (1, .int p1), (2, .int p2), (3, .int p3), (4, .int p4)]) hx hb dX11_unifies_195 hl (by decide) rfl (fun ls hl => ?_)
          have lp62 : ∀ (n : Nat) (x55 : Int32) (f56 : Nat → Int32) (f57 : Nat → Int32) (f58 : Nat → Int32) (x59 : Int32) (x60 : Int32) (x61 : Int32) (H : Heap) (locs : List Loc) (ls : Array Slot), (0 ≤ (x55).toInt ∧ (x55).toInt ≤ 3) → (Rg 0 255 f56) → (Rg (-1) 7999 f57) → (Rg 0 31 f58) → (0 ≤ (x59).toInt ∧ (x59).toInt ≤ 256) → (0 ≤ (x60).toInt ∧ (x60).toInt ≤ 7999) → (0 ≤ (x61).toInt ∧ (x61).toInt ≤ 31) → (BI i0 i1 N hz f_nv f_na f_nb f_nc f57 f58) → (TRL (x59).toInt f56 f57) → (GRW (x_mm_trailed).toInt (x59).toInt f_bto f_bin f_tra f57 f58 f56) → (GHI f_bto f_bin f57 f58) → (UNK g (BDW f_bto f_bin) (BDW f57 f58) (PLR p1 p2) (PLR p3 p4) (PLR z3 z4) (PLR z17 z18) ((x55).toInt)) → (3 - (x55).toInt).toNat + 1 ≤ n → va_P (dC, dI) cls [(h_nn, .inl (cy_nn, 8000, .inr (.inl f_nn))), (h_tra, .inl (cy_tra, 256, .inl f56)), (h_bto, .inl (cy_bto, 256, .inl f57)), (h_bin, .inl (cy_bin, 256, .inl f58)), (h_mm, .inr (8, (mo136 v_mm (.ref h_nv) (.ref h_nn) (.ref h_na) (.ref h_nb) (.ref h_nc) (.ref h_bto) (.ref h_bin) (.ref h_tra) (.int x59) (.int x60) (.int x61)))), (h_nv, .inl (cy_nv, 8000, .inl f_nv)), (h_na, .inl (cy_na, 8000, .inl f_na)), (h_nb, .inl (cy_nb, 8000, .inl f_nb)), (h_nc, .inl (cy_nc, 8000, .inl f_nc))] H → va_D A [(h_nn, .inl (cy_nn, 8000, .inr (.inl f_nn))), (h_tra, .inl (cy_tra, 256, .inl f56)), (h_bto, .inl (cy_bto, 256, .inl f57)), (h_bin, .inl (cy_bin, 256, .inl f58)), (h_mm, .inr (8, (mo136 v_mm (.ref h_nv) (.ref h_nn) (.ref h_na) (.ref h_nb) (.ref h_nc) (.ref h_bto) (.ref h_bin) (.ref h_tra) (.int x59) (.int x60) (.int x61)))), (h_nv, .inl (cy_nv, 8000, .inl f_nv)), (h_na, .inl (cy_na, 8000, .inl f_na)), (h_nb, .inl (cy_nb, 8000, .inl f_nb)), (h_nc, .inl (cy_nc, 8000, .inl f_nc))] → va_S A s.heap H locs → lv_has ls 10 [(0, .ref h_mm), (1, .int p1), (2, .int p2), (3, .int p3), (4, .int p4), (5, .int z3), (6, .int z4), (7, .int z17), (8, .int z18), (9, .int x55)] → W p l e ({ frames := (fu + 1) + 3, cells := 0, slots := 0, locals := 29 * (fu + 1) + 71 } : Room) s m ([.ref h_mm, .int p1, .int p2, .int p3, .int p4] : List Value).toArray below meth c H locs 0 0 (MQ below (va_Qi (fun (r : Int32) (u : (Int32) × (Int32) × (Int32) × (Nat → Int32) × (Nat → Int32) × (Nat → Int32)) => (0 ≤ (u.1).toInt ∧ (u.1).toInt ≤ 256) ∧ (0 ≤ (u.2.1).toInt ∧ (u.2.1).toInt ≤ 7999) ∧ (0 ≤ (u.2.2.1).toInt ∧ (u.2.2.1).toInt ≤ 31) ∧ (Rg (-1) 7999 u.2.2.2.1) ∧ (Rg 0 31 u.2.2.2.2.1) ∧ (Rg 0 255 u.2.2.2.2.2) ∧ (0 ≤ r.toInt ∧ r.toInt ≤ 1) ∧ (BI i0 i1 N hz f_nv f_na f_nb f_nc u.2.2.2.1 u.2.2.2.2.1) ∧ (TRL (u.1).toInt u.2.2.2.2.2 u.2.2.2.1) ∧ (GRW (x_mm_trailed).toInt (u.1).toInt f_bto f_bin f_tra u.2.2.2.1 u.2.2.2.2.1 u.2.2.2.2.2) ∧ (GHI f_bto f_bin u.2.2.2.1 u.2.2.2.2.1) ∧ (UNX g (BDW f_bto f_bin) (BDW u.2.2.2.1 u.2.2.2.2.1) (PLR p1 p2) (PLR p3 p4) (r).toInt)) (fun (u : (Int32) × (Int32) × (Int32) × (Nat → Int32) × (Nat → Int32) × (Nat → Int32)) (t : State) => va_P (dC, dI) cls [(h_mm, .inr (8, (mo136 v_mm (.ref h_nv) (.ref h_nn) (.ref h_na) (.ref h_nb) (.ref h_nc) (.ref h_bto) (.ref h_bin) (.ref h_tra) (.int u.1) (.int u.2.1) (.int u.2.2.1)))), (h_nv, .inl (cy_nv, 8000, .inl f_nv)), (h_na, .inl (cy_na, 8000, .inl f_na)), (h_nb, .inl (cy_nb, 8000, .inl f_nb)), (h_nc, .inl (cy_nc, 8000, .inl f_nc)), (h_bto, .inl (cy_bto, 256, .inl u.2.2.2.1)), (h_bin, .inl (cy_bin, 256, .inl u.2.2.2.2.1)), (h_nn, .inl (cy_nn, 8000, .inr (.inl f_nn))), (h_tra, .inl (cy_tra, 256, .inl u.2.2.2.2.2))] t.heap ∧ va_D A [(h_mm, .inr (8, (mo136 v_mm (.ref h_nv) (.ref h_nn) (.ref h_na) (.ref h_nb) (.ref h_nc) (.ref h_bto) (.ref h_bin) (.ref h_tra) (.int u.1) (.int u.2.1) (.int u.2.2.1)))), (h_nv, .inl (cy_nv, 8000, .inl f_nv)), (h_na, .inl (cy_na, 8000, .inl f_na)), (h_nb, .inl (cy_nb, 8000, .inl f_nb)), (h_nc, .inl (cy_nc, 8000, .inl f_nc)), (h_bto, .inl (cy_bto, 256, .inl u.2.2.2.1)), (h_bin, .inl (cy_bin, 256, .inl u.2.2.2.2.1)), (h_nn, .inl (cy_nn, 8000, .inr (.inl f_nn))), (h_tra, .inl (cy_tra, 256, .inl u.2.2.2.2.2))]) A) ([.ref h_mm, .int p1, .int p2, .int p3, .int p4] : List Value).toArray s 0 0 A) (F0 m 197 ls []) := by
            clear hP hD hS hl
            intro n
            induction n with
            | zero => intro x55 f56 f57 f58 x59 x60 x61 H locs ls klp62_0 hf56 hf57 hf58 klp62_4 klp62_5 klp62_6 klp62_7 klp62_8 klp62_9 klp62_10 klp62_11 hm hP hD hS hl; exact False.elim (by omega)
            | succ n ih => 
              intro x55 f56 f57 f58 x59 x60 x61 H locs ls klp62_0 hf56 hf57 hf58 klp62_4 klp62_5 klp62_6 klp62_7 klp62_8 klp62_9 klp62_10 klp62_11 hm hP hD hS hl
              have ih63 := ih
              clear ih
              refine lv_iload hx hb dX11_unifies_197 (lv_at hl 9 rfl) ?_
              refine lv_aload_n hx hb dX11_unifies_199 rfl (lv_at hl 0 rfl) ?_
              refine lv_iload hx hb dX11_unifies_200 (lv_at hl 5 rfl) ?_
              obtain ⟨vq64, evq64⟩ := mq136_86 v_mm (.ref h_nn) (.ref h_bto) (.ref h_bin) (.ref h_tra) (.int x59) (.int x60) (.int x61)
              replace hP : va_P (dC, dI) cls [(h_nn, .inl (cy_nn, 8000, .inr (.inl f_nn))), (h_tra, .inl (cy_tra, 256, .inl f56)), (h_bto, .inl (cy_bto, 256, .inl f57)), (h_bin, .inl (cy_bin, 256, .inl f58)), (h_mm, .inr (8, (mo86 vq64 (.ref h_nv) (.ref h_na) (.ref h_nb) (.ref h_nc)))), (h_nv, .inl (cy_nv, 8000, .inl f_nv)), (h_na, .inl (cy_na, 8000, .inl f_na)), (h_nb, .inl (cy_nb, 8000, .inl f_nb)), (h_nc, .inl (cy_nc, 8000, .inl f_nc))] H := by rw [evq64]; exact hP
              replace hD : va_D A [(h_nn, .inl (cy_nn, 8000, .inr (.inl f_nn))), (h_tra, .inl (cy_tra, 256, .inl f56)), (h_bto, .inl (cy_bto, 256, .inl f57)), (h_bin, .inl (cy_bin, 256, .inl f58)), (h_mm, .inr (8, (mo86 vq64 (.ref h_nv) (.ref h_na) (.ref h_nb) (.ref h_nc)))), (h_nv, .inl (cy_nv, 8000, .inl f_nv)), (h_na, .inl (cy_na, 8000, .inl f_na)), (h_nb, .inl (cy_nb, 8000, .inl f_nb)), (h_nc, .inl (cy_nc, 8000, .inl f_nc))] := by rw [evq64]; exact hD
              have hPc := hP.sub (ws' := [(h_mm, .inr (8, (mo86 vq64 (.ref h_nv) (.ref h_na) (.ref h_nb) (.ref h_nc)))), (h_nv, .inl (cy_nv, 8000, .inl f_nv)), (h_na, .inl (cy_na, 8000, .inl f_na)), (h_nb, .inl (cy_nb, 8000, .inl f_nb)), (h_nc, .inl (cy_nc, 8000, .inl f_nc))]) [4, 5, 6, 7, 8] rfl
              have hDc := hD.sub (ws' := [(h_mm, .inr (8, (mo86 vq64 (.ref h_nv) (.ref h_na) (.ref h_nb) (.ref h_nc)))), (h_nv, .inl (cy_nv, 8000, .inl f_nv)), (h_na, .inl (cy_na, 8000, .inl f_na)), (h_nb, .inl (cy_nb, 8000, .inl f_nb)), (h_nc, .inl (cy_nc, 8000, .inl f_nc))]) [4, 5, 6, 7, 8] (by decide) rfl
              have hKc := hK.sub (tys' := [(cy_nv, .int), (cy_na, .int), (cy_nb, .int), (cy_nc, .int)]) [0, 1, 2, 3] rfl
              have hFc := va_free (wc := [(h_mm, .inr (8, (mo86 vq64 (.ref h_nv) (.ref h_na) (.ref h_nb) (.ref h_nc)))), (h_nv, .inl (cy_nv, 8000, .inl f_nv)), (h_na, .inl (cy_na, 8000, .inl f_na)), (h_nb, .inl (cy_nb, 8000, .inl f_nb)), (h_nc, .inl (cy_nc, 8000, .inl f_nc))]) hD hS hA [4, 5, 6, 7, 8] rfl
              refine va_calli (va_runV (As := [.int z3]) (rest := [.int x55]) ⟨hx, hb, hml, hown, hts⟩ (c_X11_partsAt_e l dC dI H.size h_mm h_nv h_na h_nb h_nc vq64 cy_nv f_nv cy_na f_na cy_nb f_nb cy_nc f_nc z3 hf_nv hf_na hf_nb hf_nc (by first | exact k6 | omega)) (cwV 1 hts (gv hT w_m_X11_27 w_instanceMethod_X11_partsAt ws_sel_X11_partsAt w_ini_X11 w_code_X11_partsAt) rfl rfl rfl (by decide +kernel) ⟨(by dsimp only [headSpec]; omega), (by dsimp only [headSpec]; omega)⟩) ⟨pre_blind, va_recv hK hP (ci := 8) (q0 := 4) rfl rfl, pre_of hPc hKc hDc hN⟩ rfl rfl hl.1 rfl (lv_room (Nat.le_of_ble_eq_true rfl)) dX11_unifies_202 ⟨(Nat.le_of_ble_eq_true rfl), (Nat.le_of_ble_eq_true rfl)⟩) hS (fun q _ h => hFc q h) hFc (fun r65 u t H locs ht hvm hq hB hz1 hk1 hS9 => ?_)
              obtain ⟨hP1, hD1⟩ := hB
              rw [ht] at hP1
              obtain ⟨hP9, hD9⟩ := va_join (wr := [(h_nn, .inl (cy_nn, 8000, .inr (.inl f_nn))), (h_tra, .inl (cy_tra, 256, .inl f56)), (h_bto, .inl (cy_bto, 256, .inl f57)), (h_bin, .inl (cy_bin, 256, .inl f58))]) (w1 := [(h_mm, .inr (8, (mo86 vq64 (.ref h_nv) (.ref h_na) (.ref h_nb) (.ref h_nc)))), (h_nv, .inl (cy_nv, 8000, .inl f_nv)), (h_na, .inl (cy_na, 8000, .inl f_na)), (h_nb, .inl (cy_nb, 8000, .inl f_nb)), (h_nc, .inl (cy_nc, 8000, .inl f_nc))]) hP hD [4, 5, 6, 7, 8] [0, 1, 2, 3] rfl rfl (by decide) (by decide) hk1 hFc hP1 hD1
              clear hP hD hS hPc hDc hKc hFc hP1 hD1 hk1 hz1 ht hvm
              have hP : va_P (dC, dI) cls [(h_nn, .inl (cy_nn, 8000, .inr (.inl f_nn))), (h_tra, .inl (cy_tra, 256, .inl f56)), (h_bto, .inl (cy_bto, 256, .inl f57)), (h_bin, .inl (cy_bin, 256, .inl f58)), (h_mm, .inr (8, (mo86 vq64 (.ref h_nv) (.ref h_na) (.ref h_nb) (.ref h_nc)))), (h_nv, .inl (cy_nv, 8000, .inl f_nv)), (h_na, .inl (cy_na, 8000, .inl f_na)), (h_nb, .inl (cy_nb, 8000, .inl f_nb)), (h_nc, .inl (cy_nc, 8000, .inl f_nc))] H := hP9
              have hD : va_D A [(h_nn, .inl (cy_nn, 8000, .inr (.inl f_nn))), (h_tra, .inl (cy_tra, 256, .inl f56)), (h_bto, .inl (cy_bto, 256, .inl f57)), (h_bin, .inl (cy_bin, 256, .inl f58)), (h_mm, .inr (8, (mo86 vq64 (.ref h_nv) (.ref h_na) (.ref h_nb) (.ref h_nc)))), (h_nv, .inl (cy_nv, 8000, .inl f_nv)), (h_na, .inl (cy_na, 8000, .inl f_na)), (h_nb, .inl (cy_nb, 8000, .inl f_nb)), (h_nc, .inl (cy_nc, 8000, .inl f_nc))] := hD9
              have hS := hS9
              clear hP9 hD9 hS9
              rw [evq64] at hP hD
              replace hP : va_P (dC, dI) cls [(h_nn, .inl (cy_nn, 8000, .inr (.inl f_nn))), (h_tra, .inl (cy_tra, 256, .inl f56)), (h_bto, .inl (cy_bto, 256, .inl f57)), (h_bin, .inl (cy_bin, 256, .inl f58)), (h_mm, .inr (8, (mo136 v_mm (.ref h_nv) (.ref h_nn) (.ref h_na) (.ref h_nb) (.ref h_nc) (.ref h_bto) (.ref h_bin) (.ref h_tra) (.int x59) (.int x60) (.int x61)))), (h_nv, .inl (cy_nv, 8000, .inl f_nv)), (h_na, .inl (cy_na, 8000, .inl f_na)), (h_nb, .inl (cy_nb, 8000, .inl f_nb)), (h_nc, .inl (cy_nc, 8000, .inl f_nc))] H := hP
              replace hD : va_D A [(h_nn, .inl (cy_nn, 8000, .inr (.inl f_nn))), (h_tra, .inl (cy_tra, 256, .inl f56)), (h_bto, .inl (cy_bto, 256, .inl f57)), (h_bin, .inl (cy_bin, 256, .inl f58)), (h_mm, .inr (8, (mo136 v_mm (.ref h_nv) (.ref h_nn) (.ref h_na) (.ref h_nb) (.ref h_nc) (.ref h_bto) (.ref h_bin) (.ref h_tra) (.int x59) (.int x60) (.int x61)))), (h_nv, .inl (cy_nv, 8000, .inl f_nv)), (h_na, .inl (cy_na, 8000, .inl f_na)), (h_nb, .inl (cy_nb, 8000, .inl f_nb)), (h_nc, .inl (cy_nc, 8000, .inl f_nc))] := hD
              clear evq64 
              obtain ⟨k66, k67⟩ := hq
              replace k66 : 0 ≤ (r65).toInt ∧ (r65).toInt ≤ 3 := k66
              replace k67 : ((r65)).toInt = (npx f_nv f_na f_nb f_nc ((z3)).toInt.toNat) := k67
              refine lv_icmp_ge (tgt := 243) hx hb dX11_unifies_205 (by decide) (fun c68 => ?_) (fun c68 => ?_)
              · have kc68 := (cv_le (rfl : (r65).toInt = (r65).toInt) (rfl : (x55).toInt = (x55).toInt)).mp c68
                refine lv_iconst (v := 1) hx hb dX11_unifies_243 (by decide) ?_
                replace hP : va_P (dC, dI) cls [(h_mm, .inr (8, (mo136 v_mm (.ref h_nv) (.ref h_nn) (.ref h_na) (.ref h_nb) (.ref h_nc) (.ref h_bto) (.ref h_bin) (.ref h_tra) (.int x59) (.int x60) (.int x61)))), (h_nv, .inl (cy_nv, 8000, .inl f_nv)), (h_na, .inl (cy_na, 8000, .inl f_na)), (h_nb, .inl (cy_nb, 8000, .inl f_nb)), (h_nc, .inl (cy_nc, 8000, .inl f_nc)), (h_bto, .inl (cy_bto, 256, .inl f57)), (h_bin, .inl (cy_bin, 256, .inl f58)), (h_nn, .inl (cy_nn, 8000, .inr (.inl f_nn))), (h_tra, .inl (cy_tra, 256, .inl f56))] H := hP.sub [4, 5, 6, 7, 8, 2, 3, 0, 1] rfl
                replace hD : va_D A [(h_mm, .inr (8, (mo136 v_mm (.ref h_nv) (.ref h_nn) (.ref h_na) (.ref h_nb) (.ref h_nc) (.ref h_bto) (.ref h_bin) (.ref h_tra) (.int x59) (.int x60) (.int x61)))), (h_nv, .inl (cy_nv, 8000, .inl f_nv)), (h_na, .inl (cy_na, 8000, .inl f_na)), (h_nb, .inl (cy_nb, 8000, .inl f_nb)), (h_nc, .inl (cy_nc, 8000, .inl f_nc)), (h_bto, .inl (cy_bto, 256, .inl f57)), (h_bin, .inl (cy_bin, 256, .inl f58)), (h_nn, .inl (cy_nn, 8000, .inr (.inl f_nn))), (h_tra, .inl (cy_tra, 256, .inl f56))] := hD.sub [4, 5, 6, 7, 8, 2, 3, 0, 1] (by decide) rfl
                refine W.widen (k := 0) (n := 0) (Nat.le_of_ble_eq_true rfl) (Nat.le_of_ble_eq_true rfl) ?_
                have cst1 : (1 : Int32).toInt = 1 := by decide
                have w69 : 0 ≤ ((x59)).toInt ∧ ((x59)).toInt ≤ 256 := by first | exact klp62_4 | omega
                have w70 : 0 ≤ ((x60)).toInt ∧ ((x60)).toInt ≤ 7999 := by first | exact klp62_5 | omega
                have w71 : 0 ≤ ((x61)).toInt ∧ ((x61)).toInt ≤ 31 := by first | exact klp62_6 | omega
                have w72 : 0 ≤ (1 : Int32).toInt ∧ (1 : Int32).toInt ≤ 1 := by omega
                have w73 : BI i0 i1 N hz f_nv f_na f_nb f_nc (f57) (f58) := klp62_7
                have w74 : TRL ((x59)).toInt (f56) (f57) := (trl_cast klp62_8 (by omega))
                have w75 : GRW (x_mm_trailed).toInt ((x59)).toInt f_bto f_bin f_tra (f57) (f58) (f56) := (gr_cast klp62_9 (by omega) (by omega))
                have w76 : GHI f_bto f_bin (f57) (f58) := klp62_10
                have w77 : UNX g (BDW f_bto f_bin) (BDW (f57) (f58)) (PLR p1 p2) (PLR p3 p4) ((1 : Int32)).toInt := (unk_end klp62_11 (by rw [ga9a]; omega) (by decide))
                exact W.zret (v := 1) (ty := .boolean) hx hb hr (by decide) (fun t ht hW => ⟨⟨1, (x59, x60, x61, f57, f58, f56), rfl, ⟨w69, w70, w71, hf57, hf58, hf56, w72, w73, w74, w75, w76, w77⟩, by rw [ht]; exact hP, hD⟩, hS.F ht⟩) hS.2.2 dX11_unifies_244
              · have kc68 := (not_congr (cv_le (rfl : (r65).toInt = (r65).toInt) (rfl : (x55).toInt = (x55).toInt))).mp c68
                refine lv_aload_n hx hb dX11_unifies_208 rfl (lv_at hl 0 rfl) ?_
                refine lv_aload_n hx hb dX11_unifies_209 rfl (lv_at hl 0 rfl) ?_
                refine lv_iload hx hb dX11_unifies_210 (lv_at hl 5 rfl) ?_
                refine lv_iload hx hb dX11_unifies_212 (lv_at hl 9 rfl) ?_
                obtain ⟨vq78, evq78⟩ := mq136_85 v_mm (.ref h_nv) (.ref h_nn) (.ref h_bto) (.ref h_bin) (.ref h_tra) (.int x59) (.int x60) (.int x61)
                replace hP : va_P (dC, dI) cls [(h_nn, .inl (cy_nn, 8000, .inr (.inl f_nn))), (h_tra, .inl (cy_tra, 256, .inl f56)), (h_bto, .inl (cy_bto, 256, .inl f57)), (h_bin, .inl (cy_bin, 256, .inl f58)), (h_mm, .inr (8, (mo85 vq78 (.ref h_na) (.ref h_nb) (.ref h_nc)))), (h_nv, .inl (cy_nv, 8000, .inl f_nv)), (h_na, .inl (cy_na, 8000, .inl f_na)), (h_nb, .inl (cy_nb, 8000, .inl f_nb)), (h_nc, .inl (cy_nc, 8000, .inl f_nc))] H := by rw [evq78]; exact hP
                replace hD : va_D A [(h_nn, .inl (cy_nn, 8000, .inr (.inl f_nn))), (h_tra, .inl (cy_tra, 256, .inl f56)), (h_bto, .inl (cy_bto, 256, .inl f57)), (h_bin, .inl (cy_bin, 256, .inl f58)), (h_mm, .inr (8, (mo85 vq78 (.ref h_na) (.ref h_nb) (.ref h_nc)))), (h_nv, .inl (cy_nv, 8000, .inl f_nv)), (h_na, .inl (cy_na, 8000, .inl f_na)), (h_nb, .inl (cy_nb, 8000, .inl f_nb)), (h_nc, .inl (cy_nc, 8000, .inl f_nc))] := by rw [evq78]; exact hD
                have hPc := hP.sub (ws' := [(h_mm, .inr (8, (mo85 vq78 (.ref h_na) (.ref h_nb) (.ref h_nc)))), (h_na, .inl (cy_na, 8000, .inl f_na)), (h_nb, .inl (cy_nb, 8000, .inl f_nb)), (h_nc, .inl (cy_nc, 8000, .inl f_nc))]) [4, 6, 7, 8] rfl
                have hDc := hD.sub (ws' := [(h_mm, .inr (8, (mo85 vq78 (.ref h_na) (.ref h_nb) (.ref h_nc)))), (h_na, .inl (cy_na, 8000, .inl f_na)), (h_nb, .inl (cy_nb, 8000, .inl f_nb)), (h_nc, .inl (cy_nc, 8000, .inl f_nc))]) [4, 6, 7, 8] (by decide) rfl
                have hKc := hK.sub (tys' := [(cy_na, .int), (cy_nb, .int), (cy_nc, .int)]) [1, 2, 3] rfl
                have hFc := va_free (wc := [(h_mm, .inr (8, (mo85 vq78 (.ref h_na) (.ref h_nb) (.ref h_nc)))), (h_na, .inl (cy_na, 8000, .inl f_na)), (h_nb, .inl (cy_nb, 8000, .inl f_nb)), (h_nc, .inl (cy_nc, 8000, .inl f_nc))]) hD hS hA [4, 6, 7, 8] rfl
                refine va_calli (va_runV (As := [.int z3, .int x55]) (rest := [.ref h_mm]) ⟨hx, hb, hml, hown, hts⟩ (c_X11_part_e l dC dI H.size h_mm h_na h_nb h_nc vq78 cy_na f_na cy_nb f_nb cy_nc f_nc z3 x55 hf_na hf_nb hf_nc (by first | exact k6 | omega)) (cwV 2 hts (gv hT w_m_X11_31 w_instanceMethod_X11_part ws_sel_X11_part w_ini_X11 w_code_X11_part) rfl rfl rfl (by decide +kernel) ⟨(by dsimp only [headSpec]; omega), (by dsimp only [headSpec]; omega)⟩) ⟨pre_blind, va_recv hK hP (ci := 8) (q0 := 4) rfl rfl, pre_of hPc hKc hDc hN⟩ rfl rfl hl.1 rfl (lv_room (Nat.le_of_ble_eq_true rfl)) dX11_unifies_214 ⟨(Nat.le_of_ble_eq_true rfl), (Nat.le_of_ble_eq_true rfl)⟩) hS (fun q _ h => hFc q h) hFc (fun r79 u t H locs ht hvm hq hB hz1 hk1 hS9 => ?_)
                obtain ⟨hP1, hD1⟩ := hB
                rw [ht] at hP1
                obtain ⟨hP9, hD9⟩ := va_join (wr := [(h_nn, .inl (cy_nn, 8000, .inr (.inl f_nn))), (h_tra, .inl (cy_tra, 256, .inl f56)), (h_bto, .inl (cy_bto, 256, .inl f57)), (h_bin, .inl (cy_bin, 256, .inl f58)), (h_nv, .inl (cy_nv, 8000, .inl f_nv))]) (w1 := [(h_mm, .inr (8, (mo85 vq78 (.ref h_na) (.ref h_nb) (.ref h_nc)))), (h_na, .inl (cy_na, 8000, .inl f_na)), (h_nb, .inl (cy_nb, 8000, .inl f_nb)), (h_nc, .inl (cy_nc, 8000, .inl f_nc))]) hP hD [4, 6, 7, 8] [0, 1, 2, 3, 5] rfl rfl (by decide) (by decide) hk1 hFc hP1 hD1
                clear hP hD hS hPc hDc hKc hFc hP1 hD1 hk1 hz1 ht hvm
                have hP : va_P (dC, dI) cls [(h_nn, .inl (cy_nn, 8000, .inr (.inl f_nn))), (h_tra, .inl (cy_tra, 256, .inl f56)), (h_bto, .inl (cy_bto, 256, .inl f57)), (h_bin, .inl (cy_bin, 256, .inl f58)), (h_nv, .inl (cy_nv, 8000, .inl f_nv)), (h_mm, .inr (8, (mo85 vq78 (.ref h_na) (.ref h_nb) (.ref h_nc)))), (h_na, .inl (cy_na, 8000, .inl f_na)), (h_nb, .inl (cy_nb, 8000, .inl f_nb)), (h_nc, .inl (cy_nc, 8000, .inl f_nc))] H := hP9
                have hD : va_D A [(h_nn, .inl (cy_nn, 8000, .inr (.inl f_nn))), (h_tra, .inl (cy_tra, 256, .inl f56)), (h_bto, .inl (cy_bto, 256, .inl f57)), (h_bin, .inl (cy_bin, 256, .inl f58)), (h_nv, .inl (cy_nv, 8000, .inl f_nv)), (h_mm, .inr (8, (mo85 vq78 (.ref h_na) (.ref h_nb) (.ref h_nc)))), (h_na, .inl (cy_na, 8000, .inl f_na)), (h_nb, .inl (cy_nb, 8000, .inl f_nb)), (h_nc, .inl (cy_nc, 8000, .inl f_nc))] := hD9
                have hS := hS9
                clear hP9 hD9 hS9
                rw [evq78] at hP hD
                replace hP : va_P (dC, dI) cls [(h_nn, .inl (cy_nn, 8000, .inr (.inl f_nn))), (h_tra, .inl (cy_tra, 256, .inl f56)), (h_bto, .inl (cy_bto, 256, .inl f57)), (h_bin, .inl (cy_bin, 256, .inl f58)), (h_nv, .inl (cy_nv, 8000, .inl f_nv)), (h_mm, .inr (8, (mo136 v_mm (.ref h_nv) (.ref h_nn) (.ref h_na) (.ref h_nb) (.ref h_nc) (.ref h_bto) (.ref h_bin) (.ref h_tra) (.int x59) (.int x60) (.int x61)))), (h_na, .inl (cy_na, 8000, .inl f_na)), (h_nb, .inl (cy_nb, 8000, .inl f_nb)), (h_nc, .inl (cy_nc, 8000, .inl f_nc))] H := hP
                replace hD : va_D A [(h_nn, .inl (cy_nn, 8000, .inr (.inl f_nn))), (h_tra, .inl (cy_tra, 256, .inl f56)), (h_bto, .inl (cy_bto, 256, .inl f57)), (h_bin, .inl (cy_bin, 256, .inl f58)), (h_nv, .inl (cy_nv, 8000, .inl f_nv)), (h_mm, .inr (8, (mo136 v_mm (.ref h_nv) (.ref h_nn) (.ref h_na) (.ref h_nb) (.ref h_nc) (.ref h_bto) (.ref h_bin) (.ref h_tra) (.int x59) (.int x60) (.int x61)))), (h_na, .inl (cy_na, 8000, .inl f_na)), (h_nb, .inl (cy_nb, 8000, .inl f_nb)), (h_nc, .inl (cy_nc, 8000, .inl f_nc))] := hD
                clear evq78 
                obtain ⟨k80, k81⟩ := hq
                replace k80 : -1 ≤ (r79).toInt ∧ (r79).toInt ≤ 7999 := k80
                replace k81 : ((r79)).toInt = (ptx f_na f_nb f_nc ((z3)).toInt.toNat ((x55)).toInt).toInt := k81
                refine lv_iload hx hb dX11_unifies_217 (lv_at hl 6 rfl) ?_
                refine lv_aload_n hx hb dX11_unifies_219 rfl (lv_at hl 0 rfl) ?_
                refine lv_iload hx hb dX11_unifies_220 (lv_at hl 7 rfl) ?_
                refine lv_iload hx hb dX11_unifies_222 (lv_at hl 9 rfl) ?_
                obtain ⟨vq82, evq82⟩ := mq136_85 v_mm (.ref h_nv) (.ref h_nn) (.ref h_bto) (.ref h_bin) (.ref h_tra) (.int x59) (.int x60) (.int x61)
                replace hP : va_P (dC, dI) cls [(h_nn, .inl (cy_nn, 8000, .inr (.inl f_nn))), (h_tra, .inl (cy_tra, 256, .inl f56)), (h_bto, .inl (cy_bto, 256, .inl f57)), (h_bin, .inl (cy_bin, 256, .inl f58)), (h_nv, .inl (cy_nv, 8000, .inl f_nv)), (h_mm, .inr (8, (mo85 vq82 (.ref h_na) (.ref h_nb) (.ref h_nc)))), (h_na, .inl (cy_na, 8000, .inl f_na)), (h_nb, .inl (cy_nb, 8000, .inl f_nb)), (h_nc, .inl (cy_nc, 8000, .inl f_nc))] H := by rw [evq82]; exact hP
                replace hD : va_D A [(h_nn, .inl (cy_nn, 8000, .inr (.inl f_nn))), (h_tra, .inl (cy_tra, 256, .inl f56)), (h_bto, .inl (cy_bto, 256, .inl f57)), (h_bin, .inl (cy_bin, 256, .inl f58)), (h_nv, .inl (cy_nv, 8000, .inl f_nv)), (h_mm, .inr (8, (mo85 vq82 (.ref h_na) (.ref h_nb) (.ref h_nc)))), (h_na, .inl (cy_na, 8000, .inl f_na)), (h_nb, .inl (cy_nb, 8000, .inl f_nb)), (h_nc, .inl (cy_nc, 8000, .inl f_nc))] := by rw [evq82]; exact hD
                have hPc := hP.sub (ws' := [(h_mm, .inr (8, (mo85 vq82 (.ref h_na) (.ref h_nb) (.ref h_nc)))), (h_na, .inl (cy_na, 8000, .inl f_na)), (h_nb, .inl (cy_nb, 8000, .inl f_nb)), (h_nc, .inl (cy_nc, 8000, .inl f_nc))]) [5, 6, 7, 8] rfl
                have hDc := hD.sub (ws' := [(h_mm, .inr (8, (mo85 vq82 (.ref h_na) (.ref h_nb) (.ref h_nc)))), (h_na, .inl (cy_na, 8000, .inl f_na)), (h_nb, .inl (cy_nb, 8000, .inl f_nb)), (h_nc, .inl (cy_nc, 8000, .inl f_nc))]) [5, 6, 7, 8] (by decide) rfl
                have hKc := hK.sub (tys' := [(cy_na, .int), (cy_nb, .int), (cy_nc, .int)]) [1, 2, 3] rfl
                have hFc := va_free (wc := [(h_mm, .inr (8, (mo85 vq82 (.ref h_na) (.ref h_nb) (.ref h_nc)))), (h_na, .inl (cy_na, 8000, .inl f_na)), (h_nb, .inl (cy_nb, 8000, .inl f_nb)), (h_nc, .inl (cy_nc, 8000, .inl f_nc))]) hD hS hA [5, 6, 7, 8] rfl
                refine va_calli (va_runV (As := [.int z17, .int x55]) (rest := [.int z4, .int r79, .ref h_mm]) ⟨hx, hb, hml, hown, hts⟩ (c_X11_part_e l dC dI H.size h_mm h_na h_nb h_nc vq82 cy_na f_na cy_nb f_nb cy_nc f_nc z17 x55 hf_na hf_nb hf_nc (by first | exact k20 | omega)) (cwV 2 hts (gv hT w_m_X11_31 w_instanceMethod_X11_part ws_sel_X11_part w_ini_X11 w_code_X11_part) rfl rfl rfl (by decide +kernel) ⟨(by dsimp only [headSpec]; omega), (by dsimp only [headSpec]; omega)⟩) ⟨pre_blind, va_recv hK hP (ci := 8) (q0 := 5) rfl rfl, pre_of hPc hKc hDc hN⟩ rfl rfl hl.1 rfl (lv_room (Nat.le_of_ble_eq_true rfl)) dX11_unifies_224 ⟨(Nat.le_of_ble_eq_true rfl), (Nat.le_of_ble_eq_true rfl)⟩) hS (fun q _ h => hFc q h) hFc (fun r83 u t H locs ht hvm hq hB hz1 hk1 hS9 => ?_)
                obtain ⟨hP1, hD1⟩ := hB
                rw [ht] at hP1
                obtain ⟨hP9, hD9⟩ := va_join (wr := [(h_nn, .inl (cy_nn, 8000, .inr (.inl f_nn))), (h_tra, .inl (cy_tra, 256, .inl f56)), (h_bto, .inl (cy_bto, 256, .inl f57)), (h_bin, .inl (cy_bin, 256, .inl f58)), (h_nv, .inl (cy_nv, 8000, .inl f_nv))]) (w1 := [(h_mm, .inr (8, (mo85 vq82 (.ref h_na) (.ref h_nb) (.ref h_nc)))), (h_na, .inl (cy_na, 8000, .inl f_na)), (h_nb, .inl (cy_nb, 8000, .inl f_nb)), (h_nc, .inl (cy_nc, 8000, .inl f_nc))]) hP hD [5, 6, 7, 8] [0, 1, 2, 3, 4] rfl rfl (by decide) (by decide) hk1 hFc hP1 hD1
                clear hP hD hS hPc hDc hKc hFc hP1 hD1 hk1 hz1 ht hvm
                have hP : va_P (dC, dI) cls [(h_nn, .inl (cy_nn, 8000, .inr (.inl f_nn))), (h_tra, .inl (cy_tra, 256, .inl f56)), (h_bto, .inl (cy_bto, 256, .inl f57)), (h_bin, .inl (cy_bin, 256, .inl f58)), (h_nv, .inl (cy_nv, 8000, .inl f_nv)), (h_mm, .inr (8, (mo85 vq82 (.ref h_na) (.ref h_nb) (.ref h_nc)))), (h_na, .inl (cy_na, 8000, .inl f_na)), (h_nb, .inl (cy_nb, 8000, .inl f_nb)), (h_nc, .inl (cy_nc, 8000, .inl f_nc))] H := hP9
                have hD : va_D A [(h_nn, .inl (cy_nn, 8000, .inr (.inl f_nn))), (h_tra, .inl (cy_tra, 256, .inl f56)), (h_bto, .inl (cy_bto, 256, .inl f57)), (h_bin, .inl (cy_bin, 256, .inl f58)), (h_nv, .inl (cy_nv, 8000, .inl f_nv)), (h_mm, .inr (8, (mo85 vq82 (.ref h_na) (.ref h_nb) (.ref h_nc)))), (h_na, .inl (cy_na, 8000, .inl f_na)), (h_nb, .inl (cy_nb, 8000, .inl f_nb)), (h_nc, .inl (cy_nc, 8000, .inl f_nc))] := hD9
                have hS := hS9
                clear hP9 hD9 hS9
                rw [evq82] at hP hD
                replace hP : va_P (dC, dI) cls [(h_nn, .inl (cy_nn, 8000, .inr (.inl f_nn))), (h_tra, .inl (cy_tra, 256, .inl f56)), (h_bto, .inl (cy_bto, 256, .inl f57)), (h_bin, .inl (cy_bin, 256, .inl f58)), (h_nv, .inl (cy_nv, 8000, .inl f_nv)), (h_mm, .inr (8, (mo136 v_mm (.ref h_nv) (.ref h_nn) (.ref h_na) (.ref h_nb) (.ref h_nc) (.ref h_bto) (.ref h_bin) (.ref h_tra) (.int x59) (.int x60) (.int x61)))), (h_na, .inl (cy_na, 8000, .inl f_na)), (h_nb, .inl (cy_nb, 8000, .inl f_nb)), (h_nc, .inl (cy_nc, 8000, .inl f_nc))] H := hP
                replace hD : va_D A [(h_nn, .inl (cy_nn, 8000, .inr (.inl f_nn))), (h_tra, .inl (cy_tra, 256, .inl f56)), (h_bto, .inl (cy_bto, 256, .inl f57)), (h_bin, .inl (cy_bin, 256, .inl f58)), (h_nv, .inl (cy_nv, 8000, .inl f_nv)), (h_mm, .inr (8, (mo136 v_mm (.ref h_nv) (.ref h_nn) (.ref h_na) (.ref h_nb) (.ref h_nc) (.ref h_bto) (.ref h_bin) (.ref h_tra) (.int x59) (.int x60) (.int x61)))), (h_na, .inl (cy_na, 8000, .inl f_na)), (h_nb, .inl (cy_nb, 8000, .inl f_nb)), (h_nc, .inl (cy_nc, 8000, .inl f_nc))] := hD
                clear evq82 
                obtain ⟨k84, k85⟩ := hq
                replace k84 : -1 ≤ (r83).toInt ∧ (r83).toInt ≤ 7999 := k84
                replace k85 : ((r83)).toInt = (ptx f_na f_nb f_nc ((z17)).toInt.toNat ((x55)).toInt).toInt := k85
                have ca9e : ptx f_na f_nb f_nc (z3).toInt.toNat (x55).toInt = r79 := Int32.toInt_inj.mp (by omega)
                have ca9c := ch_ok (nv := f_nv) (k := (x55).toInt) (x := (z3).toInt.toNat) klp62_7.1 (by omega) (by omega)
                rw [ca9e] at ca9c
                have ca9p := pa_ch (k := (x55).toInt) (pa_mono klp62_9 k11) (by omega)
                rw [ca9e] at ca9p
                have cb9e : ptx f_na f_nb f_nc (z17).toInt.toNat (x55).toInt = r83 := Int32.toInt_inj.mp (by omega)
                have cb9c := ch_ok (nv := f_nv) (k := (x55).toInt) (x := (z17).toInt.toNat) klp62_7.1 (by omega) (by omega)
                rw [cb9e] at cb9c
                have cb9p := pa_ch (k := (x55).toInt) (pa_mono klp62_9 k25) (by omega)
                rw [cb9e] at cb9p
                have kg9a := grv_k (i := z4) hn_grv (show 0 ≤ (z3).toInt ∧ (z3).toInt < 8000 by omega) (by omega) ca9e
                have kg9b := grv_k (i := z18) hn_grv (show 0 ≤ (z17).toInt ∧ (z17).toInt < 8000 by omega) (by omega) cb9e
                refine lv_iload hx hb dX11_unifies_227 (lv_at hl 8 rfl) ?_
                have hPc := hP.sub (ws' := [(h_mm, .inr (8, (mo136 v_mm (.ref h_nv) (.ref h_nn) (.ref h_na) (.ref h_nb) (.ref h_nc) (.ref h_bto) (.ref h_bin) (.ref h_tra) (.int x59) (.int x60) (.int x61)))), (h_nv, .inl (cy_nv, 8000, .inl f_nv)), (h_na, .inl (cy_na, 8000, .inl f_na)), (h_nb, .inl (cy_nb, 8000, .inl f_nb)), (h_nc, .inl (cy_nc, 8000, .inl f_nc)), (h_bto, .inl (cy_bto, 256, .inl f57)), (h_bin, .inl (cy_bin, 256, .inl f58)), (h_nn, .inl (cy_nn, 8000, .inr (.inl f_nn))), (h_tra, .inl (cy_tra, 256, .inl f56))]) [5, 4, 6, 7, 8, 2, 3, 0, 1] rfl
                have hDc := hD.sub (ws' := [(h_mm, .inr (8, (mo136 v_mm (.ref h_nv) (.ref h_nn) (.ref h_na) (.ref h_nb) (.ref h_nc) (.ref h_bto) (.ref h_bin) (.ref h_tra) (.int x59) (.int x60) (.int x61)))), (h_nv, .inl (cy_nv, 8000, .inl f_nv)), (h_na, .inl (cy_na, 8000, .inl f_na)), (h_nb, .inl (cy_nb, 8000, .inl f_nb)), (h_nc, .inl (cy_nc, 8000, .inl f_nc)), (h_bto, .inl (cy_bto, 256, .inl f57)), (h_bin, .inl (cy_bin, 256, .inl f58)), (h_nn, .inl (cy_nn, 8000, .inr (.inl f_nn))), (h_tra, .inl (cy_tra, 256, .inl f56))]) [5, 4, 6, 7, 8, 2, 3, 0, 1] (by decide) rfl
                have hKc := hK.sub (tys' := [(cy_nv, .int), (cy_na, .int), (cy_nb, .int), (cy_nc, .int), (cy_bto, .int), (cy_bin, .int), (cy_nn, .long), (cy_tra, .int)]) [0, 1, 2, 3, 4, 5, 6, 7] rfl
                have hFc := va_free (wc := [(h_mm, .inr (8, (mo136 v_mm (.ref h_nv) (.ref h_nn) (.ref h_na) (.ref h_nb) (.ref h_nc) (.ref h_bto) (.ref h_bin) (.ref h_tra) (.int x59) (.int x60) (.int x61)))), (h_nv, .inl (cy_nv, 8000, .inl f_nv)), (h_na, .inl (cy_na, 8000, .inl f_na)), (h_nb, .inl (cy_nb, 8000, .inl f_nb)), (h_nc, .inl (cy_nc, 8000, .inl f_nc)), (h_bto, .inl (cy_bto, 256, .inl f57)), (h_bin, .inl (cy_bin, 256, .inl f58)), (h_nn, .inl (cy_nn, 8000, .inr (.inl f_nn))), (h_tra, .inl (cy_tra, 256, .inl f56))]) hD hS hA [5, 4, 6, 7, 8, 2, 3, 0, 1] rfl
                refine va_calli (va_runV (As := [.int r79, .int z4, .int r83, .int z18]) (rest := []) ⟨hx, hb, hml, hown, hts⟩ (ihf dC dI H.size h_mm h_nv h_na h_nb h_nc h_bto h_bin h_nn h_tra v_mm x59 x60 x61 cy_nv f_nv cy_na f_na cy_nb f_nb cy_nc f_nc cy_bto f57 cy_bin f58 cy_nn f_nn cy_tra f56 r79 z4 r83 z18 i0 i1 N hz g z5 z19 (by first | exact klp62_4 | omega) (by first | exact klp62_5 | omega) (by first | exact klp62_6 | omega) hf_nv hf_na hf_nb hf_nc hf57 hf58 hf56 (by first | exact q0 | omega) (by first | exact q1 | omega) (by omega) (by first | exact k9 | omega) (by omega) (by first | exact k23 | omega) (by omega) (by omega) klp62_7 (trl_cast klp62_8 (by omega)) ca9p cb9p hn_grv hn_grn) (cwV 4 hts (gv hT w_m_X11_284 w_instanceMethod_X11_unifies ws_sel_X11_unifies w_ini_X11 w_code_X11_unifies) rfl rfl rfl (by decide +kernel) ⟨(by dsimp only [headSpec]; omega), (by dsimp only [headSpec]; omega)⟩) ⟨pre_blind, va_recv hK hP (ci := 8) (q0 := 5) rfl rfl, pre_of hPc hKc hDc hN⟩ rfl rfl hl.1 rfl (lv_room (Nat.le_of_ble_eq_true rfl)) dX11_unifies_229 ⟨(Nat.le_of_ble_eq_true rfl), (Nat.le_of_ble_eq_true rfl)⟩) hS (fun q _ h => hFc q h) hFc (fun r86 u t H locs ht hvm hq hB hz1 hk1 hS9 => ?_)
                obtain ⟨z87, z88, z89, f90, f91, f92⟩ := u
                obtain ⟨hP1, hD1⟩ := hB
                rw [ht] at hP1
                obtain ⟨hP9, hD9⟩ := va_join (wr := []) (w1 := [(h_mm, .inr (8, (mo136 v_mm (.ref h_nv) (.ref h_nn) (.ref h_na) (.ref h_nb) (.ref h_nc) (.ref h_bto) (.ref h_bin) (.ref h_tra) (.int z87) (.int z88) (.int z89)))), (h_nv, .inl (cy_nv, 8000, .inl f_nv)), (h_na, .inl (cy_na, 8000, .inl f_na)), (h_nb, .inl (cy_nb, 8000, .inl f_nb)), (h_nc, .inl (cy_nc, 8000, .inl f_nc)), (h_bto, .inl (cy_bto, 256, .inl f90)), (h_bin, .inl (cy_bin, 256, .inl f91)), (h_nn, .inl (cy_nn, 8000, .inr (.inl f_nn))), (h_tra, .inl (cy_tra, 256, .inl f92))]) hP hD [5, 4, 6, 7, 8, 2, 3, 0, 1] [] rfl rfl (by decide) (by decide) hk1 hFc hP1 hD1
                clear hP hD hS hPc hDc hKc hFc hP1 hD1 hk1 hz1 ht hvm
                have hP : va_P (dC, dI) cls [(h_mm, .inr (8, (mo136 v_mm (.ref h_nv) (.ref h_nn) (.ref h_na) (.ref h_nb) (.ref h_nc) (.ref h_bto) (.ref h_bin) (.ref h_tra) (.int z87) (.int z88) (.int z89)))), (h_nv, .inl (cy_nv, 8000, .inl f_nv)), (h_na, .inl (cy_na, 8000, .inl f_na)), (h_nb, .inl (cy_nb, 8000, .inl f_nb)), (h_nc, .inl (cy_nc, 8000, .inl f_nc)), (h_bto, .inl (cy_bto, 256, .inl f90)), (h_bin, .inl (cy_bin, 256, .inl f91)), (h_nn, .inl (cy_nn, 8000, .inr (.inl f_nn))), (h_tra, .inl (cy_tra, 256, .inl f92))] H := hP9
                have hD : va_D A [(h_mm, .inr (8, (mo136 v_mm (.ref h_nv) (.ref h_nn) (.ref h_na) (.ref h_nb) (.ref h_nc) (.ref h_bto) (.ref h_bin) (.ref h_tra) (.int z87) (.int z88) (.int z89)))), (h_nv, .inl (cy_nv, 8000, .inl f_nv)), (h_na, .inl (cy_na, 8000, .inl f_na)), (h_nb, .inl (cy_nb, 8000, .inl f_nb)), (h_nc, .inl (cy_nc, 8000, .inl f_nc)), (h_bto, .inl (cy_bto, 256, .inl f90)), (h_bin, .inl (cy_bin, 256, .inl f91)), (h_nn, .inl (cy_nn, 8000, .inr (.inl f_nn))), (h_tra, .inl (cy_tra, 256, .inl f92))] := hD9
                have hS := hS9
                clear hP9 hD9 hS9
                obtain ⟨k93, k94, k95, hf90, hf91, hf92, k96, k97, k98, k99, k100, k101⟩ := hq
                replace k93 : 0 ≤ ((z87)).toInt ∧ ((z87)).toInt ≤ 256 := k93
                replace k94 : 0 ≤ ((z88)).toInt ∧ ((z88)).toInt ≤ 7999 := k94
                replace k95 : 0 ≤ ((z89)).toInt ∧ ((z89)).toInt ≤ 31 := k95
                replace hf90 : Rg (-1) 7999 (f90) := hf90
                replace hf91 : Rg 0 31 (f91) := hf91
                replace hf92 : Rg 0 255 (f92) := hf92
                replace k96 : 0 ≤ (r86).toInt ∧ (r86).toInt ≤ 1 := k96
                replace k97 : BI (i0) (i1) (N) (hz) f_nv f_na f_nb f_nc (f90) (f91) := k97
                replace k98 : TRL ((z87)).toInt (f92) (f90) := k98
                replace k99 : GRW ((x59)).toInt ((z87)).toInt (f57) (f58) (f56) (f90) (f91) (f92) := k99
                replace k100 : GHI (f57) (f58) (f90) (f91) := k100
                replace k101 : UNX (g) (BDW (f57) (f58)) (BDW (f90) (f91)) (PLR (r79) (z4)) (PLR (r83) (z18)) ((r86)).toInt := k101
                have gr102 : GRW (x_mm_trailed).toInt (z87).toInt f_bto f_bin f_tra f90 f91 f92 := gr_trans hf92 klp62_9 k99
                refine lv_if_ne (tgt := 237) hx hb dX11_unifies_232 (by decide) (fun c103 => ?_) (fun c103 => ?_)
                · have kc103 := (not_congr (cv_eq (rfl : (r86).toInt = (r86).toInt) (by decide : (0 : Int32).toInt = 0))).mp c103
                  obtain ⟨z104, ez104⟩ : ∃ y : Int32, y = x55 + 1 := ⟨_, rfl⟩
                  have tz104 : (z104).toInt = (x55).toInt + 1 := by rw [ez104]; exact i_add rfl (by decide) (by omega)
                  refine lv_iinc (v := z104) (lv' := [(9, .int z104), (0, .ref h_mm), (1, .int p1), (2, .int p2), (3, .int p3), (4, .int p4), (5, .int z3), (6, .int z4), (7, .int z17), (8, .int z18)]) hx hb dX11_unifies_237 hl (k := 9) rfl (by rw [ez104]; rfl) (by decide) rfl (fun ls hl => ?_)
                  refine lv_goto (tgt := 197) hx hb dX11_unifies_240 (by decide) ?_
                  replace hP : va_P (dC, dI) cls [(h_nn, .inl (cy_nn, 8000, .inr (.inl f_nn))), (h_tra, .inl (cy_tra, 256, .inl f92)), (h_bto, .inl (cy_bto, 256, .inl f90)), (h_bin, .inl (cy_bin, 256, .inl f91)), (h_mm, .inr (8, (mo136 v_mm (.ref h_nv) (.ref h_nn) (.ref h_na) (.ref h_nb) (.ref h_nc) (.ref h_bto) (.ref h_bin) (.ref h_tra) (.int z87) (.int z88) (.int z89)))), (h_nv, .inl (cy_nv, 8000, .inl f_nv)), (h_na, .inl (cy_na, 8000, .inl f_na)), (h_nb, .inl (cy_nb, 8000, .inl f_nb)), (h_nc, .inl (cy_nc, 8000, .inl f_nc))] H := hP.sub [7, 8, 5, 6, 0, 1, 2, 3, 4] rfl
                  replace hD : va_D A [(h_nn, .inl (cy_nn, 8000, .inr (.inl f_nn))), (h_tra, .inl (cy_tra, 256, .inl f92)), (h_bto, .inl (cy_bto, 256, .inl f90)), (h_bin, .inl (cy_bin, 256, .inl f91)), (h_mm, .inr (8, (mo136 v_mm (.ref h_nv) (.ref h_nn) (.ref h_na) (.ref h_nb) (.ref h_nc) (.ref h_bto) (.ref h_bin) (.ref h_tra) (.int z87) (.int z88) (.int z89)))), (h_nv, .inl (cy_nv, 8000, .inl f_nv)), (h_na, .inl (cy_na, 8000, .inl f_na)), (h_nb, .inl (cy_nb, 8000, .inl f_nb)), (h_nc, .inl (cy_nc, 8000, .inl f_nc))] := hD.sub [7, 8, 5, 6, 0, 1, 2, 3, 4] (by decide) rfl
                  exact ih63 (z104) (f92) (f90) (f91) (z87) (z88) (z89) _ _ _ (by omega) hf92 hf90 hf91 (by first | exact k93 | omega) (by first | exact k94 | omega) (by first | exact k95 | omega) k97 (trl_cast k98 (by omega)) (gr_cast gr102 (by omega) (by omega)) (ghi_tr klp62_10 k100) (unk_step klp62_11 (by rw [ga9a]; omega) kg9a kg9b k101 (by omega) (by omega)) (by omega) hP hD hS (lv_sub hl [1, 2, 3, 4, 5, 6, 7, 8, 9, 0] rfl)
                · have kc103 := (cv_eq (rfl : (r86).toInt = (r86).toInt) (by decide : (0 : Int32).toInt = 0)).mp c103
                  refine lv_iconst (v := 0) hx hb dX11_unifies_235 (by decide) ?_
                  refine W.widen (k := 0) (n := 0) (Nat.le_of_ble_eq_true rfl) (Nat.le_of_ble_eq_true rfl) ?_
                  have cst0 : (0 : Int32).toInt = 0 := by decide
                  have w105 : 0 ≤ ((z87)).toInt ∧ ((z87)).toInt ≤ 256 := by first | exact k93 | omega
                  have w106 : 0 ≤ ((z88)).toInt ∧ ((z88)).toInt ≤ 7999 := by first | exact k94 | omega
                  have w107 : 0 ≤ ((z89)).toInt ∧ ((z89)).toInt ≤ 31 := by first | exact k95 | omega
                  have w108 : 0 ≤ (0 : Int32).toInt ∧ (0 : Int32).toInt ≤ 1 := by omega
                  have w109 : BI i0 i1 N hz f_nv f_na f_nb f_nc (f90) (f91) := k97
                  have w110 : TRL ((z87)).toInt (f92) (f90) := (trl_cast k98 (by omega))
                  have w111 : GRW (x_mm_trailed).toInt ((z87)).toInt f_bto f_bin f_tra (f90) (f91) (f92) := (gr_cast gr102 (by omega) (by omega))
                  have w112 : GHI f_bto f_bin (f90) (f91) := (ghi_tr klp62_10 k100)
                  have w113 : UNX g (BDW f_bto f_bin) (BDW (f90) (f91)) (PLR p1 p2) (PLR p3 p4) ((0 : Int32)).toInt := (unk_not klp62_11 (by rw [ga9a]; omega) kg9a kg9b k101 (by omega) (by decide))
                  exact W.zret (v := 0) (ty := .boolean) hx hb hr (by decide) (fun t ht hW => ⟨⟨0, (z87, z88, z89, f90, f91, f92), rfl, ⟨w105, w106, w107, hf90, hf91, hf92, w108, w109, w110, w111, w112, w113⟩, by rw [ht]; exact hP, hD⟩, hS.F ht⟩) hS.2.2 dX11_unifies_236
          have cst0 : (0 : Int32).toInt = 0 := by decide
          exact lp62 _ (0) (f_tra) (f_bto) (f_bin) (x_mm_trailed) (z17) (z18) _ _ _ (by decide) hf_tra hf_bto hf_bin (by first | exact hx_mm_trailed | omega) (by first | exact k20 | omega) (by first | exact k21 | omega) hn_bi (trl_cast hn_trl (by omega)) (gr_cast gr0 (by omega) (by omega)) ghi_rf (unk_zero k14 k28 (by rw [gv9a]; omega) (by rw [gv9b]; omega) (by rw [gn9a, gn9b, ga9a, ga9b]; omega) rfl) (Nat.le_refl _) hP hD hS (lv_sub hl [5, 6, 7, 8, 9, 4, 3, 2, 1, 0] rfl)
        · have kc54 := (not_congr (cv_eq (rfl : (r47).toInt = (r47).toInt) (rfl : (r51).toInt = (r51).toInt))).mp c54
          have hvz31 : (f_nv (z17).toInt.toNat).toInt = (z31).toInt := by rw [ez31, (clamp_nat (i := z17) (by omega))]
          have gv9b := grv_v (i := z18) hn_grv (show 0 ≤ (z17).toInt ∧ (z17).toInt < 8000 by omega)
          have ga9b := grv_a (i := z18) hn_grv (show 0 ≤ (z17).toInt ∧ (z17).toInt < 8000 by omega)
          have gn9a := grn_n (i := z4) hn_grn (show 0 ≤ (z3).toInt ∧ (z3).toInt < 8000 by omega)
          have gn9b := grn_n (i := z18) hn_grn (show 0 ≤ (z17).toInt ∧ (z17).toInt < 8000 by omega)
          refine lv_iconst (v := 0) hx hb dX11_unifies_192 (by decide) ?_
          replace hP : va_P (dC, dI) cls [(h_mm, .inr (8, (mo136 v_mm (.ref h_nv) (.ref h_nn) (.ref h_na) (.ref h_nb) (.ref h_nc) (.ref h_bto) (.ref h_bin) (.ref h_tra) (.int x_mm_trailed) (.int z17) (.int z18)))), (h_nv, .inl (cy_nv, 8000, .inl f_nv)), (h_na, .inl (cy_na, 8000, .inl f_na)), (h_nb, .inl (cy_nb, 8000, .inl f_nb)), (h_nc, .inl (cy_nc, 8000, .inl f_nc)), (h_bto, .inl (cy_bto, 256, .inl f_bto)), (h_bin, .inl (cy_bin, 256, .inl f_bin)), (h_nn, .inl (cy_nn, 8000, .inr (.inl f_nn))), (h_tra, .inl (cy_tra, 256, .inl f_tra))] H := hP.sub [4, 5, 6, 7, 8, 2, 3, 0, 1] rfl
          replace hD : va_D A [(h_mm, .inr (8, (mo136 v_mm (.ref h_nv) (.ref h_nn) (.ref h_na) (.ref h_nb) (.ref h_nc) (.ref h_bto) (.ref h_bin) (.ref h_tra) (.int x_mm_trailed) (.int z17) (.int z18)))), (h_nv, .inl (cy_nv, 8000, .inl f_nv)), (h_na, .inl (cy_na, 8000, .inl f_na)), (h_nb, .inl (cy_nb, 8000, .inl f_nb)), (h_nc, .inl (cy_nc, 8000, .inl f_nc)), (h_bto, .inl (cy_bto, 256, .inl f_bto)), (h_bin, .inl (cy_bin, 256, .inl f_bin)), (h_nn, .inl (cy_nn, 8000, .inr (.inl f_nn))), (h_tra, .inl (cy_tra, 256, .inl f_tra))] := hD.sub [4, 5, 6, 7, 8, 2, 3, 0, 1] (by decide) rfl
          refine W.widen (k := 0) (n := 0) (Nat.le_of_ble_eq_true rfl) (Nat.le_of_ble_eq_true rfl) ?_
          have cst0 : (0 : Int32).toInt = 0 := by decide
          have w114 : 0 ≤ ((x_mm_trailed)).toInt ∧ ((x_mm_trailed)).toInt ≤ 256 := by first | exact hx_mm_trailed | omega
          have w115 : 0 ≤ ((z17)).toInt ∧ ((z17)).toInt ≤ 7999 := by first | exact k20 | omega
          have w116 : 0 ≤ ((z18)).toInt ∧ ((z18)).toInt ≤ 31 := by first | exact k21 | omega
          have w117 : 0 ≤ (0 : Int32).toInt ∧ (0 : Int32).toInt ≤ 1 := by omega
          have w118 : BI i0 i1 N hz f_nv f_na f_nb f_nc (f_bto) (f_bin) := hn_bi
          have w119 : TRL ((x_mm_trailed)).toInt (f_tra) (f_bto) := (trl_cast hn_trl (by omega))
          have w120 : GRW (x_mm_trailed).toInt ((x_mm_trailed)).toInt f_bto f_bin f_tra (f_bto) (f_bin) (f_tra) := (gr_cast gr0 (by omega) (by omega))
          have w121 : GHI f_bto f_bin (f_bto) (f_bin) := ghi_rf
          have w122 : UNX g (BDW f_bto f_bin) (BDW (f_bto) (f_bin)) (PLR p1 p2) (PLR p3 p4) ((0 : Int32)).toInt := (unx_name k14 k28 (by rw [gv9a]; omega) (by rw [gv9b]; omega) (by rw [gn9a, gn9b, ga9a, ga9b]; omega) (by decide))
          exact W.zret (v := 0) (ty := .boolean) hx hb hr (by decide) (fun t ht hW => ⟨⟨0, (x_mm_trailed, z17, z18, f_bto, f_bin, f_tra), rfl, ⟨w114, w115, w116, hf_bto, hf_bin, hf_tra, w117, w118, w119, w120, w121, w122⟩, by rw [ht]; exact hP, hD⟩, hS.F ht⟩) hS.2.2 dX11_unifies_193
    · have kc32 := (not_congr (cv_eq (rfl : (z31).toInt = (z31).toInt) (by decide : ((-1) : Int32).toInt = -1))).mp c32
      refine lv_aload_n hx hb dX11_unifies_122 rfl (lv_at hl 4 rfl) ?_
      refine lv_iload hx hb dX11_unifies_123 (lv_at hl 1 rfl) ?_
      refine lv_iload hx hb dX11_unifies_125 (lv_at hl 0 rfl) ?_
      obtain ⟨vq123, evq123⟩ := mq136_129 v_mm (.ref h_nn) (.ref h_na) (.ref h_nb) (.ref h_nc) (.ref h_bto) (.ref h_bin) (.ref h_tra) (.int x_mm_trailed) (.int z17) (.int z18)
      replace hP : va_P (dC, dI) cls [(h_nn, .inl (cy_nn, 8000, .inr (.inl f_nn))), (h_tra, .inl (cy_tra, 256, .inl f_tra)), (h_mm, .inr (8, (mo129 vq123 (.ref h_nv)))), (h_nv, .inl (cy_nv, 8000, .inl f_nv)), (h_na, .inl (cy_na, 8000, .inl f_na)), (h_nb, .inl (cy_nb, 8000, .inl f_nb)), (h_nc, .inl (cy_nc, 8000, .inl f_nc)), (h_bto, .inl (cy_bto, 256, .inl f_bto)), (h_bin, .inl (cy_bin, 256, .inl f_bin))] H := by rw [evq123]; exact hP
      replace hD : va_D A [(h_nn, .inl (cy_nn, 8000, .inr (.inl f_nn))), (h_tra, .inl (cy_tra, 256, .inl f_tra)), (h_mm, .inr (8, (mo129 vq123 (.ref h_nv)))), (h_nv, .inl (cy_nv, 8000, .inl f_nv)), (h_na, .inl (cy_na, 8000, .inl f_na)), (h_nb, .inl (cy_nb, 8000, .inl f_nb)), (h_nc, .inl (cy_nc, 8000, .inl f_nc)), (h_bto, .inl (cy_bto, 256, .inl f_bto)), (h_bin, .inl (cy_bin, 256, .inl f_bin))] := by rw [evq123]; exact hD
      have hPc := hP.sub (ws' := [(h_mm, .inr (8, (mo129 vq123 (.ref h_nv)))), (h_nv, .inl (cy_nv, 8000, .inl f_nv))]) [2, 3] rfl
      have hDc := hD.sub (ws' := [(h_mm, .inr (8, (mo129 vq123 (.ref h_nv)))), (h_nv, .inl (cy_nv, 8000, .inl f_nv))]) [2, 3] (by decide) rfl
      have hKc := hK.sub (tys' := [(cy_nv, .int)]) [0] rfl
      have hFc := va_free (wc := [(h_mm, .inr (8, (mo129 vq123 (.ref h_nv)))), (h_nv, .inl (cy_nv, 8000, .inl f_nv))]) hD hS hA [2, 3] rfl
      refine va_calli (va_runV (As := [.int z17, .int z18]) (rest := []) ⟨hx, hb, hml, hown, hts⟩ (c_X11_slotOf l dC dI H.size h_mm h_nv vq123 cy_nv f_nv z17 z18 hf_nv (by first | exact k20 | omega) (by first | exact k21 | omega)) (cwV 2 hts (gv hT w_m_X11_270 w_instanceMethod_X11_slotOf ws_sel_X11_slotOf w_ini_X11 w_code_X11_slotOf) rfl rfl rfl (by decide +kernel) ⟨(by dsimp only [headSpec]; omega), (by dsimp only [headSpec]; omega)⟩) ⟨pre_blind, va_recv hK hP (ci := 8) (q0 := 2) rfl rfl, pre_of hPc hKc hDc hN⟩ rfl rfl hl.1 rfl (lv_room (Nat.le_of_ble_eq_true rfl)) dX11_unifies_127 ⟨(Nat.le_of_ble_eq_true rfl), (Nat.le_of_ble_eq_true rfl)⟩) hS (fun q _ h => hFc q h) hFc (fun r124 u t H locs ht hvm hq hB hz1 hk1 hS9 => ?_)
      obtain ⟨hP1, hD1⟩ := hB
      rw [ht] at hP1
      obtain ⟨hP9, hD9⟩ := va_join (wr := [(h_nn, .inl (cy_nn, 8000, .inr (.inl f_nn))), (h_tra, .inl (cy_tra, 256, .inl f_tra)), (h_na, .inl (cy_na, 8000, .inl f_na)), (h_nb, .inl (cy_nb, 8000, .inl f_nb)), (h_nc, .inl (cy_nc, 8000, .inl f_nc)), (h_bto, .inl (cy_bto, 256, .inl f_bto)), (h_bin, .inl (cy_bin, 256, .inl f_bin))]) (w1 := [(h_mm, .inr (8, (mo129 vq123 (.ref h_nv)))), (h_nv, .inl (cy_nv, 8000, .inl f_nv))]) hP hD [2, 3] [0, 1, 4, 5, 6, 7, 8] rfl rfl (by decide) (by decide) hk1 hFc hP1 hD1
      clear hP hD hS hPc hDc hKc hFc hP1 hD1 hk1 hz1 ht hvm
      have hP : va_P (dC, dI) cls [(h_nn, .inl (cy_nn, 8000, .inr (.inl f_nn))), (h_tra, .inl (cy_tra, 256, .inl f_tra)), (h_na, .inl (cy_na, 8000, .inl f_na)), (h_nb, .inl (cy_nb, 8000, .inl f_nb)), (h_nc, .inl (cy_nc, 8000, .inl f_nc)), (h_bto, .inl (cy_bto, 256, .inl f_bto)), (h_bin, .inl (cy_bin, 256, .inl f_bin)), (h_mm, .inr (8, (mo129 vq123 (.ref h_nv)))), (h_nv, .inl (cy_nv, 8000, .inl f_nv))] H := hP9
      have hD : va_D A [(h_nn, .inl (cy_nn, 8000, .inr (.inl f_nn))), (h_tra, .inl (cy_tra, 256, .inl f_tra)), (h_na, .inl (cy_na, 8000, .inl f_na)), (h_nb, .inl (cy_nb, 8000, .inl f_nb)), (h_nc, .inl (cy_nc, 8000, .inl f_nc)), (h_bto, .inl (cy_bto, 256, .inl f_bto)), (h_bin, .inl (cy_bin, 256, .inl f_bin)), (h_mm, .inr (8, (mo129 vq123 (.ref h_nv)))), (h_nv, .inl (cy_nv, 8000, .inl f_nv))] := hD9
      have hS := hS9
      clear hP9 hD9 hS9
      rw [evq123] at hP hD
      replace hP : va_P (dC, dI) cls [(h_nn, .inl (cy_nn, 8000, .inr (.inl f_nn))), (h_tra, .inl (cy_tra, 256, .inl f_tra)), (h_na, .inl (cy_na, 8000, .inl f_na)), (h_nb, .inl (cy_nb, 8000, .inl f_nb)), (h_nc, .inl (cy_nc, 8000, .inl f_nc)), (h_bto, .inl (cy_bto, 256, .inl f_bto)), (h_bin, .inl (cy_bin, 256, .inl f_bin)), (h_mm, .inr (8, (mo136 v_mm (.ref h_nv) (.ref h_nn) (.ref h_na) (.ref h_nb) (.ref h_nc) (.ref h_bto) (.ref h_bin) (.ref h_tra) (.int x_mm_trailed) (.int z17) (.int z18)))), (h_nv, .inl (cy_nv, 8000, .inl f_nv))] H := hP
      replace hD : va_D A [(h_nn, .inl (cy_nn, 8000, .inr (.inl f_nn))), (h_tra, .inl (cy_tra, 256, .inl f_tra)), (h_na, .inl (cy_na, 8000, .inl f_na)), (h_nb, .inl (cy_nb, 8000, .inl f_nb)), (h_nc, .inl (cy_nc, 8000, .inl f_nc)), (h_bto, .inl (cy_bto, 256, .inl f_bto)), (h_bin, .inl (cy_bin, 256, .inl f_bin)), (h_mm, .inr (8, (mo136 v_mm (.ref h_nv) (.ref h_nn) (.ref h_na) (.ref h_nb) (.ref h_nc) (.ref h_bto) (.ref h_bin) (.ref h_tra) (.int x_mm_trailed) (.int z17) (.int z18)))), (h_nv, .inl (cy_nv, 8000, .inl f_nv))] := hD
      clear evq123 
      obtain ⟨k125, k126⟩ := hq
      replace k125 : -1 ≤ (r124).toInt ∧ (r124).toInt ≤ 255 := k125
      replace k126 : ((r124)).toInt = 8 * ((z18)).toInt + (f_nv ((z17)).toInt.toNat).toInt := k126
      refine lv_istore (lv' := [(9, .int r124), (8, .int z18), (7, .int z17), (6, .int z4), (5, .int z3), (0, .ref h_mm), (1, .int p1), (2, .int p2), (3, .int p3), (4, .int p4)]) hx hb dX11_unifies_130 hl (by decide) rfl (fun ls hl => ?_)
      have hvz31 : (f_nv (z17).toInt.toNat).toInt = (z31).toInt := by rw [ez31, (clamp_nat (i := z17) (by omega))]
      have gv9b := grv_v (i := z18) hn_grv (show 0 ≤ (z17).toInt ∧ (z17).toInt < 8000 by omega)
      have gc9b := grv_c (i := z18) hn_grv (show 0 ≤ (z17).toInt ∧ (z17).toInt < 8000 by omega) (by omega) (by omega)
      have sl9 : (r124).toInt.toNat = g.2.1 (PLR z17 z18) := by omega
      have hvz31 : (f_nv (z17).toInt.toNat).toInt = (z31).toInt := by rw [ez31, (clamp_nat (i := z17) (by omega))]
      have hb9 : (f_bto (r124).toInt.toNat).toInt = -1 := by have h9 := (k26).resolve_left (by omega); rwa [show (8 * (z18).toInt + (f_nv (z17).toInt.toNat).toInt).toNat = (r124).toInt.toNat by omega] at h9
      refine lv_aload_n hx hb dX11_unifies_132 rfl (lv_at hl 5 rfl) ?_
      refine lv_iload hx hb dX11_unifies_133 (lv_at hl 4 rfl) ?_
      refine lv_iload hx hb dX11_unifies_135 (lv_at hl 3 rfl) ?_
      refine lv_iload hx hb dX11_unifies_137 (lv_at hl 0 rfl) ?_
      obtain ⟨vq127, evq127⟩ := mq136_134 v_mm (.ref h_nn) (.ref h_tra) (.int x_mm_trailed)
      replace hP : va_P (dC, dI) cls [(h_nn, .inl (cy_nn, 8000, .inr (.inl f_nn))), (h_tra, .inl (cy_tra, 256, .inl f_tra)), (h_na, .inl (cy_na, 8000, .inl f_na)), (h_nb, .inl (cy_nb, 8000, .inl f_nb)), (h_nc, .inl (cy_nc, 8000, .inl f_nc)), (h_bto, .inl (cy_bto, 256, .inl f_bto)), (h_bin, .inl (cy_bin, 256, .inl f_bin)), (h_mm, .inr (8, (mo134 vq127 (.ref h_nv) (.ref h_na) (.ref h_nb) (.ref h_nc) (.ref h_bto) (.ref h_bin) (.int z17) (.int z18)))), (h_nv, .inl (cy_nv, 8000, .inl f_nv))] H := by rw [evq127]; exact hP
      replace hD : va_D A [(h_nn, .inl (cy_nn, 8000, .inr (.inl f_nn))), (h_tra, .inl (cy_tra, 256, .inl f_tra)), (h_na, .inl (cy_na, 8000, .inl f_na)), (h_nb, .inl (cy_nb, 8000, .inl f_nb)), (h_nc, .inl (cy_nc, 8000, .inl f_nc)), (h_bto, .inl (cy_bto, 256, .inl f_bto)), (h_bin, .inl (cy_bin, 256, .inl f_bin)), (h_mm, .inr (8, (mo134 vq127 (.ref h_nv) (.ref h_na) (.ref h_nb) (.ref h_nc) (.ref h_bto) (.ref h_bin) (.int z17) (.int z18)))), (h_nv, .inl (cy_nv, 8000, .inl f_nv))] := by rw [evq127]; exact hD
      have hPc := hP.sub (ws' := [(h_mm, .inr (8, (mo134 vq127 (.ref h_nv) (.ref h_na) (.ref h_nb) (.ref h_nc) (.ref h_bto) (.ref h_bin) (.int z17) (.int z18)))), (h_nv, .inl (cy_nv, 8000, .inl f_nv)), (h_na, .inl (cy_na, 8000, .inl f_na)), (h_nb, .inl (cy_nb, 8000, .inl f_nb)), (h_nc, .inl (cy_nc, 8000, .inl f_nc)), (h_bto, .inl (cy_bto, 256, .inl f_bto)), (h_bin, .inl (cy_bin, 256, .inl f_bin))]) [7, 8, 2, 3, 4, 5, 6] rfl
      have hDc := hD.sub (ws' := [(h_mm, .inr (8, (mo134 vq127 (.ref h_nv) (.ref h_na) (.ref h_nb) (.ref h_nc) (.ref h_bto) (.ref h_bin) (.int z17) (.int z18)))), (h_nv, .inl (cy_nv, 8000, .inl f_nv)), (h_na, .inl (cy_na, 8000, .inl f_na)), (h_nb, .inl (cy_nb, 8000, .inl f_nb)), (h_nc, .inl (cy_nc, 8000, .inl f_nc)), (h_bto, .inl (cy_bto, 256, .inl f_bto)), (h_bin, .inl (cy_bin, 256, .inl f_bin))]) [7, 8, 2, 3, 4, 5, 6] (by decide) rfl
      have hKc := hK.sub (tys' := [(cy_nv, .int), (cy_na, .int), (cy_nb, .int), (cy_nc, .int), (cy_bto, .int), (cy_bin, .int)]) [0, 1, 2, 3, 4, 5] rfl
      have hFc := va_free (wc := [(h_mm, .inr (8, (mo134 vq127 (.ref h_nv) (.ref h_na) (.ref h_nb) (.ref h_nc) (.ref h_bto) (.ref h_bin) (.int z17) (.int z18)))), (h_nv, .inl (cy_nv, 8000, .inl f_nv)), (h_na, .inl (cy_na, 8000, .inl f_na)), (h_nb, .inl (cy_nb, 8000, .inl f_nb)), (h_nc, .inl (cy_nc, 8000, .inl f_nc)), (h_bto, .inl (cy_bto, 256, .inl f_bto)), (h_bin, .inl (cy_bin, 256, .inl f_bin))]) hD hS hA [7, 8, 2, 3, 4, 5, 6] rfl
      refine va_calli (va_runV (As := [.int z3, .int z4, .int r124]) (rest := []) ⟨hx, hb, hml, hown, hts⟩ (c_X11_holds l (fu + 1) dC dI H.size h_mm h_nv h_na h_nb h_nc h_bto h_bin vq127 z17 z18 cy_nv f_nv cy_na f_na cy_nb f_nb cy_nc f_nc cy_bto f_bto cy_bin f_bin z3 z4 r124 i0 i1 N hz g z5 (by first | exact k20 | omega) (by first | exact k21 | omega) hf_nv hf_na hf_nb hf_nc hf_bto hf_bin (by first | exact q0 | omega) (by first | exact q1 | omega) (by first | exact k8 | omega) (by first | exact k9 | omega) (by omega) (by first | exact k10 | omega) (by omega) hn_bi k11 hn_grv) (cwV 3 hts (gv hT w_m_X11_276 w_instanceMethod_X11_holds ws_sel_X11_holds w_ini_X11 w_code_X11_holds) rfl rfl rfl (by decide +kernel) ⟨(by dsimp only [headSpec]; omega), (by dsimp only [headSpec]; omega)⟩) ⟨pre_blind, va_recv hK hP (ci := 8) (q0 := 7) rfl rfl, pre_of hPc hKc hDc hN⟩ rfl rfl hl.1 rfl (lv_room (Nat.le_of_ble_eq_true rfl)) dX11_unifies_139 ⟨(Nat.le_of_ble_eq_true rfl), (Nat.le_of_ble_eq_true rfl)⟩) hS (fun q _ h => hFc q h) hFc (fun r128 u t H locs ht hvm hq hB hz1 hk1 hS9 => ?_)
      obtain ⟨z129, z130⟩ := u
      obtain ⟨hP1, hD1⟩ := hB
      rw [ht] at hP1
      obtain ⟨hP9, hD9⟩ := va_join (wr := [(h_nn, .inl (cy_nn, 8000, .inr (.inl f_nn))), (h_tra, .inl (cy_tra, 256, .inl f_tra))]) (w1 := [(h_mm, .inr (8, (mo134 vq127 (.ref h_nv) (.ref h_na) (.ref h_nb) (.ref h_nc) (.ref h_bto) (.ref h_bin) (.int z129) (.int z130)))), (h_nv, .inl (cy_nv, 8000, .inl f_nv)), (h_na, .inl (cy_na, 8000, .inl f_na)), (h_nb, .inl (cy_nb, 8000, .inl f_nb)), (h_nc, .inl (cy_nc, 8000, .inl f_nc)), (h_bto, .inl (cy_bto, 256, .inl f_bto)), (h_bin, .inl (cy_bin, 256, .inl f_bin))]) hP hD [7, 8, 2, 3, 4, 5, 6] [0, 1] rfl rfl (by decide) (by decide) hk1 hFc hP1 hD1
      clear hP hD hS hPc hDc hKc hFc hP1 hD1 hk1 hz1 ht hvm
      have hP : va_P (dC, dI) cls [(h_nn, .inl (cy_nn, 8000, .inr (.inl f_nn))), (h_tra, .inl (cy_tra, 256, .inl f_tra)), (h_mm, .inr (8, (mo134 vq127 (.ref h_nv) (.ref h_na) (.ref h_nb) (.ref h_nc) (.ref h_bto) (.ref h_bin) (.int z129) (.int z130)))), (h_nv, .inl (cy_nv, 8000, .inl f_nv)), (h_na, .inl (cy_na, 8000, .inl f_na)), (h_nb, .inl (cy_nb, 8000, .inl f_nb)), (h_nc, .inl (cy_nc, 8000, .inl f_nc)), (h_bto, .inl (cy_bto, 256, .inl f_bto)), (h_bin, .inl (cy_bin, 256, .inl f_bin))] H := hP9
      have hD : va_D A [(h_nn, .inl (cy_nn, 8000, .inr (.inl f_nn))), (h_tra, .inl (cy_tra, 256, .inl f_tra)), (h_mm, .inr (8, (mo134 vq127 (.ref h_nv) (.ref h_na) (.ref h_nb) (.ref h_nc) (.ref h_bto) (.ref h_bin) (.int z129) (.int z130)))), (h_nv, .inl (cy_nv, 8000, .inl f_nv)), (h_na, .inl (cy_na, 8000, .inl f_na)), (h_nb, .inl (cy_nb, 8000, .inl f_nb)), (h_nc, .inl (cy_nc, 8000, .inl f_nc)), (h_bto, .inl (cy_bto, 256, .inl f_bto)), (h_bin, .inl (cy_bin, 256, .inl f_bin))] := hD9
      have hS := hS9
      clear hP9 hD9 hS9
      rw [evq127] at hP hD
      replace hP : va_P (dC, dI) cls [(h_nn, .inl (cy_nn, 8000, .inr (.inl f_nn))), (h_tra, .inl (cy_tra, 256, .inl f_tra)), (h_mm, .inr (8, (mo136 v_mm (.ref h_nv) (.ref h_nn) (.ref h_na) (.ref h_nb) (.ref h_nc) (.ref h_bto) (.ref h_bin) (.ref h_tra) (.int x_mm_trailed) (.int z129) (.int z130)))), (h_nv, .inl (cy_nv, 8000, .inl f_nv)), (h_na, .inl (cy_na, 8000, .inl f_na)), (h_nb, .inl (cy_nb, 8000, .inl f_nb)), (h_nc, .inl (cy_nc, 8000, .inl f_nc)), (h_bto, .inl (cy_bto, 256, .inl f_bto)), (h_bin, .inl (cy_bin, 256, .inl f_bin))] H := hP
      replace hD : va_D A [(h_nn, .inl (cy_nn, 8000, .inr (.inl f_nn))), (h_tra, .inl (cy_tra, 256, .inl f_tra)), (h_mm, .inr (8, (mo136 v_mm (.ref h_nv) (.ref h_nn) (.ref h_na) (.ref h_nb) (.ref h_nc) (.ref h_bto) (.ref h_bin) (.ref h_tra) (.int x_mm_trailed) (.int z129) (.int z130)))), (h_nv, .inl (cy_nv, 8000, .inl f_nv)), (h_na, .inl (cy_na, 8000, .inl f_na)), (h_nb, .inl (cy_nb, 8000, .inl f_nb)), (h_nc, .inl (cy_nc, 8000, .inl f_nc)), (h_bto, .inl (cy_bto, 256, .inl f_bto)), (h_bin, .inl (cy_bin, 256, .inl f_bin))] := hD
      clear evq127 
      obtain ⟨k131, k132, k133, k134, k135⟩ := hq
      replace k131 : 0 ≤ ((z129)).toInt ∧ ((z129)).toInt ≤ 7999 := k131
      replace k132 : 0 ≤ ((z130)).toInt ∧ ((z130)).toInt ≤ 31 := k132
      replace k133 : 0 ≤ (r128).toInt ∧ (r128).toInt ≤ 1 := k133
      replace k134 : ((r128)).toInt = 1 ∨ NR f_nv f_na f_nb f_nc f_bto f_bin ((z3)).toInt.toNat ((z4)).toInt ((r124)).toInt.toNat := k134
      replace k135 : (((r128)).toInt = 1 ∧ OCC (g) (BDW f_bto f_bin) (PLR (z3) (z4)) ((r124)).toInt.toNat) ∨ (((r128)).toInt = 0 ∧ ¬ OCC (g) (BDW f_bto f_bin) (PLR (z3) (z4)) ((r124)).toInt.toNat) := k135
      refine lv_if_eq (tgt := 147) hx hb dX11_unifies_142 (by decide) (fun c136 => ?_) (fun c136 => ?_)
      · have kc136 := (cv_eq (rfl : (r128).toInt = (r128).toInt) (by decide : (0 : Int32).toInt = 0)).mp c136
        have oc9 := (k135.resolve_left (fun q9 => absurd q9.1 (by omega))).2
        rw [sl9] at oc9
        have tr9 := trl_room (s := (r124).toInt.toNat) hn_trl hf_tra (by omega) (by omega) hb9
        refine lv_aload_n hx hb dX11_unifies_147 rfl (lv_at hl 5 rfl) ?_
        refine lv_iload hx hb dX11_unifies_148 (lv_at hl 0 rfl) ?_
        refine lv_iload hx hb dX11_unifies_150 (lv_at hl 4 rfl) ?_
        refine lv_iload hx hb dX11_unifies_152 (lv_at hl 3 rfl) ?_
        obtain ⟨vq137, evq137⟩ := mq136_135 v_mm (.ref h_nv) (.ref h_nn) (.ref h_na) (.ref h_nb) (.ref h_nc) (.int z129) (.int z130)
        replace hP : va_P (dC, dI) cls [(h_nn, .inl (cy_nn, 8000, .inr (.inl f_nn))), (h_tra, .inl (cy_tra, 256, .inl f_tra)), (h_mm, .inr (8, (mo135 vq137 (.ref h_bto) (.ref h_bin) (.ref h_tra) (.int x_mm_trailed)))), (h_nv, .inl (cy_nv, 8000, .inl f_nv)), (h_na, .inl (cy_na, 8000, .inl f_na)), (h_nb, .inl (cy_nb, 8000, .inl f_nb)), (h_nc, .inl (cy_nc, 8000, .inl f_nc)), (h_bto, .inl (cy_bto, 256, .inl f_bto)), (h_bin, .inl (cy_bin, 256, .inl f_bin))] H := by rw [evq137]; exact hP
        replace hD : va_D A [(h_nn, .inl (cy_nn, 8000, .inr (.inl f_nn))), (h_tra, .inl (cy_tra, 256, .inl f_tra)), (h_mm, .inr (8, (mo135 vq137 (.ref h_bto) (.ref h_bin) (.ref h_tra) (.int x_mm_trailed)))), (h_nv, .inl (cy_nv, 8000, .inl f_nv)), (h_na, .inl (cy_na, 8000, .inl f_na)), (h_nb, .inl (cy_nb, 8000, .inl f_nb)), (h_nc, .inl (cy_nc, 8000, .inl f_nc)), (h_bto, .inl (cy_bto, 256, .inl f_bto)), (h_bin, .inl (cy_bin, 256, .inl f_bin))] := by rw [evq137]; exact hD
        have hPc := hP.sub (ws' := [(h_mm, .inr (8, (mo135 vq137 (.ref h_bto) (.ref h_bin) (.ref h_tra) (.int x_mm_trailed)))), (h_bto, .inl (cy_bto, 256, .inl f_bto)), (h_bin, .inl (cy_bin, 256, .inl f_bin)), (h_tra, .inl (cy_tra, 256, .inl f_tra))]) [2, 7, 8, 1] rfl
        have hDc := hD.sub (ws' := [(h_mm, .inr (8, (mo135 vq137 (.ref h_bto) (.ref h_bin) (.ref h_tra) (.int x_mm_trailed)))), (h_bto, .inl (cy_bto, 256, .inl f_bto)), (h_bin, .inl (cy_bin, 256, .inl f_bin)), (h_tra, .inl (cy_tra, 256, .inl f_tra))]) [2, 7, 8, 1] (by decide) rfl
        have hKc := hK.sub (tys' := [(cy_bto, .int), (cy_bin, .int), (cy_tra, .int)]) [4, 5, 7] rfl
        have hFc := va_free (wc := [(h_mm, .inr (8, (mo135 vq137 (.ref h_bto) (.ref h_bin) (.ref h_tra) (.int x_mm_trailed)))), (h_bto, .inl (cy_bto, 256, .inl f_bto)), (h_bin, .inl (cy_bin, 256, .inl f_bin)), (h_tra, .inl (cy_tra, 256, .inl f_tra))]) hD hS hA [2, 7, 8, 1] rfl
        refine va_callv (va_runV (As := [.int r124, .int z3, .int z4]) (rest := []) ⟨hx, hb, hml, hown, hts⟩ (c_X11_binds l dC dI H.size h_mm h_bto h_bin h_tra vq137 x_mm_trailed cy_bto f_bto cy_bin f_bin cy_tra f_tra r124 z3 z4 (by first | exact hx_mm_trailed | omega) hf_bto hf_bin hf_tra (by omega) (by first | exact k6 | omega) (by first | exact k7 | omega) (by omega)) (cwV 3 hts (gv hT w_m_X11_280 w_instanceMethod_X11_binds ws_sel_X11_binds w_ini_X11 w_code_X11_binds) rfl rfl rfl (by decide +kernel) ⟨(by dsimp only [headSpec]; omega), (by dsimp only [headSpec]; omega)⟩) ⟨pre_blind, va_recv hK hP (ci := 8) (q0 := 2) rfl rfl, pre_of hPc hKc hDc hN⟩ rfl rfl hl.1 rfl (lv_room (Nat.le_of_ble_eq_true rfl)) dX11_unifies_154 ⟨(Nat.le_of_ble_eq_true rfl), (Nat.le_of_ble_eq_true rfl)⟩) hS (fun q _ h => hFc q h) hFc (fun u t H locs ht hvm hq hB hz1 hk1 hS9 => ?_)
        obtain ⟨z139, f140, f141, f142⟩ := u
        obtain ⟨hP1, hD1⟩ := hB
        rw [ht] at hP1
        obtain ⟨hP9, hD9⟩ := va_join (wr := [(h_nn, .inl (cy_nn, 8000, .inr (.inl f_nn))), (h_nv, .inl (cy_nv, 8000, .inl f_nv)), (h_na, .inl (cy_na, 8000, .inl f_na)), (h_nb, .inl (cy_nb, 8000, .inl f_nb)), (h_nc, .inl (cy_nc, 8000, .inl f_nc))]) (w1 := [(h_mm, .inr (8, (mo135 vq137 (.ref h_bto) (.ref h_bin) (.ref h_tra) (.int z139)))), (h_bto, .inl (cy_bto, 256, .inl f140)), (h_bin, .inl (cy_bin, 256, .inl f141)), (h_tra, .inl (cy_tra, 256, .inl f142))]) hP hD [2, 7, 8, 1] [0, 3, 4, 5, 6] rfl rfl (by decide) (by decide) hk1 hFc hP1 hD1
        clear hP hD hS hPc hDc hKc hFc hP1 hD1 hk1 hz1 ht hvm
        have hP : va_P (dC, dI) cls [(h_nn, .inl (cy_nn, 8000, .inr (.inl f_nn))), (h_nv, .inl (cy_nv, 8000, .inl f_nv)), (h_na, .inl (cy_na, 8000, .inl f_na)), (h_nb, .inl (cy_nb, 8000, .inl f_nb)), (h_nc, .inl (cy_nc, 8000, .inl f_nc)), (h_mm, .inr (8, (mo135 vq137 (.ref h_bto) (.ref h_bin) (.ref h_tra) (.int z139)))), (h_bto, .inl (cy_bto, 256, .inl f140)), (h_bin, .inl (cy_bin, 256, .inl f141)), (h_tra, .inl (cy_tra, 256, .inl f142))] H := hP9
        have hD : va_D A [(h_nn, .inl (cy_nn, 8000, .inr (.inl f_nn))), (h_nv, .inl (cy_nv, 8000, .inl f_nv)), (h_na, .inl (cy_na, 8000, .inl f_na)), (h_nb, .inl (cy_nb, 8000, .inl f_nb)), (h_nc, .inl (cy_nc, 8000, .inl f_nc)), (h_mm, .inr (8, (mo135 vq137 (.ref h_bto) (.ref h_bin) (.ref h_tra) (.int z139)))), (h_bto, .inl (cy_bto, 256, .inl f140)), (h_bin, .inl (cy_bin, 256, .inl f141)), (h_tra, .inl (cy_tra, 256, .inl f142))] := hD9
        have hS := hS9
        clear hP9 hD9 hS9
        rw [evq137] at hP hD
        replace hP : va_P (dC, dI) cls [(h_nn, .inl (cy_nn, 8000, .inr (.inl f_nn))), (h_nv, .inl (cy_nv, 8000, .inl f_nv)), (h_na, .inl (cy_na, 8000, .inl f_na)), (h_nb, .inl (cy_nb, 8000, .inl f_nb)), (h_nc, .inl (cy_nc, 8000, .inl f_nc)), (h_mm, .inr (8, (mo136 v_mm (.ref h_nv) (.ref h_nn) (.ref h_na) (.ref h_nb) (.ref h_nc) (.ref h_bto) (.ref h_bin) (.ref h_tra) (.int z139) (.int z129) (.int z130)))), (h_bto, .inl (cy_bto, 256, .inl f140)), (h_bin, .inl (cy_bin, 256, .inl f141)), (h_tra, .inl (cy_tra, 256, .inl f142))] H := hP
        replace hD : va_D A [(h_nn, .inl (cy_nn, 8000, .inr (.inl f_nn))), (h_nv, .inl (cy_nv, 8000, .inl f_nv)), (h_na, .inl (cy_na, 8000, .inl f_na)), (h_nb, .inl (cy_nb, 8000, .inl f_nb)), (h_nc, .inl (cy_nc, 8000, .inl f_nc)), (h_mm, .inr (8, (mo136 v_mm (.ref h_nv) (.ref h_nn) (.ref h_na) (.ref h_nb) (.ref h_nc) (.ref h_bto) (.ref h_bin) (.ref h_tra) (.int z139) (.int z129) (.int z130)))), (h_bto, .inl (cy_bto, 256, .inl f140)), (h_bin, .inl (cy_bin, 256, .inl f141)), (h_tra, .inl (cy_tra, 256, .inl f142))] := hD
        clear evq137 
        obtain ⟨k143, hf140, hf141, hf142, k144, k145⟩ := hq
        replace k143 : 0 ≤ ((z139)).toInt ∧ ((z139)).toInt ≤ 256 := k143
        replace hf140 : Rg (-1) 7999 (f140) := hf140
        replace hf141 : Rg 0 31 (f141) := hf141
        replace hf142 : Rg 0 255 (f142) := hf142
        replace k144 : ((z139)).toInt = ((x_mm_trailed)).toInt + 1 := k144
        replace k145 : (f140) = upd f_bto (Int32.toNatClampNeg (r124)) (z3) ∧ (f141) = upd f_bin (Int32.toNatClampNeg (r124)) (z4) ∧ (f142) = upd f_tra (Int32.toNatClampNeg (x_mm_trailed)) (r124) := k145
        obtain ⟨eb9, ei9, et9⟩ := k145
        have cs9 := clamp_nat (i := r124) (by omega)
        have bi9 : BI i0 i1 N hz f_nv f_na f_nb f_nc f140 f141 := by rw [eb9, ei9, cs9]; exact bi_bind hn_bi hf_nv hb9 ((k134).resolve_left (by omega)) (by omega) (by omega) (by omega)
        have tl9 : TRL ((x_mm_trailed).toInt + 1) f142 f140 := by rw [et9, eb9]; exact trl_bind hn_trl rfl (by omega) (by omega) (by rw [cs9]; exact hb9) (by omega)
        have gr9 : GRW (x_mm_trailed).toInt ((x_mm_trailed).toInt + 1) f_bto f_bin f_tra f140 f141 f142 := by rw [et9, eb9, ei9]; exact gr_bind rfl (by omega) (by omega) (by rw [cs9]; exact hb9)
        have bw9 : BDW f140 f141 = bst (BDW f_bto f_bin) (g.2.1 (PLR z17 z18)) (PLR z3 z4) := by rw [← sl9, ← cs9]; exact bdw_upd eb9 ei9 (by omega) (by omega)
        refine lv_iconst (v := 1) hx hb dX11_unifies_157 (by decide) ?_
        replace hP : va_P (dC, dI) cls [(h_mm, .inr (8, (mo136 v_mm (.ref h_nv) (.ref h_nn) (.ref h_na) (.ref h_nb) (.ref h_nc) (.ref h_bto) (.ref h_bin) (.ref h_tra) (.int z139) (.int z129) (.int z130)))), (h_nv, .inl (cy_nv, 8000, .inl f_nv)), (h_na, .inl (cy_na, 8000, .inl f_na)), (h_nb, .inl (cy_nb, 8000, .inl f_nb)), (h_nc, .inl (cy_nc, 8000, .inl f_nc)), (h_bto, .inl (cy_bto, 256, .inl f140)), (h_bin, .inl (cy_bin, 256, .inl f141)), (h_nn, .inl (cy_nn, 8000, .inr (.inl f_nn))), (h_tra, .inl (cy_tra, 256, .inl f142))] H := hP.sub [5, 1, 2, 3, 4, 6, 7, 0, 8] rfl
        replace hD : va_D A [(h_mm, .inr (8, (mo136 v_mm (.ref h_nv) (.ref h_nn) (.ref h_na) (.ref h_nb) (.ref h_nc) (.ref h_bto) (.ref h_bin) (.ref h_tra) (.int z139) (.int z129) (.int z130)))), (h_nv, .inl (cy_nv, 8000, .inl f_nv)), (h_na, .inl (cy_na, 8000, .inl f_na)), (h_nb, .inl (cy_nb, 8000, .inl f_nb)), (h_nc, .inl (cy_nc, 8000, .inl f_nc)), (h_bto, .inl (cy_bto, 256, .inl f140)), (h_bin, .inl (cy_bin, 256, .inl f141)), (h_nn, .inl (cy_nn, 8000, .inr (.inl f_nn))), (h_tra, .inl (cy_tra, 256, .inl f142))] := hD.sub [5, 1, 2, 3, 4, 6, 7, 0, 8] (by decide) rfl
        refine W.widen (k := 0) (n := 0) (Nat.le_of_ble_eq_true rfl) (Nat.le_of_ble_eq_true rfl) ?_
        have cst1 : (1 : Int32).toInt = 1 := by decide
        have w146 : 0 ≤ ((z139)).toInt ∧ ((z139)).toInt ≤ 256 := by first | exact k143 | omega
        have w147 : 0 ≤ ((z129)).toInt ∧ ((z129)).toInt ≤ 7999 := by first | exact k131 | omega
        have w148 : 0 ≤ ((z130)).toInt ∧ ((z130)).toInt ≤ 31 := by first | exact k132 | omega
        have w149 : 0 ≤ (1 : Int32).toInt ∧ (1 : Int32).toInt ≤ 1 := by omega
        have w150 : BI i0 i1 N hz f_nv f_na f_nb f_nc (f140) (f141) := bi9
        have w151 : TRL ((z139)).toInt (f142) (f140) := (trl_cast tl9 (by omega))
        have w152 : GRW (x_mm_trailed).toInt ((z139)).toInt f_bto f_bin f_tra (f140) (f141) (f142) := (gr_cast gr9 (by omega) (by omega))
        have w153 : GHI f_bto f_bin (f140) (f141) := (ghi_bind eb9 ei9 (by omega))
        have w154 : UNX g (BDW f_bto f_bin) (BDW (f140) (f141)) (PLR p1 p2) (PLR p3 p4) ((1 : Int32)).toInt := (unx_bind2 k14 k28 (by rw [gv9a]; omega) (by rw [gv9b]; omega) oc9 bw9 (by decide))
        exact W.zret (v := 1) (ty := .boolean) hx hb hr (by decide) (fun t ht hW => ⟨⟨1, (z139, z129, z130, f140, f141, f142), rfl, ⟨w146, w147, w148, hf140, hf141, hf142, w149, w150, w151, w152, w153, w154⟩, by rw [ht]; exact hP, hD⟩, hS.F ht⟩) hS.2.2 dX11_unifies_158
      · have kc136 := (not_congr (cv_eq (rfl : (r128).toInt = (r128).toInt) (by decide : (0 : Int32).toInt = 0))).mp c136
        have oc9 := (k135.resolve_right (fun q9 => absurd q9.1 (by omega))).2
        rw [sl9] at oc9
        refine lv_iconst (v := 0) hx hb dX11_unifies_145 (by decide) ?_
        replace hP : va_P (dC, dI) cls [(h_mm, .inr (8, (mo136 v_mm (.ref h_nv) (.ref h_nn) (.ref h_na) (.ref h_nb) (.ref h_nc) (.ref h_bto) (.ref h_bin) (.ref h_tra) (.int x_mm_trailed) (.int z129) (.int z130)))), (h_nv, .inl (cy_nv, 8000, .inl f_nv)), (h_na, .inl (cy_na, 8000, .inl f_na)), (h_nb, .inl (cy_nb, 8000, .inl f_nb)), (h_nc, .inl (cy_nc, 8000, .inl f_nc)), (h_bto, .inl (cy_bto, 256, .inl f_bto)), (h_bin, .inl (cy_bin, 256, .inl f_bin)), (h_nn, .inl (cy_nn, 8000, .inr (.inl f_nn))), (h_tra, .inl (cy_tra, 256, .inl f_tra))] H := hP.sub [2, 3, 4, 5, 6, 7, 8, 0, 1] rfl
        replace hD : va_D A [(h_mm, .inr (8, (mo136 v_mm (.ref h_nv) (.ref h_nn) (.ref h_na) (.ref h_nb) (.ref h_nc) (.ref h_bto) (.ref h_bin) (.ref h_tra) (.int x_mm_trailed) (.int z129) (.int z130)))), (h_nv, .inl (cy_nv, 8000, .inl f_nv)), (h_na, .inl (cy_na, 8000, .inl f_na)), (h_nb, .inl (cy_nb, 8000, .inl f_nb)), (h_nc, .inl (cy_nc, 8000, .inl f_nc)), (h_bto, .inl (cy_bto, 256, .inl f_bto)), (h_bin, .inl (cy_bin, 256, .inl f_bin)), (h_nn, .inl (cy_nn, 8000, .inr (.inl f_nn))), (h_tra, .inl (cy_tra, 256, .inl f_tra))] := hD.sub [2, 3, 4, 5, 6, 7, 8, 0, 1] (by decide) rfl
        refine W.widen (k := 0) (n := 0) (Nat.le_of_ble_eq_true rfl) (Nat.le_of_ble_eq_true rfl) ?_
        have cst0 : (0 : Int32).toInt = 0 := by decide
        have w155 : 0 ≤ ((x_mm_trailed)).toInt ∧ ((x_mm_trailed)).toInt ≤ 256 := by first | exact hx_mm_trailed | omega
        have w156 : 0 ≤ ((z129)).toInt ∧ ((z129)).toInt ≤ 7999 := by first | exact k131 | omega
        have w157 : 0 ≤ ((z130)).toInt ∧ ((z130)).toInt ≤ 31 := by first | exact k132 | omega
        have w158 : 0 ≤ (0 : Int32).toInt ∧ (0 : Int32).toInt ≤ 1 := by omega
        have w159 : BI i0 i1 N hz f_nv f_na f_nb f_nc (f_bto) (f_bin) := hn_bi
        have w160 : TRL ((x_mm_trailed)).toInt (f_tra) (f_bto) := (trl_cast hn_trl (by omega))
        have w161 : GRW (x_mm_trailed).toInt ((x_mm_trailed)).toInt f_bto f_bin f_tra (f_bto) (f_bin) (f_tra) := (gr_cast gr0 (by omega) (by omega))
        have w162 : GHI f_bto f_bin (f_bto) (f_bin) := ghi_rf
        have w163 : UNX g (BDW f_bto f_bin) (BDW (f_bto) (f_bin)) (PLR p1 p2) (PLR p3 p4) ((0 : Int32)).toInt := (unx_occ2 k14 k28 (by rw [gv9a]; omega) (by rw [gv9b]; omega) oc9 (by decide))
        exact W.zret (v := 0) (ty := .boolean) hx hb hr (by decide) (fun t ht hW => ⟨⟨0, (x_mm_trailed, z129, z130, f_bto, f_bin, f_tra), rfl, ⟨w155, w156, w157, hf_bto, hf_bin, hf_tra, w158, w159, w160, w161, w162, w163⟩, by rw [ht]; exact hP, hD⟩, hS.F ht⟩) hS.2.2 dX11_unifies_146
  · have kc30 := (not_congr (cv_eq (rfl : (z29).toInt = (z29).toInt) (by decide : ((-1) : Int32).toInt = -1))).mp c30
    have hvz29 : (f_nv (z3).toInt.toNat).toInt = (z29).toInt := by rw [ez29, (clamp_nat (i := z3) (by omega))]
    have gv9a := grv_v (i := z4) hn_grv (show 0 ≤ (z3).toInt ∧ (z3).toInt < 8000 by omega)
    have gc9a := grv_c (i := z4) hn_grv (show 0 ≤ (z3).toInt ∧ (z3).toInt < 8000 by omega) (by omega) (by omega)
    refine lv_aload_n hx hb dX11_unifies_48 rfl (lv_at hl 4 rfl) ?_
    refine lv_iload hx hb dX11_unifies_49 (lv_at hl 3 rfl) ?_
    refine lv_iload hx hb dX11_unifies_51 (lv_at hl 2 rfl) ?_
    obtain ⟨vq164, evq164⟩ := mq136_129 v_mm (.ref h_nn) (.ref h_na) (.ref h_nb) (.ref h_nc) (.ref h_bto) (.ref h_bin) (.ref h_tra) (.int x_mm_trailed) (.int z17) (.int z18)
    replace hP : va_P (dC, dI) cls [(h_nn, .inl (cy_nn, 8000, .inr (.inl f_nn))), (h_tra, .inl (cy_tra, 256, .inl f_tra)), (h_mm, .inr (8, (mo129 vq164 (.ref h_nv)))), (h_nv, .inl (cy_nv, 8000, .inl f_nv)), (h_na, .inl (cy_na, 8000, .inl f_na)), (h_nb, .inl (cy_nb, 8000, .inl f_nb)), (h_nc, .inl (cy_nc, 8000, .inl f_nc)), (h_bto, .inl (cy_bto, 256, .inl f_bto)), (h_bin, .inl (cy_bin, 256, .inl f_bin))] H := by rw [evq164]; exact hP
    replace hD : va_D A [(h_nn, .inl (cy_nn, 8000, .inr (.inl f_nn))), (h_tra, .inl (cy_tra, 256, .inl f_tra)), (h_mm, .inr (8, (mo129 vq164 (.ref h_nv)))), (h_nv, .inl (cy_nv, 8000, .inl f_nv)), (h_na, .inl (cy_na, 8000, .inl f_na)), (h_nb, .inl (cy_nb, 8000, .inl f_nb)), (h_nc, .inl (cy_nc, 8000, .inl f_nc)), (h_bto, .inl (cy_bto, 256, .inl f_bto)), (h_bin, .inl (cy_bin, 256, .inl f_bin))] := by rw [evq164]; exact hD
    have hPc := hP.sub (ws' := [(h_mm, .inr (8, (mo129 vq164 (.ref h_nv)))), (h_nv, .inl (cy_nv, 8000, .inl f_nv))]) [2, 3] rfl
    have hDc := hD.sub (ws' := [(h_mm, .inr (8, (mo129 vq164 (.ref h_nv)))), (h_nv, .inl (cy_nv, 8000, .inl f_nv))]) [2, 3] (by decide) rfl
    have hKc := hK.sub (tys' := [(cy_nv, .int)]) [0] rfl
    have hFc := va_free (wc := [(h_mm, .inr (8, (mo129 vq164 (.ref h_nv)))), (h_nv, .inl (cy_nv, 8000, .inl f_nv))]) hD hS hA [2, 3] rfl
    refine va_calli (va_runV (As := [.int z3, .int z4]) (rest := []) ⟨hx, hb, hml, hown, hts⟩ (c_X11_slotOf l dC dI H.size h_mm h_nv vq164 cy_nv f_nv z3 z4 hf_nv (by first | exact k6 | omega) (by first | exact k7 | omega)) (cwV 2 hts (gv hT w_m_X11_270 w_instanceMethod_X11_slotOf ws_sel_X11_slotOf w_ini_X11 w_code_X11_slotOf) rfl rfl rfl (by decide +kernel) ⟨(by dsimp only [headSpec]; omega), (by dsimp only [headSpec]; omega)⟩) ⟨pre_blind, va_recv hK hP (ci := 8) (q0 := 2) rfl rfl, pre_of hPc hKc hDc hN⟩ rfl rfl hl.1 rfl (lv_room (Nat.le_of_ble_eq_true rfl)) dX11_unifies_53 ⟨(Nat.le_of_ble_eq_true rfl), (Nat.le_of_ble_eq_true rfl)⟩) hS (fun q _ h => hFc q h) hFc (fun r165 u t H locs ht hvm hq hB hz1 hk1 hS9 => ?_)
    obtain ⟨hP1, hD1⟩ := hB
    rw [ht] at hP1
    obtain ⟨hP9, hD9⟩ := va_join (wr := [(h_nn, .inl (cy_nn, 8000, .inr (.inl f_nn))), (h_tra, .inl (cy_tra, 256, .inl f_tra)), (h_na, .inl (cy_na, 8000, .inl f_na)), (h_nb, .inl (cy_nb, 8000, .inl f_nb)), (h_nc, .inl (cy_nc, 8000, .inl f_nc)), (h_bto, .inl (cy_bto, 256, .inl f_bto)), (h_bin, .inl (cy_bin, 256, .inl f_bin))]) (w1 := [(h_mm, .inr (8, (mo129 vq164 (.ref h_nv)))), (h_nv, .inl (cy_nv, 8000, .inl f_nv))]) hP hD [2, 3] [0, 1, 4, 5, 6, 7, 8] rfl rfl (by decide) (by decide) hk1 hFc hP1 hD1
    clear hP hD hS hPc hDc hKc hFc hP1 hD1 hk1 hz1 ht hvm
    have hP : va_P (dC, dI) cls [(h_nn, .inl (cy_nn, 8000, .inr (.inl f_nn))), (h_tra, .inl (cy_tra, 256, .inl f_tra)), (h_na, .inl (cy_na, 8000, .inl f_na)), (h_nb, .inl (cy_nb, 8000, .inl f_nb)), (h_nc, .inl (cy_nc, 8000, .inl f_nc)), (h_bto, .inl (cy_bto, 256, .inl f_bto)), (h_bin, .inl (cy_bin, 256, .inl f_bin)), (h_mm, .inr (8, (mo129 vq164 (.ref h_nv)))), (h_nv, .inl (cy_nv, 8000, .inl f_nv))] H := hP9
    have hD : va_D A [(h_nn, .inl (cy_nn, 8000, .inr (.inl f_nn))), (h_tra, .inl (cy_tra, 256, .inl f_tra)), (h_na, .inl (cy_na, 8000, .inl f_na)), (h_nb, .inl (cy_nb, 8000, .inl f_nb)), (h_nc, .inl (cy_nc, 8000, .inl f_nc)), (h_bto, .inl (cy_bto, 256, .inl f_bto)), (h_bin, .inl (cy_bin, 256, .inl f_bin)), (h_mm, .inr (8, (mo129 vq164 (.ref h_nv)))), (h_nv, .inl (cy_nv, 8000, .inl f_nv))] := hD9
    have hS := hS9
    clear hP9 hD9 hS9
    rw [evq164] at hP hD
    replace hP : va_P (dC, dI) cls [(h_nn, .inl (cy_nn, 8000, .inr (.inl f_nn))), (h_tra, .inl (cy_tra, 256, .inl f_tra)), (h_na, .inl (cy_na, 8000, .inl f_na)), (h_nb, .inl (cy_nb, 8000, .inl f_nb)), (h_nc, .inl (cy_nc, 8000, .inl f_nc)), (h_bto, .inl (cy_bto, 256, .inl f_bto)), (h_bin, .inl (cy_bin, 256, .inl f_bin)), (h_mm, .inr (8, (mo136 v_mm (.ref h_nv) (.ref h_nn) (.ref h_na) (.ref h_nb) (.ref h_nc) (.ref h_bto) (.ref h_bin) (.ref h_tra) (.int x_mm_trailed) (.int z17) (.int z18)))), (h_nv, .inl (cy_nv, 8000, .inl f_nv))] H := hP
    replace hD : va_D A [(h_nn, .inl (cy_nn, 8000, .inr (.inl f_nn))), (h_tra, .inl (cy_tra, 256, .inl f_tra)), (h_na, .inl (cy_na, 8000, .inl f_na)), (h_nb, .inl (cy_nb, 8000, .inl f_nb)), (h_nc, .inl (cy_nc, 8000, .inl f_nc)), (h_bto, .inl (cy_bto, 256, .inl f_bto)), (h_bin, .inl (cy_bin, 256, .inl f_bin)), (h_mm, .inr (8, (mo136 v_mm (.ref h_nv) (.ref h_nn) (.ref h_na) (.ref h_nb) (.ref h_nc) (.ref h_bto) (.ref h_bin) (.ref h_tra) (.int x_mm_trailed) (.int z17) (.int z18)))), (h_nv, .inl (cy_nv, 8000, .inl f_nv))] := hD
    clear evq164 
    obtain ⟨k166, k167⟩ := hq
    replace k166 : -1 ≤ (r165).toInt ∧ (r165).toInt ≤ 255 := k166
    replace k167 : ((r165)).toInt = 8 * ((z4)).toInt + (f_nv ((z3)).toInt.toNat).toInt := k167
    refine lv_istore (lv' := [(9, .int r165), (8, .int z18), (7, .int z17), (6, .int z4), (5, .int z3), (0, .ref h_mm), (1, .int p1), (2, .int p2), (3, .int p3), (4, .int p4)]) hx hb dX11_unifies_56 hl (by decide) rfl (fun ls hl => ?_)
    refine lv_aload_n hx hb dX11_unifies_58 rfl (lv_at hl 5 rfl) ?_
    refine va_get (D := (dC, dI)) (ci := 8) (v := .ref h_nv) (C := RX11) (T := TX11) (N := 71) hx hb hw iwX11 hown hK hP 7 rfl rfl 1 (by decide) (hw _ w_f_X11_17) (fun _ h9 => h9) rfl dX11_unifies_59 ?_
    refine lv_iload hx hb dX11_unifies_62 (lv_at hl 2 rfl) ?_
    refine va_iald hx hb hK hP 8 0 rfl rfl (i := z17) (vp_in_iff.mpr (by omega)) dX11_unifies_64 ?_
    refine lv_topi (fun z168 ez168 => ?_)
    have rz168 : -1 ≤ (z168).toInt ∧ (z168).toInt ≤ 7 := by rw [ez168]; exact hf_nv _
    refine lv_iconst (v := (-1)) hx hb dX11_unifies_65 (by decide) ?_
    refine lv_icmp_eq (tgt := 84) hx hb dX11_unifies_66 (by decide) (fun c169 => ?_) (fun c169 => ?_)
    · have kc169 := (cv_eq (rfl : (z168).toInt = (z168).toInt) (by decide : ((-1) : Int32).toInt = -1)).mp c169
      have hvz168 : (f_nv (z17).toInt.toNat).toInt = (z168).toInt := by rw [ez168, (clamp_nat (i := z17) (by omega))]
      have gv9b := grv_v (i := z18) hn_grv (show 0 ≤ (z17).toInt ∧ (z17).toInt < 8000 by omega)
      have ns9 : ¬ (0 ≤ g.1 (PLR z17 z18) ∧ g.2.1 (PLR z17 z18) = g.2.1 (PLR z3 z4)) := fun q9 => by have q8 := q9.1; rw [gv9b] at q8; have gc9b := grv_c (i := z18) hn_grv (show 0 ≤ (z17).toInt ∧ (z17).toInt < 8000 by omega) (by omega) q8; omega
      have sl9 : (r165).toInt.toNat = g.2.1 (PLR z3 z4) := by omega
      have hvz29 : (f_nv (z3).toInt.toNat).toInt = (z29).toInt := by rw [ez29, (clamp_nat (i := z3) (by omega))]
      have hb9 : (f_bto (r165).toInt.toNat).toInt = -1 := by have h9 := (k12).resolve_left (by omega); rwa [show (8 * (z4).toInt + (f_nv (z3).toInt.toNat).toInt).toNat = (r165).toInt.toNat by omega] at h9
      refine lv_aload_n hx hb dX11_unifies_84 rfl (lv_at hl 5 rfl) ?_
      refine lv_iload hx hb dX11_unifies_85 (lv_at hl 2 rfl) ?_
      refine lv_iload hx hb dX11_unifies_87 (lv_at hl 1 rfl) ?_
      refine lv_iload hx hb dX11_unifies_89 (lv_at hl 0 rfl) ?_
      obtain ⟨vq170, evq170⟩ := mq136_134 v_mm (.ref h_nn) (.ref h_tra) (.int x_mm_trailed)
      replace hP : va_P (dC, dI) cls [(h_nn, .inl (cy_nn, 8000, .inr (.inl f_nn))), (h_tra, .inl (cy_tra, 256, .inl f_tra)), (h_na, .inl (cy_na, 8000, .inl f_na)), (h_nb, .inl (cy_nb, 8000, .inl f_nb)), (h_nc, .inl (cy_nc, 8000, .inl f_nc)), (h_bto, .inl (cy_bto, 256, .inl f_bto)), (h_bin, .inl (cy_bin, 256, .inl f_bin)), (h_mm, .inr (8, (mo134 vq170 (.ref h_nv) (.ref h_na) (.ref h_nb) (.ref h_nc) (.ref h_bto) (.ref h_bin) (.int z17) (.int z18)))), (h_nv, .inl (cy_nv, 8000, .inl f_nv))] H := by rw [evq170]; exact hP
      replace hD : va_D A [(h_nn, .inl (cy_nn, 8000, .inr (.inl f_nn))), (h_tra, .inl (cy_tra, 256, .inl f_tra)), (h_na, .inl (cy_na, 8000, .inl f_na)), (h_nb, .inl (cy_nb, 8000, .inl f_nb)), (h_nc, .inl (cy_nc, 8000, .inl f_nc)), (h_bto, .inl (cy_bto, 256, .inl f_bto)), (h_bin, .inl (cy_bin, 256, .inl f_bin)), (h_mm, .inr (8, (mo134 vq170 (.ref h_nv) (.ref h_na) (.ref h_nb) (.ref h_nc) (.ref h_bto) (.ref h_bin) (.int z17) (.int z18)))), (h_nv, .inl (cy_nv, 8000, .inl f_nv))] := by rw [evq170]; exact hD
      have hPc := hP.sub (ws' := [(h_mm, .inr (8, (mo134 vq170 (.ref h_nv) (.ref h_na) (.ref h_nb) (.ref h_nc) (.ref h_bto) (.ref h_bin) (.int z17) (.int z18)))), (h_nv, .inl (cy_nv, 8000, .inl f_nv)), (h_na, .inl (cy_na, 8000, .inl f_na)), (h_nb, .inl (cy_nb, 8000, .inl f_nb)), (h_nc, .inl (cy_nc, 8000, .inl f_nc)), (h_bto, .inl (cy_bto, 256, .inl f_bto)), (h_bin, .inl (cy_bin, 256, .inl f_bin))]) [7, 8, 2, 3, 4, 5, 6] rfl
      have hDc := hD.sub (ws' := [(h_mm, .inr (8, (mo134 vq170 (.ref h_nv) (.ref h_na) (.ref h_nb) (.ref h_nc) (.ref h_bto) (.ref h_bin) (.int z17) (.int z18)))), (h_nv, .inl (cy_nv, 8000, .inl f_nv)), (h_na, .inl (cy_na, 8000, .inl f_na)), (h_nb, .inl (cy_nb, 8000, .inl f_nb)), (h_nc, .inl (cy_nc, 8000, .inl f_nc)), (h_bto, .inl (cy_bto, 256, .inl f_bto)), (h_bin, .inl (cy_bin, 256, .inl f_bin))]) [7, 8, 2, 3, 4, 5, 6] (by decide) rfl
      have hKc := hK.sub (tys' := [(cy_nv, .int), (cy_na, .int), (cy_nb, .int), (cy_nc, .int), (cy_bto, .int), (cy_bin, .int)]) [0, 1, 2, 3, 4, 5] rfl
      have hFc := va_free (wc := [(h_mm, .inr (8, (mo134 vq170 (.ref h_nv) (.ref h_na) (.ref h_nb) (.ref h_nc) (.ref h_bto) (.ref h_bin) (.int z17) (.int z18)))), (h_nv, .inl (cy_nv, 8000, .inl f_nv)), (h_na, .inl (cy_na, 8000, .inl f_na)), (h_nb, .inl (cy_nb, 8000, .inl f_nb)), (h_nc, .inl (cy_nc, 8000, .inl f_nc)), (h_bto, .inl (cy_bto, 256, .inl f_bto)), (h_bin, .inl (cy_bin, 256, .inl f_bin))]) hD hS hA [7, 8, 2, 3, 4, 5, 6] rfl
      refine va_calli (va_runV (As := [.int z17, .int z18, .int r165]) (rest := []) ⟨hx, hb, hml, hown, hts⟩ (c_X11_holds l (fu + 1) dC dI H.size h_mm h_nv h_na h_nb h_nc h_bto h_bin vq170 z17 z18 cy_nv f_nv cy_na f_na cy_nb f_nb cy_nc f_nc cy_bto f_bto cy_bin f_bin z17 z18 r165 i0 i1 N hz g z19 (by first | exact k20 | omega) (by first | exact k21 | omega) hf_nv hf_na hf_nb hf_nc hf_bto hf_bin (by first | exact q0 | omega) (by first | exact q1 | omega) (by first | exact k22 | omega) (by first | exact k23 | omega) (by omega) (by first | exact k24 | omega) (by omega) hn_bi k25 hn_grv) (cwV 3 hts (gv hT w_m_X11_276 w_instanceMethod_X11_holds ws_sel_X11_holds w_ini_X11 w_code_X11_holds) rfl rfl rfl (by decide +kernel) ⟨(by dsimp only [headSpec]; omega), (by dsimp only [headSpec]; omega)⟩) ⟨pre_blind, va_recv hK hP (ci := 8) (q0 := 7) rfl rfl, pre_of hPc hKc hDc hN⟩ rfl rfl hl.1 rfl (lv_room (Nat.le_of_ble_eq_true rfl)) dX11_unifies_91 ⟨(Nat.le_of_ble_eq_true rfl), (Nat.le_of_ble_eq_true rfl)⟩) hS (fun q _ h => hFc q h) hFc (fun r171 u t H locs ht hvm hq hB hz1 hk1 hS9 => ?_)
      obtain ⟨z172, z173⟩ := u
      obtain ⟨hP1, hD1⟩ := hB
      rw [ht] at hP1
      obtain ⟨hP9, hD9⟩ := va_join (wr := [(h_nn, .inl (cy_nn, 8000, .inr (.inl f_nn))), (h_tra, .inl (cy_tra, 256, .inl f_tra))]) (w1 := [(h_mm, .inr (8, (mo134 vq170 (.ref h_nv) (.ref h_na) (.ref h_nb) (.ref h_nc) (.ref h_bto) (.ref h_bin) (.int z172) (.int z173)))), (h_nv, .inl (cy_nv, 8000, .inl f_nv)), (h_na, .inl (cy_na, 8000, .inl f_na)), (h_nb, .inl (cy_nb, 8000, .inl f_nb)), (h_nc, .inl (cy_nc, 8000, .inl f_nc)), (h_bto, .inl (cy_bto, 256, .inl f_bto)), (h_bin, .inl (cy_bin, 256, .inl f_bin))]) hP hD [7, 8, 2, 3, 4, 5, 6] [0, 1] rfl rfl (by decide) (by decide) hk1 hFc hP1 hD1
      clear hP hD hS hPc hDc hKc hFc hP1 hD1 hk1 hz1 ht hvm
      have hP : va_P (dC, dI) cls [(h_nn, .inl (cy_nn, 8000, .inr (.inl f_nn))), (h_tra, .inl (cy_tra, 256, .inl f_tra)), (h_mm, .inr (8, (mo134 vq170 (.ref h_nv) (.ref h_na) (.ref h_nb) (.ref h_nc) (.ref h_bto) (.ref h_bin) (.int z172) (.int z173)))), (h_nv, .inl (cy_nv, 8000, .inl f_nv)), (h_na, .inl (cy_na, 8000, .inl f_na)), (h_nb, .inl (cy_nb, 8000, .inl f_nb)), (h_nc, .inl (cy_nc, 8000, .inl f_nc)), (h_bto, .inl (cy_bto, 256, .inl f_bto)), (h_bin, .inl (cy_bin, 256, .inl f_bin))] H := hP9
      have hD : va_D A [(h_nn, .inl (cy_nn, 8000, .inr (.inl f_nn))), (h_tra, .inl (cy_tra, 256, .inl f_tra)), (h_mm, .inr (8, (mo134 vq170 (.ref h_nv) (.ref h_na) (.ref h_nb) (.ref h_nc) (.ref h_bto) (.ref h_bin) (.int z172) (.int z173)))), (h_nv, .inl (cy_nv, 8000, .inl f_nv)), (h_na, .inl (cy_na, 8000, .inl f_na)), (h_nb, .inl (cy_nb, 8000, .inl f_nb)), (h_nc, .inl (cy_nc, 8000, .inl f_nc)), (h_bto, .inl (cy_bto, 256, .inl f_bto)), (h_bin, .inl (cy_bin, 256, .inl f_bin))] := hD9
      have hS := hS9
      clear hP9 hD9 hS9
      rw [evq170] at hP hD
      replace hP : va_P (dC, dI) cls [(h_nn, .inl (cy_nn, 8000, .inr (.inl f_nn))), (h_tra, .inl (cy_tra, 256, .inl f_tra)), (h_mm, .inr (8, (mo136 v_mm (.ref h_nv) (.ref h_nn) (.ref h_na) (.ref h_nb) (.ref h_nc) (.ref h_bto) (.ref h_bin) (.ref h_tra) (.int x_mm_trailed) (.int z172) (.int z173)))), (h_nv, .inl (cy_nv, 8000, .inl f_nv)), (h_na, .inl (cy_na, 8000, .inl f_na)), (h_nb, .inl (cy_nb, 8000, .inl f_nb)), (h_nc, .inl (cy_nc, 8000, .inl f_nc)), (h_bto, .inl (cy_bto, 256, .inl f_bto)), (h_bin, .inl (cy_bin, 256, .inl f_bin))] H := hP
      replace hD : va_D A [(h_nn, .inl (cy_nn, 8000, .inr (.inl f_nn))), (h_tra, .inl (cy_tra, 256, .inl f_tra)), (h_mm, .inr (8, (mo136 v_mm (.ref h_nv) (.ref h_nn) (.ref h_na) (.ref h_nb) (.ref h_nc) (.ref h_bto) (.ref h_bin) (.ref h_tra) (.int x_mm_trailed) (.int z172) (.int z173)))), (h_nv, .inl (cy_nv, 8000, .inl f_nv)), (h_na, .inl (cy_na, 8000, .inl f_na)), (h_nb, .inl (cy_nb, 8000, .inl f_nb)), (h_nc, .inl (cy_nc, 8000, .inl f_nc)), (h_bto, .inl (cy_bto, 256, .inl f_bto)), (h_bin, .inl (cy_bin, 256, .inl f_bin))] := hD
      clear evq170 
      obtain ⟨k174, k175, k176, k177, k178⟩ := hq
      replace k174 : 0 ≤ ((z172)).toInt ∧ ((z172)).toInt ≤ 7999 := k174
      replace k175 : 0 ≤ ((z173)).toInt ∧ ((z173)).toInt ≤ 31 := k175
      replace k176 : 0 ≤ (r171).toInt ∧ (r171).toInt ≤ 1 := k176
      replace k177 : ((r171)).toInt = 1 ∨ NR f_nv f_na f_nb f_nc f_bto f_bin ((z17)).toInt.toNat ((z18)).toInt ((r165)).toInt.toNat := k177
      replace k178 : (((r171)).toInt = 1 ∧ OCC (g) (BDW f_bto f_bin) (PLR (z17) (z18)) ((r165)).toInt.toNat) ∨ (((r171)).toInt = 0 ∧ ¬ OCC (g) (BDW f_bto f_bin) (PLR (z17) (z18)) ((r165)).toInt.toNat) := k178
      refine lv_if_eq (tgt := 99) hx hb dX11_unifies_94 (by decide) (fun c179 => ?_) (fun c179 => ?_)
      · have kc179 := (cv_eq (rfl : (r171).toInt = (r171).toInt) (by decide : (0 : Int32).toInt = 0)).mp c179
        have oc9 := (k178.resolve_left (fun q9 => absurd q9.1 (by omega))).2
        rw [sl9] at oc9
        have tr9 := trl_room (s := (r165).toInt.toNat) hn_trl hf_tra (by omega) (by omega) hb9
        refine lv_aload_n hx hb dX11_unifies_99 rfl (lv_at hl 5 rfl) ?_
        refine lv_iload hx hb dX11_unifies_100 (lv_at hl 0 rfl) ?_
        refine lv_iload hx hb dX11_unifies_102 (lv_at hl 2 rfl) ?_
        refine lv_iload hx hb dX11_unifies_104 (lv_at hl 1 rfl) ?_
        obtain ⟨vq180, evq180⟩ := mq136_135 v_mm (.ref h_nv) (.ref h_nn) (.ref h_na) (.ref h_nb) (.ref h_nc) (.int z172) (.int z173)
        replace hP : va_P (dC, dI) cls [(h_nn, .inl (cy_nn, 8000, .inr (.inl f_nn))), (h_tra, .inl (cy_tra, 256, .inl f_tra)), (h_mm, .inr (8, (mo135 vq180 (.ref h_bto) (.ref h_bin) (.ref h_tra) (.int x_mm_trailed)))), (h_nv, .inl (cy_nv, 8000, .inl f_nv)), (h_na, .inl (cy_na, 8000, .inl f_na)), (h_nb, .inl (cy_nb, 8000, .inl f_nb)), (h_nc, .inl (cy_nc, 8000, .inl f_nc)), (h_bto, .inl (cy_bto, 256, .inl f_bto)), (h_bin, .inl (cy_bin, 256, .inl f_bin))] H := by rw [evq180]; exact hP
        replace hD : va_D A [(h_nn, .inl (cy_nn, 8000, .inr (.inl f_nn))), (h_tra, .inl (cy_tra, 256, .inl f_tra)), (h_mm, .inr (8, (mo135 vq180 (.ref h_bto) (.ref h_bin) (.ref h_tra) (.int x_mm_trailed)))), (h_nv, .inl (cy_nv, 8000, .inl f_nv)), (h_na, .inl (cy_na, 8000, .inl f_na)), (h_nb, .inl (cy_nb, 8000, .inl f_nb)), (h_nc, .inl (cy_nc, 8000, .inl f_nc)), (h_bto, .inl (cy_bto, 256, .inl f_bto)), (h_bin, .inl (cy_bin, 256, .inl f_bin))] := by rw [evq180]; exact hD
        have hPc := hP.sub (ws' := [(h_mm, .inr (8, (mo135 vq180 (.ref h_bto) (.ref h_bin) (.ref h_tra) (.int x_mm_trailed)))), (h_bto, .inl (cy_bto, 256, .inl f_bto)), (h_bin, .inl (cy_bin, 256, .inl f_bin)), (h_tra, .inl (cy_tra, 256, .inl f_tra))]) [2, 7, 8, 1] rfl
        have hDc := hD.sub (ws' := [(h_mm, .inr (8, (mo135 vq180 (.ref h_bto) (.ref h_bin) (.ref h_tra) (.int x_mm_trailed)))), (h_bto, .inl (cy_bto, 256, .inl f_bto)), (h_bin, .inl (cy_bin, 256, .inl f_bin)), (h_tra, .inl (cy_tra, 256, .inl f_tra))]) [2, 7, 8, 1] (by decide) rfl
        have hKc := hK.sub (tys' := [(cy_bto, .int), (cy_bin, .int), (cy_tra, .int)]) [4, 5, 7] rfl
        have hFc := va_free (wc := [(h_mm, .inr (8, (mo135 vq180 (.ref h_bto) (.ref h_bin) (.ref h_tra) (.int x_mm_trailed)))), (h_bto, .inl (cy_bto, 256, .inl f_bto)), (h_bin, .inl (cy_bin, 256, .inl f_bin)), (h_tra, .inl (cy_tra, 256, .inl f_tra))]) hD hS hA [2, 7, 8, 1] rfl
        refine va_callv (va_runV (As := [.int r165, .int z17, .int z18]) (rest := []) ⟨hx, hb, hml, hown, hts⟩ (c_X11_binds l dC dI H.size h_mm h_bto h_bin h_tra vq180 x_mm_trailed cy_bto f_bto cy_bin f_bin cy_tra f_tra r165 z17 z18 (by first | exact hx_mm_trailed | omega) hf_bto hf_bin hf_tra (by omega) (by first | exact k20 | omega) (by first | exact k21 | omega) (by omega)) (cwV 3 hts (gv hT w_m_X11_280 w_instanceMethod_X11_binds ws_sel_X11_binds w_ini_X11 w_code_X11_binds) rfl rfl rfl (by decide +kernel) ⟨(by dsimp only [headSpec]; omega), (by dsimp only [headSpec]; omega)⟩) ⟨pre_blind, va_recv hK hP (ci := 8) (q0 := 2) rfl rfl, pre_of hPc hKc hDc hN⟩ rfl rfl hl.1 rfl (lv_room (Nat.le_of_ble_eq_true rfl)) dX11_unifies_106 ⟨(Nat.le_of_ble_eq_true rfl), (Nat.le_of_ble_eq_true rfl)⟩) hS (fun q _ h => hFc q h) hFc (fun u t H locs ht hvm hq hB hz1 hk1 hS9 => ?_)
        obtain ⟨z182, f183, f184, f185⟩ := u
        obtain ⟨hP1, hD1⟩ := hB
        rw [ht] at hP1
        obtain ⟨hP9, hD9⟩ := va_join (wr := [(h_nn, .inl (cy_nn, 8000, .inr (.inl f_nn))), (h_nv, .inl (cy_nv, 8000, .inl f_nv)), (h_na, .inl (cy_na, 8000, .inl f_na)), (h_nb, .inl (cy_nb, 8000, .inl f_nb)), (h_nc, .inl (cy_nc, 8000, .inl f_nc))]) (w1 := [(h_mm, .inr (8, (mo135 vq180 (.ref h_bto) (.ref h_bin) (.ref h_tra) (.int z182)))), (h_bto, .inl (cy_bto, 256, .inl f183)), (h_bin, .inl (cy_bin, 256, .inl f184)), (h_tra, .inl (cy_tra, 256, .inl f185))]) hP hD [2, 7, 8, 1] [0, 3, 4, 5, 6] rfl rfl (by decide) (by decide) hk1 hFc hP1 hD1
        clear hP hD hS hPc hDc hKc hFc hP1 hD1 hk1 hz1 ht hvm
        have hP : va_P (dC, dI) cls [(h_nn, .inl (cy_nn, 8000, .inr (.inl f_nn))), (h_nv, .inl (cy_nv, 8000, .inl f_nv)), (h_na, .inl (cy_na, 8000, .inl f_na)), (h_nb, .inl (cy_nb, 8000, .inl f_nb)), (h_nc, .inl (cy_nc, 8000, .inl f_nc)), (h_mm, .inr (8, (mo135 vq180 (.ref h_bto) (.ref h_bin) (.ref h_tra) (.int z182)))), (h_bto, .inl (cy_bto, 256, .inl f183)), (h_bin, .inl (cy_bin, 256, .inl f184)), (h_tra, .inl (cy_tra, 256, .inl f185))] H := hP9
        have hD : va_D A [(h_nn, .inl (cy_nn, 8000, .inr (.inl f_nn))), (h_nv, .inl (cy_nv, 8000, .inl f_nv)), (h_na, .inl (cy_na, 8000, .inl f_na)), (h_nb, .inl (cy_nb, 8000, .inl f_nb)), (h_nc, .inl (cy_nc, 8000, .inl f_nc)), (h_mm, .inr (8, (mo135 vq180 (.ref h_bto) (.ref h_bin) (.ref h_tra) (.int z182)))), (h_bto, .inl (cy_bto, 256, .inl f183)), (h_bin, .inl (cy_bin, 256, .inl f184)), (h_tra, .inl (cy_tra, 256, .inl f185))] := hD9
        have hS := hS9
        clear hP9 hD9 hS9
        rw [evq180] at hP hD
        replace hP : va_P (dC, dI) cls [(h_nn, .inl (cy_nn, 8000, .inr (.inl f_nn))), (h_nv, .inl (cy_nv, 8000, .inl f_nv)), (h_na, .inl (cy_na, 8000, .inl f_na)), (h_nb, .inl (cy_nb, 8000, .inl f_nb)), (h_nc, .inl (cy_nc, 8000, .inl f_nc)), (h_mm, .inr (8, (mo136 v_mm (.ref h_nv) (.ref h_nn) (.ref h_na) (.ref h_nb) (.ref h_nc) (.ref h_bto) (.ref h_bin) (.ref h_tra) (.int z182) (.int z172) (.int z173)))), (h_bto, .inl (cy_bto, 256, .inl f183)), (h_bin, .inl (cy_bin, 256, .inl f184)), (h_tra, .inl (cy_tra, 256, .inl f185))] H := hP
        replace hD : va_D A [(h_nn, .inl (cy_nn, 8000, .inr (.inl f_nn))), (h_nv, .inl (cy_nv, 8000, .inl f_nv)), (h_na, .inl (cy_na, 8000, .inl f_na)), (h_nb, .inl (cy_nb, 8000, .inl f_nb)), (h_nc, .inl (cy_nc, 8000, .inl f_nc)), (h_mm, .inr (8, (mo136 v_mm (.ref h_nv) (.ref h_nn) (.ref h_na) (.ref h_nb) (.ref h_nc) (.ref h_bto) (.ref h_bin) (.ref h_tra) (.int z182) (.int z172) (.int z173)))), (h_bto, .inl (cy_bto, 256, .inl f183)), (h_bin, .inl (cy_bin, 256, .inl f184)), (h_tra, .inl (cy_tra, 256, .inl f185))] := hD
        clear evq180 
        obtain ⟨k186, hf183, hf184, hf185, k187, k188⟩ := hq
        replace k186 : 0 ≤ ((z182)).toInt ∧ ((z182)).toInt ≤ 256 := k186
        replace hf183 : Rg (-1) 7999 (f183) := hf183
        replace hf184 : Rg 0 31 (f184) := hf184
        replace hf185 : Rg 0 255 (f185) := hf185
        replace k187 : ((z182)).toInt = ((x_mm_trailed)).toInt + 1 := k187
        replace k188 : (f183) = upd f_bto (Int32.toNatClampNeg (r165)) (z17) ∧ (f184) = upd f_bin (Int32.toNatClampNeg (r165)) (z18) ∧ (f185) = upd f_tra (Int32.toNatClampNeg (x_mm_trailed)) (r165) := k188
        obtain ⟨eb9, ei9, et9⟩ := k188
        have cs9 := clamp_nat (i := r165) (by omega)
        have bi9 : BI i0 i1 N hz f_nv f_na f_nb f_nc f183 f184 := by rw [eb9, ei9, cs9]; exact bi_bind hn_bi hf_nv hb9 ((k177).resolve_left (by omega)) (by omega) (by omega) (by omega)
        have tl9 : TRL ((x_mm_trailed).toInt + 1) f185 f183 := by rw [et9, eb9]; exact trl_bind hn_trl rfl (by omega) (by omega) (by rw [cs9]; exact hb9) (by omega)
        have gr9 : GRW (x_mm_trailed).toInt ((x_mm_trailed).toInt + 1) f_bto f_bin f_tra f183 f184 f185 := by rw [et9, eb9, ei9]; exact gr_bind rfl (by omega) (by omega) (by rw [cs9]; exact hb9)
        have bw9 : BDW f183 f184 = bst (BDW f_bto f_bin) (g.2.1 (PLR z3 z4)) (PLR z17 z18) := by rw [← sl9, ← cs9]; exact bdw_upd eb9 ei9 (by omega) (by omega)
        refine lv_iconst (v := 1) hx hb dX11_unifies_109 (by decide) ?_
        replace hP : va_P (dC, dI) cls [(h_mm, .inr (8, (mo136 v_mm (.ref h_nv) (.ref h_nn) (.ref h_na) (.ref h_nb) (.ref h_nc) (.ref h_bto) (.ref h_bin) (.ref h_tra) (.int z182) (.int z172) (.int z173)))), (h_nv, .inl (cy_nv, 8000, .inl f_nv)), (h_na, .inl (cy_na, 8000, .inl f_na)), (h_nb, .inl (cy_nb, 8000, .inl f_nb)), (h_nc, .inl (cy_nc, 8000, .inl f_nc)), (h_bto, .inl (cy_bto, 256, .inl f183)), (h_bin, .inl (cy_bin, 256, .inl f184)), (h_nn, .inl (cy_nn, 8000, .inr (.inl f_nn))), (h_tra, .inl (cy_tra, 256, .inl f185))] H := hP.sub [5, 1, 2, 3, 4, 6, 7, 0, 8] rfl
        replace hD : va_D A [(h_mm, .inr (8, (mo136 v_mm (.ref h_nv) (.ref h_nn) (.ref h_na) (.ref h_nb) (.ref h_nc) (.ref h_bto) (.ref h_bin) (.ref h_tra) (.int z182) (.int z172) (.int z173)))), (h_nv, .inl (cy_nv, 8000, .inl f_nv)), (h_na, .inl (cy_na, 8000, .inl f_na)), (h_nb, .inl (cy_nb, 8000, .inl f_nb)), (h_nc, .inl (cy_nc, 8000, .inl f_nc)), (h_bto, .inl (cy_bto, 256, .inl f183)), (h_bin, .inl (cy_bin, 256, .inl f184)), (h_nn, .inl (cy_nn, 8000, .inr (.inl f_nn))), (h_tra, .inl (cy_tra, 256, .inl f185))] := hD.sub [5, 1, 2, 3, 4, 6, 7, 0, 8] (by decide) rfl
        refine W.widen (k := 0) (n := 0) (Nat.le_of_ble_eq_true rfl) (Nat.le_of_ble_eq_true rfl) ?_
        have cst1 : (1 : Int32).toInt = 1 := by decide
        have w189 : 0 ≤ ((z182)).toInt ∧ ((z182)).toInt ≤ 256 := by first | exact k186 | omega
        have w190 : 0 ≤ ((z172)).toInt ∧ ((z172)).toInt ≤ 7999 := by first | exact k174 | omega
        have w191 : 0 ≤ ((z173)).toInt ∧ ((z173)).toInt ≤ 31 := by first | exact k175 | omega
        have w192 : 0 ≤ (1 : Int32).toInt ∧ (1 : Int32).toInt ≤ 1 := by omega
        have w193 : BI i0 i1 N hz f_nv f_na f_nb f_nc (f183) (f184) := bi9
        have w194 : TRL ((z182)).toInt (f185) (f183) := (trl_cast tl9 (by omega))
        have w195 : GRW (x_mm_trailed).toInt ((z182)).toInt f_bto f_bin f_tra (f183) (f184) (f185) := (gr_cast gr9 (by omega) (by omega))
        have w196 : GHI f_bto f_bin (f183) (f184) := (ghi_bind eb9 ei9 (by omega))
        have w197 : UNX g (BDW f_bto f_bin) (BDW (f183) (f184)) (PLR p1 p2) (PLR p3 p4) ((1 : Int32)).toInt := (unx_bind1 k14 k28 (by rw [gv9a]; omega) ns9 oc9 bw9 (by decide))
        exact W.zret (v := 1) (ty := .boolean) hx hb hr (by decide) (fun t ht hW => ⟨⟨1, (z182, z172, z173, f183, f184, f185), rfl, ⟨w189, w190, w191, hf183, hf184, hf185, w192, w193, w194, w195, w196, w197⟩, by rw [ht]; exact hP, hD⟩, hS.F ht⟩) hS.2.2 dX11_unifies_110
      · have kc179 := (not_congr (cv_eq (rfl : (r171).toInt = (r171).toInt) (by decide : (0 : Int32).toInt = 0))).mp c179
        have oc9 := (k178.resolve_right (fun q9 => absurd q9.1 (by omega))).2
        rw [sl9] at oc9
        refine lv_iconst (v := 0) hx hb dX11_unifies_97 (by decide) ?_
        replace hP : va_P (dC, dI) cls [(h_mm, .inr (8, (mo136 v_mm (.ref h_nv) (.ref h_nn) (.ref h_na) (.ref h_nb) (.ref h_nc) (.ref h_bto) (.ref h_bin) (.ref h_tra) (.int x_mm_trailed) (.int z172) (.int z173)))), (h_nv, .inl (cy_nv, 8000, .inl f_nv)), (h_na, .inl (cy_na, 8000, .inl f_na)), (h_nb, .inl (cy_nb, 8000, .inl f_nb)), (h_nc, .inl (cy_nc, 8000, .inl f_nc)), (h_bto, .inl (cy_bto, 256, .inl f_bto)), (h_bin, .inl (cy_bin, 256, .inl f_bin)), (h_nn, .inl (cy_nn, 8000, .inr (.inl f_nn))), (h_tra, .inl (cy_tra, 256, .inl f_tra))] H := hP.sub [2, 3, 4, 5, 6, 7, 8, 0, 1] rfl
        replace hD : va_D A [(h_mm, .inr (8, (mo136 v_mm (.ref h_nv) (.ref h_nn) (.ref h_na) (.ref h_nb) (.ref h_nc) (.ref h_bto) (.ref h_bin) (.ref h_tra) (.int x_mm_trailed) (.int z172) (.int z173)))), (h_nv, .inl (cy_nv, 8000, .inl f_nv)), (h_na, .inl (cy_na, 8000, .inl f_na)), (h_nb, .inl (cy_nb, 8000, .inl f_nb)), (h_nc, .inl (cy_nc, 8000, .inl f_nc)), (h_bto, .inl (cy_bto, 256, .inl f_bto)), (h_bin, .inl (cy_bin, 256, .inl f_bin)), (h_nn, .inl (cy_nn, 8000, .inr (.inl f_nn))), (h_tra, .inl (cy_tra, 256, .inl f_tra))] := hD.sub [2, 3, 4, 5, 6, 7, 8, 0, 1] (by decide) rfl
        refine W.widen (k := 0) (n := 0) (Nat.le_of_ble_eq_true rfl) (Nat.le_of_ble_eq_true rfl) ?_
        have cst0 : (0 : Int32).toInt = 0 := by decide
        have w198 : 0 ≤ ((x_mm_trailed)).toInt ∧ ((x_mm_trailed)).toInt ≤ 256 := by first | exact hx_mm_trailed | omega
        have w199 : 0 ≤ ((z172)).toInt ∧ ((z172)).toInt ≤ 7999 := by first | exact k174 | omega
        have w200 : 0 ≤ ((z173)).toInt ∧ ((z173)).toInt ≤ 31 := by first | exact k175 | omega
        have w201 : 0 ≤ (0 : Int32).toInt ∧ (0 : Int32).toInt ≤ 1 := by omega
        have w202 : BI i0 i1 N hz f_nv f_na f_nb f_nc (f_bto) (f_bin) := hn_bi
        have w203 : TRL ((x_mm_trailed)).toInt (f_tra) (f_bto) := (trl_cast hn_trl (by omega))
        have w204 : GRW (x_mm_trailed).toInt ((x_mm_trailed)).toInt f_bto f_bin f_tra (f_bto) (f_bin) (f_tra) := (gr_cast gr0 (by omega) (by omega))
        have w205 : GHI f_bto f_bin (f_bto) (f_bin) := ghi_rf
        have w206 : UNX g (BDW f_bto f_bin) (BDW (f_bto) (f_bin)) (PLR p1 p2) (PLR p3 p4) ((0 : Int32)).toInt := (unx_occ1 k14 k28 (by rw [gv9a]; omega) ns9 oc9 (by decide))
        exact W.zret (v := 0) (ty := .boolean) hx hb hr (by decide) (fun t ht hW => ⟨⟨0, (x_mm_trailed, z172, z173, f_bto, f_bin, f_tra), rfl, ⟨w198, w199, w200, hf_bto, hf_bin, hf_tra, w201, w202, w203, w204, w205, w206⟩, by rw [ht]; exact hP, hD⟩, hS.F ht⟩) hS.2.2 dX11_unifies_98
    · have kc169 := (not_congr (cv_eq (rfl : (z168).toInt = (z168).toInt) (by decide : ((-1) : Int32).toInt = -1))).mp c169
      refine lv_aload_n hx hb dX11_unifies_69 rfl (lv_at hl 5 rfl) ?_
      refine lv_iload hx hb dX11_unifies_70 (lv_at hl 2 rfl) ?_
      refine lv_iload hx hb dX11_unifies_72 (lv_at hl 1 rfl) ?_
      obtain ⟨vq207, evq207⟩ := mq136_129 v_mm (.ref h_nn) (.ref h_na) (.ref h_nb) (.ref h_nc) (.ref h_bto) (.ref h_bin) (.ref h_tra) (.int x_mm_trailed) (.int z17) (.int z18)
      replace hP : va_P (dC, dI) cls [(h_nn, .inl (cy_nn, 8000, .inr (.inl f_nn))), (h_tra, .inl (cy_tra, 256, .inl f_tra)), (h_na, .inl (cy_na, 8000, .inl f_na)), (h_nb, .inl (cy_nb, 8000, .inl f_nb)), (h_nc, .inl (cy_nc, 8000, .inl f_nc)), (h_bto, .inl (cy_bto, 256, .inl f_bto)), (h_bin, .inl (cy_bin, 256, .inl f_bin)), (h_mm, .inr (8, (mo129 vq207 (.ref h_nv)))), (h_nv, .inl (cy_nv, 8000, .inl f_nv))] H := by rw [evq207]; exact hP
      replace hD : va_D A [(h_nn, .inl (cy_nn, 8000, .inr (.inl f_nn))), (h_tra, .inl (cy_tra, 256, .inl f_tra)), (h_na, .inl (cy_na, 8000, .inl f_na)), (h_nb, .inl (cy_nb, 8000, .inl f_nb)), (h_nc, .inl (cy_nc, 8000, .inl f_nc)), (h_bto, .inl (cy_bto, 256, .inl f_bto)), (h_bin, .inl (cy_bin, 256, .inl f_bin)), (h_mm, .inr (8, (mo129 vq207 (.ref h_nv)))), (h_nv, .inl (cy_nv, 8000, .inl f_nv))] := by rw [evq207]; exact hD
      have hPc := hP.sub (ws' := [(h_mm, .inr (8, (mo129 vq207 (.ref h_nv)))), (h_nv, .inl (cy_nv, 8000, .inl f_nv))]) [7, 8] rfl
      have hDc := hD.sub (ws' := [(h_mm, .inr (8, (mo129 vq207 (.ref h_nv)))), (h_nv, .inl (cy_nv, 8000, .inl f_nv))]) [7, 8] (by decide) rfl
      have hKc := hK.sub (tys' := [(cy_nv, .int)]) [0] rfl
      have hFc := va_free (wc := [(h_mm, .inr (8, (mo129 vq207 (.ref h_nv)))), (h_nv, .inl (cy_nv, 8000, .inl f_nv))]) hD hS hA [7, 8] rfl
      refine va_calli (va_runV (As := [.int z17, .int z18]) (rest := []) ⟨hx, hb, hml, hown, hts⟩ (c_X11_slotOf l dC dI H.size h_mm h_nv vq207 cy_nv f_nv z17 z18 hf_nv (by first | exact k20 | omega) (by first | exact k21 | omega)) (cwV 2 hts (gv hT w_m_X11_270 w_instanceMethod_X11_slotOf ws_sel_X11_slotOf w_ini_X11 w_code_X11_slotOf) rfl rfl rfl (by decide +kernel) ⟨(by dsimp only [headSpec]; omega), (by dsimp only [headSpec]; omega)⟩) ⟨pre_blind, va_recv hK hP (ci := 8) (q0 := 7) rfl rfl, pre_of hPc hKc hDc hN⟩ rfl rfl hl.1 rfl (lv_room (Nat.le_of_ble_eq_true rfl)) dX11_unifies_74 ⟨(Nat.le_of_ble_eq_true rfl), (Nat.le_of_ble_eq_true rfl)⟩) hS (fun q _ h => hFc q h) hFc (fun r208 u t H locs ht hvm hq hB hz1 hk1 hS9 => ?_)
      obtain ⟨hP1, hD1⟩ := hB
      rw [ht] at hP1
      obtain ⟨hP9, hD9⟩ := va_join (wr := [(h_nn, .inl (cy_nn, 8000, .inr (.inl f_nn))), (h_tra, .inl (cy_tra, 256, .inl f_tra)), (h_na, .inl (cy_na, 8000, .inl f_na)), (h_nb, .inl (cy_nb, 8000, .inl f_nb)), (h_nc, .inl (cy_nc, 8000, .inl f_nc)), (h_bto, .inl (cy_bto, 256, .inl f_bto)), (h_bin, .inl (cy_bin, 256, .inl f_bin))]) (w1 := [(h_mm, .inr (8, (mo129 vq207 (.ref h_nv)))), (h_nv, .inl (cy_nv, 8000, .inl f_nv))]) hP hD [7, 8] [0, 1, 2, 3, 4, 5, 6] rfl rfl (by decide) (by decide) hk1 hFc hP1 hD1
      clear hP hD hS hPc hDc hKc hFc hP1 hD1 hk1 hz1 ht hvm
      have hP : va_P (dC, dI) cls [(h_nn, .inl (cy_nn, 8000, .inr (.inl f_nn))), (h_tra, .inl (cy_tra, 256, .inl f_tra)), (h_na, .inl (cy_na, 8000, .inl f_na)), (h_nb, .inl (cy_nb, 8000, .inl f_nb)), (h_nc, .inl (cy_nc, 8000, .inl f_nc)), (h_bto, .inl (cy_bto, 256, .inl f_bto)), (h_bin, .inl (cy_bin, 256, .inl f_bin)), (h_mm, .inr (8, (mo129 vq207 (.ref h_nv)))), (h_nv, .inl (cy_nv, 8000, .inl f_nv))] H := hP9
      have hD : va_D A [(h_nn, .inl (cy_nn, 8000, .inr (.inl f_nn))), (h_tra, .inl (cy_tra, 256, .inl f_tra)), (h_na, .inl (cy_na, 8000, .inl f_na)), (h_nb, .inl (cy_nb, 8000, .inl f_nb)), (h_nc, .inl (cy_nc, 8000, .inl f_nc)), (h_bto, .inl (cy_bto, 256, .inl f_bto)), (h_bin, .inl (cy_bin, 256, .inl f_bin)), (h_mm, .inr (8, (mo129 vq207 (.ref h_nv)))), (h_nv, .inl (cy_nv, 8000, .inl f_nv))] := hD9
      have hS := hS9
      clear hP9 hD9 hS9
      rw [evq207] at hP hD
      replace hP : va_P (dC, dI) cls [(h_nn, .inl (cy_nn, 8000, .inr (.inl f_nn))), (h_tra, .inl (cy_tra, 256, .inl f_tra)), (h_na, .inl (cy_na, 8000, .inl f_na)), (h_nb, .inl (cy_nb, 8000, .inl f_nb)), (h_nc, .inl (cy_nc, 8000, .inl f_nc)), (h_bto, .inl (cy_bto, 256, .inl f_bto)), (h_bin, .inl (cy_bin, 256, .inl f_bin)), (h_mm, .inr (8, (mo136 v_mm (.ref h_nv) (.ref h_nn) (.ref h_na) (.ref h_nb) (.ref h_nc) (.ref h_bto) (.ref h_bin) (.ref h_tra) (.int x_mm_trailed) (.int z17) (.int z18)))), (h_nv, .inl (cy_nv, 8000, .inl f_nv))] H := hP
      replace hD : va_D A [(h_nn, .inl (cy_nn, 8000, .inr (.inl f_nn))), (h_tra, .inl (cy_tra, 256, .inl f_tra)), (h_na, .inl (cy_na, 8000, .inl f_na)), (h_nb, .inl (cy_nb, 8000, .inl f_nb)), (h_nc, .inl (cy_nc, 8000, .inl f_nc)), (h_bto, .inl (cy_bto, 256, .inl f_bto)), (h_bin, .inl (cy_bin, 256, .inl f_bin)), (h_mm, .inr (8, (mo136 v_mm (.ref h_nv) (.ref h_nn) (.ref h_na) (.ref h_nb) (.ref h_nc) (.ref h_bto) (.ref h_bin) (.ref h_tra) (.int x_mm_trailed) (.int z17) (.int z18)))), (h_nv, .inl (cy_nv, 8000, .inl f_nv))] := hD
      clear evq207 
      obtain ⟨k209, k210⟩ := hq
      replace k209 : -1 ≤ (r208).toInt ∧ (r208).toInt ≤ 255 := k209
      replace k210 : ((r208)).toInt = 8 * ((z18)).toInt + (f_nv ((z17)).toInt.toNat).toInt := k210
      refine lv_iload hx hb dX11_unifies_77 (lv_at hl 0 rfl) ?_
      refine lv_icmp_ne (tgt := 84) hx hb dX11_unifies_79 (by decide) (fun c211 => ?_) (fun c211 => ?_)
      · have kc211 := (not_congr (cv_eq (rfl : (r208).toInt = (r208).toInt) (rfl : (r165).toInt = (r165).toInt))).mp c211
        have hvz168 : (f_nv (z17).toInt.toNat).toInt = (z168).toInt := by rw [ez168, (clamp_nat (i := z17) (by omega))]
        have gv9b := grv_v (i := z18) hn_grv (show 0 ≤ (z17).toInt ∧ (z17).toInt < 8000 by omega)
        have ns9 : ¬ (0 ≤ g.1 (PLR z17 z18) ∧ g.2.1 (PLR z17 z18) = g.2.1 (PLR z3 z4)) := fun q9 => by have q8 := q9.1; rw [gv9b] at q8; have gc9b := grv_c (i := z18) hn_grv (show 0 ≤ (z17).toInt ∧ (z17).toInt < 8000 by omega) (by omega) q8; omega
        have sl9 : (r165).toInt.toNat = g.2.1 (PLR z3 z4) := by omega
        have hvz29 : (f_nv (z3).toInt.toNat).toInt = (z29).toInt := by rw [ez29, (clamp_nat (i := z3) (by omega))]
        have hb9 : (f_bto (r165).toInt.toNat).toInt = -1 := by have h9 := (k12).resolve_left (by omega); rwa [show (8 * (z4).toInt + (f_nv (z3).toInt.toNat).toInt).toNat = (r165).toInt.toNat by omega] at h9
        refine lv_aload_n hx hb dX11_unifies_84 rfl (lv_at hl 5 rfl) ?_
        refine lv_iload hx hb dX11_unifies_85 (lv_at hl 2 rfl) ?_
        refine lv_iload hx hb dX11_unifies_87 (lv_at hl 1 rfl) ?_
        refine lv_iload hx hb dX11_unifies_89 (lv_at hl 0 rfl) ?_
        obtain ⟨vq212, evq212⟩ := mq136_134 v_mm (.ref h_nn) (.ref h_tra) (.int x_mm_trailed)
        replace hP : va_P (dC, dI) cls [(h_nn, .inl (cy_nn, 8000, .inr (.inl f_nn))), (h_tra, .inl (cy_tra, 256, .inl f_tra)), (h_na, .inl (cy_na, 8000, .inl f_na)), (h_nb, .inl (cy_nb, 8000, .inl f_nb)), (h_nc, .inl (cy_nc, 8000, .inl f_nc)), (h_bto, .inl (cy_bto, 256, .inl f_bto)), (h_bin, .inl (cy_bin, 256, .inl f_bin)), (h_mm, .inr (8, (mo134 vq212 (.ref h_nv) (.ref h_na) (.ref h_nb) (.ref h_nc) (.ref h_bto) (.ref h_bin) (.int z17) (.int z18)))), (h_nv, .inl (cy_nv, 8000, .inl f_nv))] H := by rw [evq212]; exact hP
        replace hD : va_D A [(h_nn, .inl (cy_nn, 8000, .inr (.inl f_nn))), (h_tra, .inl (cy_tra, 256, .inl f_tra)), (h_na, .inl (cy_na, 8000, .inl f_na)), (h_nb, .inl (cy_nb, 8000, .inl f_nb)), (h_nc, .inl (cy_nc, 8000, .inl f_nc)), (h_bto, .inl (cy_bto, 256, .inl f_bto)), (h_bin, .inl (cy_bin, 256, .inl f_bin)), (h_mm, .inr (8, (mo134 vq212 (.ref h_nv) (.ref h_na) (.ref h_nb) (.ref h_nc) (.ref h_bto) (.ref h_bin) (.int z17) (.int z18)))), (h_nv, .inl (cy_nv, 8000, .inl f_nv))] := by rw [evq212]; exact hD
        have hPc := hP.sub (ws' := [(h_mm, .inr (8, (mo134 vq212 (.ref h_nv) (.ref h_na) (.ref h_nb) (.ref h_nc) (.ref h_bto) (.ref h_bin) (.int z17) (.int z18)))), (h_nv, .inl (cy_nv, 8000, .inl f_nv)), (h_na, .inl (cy_na, 8000, .inl f_na)), (h_nb, .inl (cy_nb, 8000, .inl f_nb)), (h_nc, .inl (cy_nc, 8000, .inl f_nc)), (h_bto, .inl (cy_bto, 256, .inl f_bto)), (h_bin, .inl (cy_bin, 256, .inl f_bin))]) [7, 8, 2, 3, 4, 5, 6] rfl
        have hDc := hD.sub (ws' := [(h_mm, .inr (8, (mo134 vq212 (.ref h_nv) (.ref h_na) (.ref h_nb) (.ref h_nc) (.ref h_bto) (.ref h_bin) (.int z17) (.int z18)))), (h_nv, .inl (cy_nv, 8000, .inl f_nv)), (h_na, .inl (cy_na, 8000, .inl f_na)), (h_nb, .inl (cy_nb, 8000, .inl f_nb)), (h_nc, .inl (cy_nc, 8000, .inl f_nc)), (h_bto, .inl (cy_bto, 256, .inl f_bto)), (h_bin, .inl (cy_bin, 256, .inl f_bin))]) [7, 8, 2, 3, 4, 5, 6] (by decide) rfl
        have hKc := hK.sub (tys' := [(cy_nv, .int), (cy_na, .int), (cy_nb, .int), (cy_nc, .int), (cy_bto, .int), (cy_bin, .int)]) [0, 1, 2, 3, 4, 5] rfl
        have hFc := va_free (wc := [(h_mm, .inr (8, (mo134 vq212 (.ref h_nv) (.ref h_na) (.ref h_nb) (.ref h_nc) (.ref h_bto) (.ref h_bin) (.int z17) (.int z18)))), (h_nv, .inl (cy_nv, 8000, .inl f_nv)), (h_na, .inl (cy_na, 8000, .inl f_na)), (h_nb, .inl (cy_nb, 8000, .inl f_nb)), (h_nc, .inl (cy_nc, 8000, .inl f_nc)), (h_bto, .inl (cy_bto, 256, .inl f_bto)), (h_bin, .inl (cy_bin, 256, .inl f_bin))]) hD hS hA [7, 8, 2, 3, 4, 5, 6] rfl
        refine va_calli (va_runV (As := [.int z17, .int z18, .int r165]) (rest := []) ⟨hx, hb, hml, hown, hts⟩ (c_X11_holds l (fu + 1) dC dI H.size h_mm h_nv h_na h_nb h_nc h_bto h_bin vq212 z17 z18 cy_nv f_nv cy_na f_na cy_nb f_nb cy_nc f_nc cy_bto f_bto cy_bin f_bin z17 z18 r165 i0 i1 N hz g z19 (by first | exact k20 | omega) (by first | exact k21 | omega) hf_nv hf_na hf_nb hf_nc hf_bto hf_bin (by first | exact q0 | omega) (by first | exact q1 | omega) (by first | exact k22 | omega) (by first | exact k23 | omega) (by omega) (by first | exact k24 | omega) (by omega) hn_bi k25 hn_grv) (cwV 3 hts (gv hT w_m_X11_276 w_instanceMethod_X11_holds ws_sel_X11_holds w_ini_X11 w_code_X11_holds) rfl rfl rfl (by decide +kernel) ⟨(by dsimp only [headSpec]; omega), (by dsimp only [headSpec]; omega)⟩) ⟨pre_blind, va_recv hK hP (ci := 8) (q0 := 7) rfl rfl, pre_of hPc hKc hDc hN⟩ rfl rfl hl.1 rfl (lv_room (Nat.le_of_ble_eq_true rfl)) dX11_unifies_91 ⟨(Nat.le_of_ble_eq_true rfl), (Nat.le_of_ble_eq_true rfl)⟩) hS (fun q _ h => hFc q h) hFc (fun r213 u t H locs ht hvm hq hB hz1 hk1 hS9 => ?_)
        obtain ⟨z214, z215⟩ := u
        obtain ⟨hP1, hD1⟩ := hB
        rw [ht] at hP1
        obtain ⟨hP9, hD9⟩ := va_join (wr := [(h_nn, .inl (cy_nn, 8000, .inr (.inl f_nn))), (h_tra, .inl (cy_tra, 256, .inl f_tra))]) (w1 := [(h_mm, .inr (8, (mo134 vq212 (.ref h_nv) (.ref h_na) (.ref h_nb) (.ref h_nc) (.ref h_bto) (.ref h_bin) (.int z214) (.int z215)))), (h_nv, .inl (cy_nv, 8000, .inl f_nv)), (h_na, .inl (cy_na, 8000, .inl f_na)), (h_nb, .inl (cy_nb, 8000, .inl f_nb)), (h_nc, .inl (cy_nc, 8000, .inl f_nc)), (h_bto, .inl (cy_bto, 256, .inl f_bto)), (h_bin, .inl (cy_bin, 256, .inl f_bin))]) hP hD [7, 8, 2, 3, 4, 5, 6] [0, 1] rfl rfl (by decide) (by decide) hk1 hFc hP1 hD1
        clear hP hD hS hPc hDc hKc hFc hP1 hD1 hk1 hz1 ht hvm
        have hP : va_P (dC, dI) cls [(h_nn, .inl (cy_nn, 8000, .inr (.inl f_nn))), (h_tra, .inl (cy_tra, 256, .inl f_tra)), (h_mm, .inr (8, (mo134 vq212 (.ref h_nv) (.ref h_na) (.ref h_nb) (.ref h_nc) (.ref h_bto) (.ref h_bin) (.int z214) (.int z215)))), (h_nv, .inl (cy_nv, 8000, .inl f_nv)), (h_na, .inl (cy_na, 8000, .inl f_na)), (h_nb, .inl (cy_nb, 8000, .inl f_nb)), (h_nc, .inl (cy_nc, 8000, .inl f_nc)), (h_bto, .inl (cy_bto, 256, .inl f_bto)), (h_bin, .inl (cy_bin, 256, .inl f_bin))] H := hP9
        have hD : va_D A [(h_nn, .inl (cy_nn, 8000, .inr (.inl f_nn))), (h_tra, .inl (cy_tra, 256, .inl f_tra)), (h_mm, .inr (8, (mo134 vq212 (.ref h_nv) (.ref h_na) (.ref h_nb) (.ref h_nc) (.ref h_bto) (.ref h_bin) (.int z214) (.int z215)))), (h_nv, .inl (cy_nv, 8000, .inl f_nv)), (h_na, .inl (cy_na, 8000, .inl f_na)), (h_nb, .inl (cy_nb, 8000, .inl f_nb)), (h_nc, .inl (cy_nc, 8000, .inl f_nc)), (h_bto, .inl (cy_bto, 256, .inl f_bto)), (h_bin, .inl (cy_bin, 256, .inl f_bin))] := hD9
        have hS := hS9
        clear hP9 hD9 hS9
        rw [evq212] at hP hD
        replace hP : va_P (dC, dI) cls [(h_nn, .inl (cy_nn, 8000, .inr (.inl f_nn))), (h_tra, .inl (cy_tra, 256, .inl f_tra)), (h_mm, .inr (8, (mo136 v_mm (.ref h_nv) (.ref h_nn) (.ref h_na) (.ref h_nb) (.ref h_nc) (.ref h_bto) (.ref h_bin) (.ref h_tra) (.int x_mm_trailed) (.int z214) (.int z215)))), (h_nv, .inl (cy_nv, 8000, .inl f_nv)), (h_na, .inl (cy_na, 8000, .inl f_na)), (h_nb, .inl (cy_nb, 8000, .inl f_nb)), (h_nc, .inl (cy_nc, 8000, .inl f_nc)), (h_bto, .inl (cy_bto, 256, .inl f_bto)), (h_bin, .inl (cy_bin, 256, .inl f_bin))] H := hP
        replace hD : va_D A [(h_nn, .inl (cy_nn, 8000, .inr (.inl f_nn))), (h_tra, .inl (cy_tra, 256, .inl f_tra)), (h_mm, .inr (8, (mo136 v_mm (.ref h_nv) (.ref h_nn) (.ref h_na) (.ref h_nb) (.ref h_nc) (.ref h_bto) (.ref h_bin) (.ref h_tra) (.int x_mm_trailed) (.int z214) (.int z215)))), (h_nv, .inl (cy_nv, 8000, .inl f_nv)), (h_na, .inl (cy_na, 8000, .inl f_na)), (h_nb, .inl (cy_nb, 8000, .inl f_nb)), (h_nc, .inl (cy_nc, 8000, .inl f_nc)), (h_bto, .inl (cy_bto, 256, .inl f_bto)), (h_bin, .inl (cy_bin, 256, .inl f_bin))] := hD
        clear evq212 
        obtain ⟨k216, k217, k218, k219, k220⟩ := hq
        replace k216 : 0 ≤ ((z214)).toInt ∧ ((z214)).toInt ≤ 7999 := k216
        replace k217 : 0 ≤ ((z215)).toInt ∧ ((z215)).toInt ≤ 31 := k217
        replace k218 : 0 ≤ (r213).toInt ∧ (r213).toInt ≤ 1 := k218
        replace k219 : ((r213)).toInt = 1 ∨ NR f_nv f_na f_nb f_nc f_bto f_bin ((z17)).toInt.toNat ((z18)).toInt ((r165)).toInt.toNat := k219
        replace k220 : (((r213)).toInt = 1 ∧ OCC (g) (BDW f_bto f_bin) (PLR (z17) (z18)) ((r165)).toInt.toNat) ∨ (((r213)).toInt = 0 ∧ ¬ OCC (g) (BDW f_bto f_bin) (PLR (z17) (z18)) ((r165)).toInt.toNat) := k220
        refine lv_if_eq (tgt := 99) hx hb dX11_unifies_94 (by decide) (fun c221 => ?_) (fun c221 => ?_)
        · have kc221 := (cv_eq (rfl : (r213).toInt = (r213).toInt) (by decide : (0 : Int32).toInt = 0)).mp c221
          have oc9 := (k220.resolve_left (fun q9 => absurd q9.1 (by omega))).2
          rw [sl9] at oc9
          have tr9 := trl_room (s := (r165).toInt.toNat) hn_trl hf_tra (by omega) (by omega) hb9
          refine lv_aload_n hx hb dX11_unifies_99 rfl (lv_at hl 5 rfl) ?_
          refine lv_iload hx hb dX11_unifies_100 (lv_at hl 0 rfl) ?_
          refine lv_iload hx hb dX11_unifies_102 (lv_at hl 2 rfl) ?_
          refine lv_iload hx hb dX11_unifies_104 (lv_at hl 1 rfl) ?_
          obtain ⟨vq222, evq222⟩ := mq136_135 v_mm (.ref h_nv) (.ref h_nn) (.ref h_na) (.ref h_nb) (.ref h_nc) (.int z214) (.int z215)
          replace hP : va_P (dC, dI) cls [(h_nn, .inl (cy_nn, 8000, .inr (.inl f_nn))), (h_tra, .inl (cy_tra, 256, .inl f_tra)), (h_mm, .inr (8, (mo135 vq222 (.ref h_bto) (.ref h_bin) (.ref h_tra) (.int x_mm_trailed)))), (h_nv, .inl (cy_nv, 8000, .inl f_nv)), (h_na, .inl (cy_na, 8000, .inl f_na)), (h_nb, .inl (cy_nb, 8000, .inl f_nb)), (h_nc, .inl (cy_nc, 8000, .inl f_nc)), (h_bto, .inl (cy_bto, 256, .inl f_bto)), (h_bin, .inl (cy_bin, 256, .inl f_bin))] H := by rw [evq222]; exact hP
          replace hD : va_D A [(h_nn, .inl (cy_nn, 8000, .inr (.inl f_nn))), (h_tra, .inl (cy_tra, 256, .inl f_tra)), (h_mm, .inr (8, (mo135 vq222 (.ref h_bto) (.ref h_bin) (.ref h_tra) (.int x_mm_trailed)))), (h_nv, .inl (cy_nv, 8000, .inl f_nv)), (h_na, .inl (cy_na, 8000, .inl f_na)), (h_nb, .inl (cy_nb, 8000, .inl f_nb)), (h_nc, .inl (cy_nc, 8000, .inl f_nc)), (h_bto, .inl (cy_bto, 256, .inl f_bto)), (h_bin, .inl (cy_bin, 256, .inl f_bin))] := by rw [evq222]; exact hD
          have hPc := hP.sub (ws' := [(h_mm, .inr (8, (mo135 vq222 (.ref h_bto) (.ref h_bin) (.ref h_tra) (.int x_mm_trailed)))), (h_bto, .inl (cy_bto, 256, .inl f_bto)), (h_bin, .inl (cy_bin, 256, .inl f_bin)), (h_tra, .inl (cy_tra, 256, .inl f_tra))]) [2, 7, 8, 1] rfl
          have hDc := hD.sub (ws' := [(h_mm, .inr (8, (mo135 vq222 (.ref h_bto) (.ref h_bin) (.ref h_tra) (.int x_mm_trailed)))), (h_bto, .inl (cy_bto, 256, .inl f_bto)), (h_bin, .inl (cy_bin, 256, .inl f_bin)), (h_tra, .inl (cy_tra, 256, .inl f_tra))]) [2, 7, 8, 1] (by decide) rfl
          have hKc := hK.sub (tys' := [(cy_bto, .int), (cy_bin, .int), (cy_tra, .int)]) [4, 5, 7] rfl
          have hFc := va_free (wc := [(h_mm, .inr (8, (mo135 vq222 (.ref h_bto) (.ref h_bin) (.ref h_tra) (.int x_mm_trailed)))), (h_bto, .inl (cy_bto, 256, .inl f_bto)), (h_bin, .inl (cy_bin, 256, .inl f_bin)), (h_tra, .inl (cy_tra, 256, .inl f_tra))]) hD hS hA [2, 7, 8, 1] rfl
          refine va_callv (va_runV (As := [.int r165, .int z17, .int z18]) (rest := []) ⟨hx, hb, hml, hown, hts⟩ (c_X11_binds l dC dI H.size h_mm h_bto h_bin h_tra vq222 x_mm_trailed cy_bto f_bto cy_bin f_bin cy_tra f_tra r165 z17 z18 (by first | exact hx_mm_trailed | omega) hf_bto hf_bin hf_tra (by omega) (by first | exact k20 | omega) (by first | exact k21 | omega) (by omega)) (cwV 3 hts (gv hT w_m_X11_280 w_instanceMethod_X11_binds ws_sel_X11_binds w_ini_X11 w_code_X11_binds) rfl rfl rfl (by decide +kernel) ⟨(by dsimp only [headSpec]; omega), (by dsimp only [headSpec]; omega)⟩) ⟨pre_blind, va_recv hK hP (ci := 8) (q0 := 2) rfl rfl, pre_of hPc hKc hDc hN⟩ rfl rfl hl.1 rfl (lv_room (Nat.le_of_ble_eq_true rfl)) dX11_unifies_106 ⟨(Nat.le_of_ble_eq_true rfl), (Nat.le_of_ble_eq_true rfl)⟩) hS (fun q _ h => hFc q h) hFc (fun u t H locs ht hvm hq hB hz1 hk1 hS9 => ?_)
          obtain ⟨z224, f225, f226, f227⟩ := u
          obtain ⟨hP1, hD1⟩ := hB
          rw [ht] at hP1
          obtain ⟨hP9, hD9⟩ := va_join (wr := [(h_nn, .inl (cy_nn, 8000, .inr (.inl f_nn))), (h_nv, .inl (cy_nv, 8000, .inl f_nv)), (h_na, .inl (cy_na, 8000, .inl f_na)), (h_nb, .inl (cy_nb, 8000, .inl f_nb)), (h_nc, .inl (cy_nc, 8000, .inl f_nc))]) (w1 := [(h_mm, .inr (8, (mo135 vq222 (.ref h_bto) (.ref h_bin) (.ref h_tra) (.int z224)))), (h_bto, .inl (cy_bto, 256, .inl f225)), (h_bin, .inl (cy_bin, 256, .inl f226)), (h_tra, .inl (cy_tra, 256, .inl f227))]) hP hD [2, 7, 8, 1] [0, 3, 4, 5, 6] rfl rfl (by decide) (by decide) hk1 hFc hP1 hD1
          clear hP hD hS hPc hDc hKc hFc hP1 hD1 hk1 hz1 ht hvm
          have hP : va_P (dC, dI) cls [(h_nn, .inl (cy_nn, 8000, .inr (.inl f_nn))), (h_nv, .inl (cy_nv, 8000, .inl f_nv)), (h_na, .inl (cy_na, 8000, .inl f_na)), (h_nb, .inl (cy_nb, 8000, .inl f_nb)), (h_nc, .inl (cy_nc, 8000, .inl f_nc)), (h_mm, .inr (8, (mo135 vq222 (.ref h_bto) (.ref h_bin) (.ref h_tra) (.int z224)))), (h_bto, .inl (cy_bto, 256, .inl f225)), (h_bin, .inl (cy_bin, 256, .inl f226)), (h_tra, .inl (cy_tra, 256, .inl f227))] H := hP9
          have hD : va_D A [(h_nn, .inl (cy_nn, 8000, .inr (.inl f_nn))), (h_nv, .inl (cy_nv, 8000, .inl f_nv)), (h_na, .inl (cy_na, 8000, .inl f_na)), (h_nb, .inl (cy_nb, 8000, .inl f_nb)), (h_nc, .inl (cy_nc, 8000, .inl f_nc)), (h_mm, .inr (8, (mo135 vq222 (.ref h_bto) (.ref h_bin) (.ref h_tra) (.int z224)))), (h_bto, .inl (cy_bto, 256, .inl f225)), (h_bin, .inl (cy_bin, 256, .inl f226)), (h_tra, .inl (cy_tra, 256, .inl f227))] := hD9
          have hS := hS9
          clear hP9 hD9 hS9
          rw [evq222] at hP hD
          replace hP : va_P (dC, dI) cls [(h_nn, .inl (cy_nn, 8000, .inr (.inl f_nn))), (h_nv, .inl (cy_nv, 8000, .inl f_nv)), (h_na, .inl (cy_na, 8000, .inl f_na)), (h_nb, .inl (cy_nb, 8000, .inl f_nb)), (h_nc, .inl (cy_nc, 8000, .inl f_nc)), (h_mm, .inr (8, (mo136 v_mm (.ref h_nv) (.ref h_nn) (.ref h_na) (.ref h_nb) (.ref h_nc) (.ref h_bto) (.ref h_bin) (.ref h_tra) (.int z224) (.int z214) (.int z215)))), (h_bto, .inl (cy_bto, 256, .inl f225)), (h_bin, .inl (cy_bin, 256, .inl f226)), (h_tra, .inl (cy_tra, 256, .inl f227))] H := hP
          replace hD : va_D A [(h_nn, .inl (cy_nn, 8000, .inr (.inl f_nn))), (h_nv, .inl (cy_nv, 8000, .inl f_nv)), (h_na, .inl (cy_na, 8000, .inl f_na)), (h_nb, .inl (cy_nb, 8000, .inl f_nb)), (h_nc, .inl (cy_nc, 8000, .inl f_nc)), (h_mm, .inr (8, (mo136 v_mm (.ref h_nv) (.ref h_nn) (.ref h_na) (.ref h_nb) (.ref h_nc) (.ref h_bto) (.ref h_bin) (.ref h_tra) (.int z224) (.int z214) (.int z215)))), (h_bto, .inl (cy_bto, 256, .inl f225)), (h_bin, .inl (cy_bin, 256, .inl f226)), (h_tra, .inl (cy_tra, 256, .inl f227))] := hD
          clear evq222 
          obtain ⟨k228, hf225, hf226, hf227, k229, k230⟩ := hq
          replace k228 : 0 ≤ ((z224)).toInt ∧ ((z224)).toInt ≤ 256 := k228
          replace hf225 : Rg (-1) 7999 (f225) := hf225
          replace hf226 : Rg 0 31 (f226) := hf226
          replace hf227 : Rg 0 255 (f227) := hf227
          replace k229 : ((z224)).toInt = ((x_mm_trailed)).toInt + 1 := k229
          replace k230 : (f225) = upd f_bto (Int32.toNatClampNeg (r165)) (z17) ∧ (f226) = upd f_bin (Int32.toNatClampNeg (r165)) (z18) ∧ (f227) = upd f_tra (Int32.toNatClampNeg (x_mm_trailed)) (r165) := k230
          obtain ⟨eb9, ei9, et9⟩ := k230
          have cs9 := clamp_nat (i := r165) (by omega)
          have bi9 : BI i0 i1 N hz f_nv f_na f_nb f_nc f225 f226 := by rw [eb9, ei9, cs9]; exact bi_bind hn_bi hf_nv hb9 ((k219).resolve_left (by omega)) (by omega) (by omega) (by omega)
          have tl9 : TRL ((x_mm_trailed).toInt + 1) f227 f225 := by rw [et9, eb9]; exact trl_bind hn_trl rfl (by omega) (by omega) (by rw [cs9]; exact hb9) (by omega)
          have gr9 : GRW (x_mm_trailed).toInt ((x_mm_trailed).toInt + 1) f_bto f_bin f_tra f225 f226 f227 := by rw [et9, eb9, ei9]; exact gr_bind rfl (by omega) (by omega) (by rw [cs9]; exact hb9)
          have bw9 : BDW f225 f226 = bst (BDW f_bto f_bin) (g.2.1 (PLR z3 z4)) (PLR z17 z18) := by rw [← sl9, ← cs9]; exact bdw_upd eb9 ei9 (by omega) (by omega)
          refine lv_iconst (v := 1) hx hb dX11_unifies_109 (by decide) ?_
          replace hP : va_P (dC, dI) cls [(h_mm, .inr (8, (mo136 v_mm (.ref h_nv) (.ref h_nn) (.ref h_na) (.ref h_nb) (.ref h_nc) (.ref h_bto) (.ref h_bin) (.ref h_tra) (.int z224) (.int z214) (.int z215)))), (h_nv, .inl (cy_nv, 8000, .inl f_nv)), (h_na, .inl (cy_na, 8000, .inl f_na)), (h_nb, .inl (cy_nb, 8000, .inl f_nb)), (h_nc, .inl (cy_nc, 8000, .inl f_nc)), (h_bto, .inl (cy_bto, 256, .inl f225)), (h_bin, .inl (cy_bin, 256, .inl f226)), (h_nn, .inl (cy_nn, 8000, .inr (.inl f_nn))), (h_tra, .inl (cy_tra, 256, .inl f227))] H := hP.sub [5, 1, 2, 3, 4, 6, 7, 0, 8] rfl
          replace hD : va_D A [(h_mm, .inr (8, (mo136 v_mm (.ref h_nv) (.ref h_nn) (.ref h_na) (.ref h_nb) (.ref h_nc) (.ref h_bto) (.ref h_bin) (.ref h_tra) (.int z224) (.int z214) (.int z215)))), (h_nv, .inl (cy_nv, 8000, .inl f_nv)), (h_na, .inl (cy_na, 8000, .inl f_na)), (h_nb, .inl (cy_nb, 8000, .inl f_nb)), (h_nc, .inl (cy_nc, 8000, .inl f_nc)), (h_bto, .inl (cy_bto, 256, .inl f225)), (h_bin, .inl (cy_bin, 256, .inl f226)), (h_nn, .inl (cy_nn, 8000, .inr (.inl f_nn))), (h_tra, .inl (cy_tra, 256, .inl f227))] := hD.sub [5, 1, 2, 3, 4, 6, 7, 0, 8] (by decide) rfl
          refine W.widen (k := 0) (n := 0) (Nat.le_of_ble_eq_true rfl) (Nat.le_of_ble_eq_true rfl) ?_
          have cst1 : (1 : Int32).toInt = 1 := by decide
          have w231 : 0 ≤ ((z224)).toInt ∧ ((z224)).toInt ≤ 256 := by first | exact k228 | omega
          have w232 : 0 ≤ ((z214)).toInt ∧ ((z214)).toInt ≤ 7999 := by first | exact k216 | omega
          have w233 : 0 ≤ ((z215)).toInt ∧ ((z215)).toInt ≤ 31 := by first | exact k217 | omega
          have w234 : 0 ≤ (1 : Int32).toInt ∧ (1 : Int32).toInt ≤ 1 := by omega
          have w235 : BI i0 i1 N hz f_nv f_na f_nb f_nc (f225) (f226) := bi9
          have w236 : TRL ((z224)).toInt (f227) (f225) := (trl_cast tl9 (by omega))
          have w237 : GRW (x_mm_trailed).toInt ((z224)).toInt f_bto f_bin f_tra (f225) (f226) (f227) := (gr_cast gr9 (by omega) (by omega))
          have w238 : GHI f_bto f_bin (f225) (f226) := (ghi_bind eb9 ei9 (by omega))
          have w239 : UNX g (BDW f_bto f_bin) (BDW (f225) (f226)) (PLR p1 p2) (PLR p3 p4) ((1 : Int32)).toInt := (unx_bind1 k14 k28 (by rw [gv9a]; omega) ns9 oc9 bw9 (by decide))
          exact W.zret (v := 1) (ty := .boolean) hx hb hr (by decide) (fun t ht hW => ⟨⟨1, (z224, z214, z215, f225, f226, f227), rfl, ⟨w231, w232, w233, hf225, hf226, hf227, w234, w235, w236, w237, w238, w239⟩, by rw [ht]; exact hP, hD⟩, hS.F ht⟩) hS.2.2 dX11_unifies_110
        · have kc221 := (not_congr (cv_eq (rfl : (r213).toInt = (r213).toInt) (by decide : (0 : Int32).toInt = 0))).mp c221
          have oc9 := (k220.resolve_right (fun q9 => absurd q9.1 (by omega))).2
          rw [sl9] at oc9
          refine lv_iconst (v := 0) hx hb dX11_unifies_97 (by decide) ?_
          replace hP : va_P (dC, dI) cls [(h_mm, .inr (8, (mo136 v_mm (.ref h_nv) (.ref h_nn) (.ref h_na) (.ref h_nb) (.ref h_nc) (.ref h_bto) (.ref h_bin) (.ref h_tra) (.int x_mm_trailed) (.int z214) (.int z215)))), (h_nv, .inl (cy_nv, 8000, .inl f_nv)), (h_na, .inl (cy_na, 8000, .inl f_na)), (h_nb, .inl (cy_nb, 8000, .inl f_nb)), (h_nc, .inl (cy_nc, 8000, .inl f_nc)), (h_bto, .inl (cy_bto, 256, .inl f_bto)), (h_bin, .inl (cy_bin, 256, .inl f_bin)), (h_nn, .inl (cy_nn, 8000, .inr (.inl f_nn))), (h_tra, .inl (cy_tra, 256, .inl f_tra))] H := hP.sub [2, 3, 4, 5, 6, 7, 8, 0, 1] rfl
          replace hD : va_D A [(h_mm, .inr (8, (mo136 v_mm (.ref h_nv) (.ref h_nn) (.ref h_na) (.ref h_nb) (.ref h_nc) (.ref h_bto) (.ref h_bin) (.ref h_tra) (.int x_mm_trailed) (.int z214) (.int z215)))), (h_nv, .inl (cy_nv, 8000, .inl f_nv)), (h_na, .inl (cy_na, 8000, .inl f_na)), (h_nb, .inl (cy_nb, 8000, .inl f_nb)), (h_nc, .inl (cy_nc, 8000, .inl f_nc)), (h_bto, .inl (cy_bto, 256, .inl f_bto)), (h_bin, .inl (cy_bin, 256, .inl f_bin)), (h_nn, .inl (cy_nn, 8000, .inr (.inl f_nn))), (h_tra, .inl (cy_tra, 256, .inl f_tra))] := hD.sub [2, 3, 4, 5, 6, 7, 8, 0, 1] (by decide) rfl
          refine W.widen (k := 0) (n := 0) (Nat.le_of_ble_eq_true rfl) (Nat.le_of_ble_eq_true rfl) ?_
          have cst0 : (0 : Int32).toInt = 0 := by decide
          have w240 : 0 ≤ ((x_mm_trailed)).toInt ∧ ((x_mm_trailed)).toInt ≤ 256 := by first | exact hx_mm_trailed | omega
          have w241 : 0 ≤ ((z214)).toInt ∧ ((z214)).toInt ≤ 7999 := by first | exact k216 | omega
          have w242 : 0 ≤ ((z215)).toInt ∧ ((z215)).toInt ≤ 31 := by first | exact k217 | omega
          have w243 : 0 ≤ (0 : Int32).toInt ∧ (0 : Int32).toInt ≤ 1 := by omega
          have w244 : BI i0 i1 N hz f_nv f_na f_nb f_nc (f_bto) (f_bin) := hn_bi
          have w245 : TRL ((x_mm_trailed)).toInt (f_tra) (f_bto) := (trl_cast hn_trl (by omega))
          have w246 : GRW (x_mm_trailed).toInt ((x_mm_trailed)).toInt f_bto f_bin f_tra (f_bto) (f_bin) (f_tra) := (gr_cast gr0 (by omega) (by omega))
          have w247 : GHI f_bto f_bin (f_bto) (f_bin) := ghi_rf
          have w248 : UNX g (BDW f_bto f_bin) (BDW (f_bto) (f_bin)) (PLR p1 p2) (PLR p3 p4) ((0 : Int32)).toInt := (unx_occ1 k14 k28 (by rw [gv9a]; omega) ns9 oc9 (by decide))
          exact W.zret (v := 0) (ty := .boolean) hx hb hr (by decide) (fun t ht hW => ⟨⟨0, (x_mm_trailed, z214, z215, f_bto, f_bin, f_tra), rfl, ⟨w240, w241, w242, hf_bto, hf_bin, hf_tra, w243, w244, w245, w246, w247, w248⟩, by rw [ht]; exact hP, hD⟩, hS.F ht⟩) hS.2.2 dX11_unifies_98
      · have kc211 := (cv_eq (rfl : (r208).toInt = (r208).toInt) (rfl : (r165).toInt = (r165).toInt)).mp c211
        have hvz168 : (f_nv (z17).toInt.toNat).toInt = (z168).toInt := by rw [ez168, (clamp_nat (i := z17) (by omega))]
        have gv9b := grv_v (i := z18) hn_grv (show 0 ≤ (z17).toInt ∧ (z17).toInt < 8000 by omega)
        have gc9b := grv_c (i := z18) hn_grv (show 0 ≤ (z17).toInt ∧ (z17).toInt < 8000 by omega) (by omega) (by omega)
        refine lv_iconst (v := 1) hx hb dX11_unifies_82 (by decide) ?_
        replace hP : va_P (dC, dI) cls [(h_mm, .inr (8, (mo136 v_mm (.ref h_nv) (.ref h_nn) (.ref h_na) (.ref h_nb) (.ref h_nc) (.ref h_bto) (.ref h_bin) (.ref h_tra) (.int x_mm_trailed) (.int z17) (.int z18)))), (h_nv, .inl (cy_nv, 8000, .inl f_nv)), (h_na, .inl (cy_na, 8000, .inl f_na)), (h_nb, .inl (cy_nb, 8000, .inl f_nb)), (h_nc, .inl (cy_nc, 8000, .inl f_nc)), (h_bto, .inl (cy_bto, 256, .inl f_bto)), (h_bin, .inl (cy_bin, 256, .inl f_bin)), (h_nn, .inl (cy_nn, 8000, .inr (.inl f_nn))), (h_tra, .inl (cy_tra, 256, .inl f_tra))] H := hP.sub [7, 8, 2, 3, 4, 5, 6, 0, 1] rfl
        replace hD : va_D A [(h_mm, .inr (8, (mo136 v_mm (.ref h_nv) (.ref h_nn) (.ref h_na) (.ref h_nb) (.ref h_nc) (.ref h_bto) (.ref h_bin) (.ref h_tra) (.int x_mm_trailed) (.int z17) (.int z18)))), (h_nv, .inl (cy_nv, 8000, .inl f_nv)), (h_na, .inl (cy_na, 8000, .inl f_na)), (h_nb, .inl (cy_nb, 8000, .inl f_nb)), (h_nc, .inl (cy_nc, 8000, .inl f_nc)), (h_bto, .inl (cy_bto, 256, .inl f_bto)), (h_bin, .inl (cy_bin, 256, .inl f_bin)), (h_nn, .inl (cy_nn, 8000, .inr (.inl f_nn))), (h_tra, .inl (cy_tra, 256, .inl f_tra))] := hD.sub [7, 8, 2, 3, 4, 5, 6, 0, 1] (by decide) rfl
        refine W.widen (k := 0) (n := 0) (Nat.le_of_ble_eq_true rfl) (Nat.le_of_ble_eq_true rfl) ?_
        have cst1 : (1 : Int32).toInt = 1 := by decide
        have w249 : 0 ≤ ((x_mm_trailed)).toInt ∧ ((x_mm_trailed)).toInt ≤ 256 := by first | exact hx_mm_trailed | omega
        have w250 : 0 ≤ ((z17)).toInt ∧ ((z17)).toInt ≤ 7999 := by first | exact k20 | omega
        have w251 : 0 ≤ ((z18)).toInt ∧ ((z18)).toInt ≤ 31 := by first | exact k21 | omega
        have w252 : 0 ≤ (1 : Int32).toInt ∧ (1 : Int32).toInt ≤ 1 := by omega
        have w253 : BI i0 i1 N hz f_nv f_na f_nb f_nc (f_bto) (f_bin) := hn_bi
        have w254 : TRL ((x_mm_trailed)).toInt (f_tra) (f_bto) := (trl_cast hn_trl (by omega))
        have w255 : GRW (x_mm_trailed).toInt ((x_mm_trailed)).toInt f_bto f_bin f_tra (f_bto) (f_bin) (f_tra) := (gr_cast gr0 (by omega) (by omega))
        have w256 : GHI f_bto f_bin (f_bto) (f_bin) := ghi_rf
        have w257 : UNX g (BDW f_bto f_bin) (BDW (f_bto) (f_bin)) (PLR p1 p2) (PLR p3 p4) ((1 : Int32)).toInt := (unx_same k14 k28 (by rw [gv9a]; omega) (by rw [gv9b]; omega) (by omega) (by decide))
        exact W.zret (v := 1) (ty := .boolean) hx hb hr (by decide) (fun t ht hW => ⟨⟨1, (x_mm_trailed, z17, z18, f_bto, f_bin, f_tra), rfl, ⟨w249, w250, w251, hf_bto, hf_bin, hf_tra, w252, w253, w254, w255, w256, w257⟩, by rw [ht]; exact hP, hD⟩, hS.F ht⟩) hS.2.2 dX11_unifies_83

def K_X11_areAlike (l : Launch) (fu : Nat) : Prop := ∀ (dC : Nat → ClassId) (dI : Nat → Nat → Nat) (sz : Nat) (h_mm : Nat) (h_nv : Nat) (h_na : Nat) (h_nb : Nat) (h_nc : Nat) (h_bto : Nat) (h_bin : Nat) (h_nn : Nat) (v_mm : Nat → Value) (x_mm_goneTo : Int32) (x_mm_goneIn : Int32) (cy_nv : ClassId) (f_nv : Nat → Int32) (cy_na : ClassId) (f_na : Nat → Int32) (cy_nb : ClassId) (f_nb : Nat → Int32) (cy_nc : ClassId) (f_nc : Nat → Int32) (cy_bto : ClassId) (f_bto : Nat → Int32) (cy_bin : ClassId) (f_bin : Nat → Int32) (cy_nn : ClassId) (f_nn : Nat → Int64) (p1 : Int32) (p2 : Int32) (p3 : Int32) (p4 : Int32) (i0 : Int) (i1 : Int) (N : Int) (hz : Nat → Nat) (g : GVT) (P : List Nat) (hx_mm_goneTo : 0 ≤ (x_mm_goneTo).toInt ∧ (x_mm_goneTo).toInt ≤ 7999) (hx_mm_goneIn : 0 ≤ (x_mm_goneIn).toInt ∧ (x_mm_goneIn).toInt ≤ 31) (hf_nv : Rg (-1) 7 f_nv) (hf_na : Rg (-1) 7999 f_na) (hf_nb : Rg (-1) 7999 f_nb) (hf_nc : Rg (-1) 7999 f_nc) (hf_bto : Rg (-1) 7999 f_bto) (hf_bin : Rg 0 31 f_bin) (q0 : 0 ≤ i0 ∧ i0 ≤ i1 ∧ i1 ≤ 31) (q1 : N ≤ 8000) (q2 : 0 ≤ (p1).toInt ∧ (p1).toInt < N) (q3 : i0 ≤ (p2).toInt ∧ (p2).toInt ≤ i1) (q4 : 0 ≤ (p3).toInt ∧ (p3).toInt < N) (q5 : i0 ≤ (p4).toInt ∧ (p4).toInt ≤ i1) (q6 : hz (p1).toInt.toNat + 6 * (256 - (P).length) + 1 ≤ fu) (hn_bi : BI i0 i1 N hz f_nv f_na f_nb f_nc f_bto f_bin) (hn_pa : PA i0 P f_nv f_na f_nb f_nc f_bto f_bin (p1).toInt.toNat (p2).toInt) (hn_grv : GRV g f_nv f_na f_nb f_nc) (hn_grn : GRN g f_nn), Met l yX11_areAlike (Ws yX11_areAlike cX11_areAlike 10 (some .boolean)) (({ frames := fu + 2, cells := 0, slots := 0, locals := 29 * fu + 45 } : Room)) (PRE (dC, dI) cls [(cy_nv, .int), (cy_na, .int), (cy_nb, .int), (cy_nc, .int), (cy_bto, .int), (cy_bin, .int), (cy_nn, .long)] [(h_mm, .inr (8, (mo137 v_mm (.ref h_nv) (.ref h_nn) (.ref h_na) (.ref h_nb) (.ref h_nc) (.ref h_bto) (.ref h_bin) (.int x_mm_goneTo) (.int x_mm_goneIn)))), (h_nv, .inl (cy_nv, 8000, .inl f_nv)), (h_na, .inl (cy_na, 8000, .inl f_na)), (h_nb, .inl (cy_nb, 8000, .inl f_nb)), (h_nc, .inl (cy_nc, 8000, .inl f_nc)), (h_bto, .inl (cy_bto, 256, .inl f_bto)), (h_bin, .inl (cy_bin, 256, .inl f_bin)), (h_nn, .inl (cy_nn, 8000, .inr (.inl f_nn)))] sz [.ref h_mm, .int p1, .int p2, .int p3, .int p4]) (va_Qi (fun (r : Int32) (u : (Int32) × (Int32)) => (0 ≤ (u.1).toInt ∧ (u.1).toInt ≤ 7999) ∧ (0 ≤ (u.2).toInt ∧ (u.2).toInt ≤ 31) ∧ (0 ≤ r.toInt ∧ r.toInt ≤ 1) ∧ (((r).toInt = 1 ∧ ALK g (BDW f_bto f_bin) (PLR p1 p2) (PLR p3 p4)) ∨ ((r).toInt = 0 ∧ ¬ ALK g (BDW f_bto f_bin) (PLR p1 p2) (PLR p3 p4)))) (fun (u : (Int32) × (Int32)) (t : State) => va_P (dC, dI) cls [(h_mm, .inr (8, (mo137 v_mm (.ref h_nv) (.ref h_nn) (.ref h_na) (.ref h_nb) (.ref h_nc) (.ref h_bto) (.ref h_bin) (.int u.1) (.int u.2)))), (h_nv, .inl (cy_nv, 8000, .inl f_nv)), (h_na, .inl (cy_na, 8000, .inl f_na)), (h_nb, .inl (cy_nb, 8000, .inl f_nb)), (h_nc, .inl (cy_nc, 8000, .inl f_nc)), (h_bto, .inl (cy_bto, 256, .inl f_bto)), (h_bin, .inl (cy_bin, 256, .inl f_bin)), (h_nn, .inl (cy_nn, 8000, .inr (.inl f_nn)))] t.heap ∧ va_D (va_A [(h_mm, .inr (8, (mo137 v_mm (.ref h_nv) (.ref h_nn) (.ref h_na) (.ref h_nb) (.ref h_nc) (.ref h_bto) (.ref h_bin) (.int x_mm_goneTo) (.int x_mm_goneIn)))), (h_nv, .inl (cy_nv, 8000, .inl f_nv)), (h_na, .inl (cy_na, 8000, .inl f_na)), (h_nb, .inl (cy_nb, 8000, .inl f_nb)), (h_nc, .inl (cy_nc, 8000, .inl f_nc)), (h_bto, .inl (cy_bto, 256, .inl f_bto)), (h_bin, .inl (cy_bin, 256, .inl f_bin)), (h_nn, .inl (cy_nn, 8000, .inr (.inl f_nn)))] sz) [(h_mm, .inr (8, (mo137 v_mm (.ref h_nv) (.ref h_nn) (.ref h_na) (.ref h_nb) (.ref h_nc) (.ref h_bto) (.ref h_bin) (.int u.1) (.int u.2)))), (h_nv, .inl (cy_nv, 8000, .inl f_nv)), (h_na, .inl (cy_na, 8000, .inl f_na)), (h_nb, .inl (cy_nb, 8000, .inl f_nb)), (h_nc, .inl (cy_nc, 8000, .inl f_nc)), (h_bto, .inl (cy_bto, 256, .inl f_bto)), (h_bin, .inl (cy_bin, 256, .inl f_bin)), (h_nn, .inl (cy_nn, 8000, .inr (.inl f_nn)))]) (va_A [(h_mm, .inr (8, (mo137 v_mm (.ref h_nv) (.ref h_nn) (.ref h_na) (.ref h_nb) (.ref h_nc) (.ref h_bto) (.ref h_bin) (.int x_mm_goneTo) (.int x_mm_goneIn)))), (h_nv, .inl (cy_nv, 8000, .inl f_nv)), (h_na, .inl (cy_na, 8000, .inl f_na)), (h_nb, .inl (cy_nb, 8000, .inl f_nb)), (h_nc, .inl (cy_nc, 8000, .inl f_nc)), (h_bto, .inl (cy_bto, 256, .inl f_bto)), (h_bin, .inl (cy_bin, 256, .inl f_bin)), (h_nn, .inl (cy_nn, 8000, .inr (.inl f_nn)))] sz)) 0 0 (va_A [(h_mm, .inr (8, (mo137 v_mm (.ref h_nv) (.ref h_nn) (.ref h_na) (.ref h_nb) (.ref h_nc) (.ref h_bto) (.ref h_bin) (.int x_mm_goneTo) (.int x_mm_goneIn)))), (h_nv, .inl (cy_nv, 8000, .inl f_nv)), (h_na, .inl (cy_na, 8000, .inl f_na)), (h_nb, .inl (cy_nb, 8000, .inl f_nb)), (h_nc, .inl (cy_nc, 8000, .inl f_nc)), (h_bto, .inl (cy_bto, 256, .inl f_bto)), (h_bin, .inl (cy_bin, 256, .inl f_bin)), (h_nn, .inl (cy_nn, 8000, .inr (.inl f_nn)))] sz)
set_option maxHeartbeats 8000000 in
set_option maxRecDepth 100000 in
theorem c_X11_areAlike (l : Launch) (fu : Nat) : K_X11_areAlike l fu := by
  refine Nat.rec (motive := fun fu => K_X11_areAlike l fu) ?_ ?_ fu
  · intro dC dI sz h_mm h_nv h_na h_nb h_nc h_bto h_bin h_nn v_mm x_mm_goneTo x_mm_goneIn cy_nv f_nv cy_na f_na cy_nb f_nb cy_nc f_nc cy_bto f_bto cy_bin f_bin cy_nn f_nn p1 p2 p3 p4 i0 i1 N hz g P hx_mm_goneTo hx_mm_goneIn hf_nv hf_na hf_nb hf_nc hf_bto hf_bin q0 q1 q2 q3 q4 q5 q6 hn_bi hn_pa hn_grv hn_grn
    have h09 : Nat.zero = 0 := rfl
    exact False.elim (by omega)
  intro fu ihf
  intro dC dI sz h_mm h_nv h_na h_nb h_nc h_bto h_bin h_nn v_mm x_mm_goneTo x_mm_goneIn cy_nv f_nv cy_na f_na cy_nb f_nb cy_nc f_nc cy_bto f_bto cy_bin f_bin cy_nn f_nn p1 p2 p3 p4 i0 i1 N hz g P hx_mm_goneTo hx_mm_goneIn hf_nv hf_na hf_nb hf_nc hf_bto hf_bin q0 q1 q2 q3 q4 q5 q6 hn_bi hn_pa hn_grv hn_grn
  refine Met.ofW (cc := cX11_areAlike) (maxL := 10) (ret := (some .boolean)) (by decide) rfl ?_
  intro p e s m args below meth c s₁ B hml hv
  obtain ⟨rfl, hsz, hP, hK, hD0, hN⟩ := hv
  have hx := B.exec
  have hb := B.bytes
  have hr := B.returns
  have hts := atoms_spec (ws := Ws yX11_areAlike cX11_areAlike 10 (some .boolean)) B.pre
  have hT : ∀ w ∈ WALL, w ∈ Ws yX11_areAlike cX11_areAlike 10 (some .boolean) := fun w h => List.mem_cons_of_mem _ h
  have hw := fun w (h : w ∈ WALL) => hts w (hT w h)
  have hown : s.vm.findClass RX11 = some m.cls := findClass_of_methodNamed B.named
  have hlocks := B.notSynchronized
  subst hsz
  have hD := hD0.self (sz := s.heap.size)
  generalize hAe : va_A [(h_mm, .inr (8, (mo137 v_mm (.ref h_nv) (.ref h_nn) (.ref h_na) (.ref h_nb) (.ref h_nc) (.ref h_bto) (.ref h_bin) (.int x_mm_goneTo) (.int x_mm_goneIn)))), (h_nv, .inl (cy_nv, 8000, .inl f_nv)), (h_na, .inl (cy_na, 8000, .inl f_na)), (h_nb, .inl (cy_nb, 8000, .inl f_nb)), (h_nc, .inl (cy_nc, 8000, .inl f_nc)), (h_bto, .inl (cy_bto, 256, .inl f_bto)), (h_bin, .inl (cy_bin, 256, .inl f_bin)), (h_nn, .inl (cy_nn, 8000, .inr (.inl f_nn)))] s.heap.size = A at hD ⊢
  have hA : ∀ q : Nat, s.heap.size ≤ q → A q := fun q h => by rw [← hAe]; exact Or.inr h
  have hS : va_S A s.heap s.heap [] := va_S.rf
  have hl := lv_entry ([.ref h_mm, .int p1, .int p2, .int p3, .int p4]) (n := 10) (Nat.le_of_ble_eq_true rfl)
  rw [lg_entry_eq]
  generalize (lg_sl ([.ref h_mm, .int p1, .int p2, .int p3, .int p4]) ++ List.replicate (10 - (lg_sl ([.ref h_mm, .int p1, .int p2, .int p3, .int p4])).length) Slot.unset).toArray = ls at hl ⊢
  have hl : lv_has ls 10 [(0, .ref h_mm), (1, .int p1), (2, .int p2), (3, .int p3), (4, .int p4)] := hl
  refine lv_aload_n hx hb dX11_areAlike_0 rfl (lv_at hl 0 rfl) ?_
  refine lv_iload_n hx hb dX11_areAlike_1 rfl (lv_at hl 1 rfl) ?_
  refine lv_iload_n hx hb dX11_areAlike_2 rfl (lv_at hl 2 rfl) ?_
  obtain ⟨vq1, evq1⟩ := mq137_134 v_mm (.ref h_nn)
  replace hP : va_P (dC, dI) cls [(h_mm, .inr (8, (mo134 vq1 (.ref h_nv) (.ref h_na) (.ref h_nb) (.ref h_nc) (.ref h_bto) (.ref h_bin) (.int x_mm_goneTo) (.int x_mm_goneIn)))), (h_nv, .inl (cy_nv, 8000, .inl f_nv)), (h_na, .inl (cy_na, 8000, .inl f_na)), (h_nb, .inl (cy_nb, 8000, .inl f_nb)), (h_nc, .inl (cy_nc, 8000, .inl f_nc)), (h_bto, .inl (cy_bto, 256, .inl f_bto)), (h_bin, .inl (cy_bin, 256, .inl f_bin)), (h_nn, .inl (cy_nn, 8000, .inr (.inl f_nn)))] s.heap := by rw [evq1]; exact hP
  replace hD : va_D A [(h_mm, .inr (8, (mo134 vq1 (.ref h_nv) (.ref h_na) (.ref h_nb) (.ref h_nc) (.ref h_bto) (.ref h_bin) (.int x_mm_goneTo) (.int x_mm_goneIn)))), (h_nv, .inl (cy_nv, 8000, .inl f_nv)), (h_na, .inl (cy_na, 8000, .inl f_na)), (h_nb, .inl (cy_nb, 8000, .inl f_nb)), (h_nc, .inl (cy_nc, 8000, .inl f_nc)), (h_bto, .inl (cy_bto, 256, .inl f_bto)), (h_bin, .inl (cy_bin, 256, .inl f_bin)), (h_nn, .inl (cy_nn, 8000, .inr (.inl f_nn)))] := by rw [evq1]; exact hD
  have hPc := hP.sub (ws' := [(h_mm, .inr (8, (mo134 vq1 (.ref h_nv) (.ref h_na) (.ref h_nb) (.ref h_nc) (.ref h_bto) (.ref h_bin) (.int x_mm_goneTo) (.int x_mm_goneIn)))), (h_nv, .inl (cy_nv, 8000, .inl f_nv)), (h_na, .inl (cy_na, 8000, .inl f_na)), (h_nb, .inl (cy_nb, 8000, .inl f_nb)), (h_nc, .inl (cy_nc, 8000, .inl f_nc)), (h_bto, .inl (cy_bto, 256, .inl f_bto)), (h_bin, .inl (cy_bin, 256, .inl f_bin))]) [0, 1, 2, 3, 4, 5, 6] rfl
  have hDc := hD.sub (ws' := [(h_mm, .inr (8, (mo134 vq1 (.ref h_nv) (.ref h_na) (.ref h_nb) (.ref h_nc) (.ref h_bto) (.ref h_bin) (.int x_mm_goneTo) (.int x_mm_goneIn)))), (h_nv, .inl (cy_nv, 8000, .inl f_nv)), (h_na, .inl (cy_na, 8000, .inl f_na)), (h_nb, .inl (cy_nb, 8000, .inl f_nb)), (h_nc, .inl (cy_nc, 8000, .inl f_nc)), (h_bto, .inl (cy_bto, 256, .inl f_bto)), (h_bin, .inl (cy_bin, 256, .inl f_bin))]) [0, 1, 2, 3, 4, 5, 6] (by decide) rfl
  have hKc := hK.sub (tys' := [(cy_nv, .int), (cy_na, .int), (cy_nb, .int), (cy_nc, .int), (cy_bto, .int), (cy_bin, .int)]) [0, 1, 2, 3, 4, 5] rfl
  have hFc := va_free (wc := [(h_mm, .inr (8, (mo134 vq1 (.ref h_nv) (.ref h_na) (.ref h_nb) (.ref h_nc) (.ref h_bto) (.ref h_bin) (.int x_mm_goneTo) (.int x_mm_goneIn)))), (h_nv, .inl (cy_nv, 8000, .inl f_nv)), (h_na, .inl (cy_na, 8000, .inl f_na)), (h_nb, .inl (cy_nb, 8000, .inl f_nb)), (h_nc, .inl (cy_nc, 8000, .inl f_nc)), (h_bto, .inl (cy_bto, 256, .inl f_bto)), (h_bin, .inl (cy_bin, 256, .inl f_bin))]) hD hS hA [0, 1, 2, 3, 4, 5, 6] rfl
  refine va_callv (va_runV (As := [.int p1, .int p2]) (rest := []) ⟨hx, hb, hml, hown, hts⟩ (c_X11_goesTo l dC dI s.heap.size h_mm h_nv h_na h_nb h_nc h_bto h_bin vq1 x_mm_goneTo x_mm_goneIn cy_nv f_nv cy_na f_na cy_nb f_nb cy_nc f_nc cy_bto f_bto cy_bin f_bin p1 p2 i0 i1 N hz g P (fu + 1) (by first | exact hx_mm_goneTo | omega) (by first | exact hx_mm_goneIn | omega) hf_nv hf_na hf_nb hf_nc hf_bto hf_bin (by first | exact q0 | omega) (by first | exact q1 | omega) (by first | exact q2 | omega) (by first | exact q3 | omega) (by omega) hn_bi hn_pa hn_grv) (cwV 2 hts (gv hT w_m_X11_273 w_instanceMethod_X11_goesTo ws_sel_X11_goesTo w_ini_X11 w_code_X11_goesTo) rfl rfl rfl (by decide +kernel) ⟨(by dsimp only [headSpec]; omega), (by dsimp only [headSpec]; omega)⟩) ⟨pre_blind, va_recv hK hP (ci := 8) (q0 := 0) rfl rfl, pre_of hPc hKc hDc hN⟩ rfl rfl hl.1 rfl (lv_room (Nat.le_of_ble_eq_true rfl)) dX11_areAlike_3 ⟨(Nat.le_of_ble_eq_true rfl), (Nat.le_of_ble_eq_true rfl)⟩) hS (fun q _ h => hFc q h) hFc (fun u t H locs ht hvm hq hB hz1 hk1 hS9 => ?_)
  obtain ⟨z3, z4, z5⟩ := u
  obtain ⟨hP1, hD1⟩ := hB
  rw [ht] at hP1
  obtain ⟨hP9, hD9⟩ := va_join (wr := [(h_nn, .inl (cy_nn, 8000, .inr (.inl f_nn)))]) (w1 := [(h_mm, .inr (8, (mo134 vq1 (.ref h_nv) (.ref h_na) (.ref h_nb) (.ref h_nc) (.ref h_bto) (.ref h_bin) (.int z3) (.int z4)))), (h_nv, .inl (cy_nv, 8000, .inl f_nv)), (h_na, .inl (cy_na, 8000, .inl f_na)), (h_nb, .inl (cy_nb, 8000, .inl f_nb)), (h_nc, .inl (cy_nc, 8000, .inl f_nc)), (h_bto, .inl (cy_bto, 256, .inl f_bto)), (h_bin, .inl (cy_bin, 256, .inl f_bin))]) hP hD [0, 1, 2, 3, 4, 5, 6] [7] rfl rfl (by decide) (by decide) hk1 hFc hP1 hD1
  clear hP hD hS hPc hDc hKc hFc hP1 hD1 hk1 hz1 ht hvm
  have hP : va_P (dC, dI) cls [(h_nn, .inl (cy_nn, 8000, .inr (.inl f_nn))), (h_mm, .inr (8, (mo134 vq1 (.ref h_nv) (.ref h_na) (.ref h_nb) (.ref h_nc) (.ref h_bto) (.ref h_bin) (.int z3) (.int z4)))), (h_nv, .inl (cy_nv, 8000, .inl f_nv)), (h_na, .inl (cy_na, 8000, .inl f_na)), (h_nb, .inl (cy_nb, 8000, .inl f_nb)), (h_nc, .inl (cy_nc, 8000, .inl f_nc)), (h_bto, .inl (cy_bto, 256, .inl f_bto)), (h_bin, .inl (cy_bin, 256, .inl f_bin))] H := hP9
  have hD : va_D A [(h_nn, .inl (cy_nn, 8000, .inr (.inl f_nn))), (h_mm, .inr (8, (mo134 vq1 (.ref h_nv) (.ref h_na) (.ref h_nb) (.ref h_nc) (.ref h_bto) (.ref h_bin) (.int z3) (.int z4)))), (h_nv, .inl (cy_nv, 8000, .inl f_nv)), (h_na, .inl (cy_na, 8000, .inl f_na)), (h_nb, .inl (cy_nb, 8000, .inl f_nb)), (h_nc, .inl (cy_nc, 8000, .inl f_nc)), (h_bto, .inl (cy_bto, 256, .inl f_bto)), (h_bin, .inl (cy_bin, 256, .inl f_bin))] := hD9
  have hS := hS9
  clear hP9 hD9 hS9
  rw [evq1] at hP hD
  replace hP : va_P (dC, dI) cls [(h_nn, .inl (cy_nn, 8000, .inr (.inl f_nn))), (h_mm, .inr (8, (mo137 v_mm (.ref h_nv) (.ref h_nn) (.ref h_na) (.ref h_nb) (.ref h_nc) (.ref h_bto) (.ref h_bin) (.int z3) (.int z4)))), (h_nv, .inl (cy_nv, 8000, .inl f_nv)), (h_na, .inl (cy_na, 8000, .inl f_na)), (h_nb, .inl (cy_nb, 8000, .inl f_nb)), (h_nc, .inl (cy_nc, 8000, .inl f_nc)), (h_bto, .inl (cy_bto, 256, .inl f_bto)), (h_bin, .inl (cy_bin, 256, .inl f_bin))] H := hP
  replace hD : va_D A [(h_nn, .inl (cy_nn, 8000, .inr (.inl f_nn))), (h_mm, .inr (8, (mo137 v_mm (.ref h_nv) (.ref h_nn) (.ref h_na) (.ref h_nb) (.ref h_nc) (.ref h_bto) (.ref h_bin) (.int z3) (.int z4)))), (h_nv, .inl (cy_nv, 8000, .inl f_nv)), (h_na, .inl (cy_na, 8000, .inl f_na)), (h_nb, .inl (cy_nb, 8000, .inl f_nb)), (h_nc, .inl (cy_nc, 8000, .inl f_nc)), (h_bto, .inl (cy_bto, 256, .inl f_bto)), (h_bin, .inl (cy_bin, 256, .inl f_bin))] := hD
  clear evq1 
  obtain ⟨k6, k7, k8, k9, k10, k11, k12, k13, k14⟩ := hq
  replace k6 : 0 ≤ ((z3)).toInt ∧ ((z3)).toInt ≤ 7999 := k6
  replace k7 : 0 ≤ ((z4)).toInt ∧ ((z4)).toInt ≤ 31 := k7
  replace k8 : 0 ≤ ((z3)).toInt ∧ ((z3)).toInt < (N) := k8
  replace k9 : (i0) ≤ ((z4)).toInt ∧ ((z4)).toInt ≤ (i1) := k9
  replace k10 : (hz) ((z3)).toInt.toNat + 6 * (256 - ((z5)).length) + 1 ≤ ((fu + 1)) := k10
  replace k11 : PA (i0) (z5) f_nv f_na f_nb f_nc f_bto f_bin ((z3)).toInt.toNat ((z4)).toInt := k11
  replace k12 : (f_nv ((z3)).toInt.toNat).toInt = -1 ∨ (f_bto (8 * ((z4)).toInt + (f_nv ((z3)).toInt.toNat).toInt).toNat).toInt = -1 := k12
  replace k13 : ∀ tt : Nat, (f_bto tt).toInt = -1 → NR f_nv f_na f_nb f_nc f_bto f_bin ((z3)).toInt.toNat ((z4)).toInt tt → NR f_nv f_na f_nb f_nc f_bto f_bin ((p1)).toInt.toNat ((p2)).toInt tt := k13
  replace k14 : BRE (g) (BDW f_bto f_bin) (PLR (p1) (p2)) (PLR (z3) (z4)) := k14
  refine lv_aload_n hx hb dX11_areAlike_6 rfl (lv_at hl 0 rfl) ?_
  refine va_get (D := (dC, dI)) (ci := 8) (v := .int z3) (C := RX11) (T := TX11) (N := 71) hx hb hw iwX11 hown hK hP 1 rfl rfl 31 (by decide) (hw _ w_f_X11_264) (fun _ h9 => h9) rfl dX11_areAlike_7 ?_
  refine lv_istore (lv' := [(5, .int z3), (0, .ref h_mm), (1, .int p1), (2, .int p2), (3, .int p3), (4, .int p4)]) hx hb dX11_areAlike_10 hl (by decide) rfl (fun ls hl => ?_)
  refine lv_aload_n hx hb dX11_areAlike_12 rfl (lv_at hl 1 rfl) ?_
  refine va_get (D := (dC, dI)) (ci := 8) (v := .int z4) (C := RX11) (T := TX11) (N := 71) hx hb hw iwX11 hown hK hP 1 rfl rfl 32 (by decide) (hw _ w_f_X11_267) (fun _ h9 => h9) rfl dX11_areAlike_13 ?_
  refine lv_istore (lv' := [(6, .int z4), (5, .int z3), (0, .ref h_mm), (1, .int p1), (2, .int p2), (3, .int p3), (4, .int p4)]) hx hb dX11_areAlike_16 hl (by decide) rfl (fun ls hl => ?_)
  have l09 : ([] : List Nat).length = 0 := rfl
  have hh9 := (hn_bi.1 (p3).toInt.toNat (by omega) (by omega)).2.2.2
  refine lv_aload_n hx hb dX11_areAlike_18 rfl (lv_at hl 2 rfl) ?_
  refine lv_iload_n hx hb dX11_areAlike_19 rfl (lv_at hl 5 rfl) ?_
  refine lv_iload hx hb dX11_areAlike_20 (lv_at hl 6 rfl) ?_
  obtain ⟨vq15, evq15⟩ := mq137_134 v_mm (.ref h_nn)
  replace hP : va_P (dC, dI) cls [(h_nn, .inl (cy_nn, 8000, .inr (.inl f_nn))), (h_mm, .inr (8, (mo134 vq15 (.ref h_nv) (.ref h_na) (.ref h_nb) (.ref h_nc) (.ref h_bto) (.ref h_bin) (.int z3) (.int z4)))), (h_nv, .inl (cy_nv, 8000, .inl f_nv)), (h_na, .inl (cy_na, 8000, .inl f_na)), (h_nb, .inl (cy_nb, 8000, .inl f_nb)), (h_nc, .inl (cy_nc, 8000, .inl f_nc)), (h_bto, .inl (cy_bto, 256, .inl f_bto)), (h_bin, .inl (cy_bin, 256, .inl f_bin))] H := by rw [evq15]; exact hP
  replace hD : va_D A [(h_nn, .inl (cy_nn, 8000, .inr (.inl f_nn))), (h_mm, .inr (8, (mo134 vq15 (.ref h_nv) (.ref h_na) (.ref h_nb) (.ref h_nc) (.ref h_bto) (.ref h_bin) (.int z3) (.int z4)))), (h_nv, .inl (cy_nv, 8000, .inl f_nv)), (h_na, .inl (cy_na, 8000, .inl f_na)), (h_nb, .inl (cy_nb, 8000, .inl f_nb)), (h_nc, .inl (cy_nc, 8000, .inl f_nc)), (h_bto, .inl (cy_bto, 256, .inl f_bto)), (h_bin, .inl (cy_bin, 256, .inl f_bin))] := by rw [evq15]; exact hD
  have hPc := hP.sub (ws' := [(h_mm, .inr (8, (mo134 vq15 (.ref h_nv) (.ref h_na) (.ref h_nb) (.ref h_nc) (.ref h_bto) (.ref h_bin) (.int z3) (.int z4)))), (h_nv, .inl (cy_nv, 8000, .inl f_nv)), (h_na, .inl (cy_na, 8000, .inl f_na)), (h_nb, .inl (cy_nb, 8000, .inl f_nb)), (h_nc, .inl (cy_nc, 8000, .inl f_nc)), (h_bto, .inl (cy_bto, 256, .inl f_bto)), (h_bin, .inl (cy_bin, 256, .inl f_bin))]) [1, 2, 3, 4, 5, 6, 7] rfl
  have hDc := hD.sub (ws' := [(h_mm, .inr (8, (mo134 vq15 (.ref h_nv) (.ref h_na) (.ref h_nb) (.ref h_nc) (.ref h_bto) (.ref h_bin) (.int z3) (.int z4)))), (h_nv, .inl (cy_nv, 8000, .inl f_nv)), (h_na, .inl (cy_na, 8000, .inl f_na)), (h_nb, .inl (cy_nb, 8000, .inl f_nb)), (h_nc, .inl (cy_nc, 8000, .inl f_nc)), (h_bto, .inl (cy_bto, 256, .inl f_bto)), (h_bin, .inl (cy_bin, 256, .inl f_bin))]) [1, 2, 3, 4, 5, 6, 7] (by decide) rfl
  have hKc := hK.sub (tys' := [(cy_nv, .int), (cy_na, .int), (cy_nb, .int), (cy_nc, .int), (cy_bto, .int), (cy_bin, .int)]) [0, 1, 2, 3, 4, 5] rfl
  have hFc := va_free (wc := [(h_mm, .inr (8, (mo134 vq15 (.ref h_nv) (.ref h_na) (.ref h_nb) (.ref h_nc) (.ref h_bto) (.ref h_bin) (.int z3) (.int z4)))), (h_nv, .inl (cy_nv, 8000, .inl f_nv)), (h_na, .inl (cy_na, 8000, .inl f_na)), (h_nb, .inl (cy_nb, 8000, .inl f_nb)), (h_nc, .inl (cy_nc, 8000, .inl f_nc)), (h_bto, .inl (cy_bto, 256, .inl f_bto)), (h_bin, .inl (cy_bin, 256, .inl f_bin))]) hD hS hA [1, 2, 3, 4, 5, 6, 7] rfl
  refine va_callv (va_runV (As := [.int p3, .int p4]) (rest := []) ⟨hx, hb, hml, hown, hts⟩ (c_X11_goesTo l dC dI H.size h_mm h_nv h_na h_nb h_nc h_bto h_bin vq15 z3 z4 cy_nv f_nv cy_na f_na cy_nb f_nb cy_nc f_nc cy_bto f_bto cy_bin f_bin p3 p4 i0 i1 N hz g ([]) 1544 (by first | exact k6 | omega) (by first | exact k7 | omega) hf_nv hf_na hf_nb hf_nc hf_bto hf_bin (by first | exact q0 | omega) (by first | exact q1 | omega) (by first | exact q4 | omega) (by first | exact q5 | omega) (by omega) hn_bi pa_nil hn_grv) (cwV 2 hts (gv hT w_m_X11_273 w_instanceMethod_X11_goesTo ws_sel_X11_goesTo w_ini_X11 w_code_X11_goesTo) rfl rfl rfl (by decide +kernel) ⟨(by dsimp only [headSpec]; omega), (by dsimp only [headSpec]; omega)⟩) ⟨pre_blind, va_recv hK hP (ci := 8) (q0 := 1) rfl rfl, pre_of hPc hKc hDc hN⟩ rfl rfl hl.1 rfl (lv_room (Nat.le_of_ble_eq_true rfl)) dX11_areAlike_22 ⟨(Nat.le_of_ble_eq_true rfl), (Nat.le_of_ble_eq_true rfl)⟩) hS (fun q _ h => hFc q h) hFc (fun u t H locs ht hvm hq hB hz1 hk1 hS9 => ?_)
  obtain ⟨z17, z18, z19⟩ := u
  obtain ⟨hP1, hD1⟩ := hB
  rw [ht] at hP1
  obtain ⟨hP9, hD9⟩ := va_join (wr := [(h_nn, .inl (cy_nn, 8000, .inr (.inl f_nn)))]) (w1 := [(h_mm, .inr (8, (mo134 vq15 (.ref h_nv) (.ref h_na) (.ref h_nb) (.ref h_nc) (.ref h_bto) (.ref h_bin) (.int z17) (.int z18)))), (h_nv, .inl (cy_nv, 8000, .inl f_nv)), (h_na, .inl (cy_na, 8000, .inl f_na)), (h_nb, .inl (cy_nb, 8000, .inl f_nb)), (h_nc, .inl (cy_nc, 8000, .inl f_nc)), (h_bto, .inl (cy_bto, 256, .inl f_bto)), (h_bin, .inl (cy_bin, 256, .inl f_bin))]) hP hD [1, 2, 3, 4, 5, 6, 7] [0] rfl rfl (by decide) (by decide) hk1 hFc hP1 hD1
  clear hP hD hS hPc hDc hKc hFc hP1 hD1 hk1 hz1 ht hvm
  have hP : va_P (dC, dI) cls [(h_nn, .inl (cy_nn, 8000, .inr (.inl f_nn))), (h_mm, .inr (8, (mo134 vq15 (.ref h_nv) (.ref h_na) (.ref h_nb) (.ref h_nc) (.ref h_bto) (.ref h_bin) (.int z17) (.int z18)))), (h_nv, .inl (cy_nv, 8000, .inl f_nv)), (h_na, .inl (cy_na, 8000, .inl f_na)), (h_nb, .inl (cy_nb, 8000, .inl f_nb)), (h_nc, .inl (cy_nc, 8000, .inl f_nc)), (h_bto, .inl (cy_bto, 256, .inl f_bto)), (h_bin, .inl (cy_bin, 256, .inl f_bin))] H := hP9
  have hD : va_D A [(h_nn, .inl (cy_nn, 8000, .inr (.inl f_nn))), (h_mm, .inr (8, (mo134 vq15 (.ref h_nv) (.ref h_na) (.ref h_nb) (.ref h_nc) (.ref h_bto) (.ref h_bin) (.int z17) (.int z18)))), (h_nv, .inl (cy_nv, 8000, .inl f_nv)), (h_na, .inl (cy_na, 8000, .inl f_na)), (h_nb, .inl (cy_nb, 8000, .inl f_nb)), (h_nc, .inl (cy_nc, 8000, .inl f_nc)), (h_bto, .inl (cy_bto, 256, .inl f_bto)), (h_bin, .inl (cy_bin, 256, .inl f_bin))] := hD9
  have hS := hS9
  clear hP9 hD9 hS9
  rw [evq15] at hP hD
  replace hP : va_P (dC, dI) cls [(h_nn, .inl (cy_nn, 8000, .inr (.inl f_nn))), (h_mm, .inr (8, (mo137 v_mm (.ref h_nv) (.ref h_nn) (.ref h_na) (.ref h_nb) (.ref h_nc) (.ref h_bto) (.ref h_bin) (.int z17) (.int z18)))), (h_nv, .inl (cy_nv, 8000, .inl f_nv)), (h_na, .inl (cy_na, 8000, .inl f_na)), (h_nb, .inl (cy_nb, 8000, .inl f_nb)), (h_nc, .inl (cy_nc, 8000, .inl f_nc)), (h_bto, .inl (cy_bto, 256, .inl f_bto)), (h_bin, .inl (cy_bin, 256, .inl f_bin))] H := hP
  replace hD : va_D A [(h_nn, .inl (cy_nn, 8000, .inr (.inl f_nn))), (h_mm, .inr (8, (mo137 v_mm (.ref h_nv) (.ref h_nn) (.ref h_na) (.ref h_nb) (.ref h_nc) (.ref h_bto) (.ref h_bin) (.int z17) (.int z18)))), (h_nv, .inl (cy_nv, 8000, .inl f_nv)), (h_na, .inl (cy_na, 8000, .inl f_na)), (h_nb, .inl (cy_nb, 8000, .inl f_nb)), (h_nc, .inl (cy_nc, 8000, .inl f_nc)), (h_bto, .inl (cy_bto, 256, .inl f_bto)), (h_bin, .inl (cy_bin, 256, .inl f_bin))] := hD
  clear evq15 
  obtain ⟨k20, k21, k22, k23, k24, k25, k26, k27, k28⟩ := hq
  replace k20 : 0 ≤ ((z17)).toInt ∧ ((z17)).toInt ≤ 7999 := k20
  replace k21 : 0 ≤ ((z18)).toInt ∧ ((z18)).toInt ≤ 31 := k21
  replace k22 : 0 ≤ ((z17)).toInt ∧ ((z17)).toInt < (N) := k22
  replace k23 : (i0) ≤ ((z18)).toInt ∧ ((z18)).toInt ≤ (i1) := k23
  replace k24 : (hz) ((z17)).toInt.toNat + 6 * (256 - ((z19)).length) + 1 ≤ (1544 : Nat) := k24
  replace k25 : PA (i0) (z19) f_nv f_na f_nb f_nc f_bto f_bin ((z17)).toInt.toNat ((z18)).toInt := k25
  replace k26 : (f_nv ((z17)).toInt.toNat).toInt = -1 ∨ (f_bto (8 * ((z18)).toInt + (f_nv ((z17)).toInt.toNat).toInt).toNat).toInt = -1 := k26
  replace k27 : ∀ tt : Nat, (f_bto tt).toInt = -1 → NR f_nv f_na f_nb f_nc f_bto f_bin ((z17)).toInt.toNat ((z18)).toInt tt → NR f_nv f_na f_nb f_nc f_bto f_bin ((p3)).toInt.toNat ((p4)).toInt tt := k27
  replace k28 : BRE (g) (BDW f_bto f_bin) (PLR (p3) (p4)) (PLR (z17) (z18)) := k28
  refine lv_aload_n hx hb dX11_areAlike_25 rfl (lv_at hl 2 rfl) ?_
  refine va_get (D := (dC, dI)) (ci := 8) (v := .int z17) (C := RX11) (T := TX11) (N := 71) hx hb hw iwX11 hown hK hP 1 rfl rfl 31 (by decide) (hw _ w_f_X11_264) (fun _ h9 => h9) rfl dX11_areAlike_26 ?_
  refine lv_istore (lv' := [(7, .int z17), (6, .int z4), (5, .int z3), (0, .ref h_mm), (1, .int p1), (2, .int p2), (3, .int p3), (4, .int p4)]) hx hb dX11_areAlike_29 hl (by decide) rfl (fun ls hl => ?_)
  refine lv_aload_n hx hb dX11_areAlike_31 rfl (lv_at hl 3 rfl) ?_
  refine va_get (D := (dC, dI)) (ci := 8) (v := .int z18) (C := RX11) (T := TX11) (N := 71) hx hb hw iwX11 hown hK hP 1 rfl rfl 32 (by decide) (hw _ w_f_X11_267) (fun _ h9 => h9) rfl dX11_areAlike_32 ?_
  refine lv_istore (lv' := [(8, .int z18), (7, .int z17), (6, .int z4), (5, .int z3), (0, .ref h_mm), (1, .int p1), (2, .int p2), (3, .int p3), (4, .int p4)]) hx hb dX11_areAlike_35 hl (by decide) rfl (fun ls hl => ?_)
  refine lv_aload_n hx hb dX11_areAlike_37 rfl (lv_at hl 4 rfl) ?_
  refine va_get (D := (dC, dI)) (ci := 8) (v := .ref h_nv) (C := RX11) (T := TX11) (N := 71) hx hb hw iwX11 hown hK hP 1 rfl rfl 1 (by decide) (hw _ w_f_X11_17) (fun _ h9 => h9) rfl dX11_areAlike_38 ?_
  refine lv_iload hx hb dX11_areAlike_41 (lv_at hl 3 rfl) ?_
  refine va_iald hx hb hK hP 2 0 rfl rfl (i := z3) (vp_in_iff.mpr (by omega)) dX11_areAlike_43 ?_
  refine lv_topi (fun z29 ez29 => ?_)
  have rz29 : -1 ≤ (z29).toInt ∧ (z29).toInt ≤ 7 := by rw [ez29]; exact hf_nv _
  refine lv_iconst (v := (-1)) hx hb dX11_areAlike_44 (by decide) ?_
  refine lv_icmp_ne (tgt := 59) hx hb dX11_areAlike_45 (by decide) (fun c30 => ?_) (fun c30 => ?_)
  · have kc30 := (not_congr (cv_eq (rfl : (z29).toInt = (z29).toInt) (by decide : ((-1) : Int32).toInt = -1))).mp c30
    refine lv_aload_n hx hb dX11_areAlike_59 rfl (lv_at hl 4 rfl) ?_
    refine va_get (D := (dC, dI)) (ci := 8) (v := .ref h_nv) (C := RX11) (T := TX11) (N := 71) hx hb hw iwX11 hown hK hP 1 rfl rfl 1 (by decide) (hw _ w_f_X11_17) (fun _ h9 => h9) rfl dX11_areAlike_60 ?_
    refine lv_iload hx hb dX11_areAlike_63 (lv_at hl 3 rfl) ?_
    refine va_iald hx hb hK hP 2 0 rfl rfl (i := z3) (vp_in_iff.mpr (by omega)) dX11_areAlike_65 ?_
    refine lv_topi (fun z31 ez31 => ?_)
    have qz31 : (z31).toInt = (z29).toInt := by rw [ez31, ez29]
    have rz31 : -1 ≤ (z31).toInt ∧ (z31).toInt ≤ 7 := by rw [ez31]; exact hf_nv _
    refine lv_iconst (v := (-1)) hx hb dX11_areAlike_66 (by decide) ?_
    refine lv_icmp_eq (tgt := 104) hx hb dX11_areAlike_67 (by decide) (fun c32 => False.elim (by have kc32 := (cv_eq (rfl : (z31).toInt = (z31).toInt) (by decide : ((-1) : Int32).toInt = -1)).mp c32; omega)) (fun _ => ?_)
    refine lv_aload_n hx hb dX11_areAlike_70 rfl (lv_at hl 4 rfl) ?_
    refine va_get (D := (dC, dI)) (ci := 8) (v := .ref h_nv) (C := RX11) (T := TX11) (N := 71) hx hb hw iwX11 hown hK hP 1 rfl rfl 1 (by decide) (hw _ w_f_X11_17) (fun _ h9 => h9) rfl dX11_areAlike_71 ?_
    refine lv_iload hx hb dX11_areAlike_74 (lv_at hl 1 rfl) ?_
    refine va_iald hx hb hK hP 2 0 rfl rfl (i := z17) (vp_in_iff.mpr (by omega)) dX11_areAlike_76 ?_
    refine lv_topi (fun z33 ez33 => ?_)
    have rz33 : -1 ≤ (z33).toInt ∧ (z33).toInt ≤ 7 := by rw [ez33]; exact hf_nv _
    refine lv_iconst (v := (-1)) hx hb dX11_areAlike_77 (by decide) ?_
    refine lv_icmp_eq (tgt := 104) hx hb dX11_areAlike_78 (by decide) (fun c34 => ?_) (fun c34 => ?_)
    · have kc34 := (cv_eq (rfl : (z33).toInt = (z33).toInt) (by decide : ((-1) : Int32).toInt = -1)).mp c34
      have hvz29 : (f_nv (z3).toInt.toNat).toInt = (z29).toInt := by rw [ez29, (clamp_nat (i := z3) (by omega))]
      have hvz33 : (f_nv (z17).toInt.toNat).toInt = (z33).toInt := by rw [ez33, (clamp_nat (i := z17) (by omega))]
      have gv9a := grv_v (i := z4) hn_grv (show 0 ≤ (z3).toInt ∧ (z3).toInt < 8000 by omega)
      have gv9b := grv_v (i := z18) hn_grv (show 0 ≤ (z17).toInt ∧ (z17).toInt < 8000 by omega)
      have nm9 : ¬ ((0 ≤ g.1 (PLR z3 z4) ∧ 0 ≤ g.1 (PLR z17 z18) ∧ g.2.1 (PLR z3 z4) = g.2.1 (PLR z17 z18)) ∨ (¬ 0 ≤ g.1 (PLR z3 z4) ∧ ¬ 0 ≤ g.1 (PLR z17 z18) ∧ g.2.2.1 (PLR z3 z4) = g.2.2.1 (PLR z17 z18) ∧ g.2.2.2.1 (PLR z3 z4) = g.2.2.2.1 (PLR z17 z18))) := by omega
      refine lv_iconst (v := 0) hx hb dX11_areAlike_104 (by decide) ?_
      replace hP : va_P (dC, dI) cls [(h_mm, .inr (8, (mo137 v_mm (.ref h_nv) (.ref h_nn) (.ref h_na) (.ref h_nb) (.ref h_nc) (.ref h_bto) (.ref h_bin) (.int z17) (.int z18)))), (h_nv, .inl (cy_nv, 8000, .inl f_nv)), (h_na, .inl (cy_na, 8000, .inl f_na)), (h_nb, .inl (cy_nb, 8000, .inl f_nb)), (h_nc, .inl (cy_nc, 8000, .inl f_nc)), (h_bto, .inl (cy_bto, 256, .inl f_bto)), (h_bin, .inl (cy_bin, 256, .inl f_bin)), (h_nn, .inl (cy_nn, 8000, .inr (.inl f_nn)))] H := hP.sub [1, 2, 3, 4, 5, 6, 7, 0] rfl
      replace hD : va_D A [(h_mm, .inr (8, (mo137 v_mm (.ref h_nv) (.ref h_nn) (.ref h_na) (.ref h_nb) (.ref h_nc) (.ref h_bto) (.ref h_bin) (.int z17) (.int z18)))), (h_nv, .inl (cy_nv, 8000, .inl f_nv)), (h_na, .inl (cy_na, 8000, .inl f_na)), (h_nb, .inl (cy_nb, 8000, .inl f_nb)), (h_nc, .inl (cy_nc, 8000, .inl f_nc)), (h_bto, .inl (cy_bto, 256, .inl f_bto)), (h_bin, .inl (cy_bin, 256, .inl f_bin)), (h_nn, .inl (cy_nn, 8000, .inr (.inl f_nn)))] := hD.sub [1, 2, 3, 4, 5, 6, 7, 0] (by decide) rfl
      refine W.widen (k := 0) (n := 0) (Nat.le_of_ble_eq_true rfl) (Nat.le_of_ble_eq_true rfl) ?_
      have cst0 : (0 : Int32).toInt = 0 := by decide
      have w35 : 0 ≤ ((z17)).toInt ∧ ((z17)).toInt ≤ 7999 := by first | exact k20 | omega
      have w36 : 0 ≤ ((z18)).toInt ∧ ((z18)).toInt ≤ 31 := by first | exact k21 | omega
      have w37 : 0 ≤ (0 : Int32).toInt ∧ (0 : Int32).toInt ≤ 1 := by omega
      have w38 : (((0 : Int32)).toInt = 1 ∧ ALK g (BDW f_bto f_bin) (PLR p1 p2) (PLR p3 p4)) ∨ (((0 : Int32)).toInt = 0 ∧ ¬ ALK g (BDW f_bto f_bin) (PLR p1 p2) (PLR p3 p4)) := (Or.inr ⟨by decide, alr_not k14 k28 nm9⟩)
      exact W.zret (v := 0) (ty := .boolean) hx hb hr (by decide) (fun t ht hW => ⟨⟨0, (z17, z18), rfl, ⟨w35, w36, w37, w38⟩, by rw [ht]; exact hP, hD⟩, hS.F ht⟩) hS.2.2 dX11_areAlike_105
    · have kc34 := (not_congr (cv_eq (rfl : (z33).toInt = (z33).toInt) (by decide : ((-1) : Int32).toInt = -1))).mp c34
      have hvz29 : (f_nv (z3).toInt.toNat).toInt = (z29).toInt := by rw [ez29, (clamp_nat (i := z3) (by omega))]
      have hvz33 : (f_nv (z17).toInt.toNat).toInt = (z33).toInt := by rw [ez33, (clamp_nat (i := z17) (by omega))]
      have gv9a := grv_v (i := z4) hn_grv (show 0 ≤ (z3).toInt ∧ (z3).toInt < 8000 by omega)
      have gc9a := grv_c (i := z4) hn_grv (show 0 ≤ (z3).toInt ∧ (z3).toInt < 8000 by omega) (by omega) (by omega)
      have gv9b := grv_v (i := z18) hn_grv (show 0 ≤ (z17).toInt ∧ (z17).toInt < 8000 by omega)
      have gc9b := grv_c (i := z18) hn_grv (show 0 ≤ (z17).toInt ∧ (z17).toInt < 8000 by omega) (by omega) (by omega)
      refine lv_aload_n hx hb dX11_areAlike_81 rfl (lv_at hl 4 rfl) ?_
      refine lv_iload hx hb dX11_areAlike_82 (lv_at hl 3 rfl) ?_
      refine lv_iload hx hb dX11_areAlike_84 (lv_at hl 2 rfl) ?_
      obtain ⟨vq39, evq39⟩ := mq137_129 v_mm (.ref h_nn) (.ref h_na) (.ref h_nb) (.ref h_nc) (.ref h_bto) (.ref h_bin) (.int z17) (.int z18)
      replace hP : va_P (dC, dI) cls [(h_nn, .inl (cy_nn, 8000, .inr (.inl f_nn))), (h_mm, .inr (8, (mo129 vq39 (.ref h_nv)))), (h_nv, .inl (cy_nv, 8000, .inl f_nv)), (h_na, .inl (cy_na, 8000, .inl f_na)), (h_nb, .inl (cy_nb, 8000, .inl f_nb)), (h_nc, .inl (cy_nc, 8000, .inl f_nc)), (h_bto, .inl (cy_bto, 256, .inl f_bto)), (h_bin, .inl (cy_bin, 256, .inl f_bin))] H := by rw [evq39]; exact hP
      replace hD : va_D A [(h_nn, .inl (cy_nn, 8000, .inr (.inl f_nn))), (h_mm, .inr (8, (mo129 vq39 (.ref h_nv)))), (h_nv, .inl (cy_nv, 8000, .inl f_nv)), (h_na, .inl (cy_na, 8000, .inl f_na)), (h_nb, .inl (cy_nb, 8000, .inl f_nb)), (h_nc, .inl (cy_nc, 8000, .inl f_nc)), (h_bto, .inl (cy_bto, 256, .inl f_bto)), (h_bin, .inl (cy_bin, 256, .inl f_bin))] := by rw [evq39]; exact hD
      have hPc := hP.sub (ws' := [(h_mm, .inr (8, (mo129 vq39 (.ref h_nv)))), (h_nv, .inl (cy_nv, 8000, .inl f_nv))]) [1, 2] rfl
      have hDc := hD.sub (ws' := [(h_mm, .inr (8, (mo129 vq39 (.ref h_nv)))), (h_nv, .inl (cy_nv, 8000, .inl f_nv))]) [1, 2] (by decide) rfl
      have hKc := hK.sub (tys' := [(cy_nv, .int)]) [0] rfl
      have hFc := va_free (wc := [(h_mm, .inr (8, (mo129 vq39 (.ref h_nv)))), (h_nv, .inl (cy_nv, 8000, .inl f_nv))]) hD hS hA [1, 2] rfl
      refine va_calli (va_runV (As := [.int z3, .int z4]) (rest := []) ⟨hx, hb, hml, hown, hts⟩ (c_X11_slotOf l dC dI H.size h_mm h_nv vq39 cy_nv f_nv z3 z4 hf_nv (by first | exact k6 | omega) (by first | exact k7 | omega)) (cwV 2 hts (gv hT w_m_X11_270 w_instanceMethod_X11_slotOf ws_sel_X11_slotOf w_ini_X11 w_code_X11_slotOf) rfl rfl rfl (by decide +kernel) ⟨(by dsimp only [headSpec]; omega), (by dsimp only [headSpec]; omega)⟩) ⟨pre_blind, va_recv hK hP (ci := 8) (q0 := 1) rfl rfl, pre_of hPc hKc hDc hN⟩ rfl rfl hl.1 rfl (lv_room (Nat.le_of_ble_eq_true rfl)) dX11_areAlike_86 ⟨(Nat.le_of_ble_eq_true rfl), (Nat.le_of_ble_eq_true rfl)⟩) hS (fun q _ h => hFc q h) hFc (fun r40 u t H locs ht hvm hq hB hz1 hk1 hS9 => ?_)
      obtain ⟨hP1, hD1⟩ := hB
      rw [ht] at hP1
      obtain ⟨hP9, hD9⟩ := va_join (wr := [(h_nn, .inl (cy_nn, 8000, .inr (.inl f_nn))), (h_na, .inl (cy_na, 8000, .inl f_na)), (h_nb, .inl (cy_nb, 8000, .inl f_nb)), (h_nc, .inl (cy_nc, 8000, .inl f_nc)), (h_bto, .inl (cy_bto, 256, .inl f_bto)), (h_bin, .inl (cy_bin, 256, .inl f_bin))]) (w1 := [(h_mm, .inr (8, (mo129 vq39 (.ref h_nv)))), (h_nv, .inl (cy_nv, 8000, .inl f_nv))]) hP hD [1, 2] [0, 3, 4, 5, 6, 7] rfl rfl (by decide) (by decide) hk1 hFc hP1 hD1
      clear hP hD hS hPc hDc hKc hFc hP1 hD1 hk1 hz1 ht hvm
      have hP : va_P (dC, dI) cls [(h_nn, .inl (cy_nn, 8000, .inr (.inl f_nn))), (h_na, .inl (cy_na, 8000, .inl f_na)), (h_nb, .inl (cy_nb, 8000, .inl f_nb)), (h_nc, .inl (cy_nc, 8000, .inl f_nc)), (h_bto, .inl (cy_bto, 256, .inl f_bto)), (h_bin, .inl (cy_bin, 256, .inl f_bin)), (h_mm, .inr (8, (mo129 vq39 (.ref h_nv)))), (h_nv, .inl (cy_nv, 8000, .inl f_nv))] H := hP9
      have hD : va_D A [(h_nn, .inl (cy_nn, 8000, .inr (.inl f_nn))), (h_na, .inl (cy_na, 8000, .inl f_na)), (h_nb, .inl (cy_nb, 8000, .inl f_nb)), (h_nc, .inl (cy_nc, 8000, .inl f_nc)), (h_bto, .inl (cy_bto, 256, .inl f_bto)), (h_bin, .inl (cy_bin, 256, .inl f_bin)), (h_mm, .inr (8, (mo129 vq39 (.ref h_nv)))), (h_nv, .inl (cy_nv, 8000, .inl f_nv))] := hD9
      have hS := hS9
      clear hP9 hD9 hS9
      rw [evq39] at hP hD
      replace hP : va_P (dC, dI) cls [(h_nn, .inl (cy_nn, 8000, .inr (.inl f_nn))), (h_na, .inl (cy_na, 8000, .inl f_na)), (h_nb, .inl (cy_nb, 8000, .inl f_nb)), (h_nc, .inl (cy_nc, 8000, .inl f_nc)), (h_bto, .inl (cy_bto, 256, .inl f_bto)), (h_bin, .inl (cy_bin, 256, .inl f_bin)), (h_mm, .inr (8, (mo137 v_mm (.ref h_nv) (.ref h_nn) (.ref h_na) (.ref h_nb) (.ref h_nc) (.ref h_bto) (.ref h_bin) (.int z17) (.int z18)))), (h_nv, .inl (cy_nv, 8000, .inl f_nv))] H := hP
      replace hD : va_D A [(h_nn, .inl (cy_nn, 8000, .inr (.inl f_nn))), (h_na, .inl (cy_na, 8000, .inl f_na)), (h_nb, .inl (cy_nb, 8000, .inl f_nb)), (h_nc, .inl (cy_nc, 8000, .inl f_nc)), (h_bto, .inl (cy_bto, 256, .inl f_bto)), (h_bin, .inl (cy_bin, 256, .inl f_bin)), (h_mm, .inr (8, (mo137 v_mm (.ref h_nv) (.ref h_nn) (.ref h_na) (.ref h_nb) (.ref h_nc) (.ref h_bto) (.ref h_bin) (.int z17) (.int z18)))), (h_nv, .inl (cy_nv, 8000, .inl f_nv))] := hD
      clear evq39 
      obtain ⟨k41, k42⟩ := hq
      replace k41 : -1 ≤ (r40).toInt ∧ (r40).toInt ≤ 255 := k41
      replace k42 : ((r40)).toInt = 8 * ((z4)).toInt + (f_nv ((z3)).toInt.toNat).toInt := k42
      refine lv_aload_n hx hb dX11_areAlike_89 rfl (lv_at hl 4 rfl) ?_
      refine lv_iload hx hb dX11_areAlike_90 (lv_at hl 1 rfl) ?_
      refine lv_iload hx hb dX11_areAlike_92 (lv_at hl 0 rfl) ?_
      obtain ⟨vq43, evq43⟩ := mq137_129 v_mm (.ref h_nn) (.ref h_na) (.ref h_nb) (.ref h_nc) (.ref h_bto) (.ref h_bin) (.int z17) (.int z18)
      replace hP : va_P (dC, dI) cls [(h_nn, .inl (cy_nn, 8000, .inr (.inl f_nn))), (h_na, .inl (cy_na, 8000, .inl f_na)), (h_nb, .inl (cy_nb, 8000, .inl f_nb)), (h_nc, .inl (cy_nc, 8000, .inl f_nc)), (h_bto, .inl (cy_bto, 256, .inl f_bto)), (h_bin, .inl (cy_bin, 256, .inl f_bin)), (h_mm, .inr (8, (mo129 vq43 (.ref h_nv)))), (h_nv, .inl (cy_nv, 8000, .inl f_nv))] H := by rw [evq43]; exact hP
      replace hD : va_D A [(h_nn, .inl (cy_nn, 8000, .inr (.inl f_nn))), (h_na, .inl (cy_na, 8000, .inl f_na)), (h_nb, .inl (cy_nb, 8000, .inl f_nb)), (h_nc, .inl (cy_nc, 8000, .inl f_nc)), (h_bto, .inl (cy_bto, 256, .inl f_bto)), (h_bin, .inl (cy_bin, 256, .inl f_bin)), (h_mm, .inr (8, (mo129 vq43 (.ref h_nv)))), (h_nv, .inl (cy_nv, 8000, .inl f_nv))] := by rw [evq43]; exact hD
      have hPc := hP.sub (ws' := [(h_mm, .inr (8, (mo129 vq43 (.ref h_nv)))), (h_nv, .inl (cy_nv, 8000, .inl f_nv))]) [6, 7] rfl
      have hDc := hD.sub (ws' := [(h_mm, .inr (8, (mo129 vq43 (.ref h_nv)))), (h_nv, .inl (cy_nv, 8000, .inl f_nv))]) [6, 7] (by decide) rfl
      have hKc := hK.sub (tys' := [(cy_nv, .int)]) [0] rfl
      have hFc := va_free (wc := [(h_mm, .inr (8, (mo129 vq43 (.ref h_nv)))), (h_nv, .inl (cy_nv, 8000, .inl f_nv))]) hD hS hA [6, 7] rfl
      refine va_calli (va_runV (As := [.int z17, .int z18]) (rest := [.int r40]) ⟨hx, hb, hml, hown, hts⟩ (c_X11_slotOf l dC dI H.size h_mm h_nv vq43 cy_nv f_nv z17 z18 hf_nv (by first | exact k20 | omega) (by first | exact k21 | omega)) (cwV 2 hts (gv hT w_m_X11_270 w_instanceMethod_X11_slotOf ws_sel_X11_slotOf w_ini_X11 w_code_X11_slotOf) rfl rfl rfl (by decide +kernel) ⟨(by dsimp only [headSpec]; omega), (by dsimp only [headSpec]; omega)⟩) ⟨pre_blind, va_recv hK hP (ci := 8) (q0 := 6) rfl rfl, pre_of hPc hKc hDc hN⟩ rfl rfl hl.1 rfl (lv_room (Nat.le_of_ble_eq_true rfl)) dX11_areAlike_94 ⟨(Nat.le_of_ble_eq_true rfl), (Nat.le_of_ble_eq_true rfl)⟩) hS (fun q _ h => hFc q h) hFc (fun r44 u t H locs ht hvm hq hB hz1 hk1 hS9 => ?_)
      obtain ⟨hP1, hD1⟩ := hB
      rw [ht] at hP1
      obtain ⟨hP9, hD9⟩ := va_join (wr := [(h_nn, .inl (cy_nn, 8000, .inr (.inl f_nn))), (h_na, .inl (cy_na, 8000, .inl f_na)), (h_nb, .inl (cy_nb, 8000, .inl f_nb)), (h_nc, .inl (cy_nc, 8000, .inl f_nc)), (h_bto, .inl (cy_bto, 256, .inl f_bto)), (h_bin, .inl (cy_bin, 256, .inl f_bin))]) (w1 := [(h_mm, .inr (8, (mo129 vq43 (.ref h_nv)))), (h_nv, .inl (cy_nv, 8000, .inl f_nv))]) hP hD [6, 7] [0, 1, 2, 3, 4, 5] rfl rfl (by decide) (by decide) hk1 hFc hP1 hD1
      clear hP hD hS hPc hDc hKc hFc hP1 hD1 hk1 hz1 ht hvm
      have hP : va_P (dC, dI) cls [(h_nn, .inl (cy_nn, 8000, .inr (.inl f_nn))), (h_na, .inl (cy_na, 8000, .inl f_na)), (h_nb, .inl (cy_nb, 8000, .inl f_nb)), (h_nc, .inl (cy_nc, 8000, .inl f_nc)), (h_bto, .inl (cy_bto, 256, .inl f_bto)), (h_bin, .inl (cy_bin, 256, .inl f_bin)), (h_mm, .inr (8, (mo129 vq43 (.ref h_nv)))), (h_nv, .inl (cy_nv, 8000, .inl f_nv))] H := hP9
      have hD : va_D A [(h_nn, .inl (cy_nn, 8000, .inr (.inl f_nn))), (h_na, .inl (cy_na, 8000, .inl f_na)), (h_nb, .inl (cy_nb, 8000, .inl f_nb)), (h_nc, .inl (cy_nc, 8000, .inl f_nc)), (h_bto, .inl (cy_bto, 256, .inl f_bto)), (h_bin, .inl (cy_bin, 256, .inl f_bin)), (h_mm, .inr (8, (mo129 vq43 (.ref h_nv)))), (h_nv, .inl (cy_nv, 8000, .inl f_nv))] := hD9
      have hS := hS9
      clear hP9 hD9 hS9
      rw [evq43] at hP hD
      replace hP : va_P (dC, dI) cls [(h_nn, .inl (cy_nn, 8000, .inr (.inl f_nn))), (h_na, .inl (cy_na, 8000, .inl f_na)), (h_nb, .inl (cy_nb, 8000, .inl f_nb)), (h_nc, .inl (cy_nc, 8000, .inl f_nc)), (h_bto, .inl (cy_bto, 256, .inl f_bto)), (h_bin, .inl (cy_bin, 256, .inl f_bin)), (h_mm, .inr (8, (mo137 v_mm (.ref h_nv) (.ref h_nn) (.ref h_na) (.ref h_nb) (.ref h_nc) (.ref h_bto) (.ref h_bin) (.int z17) (.int z18)))), (h_nv, .inl (cy_nv, 8000, .inl f_nv))] H := hP
      replace hD : va_D A [(h_nn, .inl (cy_nn, 8000, .inr (.inl f_nn))), (h_na, .inl (cy_na, 8000, .inl f_na)), (h_nb, .inl (cy_nb, 8000, .inl f_nb)), (h_nc, .inl (cy_nc, 8000, .inl f_nc)), (h_bto, .inl (cy_bto, 256, .inl f_bto)), (h_bin, .inl (cy_bin, 256, .inl f_bin)), (h_mm, .inr (8, (mo137 v_mm (.ref h_nv) (.ref h_nn) (.ref h_na) (.ref h_nb) (.ref h_nc) (.ref h_bto) (.ref h_bin) (.int z17) (.int z18)))), (h_nv, .inl (cy_nv, 8000, .inl f_nv))] := hD
      clear evq43 
      obtain ⟨k45, k46⟩ := hq
      replace k45 : -1 ≤ (r44).toInt ∧ (r44).toInt ≤ 255 := k45
      replace k46 : ((r44)).toInt = 8 * ((z18)).toInt + (f_nv ((z17)).toInt.toNat).toInt := k46
      refine lv_icmp_ne (tgt := 104) hx hb dX11_areAlike_97 (by decide) (fun c47 => ?_) (fun c47 => ?_)
      · have kc47 := (not_congr (cv_eq (rfl : (r40).toInt = (r40).toInt) (rfl : (r44).toInt = (r44).toInt))).mp c47
        have nm9 : ¬ ((0 ≤ g.1 (PLR z3 z4) ∧ 0 ≤ g.1 (PLR z17 z18) ∧ g.2.1 (PLR z3 z4) = g.2.1 (PLR z17 z18)) ∨ (¬ 0 ≤ g.1 (PLR z3 z4) ∧ ¬ 0 ≤ g.1 (PLR z17 z18) ∧ g.2.2.1 (PLR z3 z4) = g.2.2.1 (PLR z17 z18) ∧ g.2.2.2.1 (PLR z3 z4) = g.2.2.2.1 (PLR z17 z18))) := by omega
        refine lv_iconst (v := 0) hx hb dX11_areAlike_104 (by decide) ?_
        replace hP : va_P (dC, dI) cls [(h_mm, .inr (8, (mo137 v_mm (.ref h_nv) (.ref h_nn) (.ref h_na) (.ref h_nb) (.ref h_nc) (.ref h_bto) (.ref h_bin) (.int z17) (.int z18)))), (h_nv, .inl (cy_nv, 8000, .inl f_nv)), (h_na, .inl (cy_na, 8000, .inl f_na)), (h_nb, .inl (cy_nb, 8000, .inl f_nb)), (h_nc, .inl (cy_nc, 8000, .inl f_nc)), (h_bto, .inl (cy_bto, 256, .inl f_bto)), (h_bin, .inl (cy_bin, 256, .inl f_bin)), (h_nn, .inl (cy_nn, 8000, .inr (.inl f_nn)))] H := hP.sub [6, 7, 1, 2, 3, 4, 5, 0] rfl
        replace hD : va_D A [(h_mm, .inr (8, (mo137 v_mm (.ref h_nv) (.ref h_nn) (.ref h_na) (.ref h_nb) (.ref h_nc) (.ref h_bto) (.ref h_bin) (.int z17) (.int z18)))), (h_nv, .inl (cy_nv, 8000, .inl f_nv)), (h_na, .inl (cy_na, 8000, .inl f_na)), (h_nb, .inl (cy_nb, 8000, .inl f_nb)), (h_nc, .inl (cy_nc, 8000, .inl f_nc)), (h_bto, .inl (cy_bto, 256, .inl f_bto)), (h_bin, .inl (cy_bin, 256, .inl f_bin)), (h_nn, .inl (cy_nn, 8000, .inr (.inl f_nn)))] := hD.sub [6, 7, 1, 2, 3, 4, 5, 0] (by decide) rfl
        refine W.widen (k := 0) (n := 0) (Nat.le_of_ble_eq_true rfl) (Nat.le_of_ble_eq_true rfl) ?_
        have cst0 : (0 : Int32).toInt = 0 := by decide
        have w48 : 0 ≤ ((z17)).toInt ∧ ((z17)).toInt ≤ 7999 := by first | exact k20 | omega
        have w49 : 0 ≤ ((z18)).toInt ∧ ((z18)).toInt ≤ 31 := by first | exact k21 | omega
        have w50 : 0 ≤ (0 : Int32).toInt ∧ (0 : Int32).toInt ≤ 1 := by omega
        have w51 : (((0 : Int32)).toInt = 1 ∧ ALK g (BDW f_bto f_bin) (PLR p1 p2) (PLR p3 p4)) ∨ (((0 : Int32)).toInt = 0 ∧ ¬ ALK g (BDW f_bto f_bin) (PLR p1 p2) (PLR p3 p4)) := (Or.inr ⟨by decide, alr_not k14 k28 nm9⟩)
        exact W.zret (v := 0) (ty := .boolean) hx hb hr (by decide) (fun t ht hW => ⟨⟨0, (z17, z18), rfl, ⟨w48, w49, w50, w51⟩, by rw [ht]; exact hP, hD⟩, hS.F ht⟩) hS.2.2 dX11_areAlike_105
      · have kc47 := (cv_eq (rfl : (r40).toInt = (r40).toInt) (rfl : (r44).toInt = (r44).toInt)).mp c47
        refine lv_iconst (v := 1) hx hb dX11_areAlike_100 (by decide) ?_
        refine lv_goto (tgt := 105) hx hb dX11_areAlike_101 (by decide) ?_
        replace hP : va_P (dC, dI) cls [(h_mm, .inr (8, (mo137 v_mm (.ref h_nv) (.ref h_nn) (.ref h_na) (.ref h_nb) (.ref h_nc) (.ref h_bto) (.ref h_bin) (.int z17) (.int z18)))), (h_nv, .inl (cy_nv, 8000, .inl f_nv)), (h_na, .inl (cy_na, 8000, .inl f_na)), (h_nb, .inl (cy_nb, 8000, .inl f_nb)), (h_nc, .inl (cy_nc, 8000, .inl f_nc)), (h_bto, .inl (cy_bto, 256, .inl f_bto)), (h_bin, .inl (cy_bin, 256, .inl f_bin)), (h_nn, .inl (cy_nn, 8000, .inr (.inl f_nn)))] H := hP.sub [6, 7, 1, 2, 3, 4, 5, 0] rfl
        replace hD : va_D A [(h_mm, .inr (8, (mo137 v_mm (.ref h_nv) (.ref h_nn) (.ref h_na) (.ref h_nb) (.ref h_nc) (.ref h_bto) (.ref h_bin) (.int z17) (.int z18)))), (h_nv, .inl (cy_nv, 8000, .inl f_nv)), (h_na, .inl (cy_na, 8000, .inl f_na)), (h_nb, .inl (cy_nb, 8000, .inl f_nb)), (h_nc, .inl (cy_nc, 8000, .inl f_nc)), (h_bto, .inl (cy_bto, 256, .inl f_bto)), (h_bin, .inl (cy_bin, 256, .inl f_bin)), (h_nn, .inl (cy_nn, 8000, .inr (.inl f_nn)))] := hD.sub [6, 7, 1, 2, 3, 4, 5, 0] (by decide) rfl
        refine W.widen (k := 0) (n := 0) (Nat.le_of_ble_eq_true rfl) (Nat.le_of_ble_eq_true rfl) ?_
        have cst1 : (1 : Int32).toInt = 1 := by decide
        have w52 : 0 ≤ ((z17)).toInt ∧ ((z17)).toInt ≤ 7999 := by first | exact k20 | omega
        have w53 : 0 ≤ ((z18)).toInt ∧ ((z18)).toInt ≤ 31 := by first | exact k21 | omega
        have w54 : 0 ≤ (1 : Int32).toInt ∧ (1 : Int32).toInt ≤ 1 := by omega
        have w55 : (((1 : Int32)).toInt = 1 ∧ ALK g (BDW f_bto f_bin) (PLR p1 p2) (PLR p3 p4)) ∨ (((1 : Int32)).toInt = 0 ∧ ¬ ALK g (BDW f_bto f_bin) (PLR p1 p2) (PLR p3 p4)) := (Or.inl ⟨by decide, alr_vars k14 k28 (by omega) (by omega) (by omega)⟩)
        exact W.zret (v := 1) (ty := .boolean) hx hb hr (by decide) (fun t ht hW => ⟨⟨1, (z17, z18), rfl, ⟨w52, w53, w54, w55⟩, by rw [ht]; exact hP, hD⟩, hS.F ht⟩) hS.2.2 dX11_areAlike_105
  · have kc30 := (cv_eq (rfl : (z29).toInt = (z29).toInt) (by decide : ((-1) : Int32).toInt = -1)).mp c30
    refine lv_aload_n hx hb dX11_areAlike_48 rfl (lv_at hl 4 rfl) ?_
    refine va_get (D := (dC, dI)) (ci := 8) (v := .ref h_nv) (C := RX11) (T := TX11) (N := 71) hx hb hw iwX11 hown hK hP 1 rfl rfl 1 (by decide) (hw _ w_f_X11_17) (fun _ h9 => h9) rfl dX11_areAlike_49 ?_
    refine lv_iload hx hb dX11_areAlike_52 (lv_at hl 1 rfl) ?_
    refine va_iald hx hb hK hP 2 0 rfl rfl (i := z17) (vp_in_iff.mpr (by omega)) dX11_areAlike_54 ?_
    refine lv_topi (fun z56 ez56 => ?_)
    have rz56 : -1 ≤ (z56).toInt ∧ (z56).toInt ≤ 7 := by rw [ez56]; exact hf_nv _
    refine lv_iconst (v := (-1)) hx hb dX11_areAlike_55 (by decide) ?_
    refine lv_icmp_eq (tgt := 106) hx hb dX11_areAlike_56 (by decide) (fun c57 => ?_) (fun c57 => ?_)
    · have kc57 := (cv_eq (rfl : (z56).toInt = (z56).toInt) (by decide : ((-1) : Int32).toInt = -1)).mp c57
      have hvz29 : (f_nv (z3).toInt.toNat).toInt = (z29).toInt := by rw [ez29, (clamp_nat (i := z3) (by omega))]
      have hvz56 : (f_nv (z17).toInt.toNat).toInt = (z56).toInt := by rw [ez56, (clamp_nat (i := z17) (by omega))]
      have gv9a := grv_v (i := z4) hn_grv (show 0 ≤ (z3).toInt ∧ (z3).toInt < 8000 by omega)
      have ga9a := grv_a (i := z4) hn_grv (show 0 ≤ (z3).toInt ∧ (z3).toInt < 8000 by omega)
      have gv9b := grv_v (i := z18) hn_grv (show 0 ≤ (z17).toInt ∧ (z17).toInt < 8000 by omega)
      have ga9b := grv_a (i := z18) hn_grv (show 0 ≤ (z17).toInt ∧ (z17).toInt < 8000 by omega)
      have gn9a := grn_n (i := z4) hn_grn (show 0 ≤ (z3).toInt ∧ (z3).toInt < 8000 by omega)
      have gn9b := grn_n (i := z18) hn_grn (show 0 ≤ (z17).toInt ∧ (z17).toInt < 8000 by omega)
      refine lv_aload_n hx hb dX11_areAlike_106 rfl (lv_at hl 4 rfl) ?_
      refine va_get (D := (dC, dI)) (ci := 8) (v := .ref h_nn) (C := RX11) (T := TX11) (N := 71) hx hb hw iwX11 hown hK hP 1 rfl rfl 2 (by decide) (hw _ w_f_X11_23) (fun _ h9 => h9) rfl dX11_areAlike_107 ?_
      refine lv_iload hx hb dX11_areAlike_110 (lv_at hl 3 rfl) ?_
      refine va_lald hx hb hK hP 0 6 rfl rfl (i := z3) (vp_in_iff.mpr (by omega)) dX11_areAlike_112 ?_
      refine lv_topl (fun z58 ez58 => ?_)
      have nnz58 : (f_nn (z3).toInt.toNat).toInt = (z58).toInt := by rw [ez58, clamp_nat (i := z3) (by omega)]
      refine lv_aload_n hx hb dX11_areAlike_113 rfl (lv_at hl 4 rfl) ?_
      refine va_get (D := (dC, dI)) (ci := 8) (v := .ref h_nn) (C := RX11) (T := TX11) (N := 71) hx hb hw iwX11 hown hK hP 1 rfl rfl 2 (by decide) (hw _ w_f_X11_23) (fun _ h9 => h9) rfl dX11_areAlike_114 ?_
      refine lv_iload hx hb dX11_areAlike_117 (lv_at hl 1 rfl) ?_
      refine va_lald hx hb hK hP 0 6 rfl rfl (i := z17) (vp_in_iff.mpr (by omega)) dX11_areAlike_119 ?_
      refine lv_topl (fun z59 ez59 => ?_)
      have nnz59 : (f_nn (z17).toInt.toNat).toInt = (z59).toInt := by rw [ez59, clamp_nat (i := z17) (by omega)]
      refine W.lcmp hx hb dX11_areAlike_120 ?_
      refine lv_topi (fun z60 ez60 => ?_)
      have gz60 := lgc z58 z59
      rw [← ez60] at gz60
      refine lv_if_ne (tgt := 139) hx hb dX11_areAlike_121 (by decide) (fun c61 => ?_) (fun c61 => ?_)
      · have kc61 := (not_congr (cv_eq (rfl : (z60).toInt = (z60).toInt) (by decide : (0 : Int32).toInt = 0))).mp c61
        have nm9 : ¬ (g.2.2.1 (PLR z3 z4) = g.2.2.1 (PLR z17 z18) ∧ g.2.2.2.1 (PLR z3 z4) = g.2.2.2.1 (PLR z17 z18)) := by rw [gn9a, gn9b, ga9a, ga9b]; omega
        refine lv_iconst (v := 0) hx hb dX11_areAlike_139 (by decide) ?_
        replace hP : va_P (dC, dI) cls [(h_mm, .inr (8, (mo137 v_mm (.ref h_nv) (.ref h_nn) (.ref h_na) (.ref h_nb) (.ref h_nc) (.ref h_bto) (.ref h_bin) (.int z17) (.int z18)))), (h_nv, .inl (cy_nv, 8000, .inl f_nv)), (h_na, .inl (cy_na, 8000, .inl f_na)), (h_nb, .inl (cy_nb, 8000, .inl f_nb)), (h_nc, .inl (cy_nc, 8000, .inl f_nc)), (h_bto, .inl (cy_bto, 256, .inl f_bto)), (h_bin, .inl (cy_bin, 256, .inl f_bin)), (h_nn, .inl (cy_nn, 8000, .inr (.inl f_nn)))] H := hP.sub [1, 2, 3, 4, 5, 6, 7, 0] rfl
        replace hD : va_D A [(h_mm, .inr (8, (mo137 v_mm (.ref h_nv) (.ref h_nn) (.ref h_na) (.ref h_nb) (.ref h_nc) (.ref h_bto) (.ref h_bin) (.int z17) (.int z18)))), (h_nv, .inl (cy_nv, 8000, .inl f_nv)), (h_na, .inl (cy_na, 8000, .inl f_na)), (h_nb, .inl (cy_nb, 8000, .inl f_nb)), (h_nc, .inl (cy_nc, 8000, .inl f_nc)), (h_bto, .inl (cy_bto, 256, .inl f_bto)), (h_bin, .inl (cy_bin, 256, .inl f_bin)), (h_nn, .inl (cy_nn, 8000, .inr (.inl f_nn)))] := hD.sub [1, 2, 3, 4, 5, 6, 7, 0] (by decide) rfl
        refine W.widen (k := 0) (n := 0) (Nat.le_of_ble_eq_true rfl) (Nat.le_of_ble_eq_true rfl) ?_
        have cst0 : (0 : Int32).toInt = 0 := by decide
        have w62 : 0 ≤ ((z17)).toInt ∧ ((z17)).toInt ≤ 7999 := by first | exact k20 | omega
        have w63 : 0 ≤ ((z18)).toInt ∧ ((z18)).toInt ≤ 31 := by first | exact k21 | omega
        have w64 : 0 ≤ (0 : Int32).toInt ∧ (0 : Int32).toInt ≤ 1 := by omega
        have w65 : (((0 : Int32)).toInt = 1 ∧ ALK g (BDW f_bto f_bin) (PLR p1 p2) (PLR p3 p4)) ∨ (((0 : Int32)).toInt = 0 ∧ ¬ ALK g (BDW f_bto f_bin) (PLR p1 p2) (PLR p3 p4)) := (Or.inr ⟨by decide, alr_not k14 k28 (fun q9 => Or.elim q9 (fun q8 => by have q7 := q8.1; rw [gv9a] at q7; omega) (fun q8 => nm9 q8.2.2))⟩)
        exact W.zret (v := 0) (ty := .boolean) hx hb hr (by decide) (fun t ht hW => ⟨⟨0, (z17, z18), rfl, ⟨w62, w63, w64, w65⟩, by rw [ht]; exact hP, hD⟩, hS.F ht⟩) hS.2.2 dX11_areAlike_140
      · have kc61 := (cv_eq (rfl : (z60).toInt = (z60).toInt) (by decide : (0 : Int32).toInt = 0)).mp c61
        refine lv_aload_n hx hb dX11_areAlike_124 rfl (lv_at hl 4 rfl) ?_
        refine lv_iload hx hb dX11_areAlike_125 (lv_at hl 3 rfl) ?_
        obtain ⟨vq66, evq66⟩ := mq137_86 v_mm (.ref h_nn) (.ref h_bto) (.ref h_bin) (.int z17) (.int z18)
        replace hP : va_P (dC, dI) cls [(h_nn, .inl (cy_nn, 8000, .inr (.inl f_nn))), (h_mm, .inr (8, (mo86 vq66 (.ref h_nv) (.ref h_na) (.ref h_nb) (.ref h_nc)))), (h_nv, .inl (cy_nv, 8000, .inl f_nv)), (h_na, .inl (cy_na, 8000, .inl f_na)), (h_nb, .inl (cy_nb, 8000, .inl f_nb)), (h_nc, .inl (cy_nc, 8000, .inl f_nc)), (h_bto, .inl (cy_bto, 256, .inl f_bto)), (h_bin, .inl (cy_bin, 256, .inl f_bin))] H := by rw [evq66]; exact hP
        replace hD : va_D A [(h_nn, .inl (cy_nn, 8000, .inr (.inl f_nn))), (h_mm, .inr (8, (mo86 vq66 (.ref h_nv) (.ref h_na) (.ref h_nb) (.ref h_nc)))), (h_nv, .inl (cy_nv, 8000, .inl f_nv)), (h_na, .inl (cy_na, 8000, .inl f_na)), (h_nb, .inl (cy_nb, 8000, .inl f_nb)), (h_nc, .inl (cy_nc, 8000, .inl f_nc)), (h_bto, .inl (cy_bto, 256, .inl f_bto)), (h_bin, .inl (cy_bin, 256, .inl f_bin))] := by rw [evq66]; exact hD
        have hPc := hP.sub (ws' := [(h_mm, .inr (8, (mo86 vq66 (.ref h_nv) (.ref h_na) (.ref h_nb) (.ref h_nc)))), (h_nv, .inl (cy_nv, 8000, .inl f_nv)), (h_na, .inl (cy_na, 8000, .inl f_na)), (h_nb, .inl (cy_nb, 8000, .inl f_nb)), (h_nc, .inl (cy_nc, 8000, .inl f_nc))]) [1, 2, 3, 4, 5] rfl
        have hDc := hD.sub (ws' := [(h_mm, .inr (8, (mo86 vq66 (.ref h_nv) (.ref h_na) (.ref h_nb) (.ref h_nc)))), (h_nv, .inl (cy_nv, 8000, .inl f_nv)), (h_na, .inl (cy_na, 8000, .inl f_na)), (h_nb, .inl (cy_nb, 8000, .inl f_nb)), (h_nc, .inl (cy_nc, 8000, .inl f_nc))]) [1, 2, 3, 4, 5] (by decide) rfl
        have hKc := hK.sub (tys' := [(cy_nv, .int), (cy_na, .int), (cy_nb, .int), (cy_nc, .int)]) [0, 1, 2, 3] rfl
        have hFc := va_free (wc := [(h_mm, .inr (8, (mo86 vq66 (.ref h_nv) (.ref h_na) (.ref h_nb) (.ref h_nc)))), (h_nv, .inl (cy_nv, 8000, .inl f_nv)), (h_na, .inl (cy_na, 8000, .inl f_na)), (h_nb, .inl (cy_nb, 8000, .inl f_nb)), (h_nc, .inl (cy_nc, 8000, .inl f_nc))]) hD hS hA [1, 2, 3, 4, 5] rfl
        refine va_calli (va_runV (As := [.int z3]) (rest := []) ⟨hx, hb, hml, hown, hts⟩ (c_X11_partsAt_e l dC dI H.size h_mm h_nv h_na h_nb h_nc vq66 cy_nv f_nv cy_na f_na cy_nb f_nb cy_nc f_nc z3 hf_nv hf_na hf_nb hf_nc (by first | exact k6 | omega)) (cwV 1 hts (gv hT w_m_X11_27 w_instanceMethod_X11_partsAt ws_sel_X11_partsAt w_ini_X11 w_code_X11_partsAt) rfl rfl rfl (by decide +kernel) ⟨(by dsimp only [headSpec]; omega), (by dsimp only [headSpec]; omega)⟩) ⟨pre_blind, va_recv hK hP (ci := 8) (q0 := 1) rfl rfl, pre_of hPc hKc hDc hN⟩ rfl rfl hl.1 rfl (lv_room (Nat.le_of_ble_eq_true rfl)) dX11_areAlike_127 ⟨(Nat.le_of_ble_eq_true rfl), (Nat.le_of_ble_eq_true rfl)⟩) hS (fun q _ h => hFc q h) hFc (fun r67 u t H locs ht hvm hq hB hz1 hk1 hS9 => ?_)
        obtain ⟨hP1, hD1⟩ := hB
        rw [ht] at hP1
        obtain ⟨hP9, hD9⟩ := va_join (wr := [(h_nn, .inl (cy_nn, 8000, .inr (.inl f_nn))), (h_bto, .inl (cy_bto, 256, .inl f_bto)), (h_bin, .inl (cy_bin, 256, .inl f_bin))]) (w1 := [(h_mm, .inr (8, (mo86 vq66 (.ref h_nv) (.ref h_na) (.ref h_nb) (.ref h_nc)))), (h_nv, .inl (cy_nv, 8000, .inl f_nv)), (h_na, .inl (cy_na, 8000, .inl f_na)), (h_nb, .inl (cy_nb, 8000, .inl f_nb)), (h_nc, .inl (cy_nc, 8000, .inl f_nc))]) hP hD [1, 2, 3, 4, 5] [0, 6, 7] rfl rfl (by decide) (by decide) hk1 hFc hP1 hD1
        clear hP hD hS hPc hDc hKc hFc hP1 hD1 hk1 hz1 ht hvm
        have hP : va_P (dC, dI) cls [(h_nn, .inl (cy_nn, 8000, .inr (.inl f_nn))), (h_bto, .inl (cy_bto, 256, .inl f_bto)), (h_bin, .inl (cy_bin, 256, .inl f_bin)), (h_mm, .inr (8, (mo86 vq66 (.ref h_nv) (.ref h_na) (.ref h_nb) (.ref h_nc)))), (h_nv, .inl (cy_nv, 8000, .inl f_nv)), (h_na, .inl (cy_na, 8000, .inl f_na)), (h_nb, .inl (cy_nb, 8000, .inl f_nb)), (h_nc, .inl (cy_nc, 8000, .inl f_nc))] H := hP9
        have hD : va_D A [(h_nn, .inl (cy_nn, 8000, .inr (.inl f_nn))), (h_bto, .inl (cy_bto, 256, .inl f_bto)), (h_bin, .inl (cy_bin, 256, .inl f_bin)), (h_mm, .inr (8, (mo86 vq66 (.ref h_nv) (.ref h_na) (.ref h_nb) (.ref h_nc)))), (h_nv, .inl (cy_nv, 8000, .inl f_nv)), (h_na, .inl (cy_na, 8000, .inl f_na)), (h_nb, .inl (cy_nb, 8000, .inl f_nb)), (h_nc, .inl (cy_nc, 8000, .inl f_nc))] := hD9
        have hS := hS9
        clear hP9 hD9 hS9
        rw [evq66] at hP hD
        replace hP : va_P (dC, dI) cls [(h_nn, .inl (cy_nn, 8000, .inr (.inl f_nn))), (h_bto, .inl (cy_bto, 256, .inl f_bto)), (h_bin, .inl (cy_bin, 256, .inl f_bin)), (h_mm, .inr (8, (mo137 v_mm (.ref h_nv) (.ref h_nn) (.ref h_na) (.ref h_nb) (.ref h_nc) (.ref h_bto) (.ref h_bin) (.int z17) (.int z18)))), (h_nv, .inl (cy_nv, 8000, .inl f_nv)), (h_na, .inl (cy_na, 8000, .inl f_na)), (h_nb, .inl (cy_nb, 8000, .inl f_nb)), (h_nc, .inl (cy_nc, 8000, .inl f_nc))] H := hP
        replace hD : va_D A [(h_nn, .inl (cy_nn, 8000, .inr (.inl f_nn))), (h_bto, .inl (cy_bto, 256, .inl f_bto)), (h_bin, .inl (cy_bin, 256, .inl f_bin)), (h_mm, .inr (8, (mo137 v_mm (.ref h_nv) (.ref h_nn) (.ref h_na) (.ref h_nb) (.ref h_nc) (.ref h_bto) (.ref h_bin) (.int z17) (.int z18)))), (h_nv, .inl (cy_nv, 8000, .inl f_nv)), (h_na, .inl (cy_na, 8000, .inl f_na)), (h_nb, .inl (cy_nb, 8000, .inl f_nb)), (h_nc, .inl (cy_nc, 8000, .inl f_nc))] := hD
        clear evq66 
        obtain ⟨k68, k69⟩ := hq
        replace k68 : 0 ≤ (r67).toInt ∧ (r67).toInt ≤ 3 := k68
        replace k69 : ((r67)).toInt = (npx f_nv f_na f_nb f_nc ((z3)).toInt.toNat) := k69
        refine lv_aload_n hx hb dX11_areAlike_130 rfl (lv_at hl 4 rfl) ?_
        refine lv_iload hx hb dX11_areAlike_131 (lv_at hl 1 rfl) ?_
        obtain ⟨vq70, evq70⟩ := mq137_86 v_mm (.ref h_nn) (.ref h_bto) (.ref h_bin) (.int z17) (.int z18)
        replace hP : va_P (dC, dI) cls [(h_nn, .inl (cy_nn, 8000, .inr (.inl f_nn))), (h_bto, .inl (cy_bto, 256, .inl f_bto)), (h_bin, .inl (cy_bin, 256, .inl f_bin)), (h_mm, .inr (8, (mo86 vq70 (.ref h_nv) (.ref h_na) (.ref h_nb) (.ref h_nc)))), (h_nv, .inl (cy_nv, 8000, .inl f_nv)), (h_na, .inl (cy_na, 8000, .inl f_na)), (h_nb, .inl (cy_nb, 8000, .inl f_nb)), (h_nc, .inl (cy_nc, 8000, .inl f_nc))] H := by rw [evq70]; exact hP
        replace hD : va_D A [(h_nn, .inl (cy_nn, 8000, .inr (.inl f_nn))), (h_bto, .inl (cy_bto, 256, .inl f_bto)), (h_bin, .inl (cy_bin, 256, .inl f_bin)), (h_mm, .inr (8, (mo86 vq70 (.ref h_nv) (.ref h_na) (.ref h_nb) (.ref h_nc)))), (h_nv, .inl (cy_nv, 8000, .inl f_nv)), (h_na, .inl (cy_na, 8000, .inl f_na)), (h_nb, .inl (cy_nb, 8000, .inl f_nb)), (h_nc, .inl (cy_nc, 8000, .inl f_nc))] := by rw [evq70]; exact hD
        have hPc := hP.sub (ws' := [(h_mm, .inr (8, (mo86 vq70 (.ref h_nv) (.ref h_na) (.ref h_nb) (.ref h_nc)))), (h_nv, .inl (cy_nv, 8000, .inl f_nv)), (h_na, .inl (cy_na, 8000, .inl f_na)), (h_nb, .inl (cy_nb, 8000, .inl f_nb)), (h_nc, .inl (cy_nc, 8000, .inl f_nc))]) [3, 4, 5, 6, 7] rfl
        have hDc := hD.sub (ws' := [(h_mm, .inr (8, (mo86 vq70 (.ref h_nv) (.ref h_na) (.ref h_nb) (.ref h_nc)))), (h_nv, .inl (cy_nv, 8000, .inl f_nv)), (h_na, .inl (cy_na, 8000, .inl f_na)), (h_nb, .inl (cy_nb, 8000, .inl f_nb)), (h_nc, .inl (cy_nc, 8000, .inl f_nc))]) [3, 4, 5, 6, 7] (by decide) rfl
        have hKc := hK.sub (tys' := [(cy_nv, .int), (cy_na, .int), (cy_nb, .int), (cy_nc, .int)]) [0, 1, 2, 3] rfl
        have hFc := va_free (wc := [(h_mm, .inr (8, (mo86 vq70 (.ref h_nv) (.ref h_na) (.ref h_nb) (.ref h_nc)))), (h_nv, .inl (cy_nv, 8000, .inl f_nv)), (h_na, .inl (cy_na, 8000, .inl f_na)), (h_nb, .inl (cy_nb, 8000, .inl f_nb)), (h_nc, .inl (cy_nc, 8000, .inl f_nc))]) hD hS hA [3, 4, 5, 6, 7] rfl
        refine va_calli (va_runV (As := [.int z17]) (rest := [.int r67]) ⟨hx, hb, hml, hown, hts⟩ (c_X11_partsAt_e l dC dI H.size h_mm h_nv h_na h_nb h_nc vq70 cy_nv f_nv cy_na f_na cy_nb f_nb cy_nc f_nc z17 hf_nv hf_na hf_nb hf_nc (by first | exact k20 | omega)) (cwV 1 hts (gv hT w_m_X11_27 w_instanceMethod_X11_partsAt ws_sel_X11_partsAt w_ini_X11 w_code_X11_partsAt) rfl rfl rfl (by decide +kernel) ⟨(by dsimp only [headSpec]; omega), (by dsimp only [headSpec]; omega)⟩) ⟨pre_blind, va_recv hK hP (ci := 8) (q0 := 3) rfl rfl, pre_of hPc hKc hDc hN⟩ rfl rfl hl.1 rfl (lv_room (Nat.le_of_ble_eq_true rfl)) dX11_areAlike_133 ⟨(Nat.le_of_ble_eq_true rfl), (Nat.le_of_ble_eq_true rfl)⟩) hS (fun q _ h => hFc q h) hFc (fun r71 u t H locs ht hvm hq hB hz1 hk1 hS9 => ?_)
        obtain ⟨hP1, hD1⟩ := hB
        rw [ht] at hP1
        obtain ⟨hP9, hD9⟩ := va_join (wr := [(h_nn, .inl (cy_nn, 8000, .inr (.inl f_nn))), (h_bto, .inl (cy_bto, 256, .inl f_bto)), (h_bin, .inl (cy_bin, 256, .inl f_bin))]) (w1 := [(h_mm, .inr (8, (mo86 vq70 (.ref h_nv) (.ref h_na) (.ref h_nb) (.ref h_nc)))), (h_nv, .inl (cy_nv, 8000, .inl f_nv)), (h_na, .inl (cy_na, 8000, .inl f_na)), (h_nb, .inl (cy_nb, 8000, .inl f_nb)), (h_nc, .inl (cy_nc, 8000, .inl f_nc))]) hP hD [3, 4, 5, 6, 7] [0, 1, 2] rfl rfl (by decide) (by decide) hk1 hFc hP1 hD1
        clear hP hD hS hPc hDc hKc hFc hP1 hD1 hk1 hz1 ht hvm
        have hP : va_P (dC, dI) cls [(h_nn, .inl (cy_nn, 8000, .inr (.inl f_nn))), (h_bto, .inl (cy_bto, 256, .inl f_bto)), (h_bin, .inl (cy_bin, 256, .inl f_bin)), (h_mm, .inr (8, (mo86 vq70 (.ref h_nv) (.ref h_na) (.ref h_nb) (.ref h_nc)))), (h_nv, .inl (cy_nv, 8000, .inl f_nv)), (h_na, .inl (cy_na, 8000, .inl f_na)), (h_nb, .inl (cy_nb, 8000, .inl f_nb)), (h_nc, .inl (cy_nc, 8000, .inl f_nc))] H := hP9
        have hD : va_D A [(h_nn, .inl (cy_nn, 8000, .inr (.inl f_nn))), (h_bto, .inl (cy_bto, 256, .inl f_bto)), (h_bin, .inl (cy_bin, 256, .inl f_bin)), (h_mm, .inr (8, (mo86 vq70 (.ref h_nv) (.ref h_na) (.ref h_nb) (.ref h_nc)))), (h_nv, .inl (cy_nv, 8000, .inl f_nv)), (h_na, .inl (cy_na, 8000, .inl f_na)), (h_nb, .inl (cy_nb, 8000, .inl f_nb)), (h_nc, .inl (cy_nc, 8000, .inl f_nc))] := hD9
        have hS := hS9
        clear hP9 hD9 hS9
        rw [evq70] at hP hD
        replace hP : va_P (dC, dI) cls [(h_nn, .inl (cy_nn, 8000, .inr (.inl f_nn))), (h_bto, .inl (cy_bto, 256, .inl f_bto)), (h_bin, .inl (cy_bin, 256, .inl f_bin)), (h_mm, .inr (8, (mo137 v_mm (.ref h_nv) (.ref h_nn) (.ref h_na) (.ref h_nb) (.ref h_nc) (.ref h_bto) (.ref h_bin) (.int z17) (.int z18)))), (h_nv, .inl (cy_nv, 8000, .inl f_nv)), (h_na, .inl (cy_na, 8000, .inl f_na)), (h_nb, .inl (cy_nb, 8000, .inl f_nb)), (h_nc, .inl (cy_nc, 8000, .inl f_nc))] H := hP
        replace hD : va_D A [(h_nn, .inl (cy_nn, 8000, .inr (.inl f_nn))), (h_bto, .inl (cy_bto, 256, .inl f_bto)), (h_bin, .inl (cy_bin, 256, .inl f_bin)), (h_mm, .inr (8, (mo137 v_mm (.ref h_nv) (.ref h_nn) (.ref h_na) (.ref h_nb) (.ref h_nc) (.ref h_bto) (.ref h_bin) (.int z17) (.int z18)))), (h_nv, .inl (cy_nv, 8000, .inl f_nv)), (h_na, .inl (cy_na, 8000, .inl f_na)), (h_nb, .inl (cy_nb, 8000, .inl f_nb)), (h_nc, .inl (cy_nc, 8000, .inl f_nc))] := hD
        clear evq70 
        obtain ⟨k72, k73⟩ := hq
        replace k72 : 0 ≤ (r71).toInt ∧ (r71).toInt ≤ 3 := k72
        replace k73 : ((r71)).toInt = (npx f_nv f_na f_nb f_nc ((z17)).toInt.toNat) := k73
        refine lv_icmp_eq (tgt := 141) hx hb dX11_areAlike_136 (by decide) (fun c74 => ?_) (fun c74 => ?_)
        · have kc74 := (cv_eq (rfl : (r67).toInt = (r67).toInt) (rfl : (r71).toInt = (r71).toInt)).mp c74
          have nm8 : g.2.2.1 (PLR z3 z4) = g.2.2.1 (PLR z17 z18) ∧ g.2.2.2.1 (PLR z3 z4) = g.2.2.2.1 (PLR z17 z18) := by rw [gn9a, gn9b, ga9a, ga9b]; omega
          refine lv_iconst (v := 0) hx hb dX11_areAlike_141 (by decide) ?_
          refine lv_istore (lv' := [(9, .int 0), (8, .int z18), (7, .int z17), (6, .int z4), (5, .int z3), (0, .ref h_mm), (1, .int p1), (2, .int p2), (3, .int p3), (4, .int p4)]) hx hb dX11_areAlike_142 hl (by decide) rfl (fun ls hl => ?_)
          have lp78 : ∀ (n : Nat) (x75 : Int32) (x76 : Int32) (x77 : Int32) (H : Heap) (locs : List Loc) (ls : Array Slot), (0 ≤ (x75).toInt ∧ (x75).toInt ≤ 3) → (0 ≤ (x76).toInt ∧ (x76).toInt ≤ 7999) → (0 ≤ (x77).toInt ∧ (x77).toInt ≤ 31) → (AKK g (BDW f_bto f_bin) (PLR z3 z4) (PLR z17 z18) ((x75).toInt)) → (3 - (x75).toInt).toNat + 1 ≤ n → va_P (dC, dI) cls [(h_nn, .inl (cy_nn, 8000, .inr (.inl f_nn))), (h_bto, .inl (cy_bto, 256, .inl f_bto)), (h_bin, .inl (cy_bin, 256, .inl f_bin)), (h_mm, .inr (8, (mo137 v_mm (.ref h_nv) (.ref h_nn) (.ref h_na) (.ref h_nb) (.ref h_nc) (.ref h_bto) (.ref h_bin) (.int x76) (.int x77)))), (h_nv, .inl (cy_nv, 8000, .inl f_nv)), (h_na, .inl (cy_na, 8000, .inl f_na)), (h_nb, .inl (cy_nb, 8000, .inl f_nb)), (h_nc, .inl (cy_nc, 8000, .inl f_nc))] H → va_D A [(h_nn, .inl (cy_nn, 8000, .inr (.inl f_nn))), (h_bto, .inl (cy_bto, 256, .inl f_bto)), (h_bin, .inl (cy_bin, 256, .inl f_bin)), (h_mm, .inr (8, (mo137 v_mm (.ref h_nv) (.ref h_nn) (.ref h_na) (.ref h_nb) (.ref h_nc) (.ref h_bto) (.ref h_bin) (.int x76) (.int x77)))), (h_nv, .inl (cy_nv, 8000, .inl f_nv)), (h_na, .inl (cy_na, 8000, .inl f_na)), (h_nb, .inl (cy_nb, 8000, .inl f_nb)), (h_nc, .inl (cy_nc, 8000, .inl f_nc))] → va_S A s.heap H locs → lv_has ls 10 [(0, .ref h_mm), (1, .int p1), (2, .int p2), (3, .int p3), (4, .int p4), (5, .int z3), (6, .int z4), (7, .int z17), (8, .int z18), (9, .int x75)] → W p l e ({ frames := (fu + 1) + 2, cells := 0, slots := 0, locals := 29 * (fu + 1) + 45 } : Room) s m ([.ref h_mm, .int p1, .int p2, .int p3, .int p4] : List Value).toArray below meth c H locs 0 0 (MQ below (va_Qi (fun (r : Int32) (u : (Int32) × (Int32)) => (0 ≤ (u.1).toInt ∧ (u.1).toInt ≤ 7999) ∧ (0 ≤ (u.2).toInt ∧ (u.2).toInt ≤ 31) ∧ (0 ≤ r.toInt ∧ r.toInt ≤ 1) ∧ (((r).toInt = 1 ∧ ALK g (BDW f_bto f_bin) (PLR p1 p2) (PLR p3 p4)) ∨ ((r).toInt = 0 ∧ ¬ ALK g (BDW f_bto f_bin) (PLR p1 p2) (PLR p3 p4)))) (fun (u : (Int32) × (Int32)) (t : State) => va_P (dC, dI) cls [(h_mm, .inr (8, (mo137 v_mm (.ref h_nv) (.ref h_nn) (.ref h_na) (.ref h_nb) (.ref h_nc) (.ref h_bto) (.ref h_bin) (.int u.1) (.int u.2)))), (h_nv, .inl (cy_nv, 8000, .inl f_nv)), (h_na, .inl (cy_na, 8000, .inl f_na)), (h_nb, .inl (cy_nb, 8000, .inl f_nb)), (h_nc, .inl (cy_nc, 8000, .inl f_nc)), (h_bto, .inl (cy_bto, 256, .inl f_bto)), (h_bin, .inl (cy_bin, 256, .inl f_bin)), (h_nn, .inl (cy_nn, 8000, .inr (.inl f_nn)))] t.heap ∧ va_D A [(h_mm, .inr (8, (mo137 v_mm (.ref h_nv) (.ref h_nn) (.ref h_na) (.ref h_nb) (.ref h_nc) (.ref h_bto) (.ref h_bin) (.int u.1) (.int u.2)))), (h_nv, .inl (cy_nv, 8000, .inl f_nv)), (h_na, .inl (cy_na, 8000, .inl f_na)), (h_nb, .inl (cy_nb, 8000, .inl f_nb)), (h_nc, .inl (cy_nc, 8000, .inl f_nc)), (h_bto, .inl (cy_bto, 256, .inl f_bto)), (h_bin, .inl (cy_bin, 256, .inl f_bin)), (h_nn, .inl (cy_nn, 8000, .inr (.inl f_nn)))]) A) ([.ref h_mm, .int p1, .int p2, .int p3, .int p4] : List Value).toArray s 0 0 A) (F0 m 144 ls []) := by
            clear hP hD hS hl
            intro n
            induction n with
            | zero => intro x75 x76 x77 H locs ls klp78_0 klp78_1 klp78_2 klp78_3 hm hP hD hS hl; exact False.elim (by omega)
            | succ n ih => 
              intro x75 x76 x77 H locs ls klp78_0 klp78_1 klp78_2 klp78_3 hm hP hD hS hl
              have ih79 := ih
              clear ih
              refine lv_iload hx hb dX11_areAlike_144 (lv_at hl 9 rfl) ?_
              refine lv_aload_n hx hb dX11_areAlike_146 rfl (lv_at hl 0 rfl) ?_
              refine lv_iload hx hb dX11_areAlike_147 (lv_at hl 5 rfl) ?_
              obtain ⟨vq80, evq80⟩ := mq137_86 v_mm (.ref h_nn) (.ref h_bto) (.ref h_bin) (.int x76) (.int x77)
              replace hP : va_P (dC, dI) cls [(h_nn, .inl (cy_nn, 8000, .inr (.inl f_nn))), (h_bto, .inl (cy_bto, 256, .inl f_bto)), (h_bin, .inl (cy_bin, 256, .inl f_bin)), (h_mm, .inr (8, (mo86 vq80 (.ref h_nv) (.ref h_na) (.ref h_nb) (.ref h_nc)))), (h_nv, .inl (cy_nv, 8000, .inl f_nv)), (h_na, .inl (cy_na, 8000, .inl f_na)), (h_nb, .inl (cy_nb, 8000, .inl f_nb)), (h_nc, .inl (cy_nc, 8000, .inl f_nc))] H := by rw [evq80]; exact hP
              replace hD : va_D A [(h_nn, .inl (cy_nn, 8000, .inr (.inl f_nn))), (h_bto, .inl (cy_bto, 256, .inl f_bto)), (h_bin, .inl (cy_bin, 256, .inl f_bin)), (h_mm, .inr (8, (mo86 vq80 (.ref h_nv) (.ref h_na) (.ref h_nb) (.ref h_nc)))), (h_nv, .inl (cy_nv, 8000, .inl f_nv)), (h_na, .inl (cy_na, 8000, .inl f_na)), (h_nb, .inl (cy_nb, 8000, .inl f_nb)), (h_nc, .inl (cy_nc, 8000, .inl f_nc))] := by rw [evq80]; exact hD
              have hPc := hP.sub (ws' := [(h_mm, .inr (8, (mo86 vq80 (.ref h_nv) (.ref h_na) (.ref h_nb) (.ref h_nc)))), (h_nv, .inl (cy_nv, 8000, .inl f_nv)), (h_na, .inl (cy_na, 8000, .inl f_na)), (h_nb, .inl (cy_nb, 8000, .inl f_nb)), (h_nc, .inl (cy_nc, 8000, .inl f_nc))]) [3, 4, 5, 6, 7] rfl
              have hDc := hD.sub (ws' := [(h_mm, .inr (8, (mo86 vq80 (.ref h_nv) (.ref h_na) (.ref h_nb) (.ref h_nc)))), (h_nv, .inl (cy_nv, 8000, .inl f_nv)), (h_na, .inl (cy_na, 8000, .inl f_na)), (h_nb, .inl (cy_nb, 8000, .inl f_nb)), (h_nc, .inl (cy_nc, 8000, .inl f_nc))]) [3, 4, 5, 6, 7] (by decide) rfl
              have hKc := hK.sub (tys' := [(cy_nv, .int), (cy_na, .int), (cy_nb, .int), (cy_nc, .int)]) [0, 1, 2, 3] rfl
              have hFc := va_free (wc := [(h_mm, .inr (8, (mo86 vq80 (.ref h_nv) (.ref h_na) (.ref h_nb) (.ref h_nc)))), (h_nv, .inl (cy_nv, 8000, .inl f_nv)), (h_na, .inl (cy_na, 8000, .inl f_na)), (h_nb, .inl (cy_nb, 8000, .inl f_nb)), (h_nc, .inl (cy_nc, 8000, .inl f_nc))]) hD hS hA [3, 4, 5, 6, 7] rfl
              refine va_calli (va_runV (As := [.int z3]) (rest := [.int x75]) ⟨hx, hb, hml, hown, hts⟩ (c_X11_partsAt_e l dC dI H.size h_mm h_nv h_na h_nb h_nc vq80 cy_nv f_nv cy_na f_na cy_nb f_nb cy_nc f_nc z3 hf_nv hf_na hf_nb hf_nc (by first | exact k6 | omega)) (cwV 1 hts (gv hT w_m_X11_27 w_instanceMethod_X11_partsAt ws_sel_X11_partsAt w_ini_X11 w_code_X11_partsAt) rfl rfl rfl (by decide +kernel) ⟨(by dsimp only [headSpec]; omega), (by dsimp only [headSpec]; omega)⟩) ⟨pre_blind, va_recv hK hP (ci := 8) (q0 := 3) rfl rfl, pre_of hPc hKc hDc hN⟩ rfl rfl hl.1 rfl (lv_room (Nat.le_of_ble_eq_true rfl)) dX11_areAlike_149 ⟨(Nat.le_of_ble_eq_true rfl), (Nat.le_of_ble_eq_true rfl)⟩) hS (fun q _ h => hFc q h) hFc (fun r81 u t H locs ht hvm hq hB hz1 hk1 hS9 => ?_)
              obtain ⟨hP1, hD1⟩ := hB
              rw [ht] at hP1
              obtain ⟨hP9, hD9⟩ := va_join (wr := [(h_nn, .inl (cy_nn, 8000, .inr (.inl f_nn))), (h_bto, .inl (cy_bto, 256, .inl f_bto)), (h_bin, .inl (cy_bin, 256, .inl f_bin))]) (w1 := [(h_mm, .inr (8, (mo86 vq80 (.ref h_nv) (.ref h_na) (.ref h_nb) (.ref h_nc)))), (h_nv, .inl (cy_nv, 8000, .inl f_nv)), (h_na, .inl (cy_na, 8000, .inl f_na)), (h_nb, .inl (cy_nb, 8000, .inl f_nb)), (h_nc, .inl (cy_nc, 8000, .inl f_nc))]) hP hD [3, 4, 5, 6, 7] [0, 1, 2] rfl rfl (by decide) (by decide) hk1 hFc hP1 hD1
              clear hP hD hS hPc hDc hKc hFc hP1 hD1 hk1 hz1 ht hvm
              have hP : va_P (dC, dI) cls [(h_nn, .inl (cy_nn, 8000, .inr (.inl f_nn))), (h_bto, .inl (cy_bto, 256, .inl f_bto)), (h_bin, .inl (cy_bin, 256, .inl f_bin)), (h_mm, .inr (8, (mo86 vq80 (.ref h_nv) (.ref h_na) (.ref h_nb) (.ref h_nc)))), (h_nv, .inl (cy_nv, 8000, .inl f_nv)), (h_na, .inl (cy_na, 8000, .inl f_na)), (h_nb, .inl (cy_nb, 8000, .inl f_nb)), (h_nc, .inl (cy_nc, 8000, .inl f_nc))] H := hP9
              have hD : va_D A [(h_nn, .inl (cy_nn, 8000, .inr (.inl f_nn))), (h_bto, .inl (cy_bto, 256, .inl f_bto)), (h_bin, .inl (cy_bin, 256, .inl f_bin)), (h_mm, .inr (8, (mo86 vq80 (.ref h_nv) (.ref h_na) (.ref h_nb) (.ref h_nc)))), (h_nv, .inl (cy_nv, 8000, .inl f_nv)), (h_na, .inl (cy_na, 8000, .inl f_na)), (h_nb, .inl (cy_nb, 8000, .inl f_nb)), (h_nc, .inl (cy_nc, 8000, .inl f_nc))] := hD9
              have hS := hS9
              clear hP9 hD9 hS9
              rw [evq80] at hP hD
              replace hP : va_P (dC, dI) cls [(h_nn, .inl (cy_nn, 8000, .inr (.inl f_nn))), (h_bto, .inl (cy_bto, 256, .inl f_bto)), (h_bin, .inl (cy_bin, 256, .inl f_bin)), (h_mm, .inr (8, (mo137 v_mm (.ref h_nv) (.ref h_nn) (.ref h_na) (.ref h_nb) (.ref h_nc) (.ref h_bto) (.ref h_bin) (.int x76) (.int x77)))), (h_nv, .inl (cy_nv, 8000, .inl f_nv)), (h_na, .inl (cy_na, 8000, .inl f_na)), (h_nb, .inl (cy_nb, 8000, .inl f_nb)), (h_nc, .inl (cy_nc, 8000, .inl f_nc))] H := hP
              replace hD : va_D A [(h_nn, .inl (cy_nn, 8000, .inr (.inl f_nn))), (h_bto, .inl (cy_bto, 256, .inl f_bto)), (h_bin, .inl (cy_bin, 256, .inl f_bin)), (h_mm, .inr (8, (mo137 v_mm (.ref h_nv) (.ref h_nn) (.ref h_na) (.ref h_nb) (.ref h_nc) (.ref h_bto) (.ref h_bin) (.int x76) (.int x77)))), (h_nv, .inl (cy_nv, 8000, .inl f_nv)), (h_na, .inl (cy_na, 8000, .inl f_na)), (h_nb, .inl (cy_nb, 8000, .inl f_nb)), (h_nc, .inl (cy_nc, 8000, .inl f_nc))] := hD
              clear evq80 
              obtain ⟨k82, k83⟩ := hq
              replace k82 : 0 ≤ (r81).toInt ∧ (r81).toInt ≤ 3 := k82
              replace k83 : ((r81)).toInt = (npx f_nv f_na f_nb f_nc ((z3)).toInt.toNat) := k83
              refine lv_icmp_ge (tgt := 190) hx hb dX11_areAlike_152 (by decide) (fun c84 => ?_) (fun c84 => ?_)
              · have kc84 := (cv_le (rfl : (r81).toInt = (r81).toInt) (rfl : (x75).toInt = (x75).toInt)).mp c84
                refine lv_iconst (v := 1) hx hb dX11_areAlike_190 (by decide) ?_
                replace hP : va_P (dC, dI) cls [(h_mm, .inr (8, (mo137 v_mm (.ref h_nv) (.ref h_nn) (.ref h_na) (.ref h_nb) (.ref h_nc) (.ref h_bto) (.ref h_bin) (.int x76) (.int x77)))), (h_nv, .inl (cy_nv, 8000, .inl f_nv)), (h_na, .inl (cy_na, 8000, .inl f_na)), (h_nb, .inl (cy_nb, 8000, .inl f_nb)), (h_nc, .inl (cy_nc, 8000, .inl f_nc)), (h_bto, .inl (cy_bto, 256, .inl f_bto)), (h_bin, .inl (cy_bin, 256, .inl f_bin)), (h_nn, .inl (cy_nn, 8000, .inr (.inl f_nn)))] H := hP.sub [3, 4, 5, 6, 7, 1, 2, 0] rfl
                replace hD : va_D A [(h_mm, .inr (8, (mo137 v_mm (.ref h_nv) (.ref h_nn) (.ref h_na) (.ref h_nb) (.ref h_nc) (.ref h_bto) (.ref h_bin) (.int x76) (.int x77)))), (h_nv, .inl (cy_nv, 8000, .inl f_nv)), (h_na, .inl (cy_na, 8000, .inl f_na)), (h_nb, .inl (cy_nb, 8000, .inl f_nb)), (h_nc, .inl (cy_nc, 8000, .inl f_nc)), (h_bto, .inl (cy_bto, 256, .inl f_bto)), (h_bin, .inl (cy_bin, 256, .inl f_bin)), (h_nn, .inl (cy_nn, 8000, .inr (.inl f_nn)))] := hD.sub [3, 4, 5, 6, 7, 1, 2, 0] (by decide) rfl
                refine W.widen (k := 0) (n := 0) (Nat.le_of_ble_eq_true rfl) (Nat.le_of_ble_eq_true rfl) ?_
                have cst1 : (1 : Int32).toInt = 1 := by decide
                have w85 : 0 ≤ ((x76)).toInt ∧ ((x76)).toInt ≤ 7999 := by first | exact klp78_1 | omega
                have w86 : 0 ≤ ((x77)).toInt ∧ ((x77)).toInt ≤ 31 := by first | exact klp78_2 | omega
                have w87 : 0 ≤ (1 : Int32).toInt ∧ (1 : Int32).toInt ≤ 1 := by omega
                have w88 : (((1 : Int32)).toInt = 1 ∧ ALK g (BDW f_bto f_bin) (PLR p1 p2) (PLR p3 p4)) ∨ (((1 : Int32)).toInt = 0 ∧ ¬ ALK g (BDW f_bto f_bin) (PLR p1 p2) (PLR p3 p4)) := (Or.inl ⟨by decide, akk_end k14 k28 (by rw [gv9a]; omega) (by rw [gv9b]; omega) nm8 klp78_3 (by rw [ga9a]; omega)⟩)
                exact W.zret (v := 1) (ty := .boolean) hx hb hr (by decide) (fun t ht hW => ⟨⟨1, (x76, x77), rfl, ⟨w85, w86, w87, w88⟩, by rw [ht]; exact hP, hD⟩, hS.F ht⟩) hS.2.2 dX11_areAlike_191
              · have kc84 := (not_congr (cv_le (rfl : (r81).toInt = (r81).toInt) (rfl : (x75).toInt = (x75).toInt))).mp c84
                refine lv_aload_n hx hb dX11_areAlike_155 rfl (lv_at hl 0 rfl) ?_
                refine lv_aload_n hx hb dX11_areAlike_156 rfl (lv_at hl 0 rfl) ?_
                refine lv_iload hx hb dX11_areAlike_157 (lv_at hl 5 rfl) ?_
                refine lv_iload hx hb dX11_areAlike_159 (lv_at hl 9 rfl) ?_
                obtain ⟨vq89, evq89⟩ := mq137_85 v_mm (.ref h_nv) (.ref h_nn) (.ref h_bto) (.ref h_bin) (.int x76) (.int x77)
                replace hP : va_P (dC, dI) cls [(h_nn, .inl (cy_nn, 8000, .inr (.inl f_nn))), (h_bto, .inl (cy_bto, 256, .inl f_bto)), (h_bin, .inl (cy_bin, 256, .inl f_bin)), (h_mm, .inr (8, (mo85 vq89 (.ref h_na) (.ref h_nb) (.ref h_nc)))), (h_nv, .inl (cy_nv, 8000, .inl f_nv)), (h_na, .inl (cy_na, 8000, .inl f_na)), (h_nb, .inl (cy_nb, 8000, .inl f_nb)), (h_nc, .inl (cy_nc, 8000, .inl f_nc))] H := by rw [evq89]; exact hP
                replace hD : va_D A [(h_nn, .inl (cy_nn, 8000, .inr (.inl f_nn))), (h_bto, .inl (cy_bto, 256, .inl f_bto)), (h_bin, .inl (cy_bin, 256, .inl f_bin)), (h_mm, .inr (8, (mo85 vq89 (.ref h_na) (.ref h_nb) (.ref h_nc)))), (h_nv, .inl (cy_nv, 8000, .inl f_nv)), (h_na, .inl (cy_na, 8000, .inl f_na)), (h_nb, .inl (cy_nb, 8000, .inl f_nb)), (h_nc, .inl (cy_nc, 8000, .inl f_nc))] := by rw [evq89]; exact hD
                have hPc := hP.sub (ws' := [(h_mm, .inr (8, (mo85 vq89 (.ref h_na) (.ref h_nb) (.ref h_nc)))), (h_na, .inl (cy_na, 8000, .inl f_na)), (h_nb, .inl (cy_nb, 8000, .inl f_nb)), (h_nc, .inl (cy_nc, 8000, .inl f_nc))]) [3, 5, 6, 7] rfl
                have hDc := hD.sub (ws' := [(h_mm, .inr (8, (mo85 vq89 (.ref h_na) (.ref h_nb) (.ref h_nc)))), (h_na, .inl (cy_na, 8000, .inl f_na)), (h_nb, .inl (cy_nb, 8000, .inl f_nb)), (h_nc, .inl (cy_nc, 8000, .inl f_nc))]) [3, 5, 6, 7] (by decide) rfl
                have hKc := hK.sub (tys' := [(cy_na, .int), (cy_nb, .int), (cy_nc, .int)]) [1, 2, 3] rfl
                have hFc := va_free (wc := [(h_mm, .inr (8, (mo85 vq89 (.ref h_na) (.ref h_nb) (.ref h_nc)))), (h_na, .inl (cy_na, 8000, .inl f_na)), (h_nb, .inl (cy_nb, 8000, .inl f_nb)), (h_nc, .inl (cy_nc, 8000, .inl f_nc))]) hD hS hA [3, 5, 6, 7] rfl
                refine va_calli (va_runV (As := [.int z3, .int x75]) (rest := [.ref h_mm]) ⟨hx, hb, hml, hown, hts⟩ (c_X11_part_e l dC dI H.size h_mm h_na h_nb h_nc vq89 cy_na f_na cy_nb f_nb cy_nc f_nc z3 x75 hf_na hf_nb hf_nc (by first | exact k6 | omega)) (cwV 2 hts (gv hT w_m_X11_31 w_instanceMethod_X11_part ws_sel_X11_part w_ini_X11 w_code_X11_part) rfl rfl rfl (by decide +kernel) ⟨(by dsimp only [headSpec]; omega), (by dsimp only [headSpec]; omega)⟩) ⟨pre_blind, va_recv hK hP (ci := 8) (q0 := 3) rfl rfl, pre_of hPc hKc hDc hN⟩ rfl rfl hl.1 rfl (lv_room (Nat.le_of_ble_eq_true rfl)) dX11_areAlike_161 ⟨(Nat.le_of_ble_eq_true rfl), (Nat.le_of_ble_eq_true rfl)⟩) hS (fun q _ h => hFc q h) hFc (fun r90 u t H locs ht hvm hq hB hz1 hk1 hS9 => ?_)
                obtain ⟨hP1, hD1⟩ := hB
                rw [ht] at hP1
                obtain ⟨hP9, hD9⟩ := va_join (wr := [(h_nn, .inl (cy_nn, 8000, .inr (.inl f_nn))), (h_bto, .inl (cy_bto, 256, .inl f_bto)), (h_bin, .inl (cy_bin, 256, .inl f_bin)), (h_nv, .inl (cy_nv, 8000, .inl f_nv))]) (w1 := [(h_mm, .inr (8, (mo85 vq89 (.ref h_na) (.ref h_nb) (.ref h_nc)))), (h_na, .inl (cy_na, 8000, .inl f_na)), (h_nb, .inl (cy_nb, 8000, .inl f_nb)), (h_nc, .inl (cy_nc, 8000, .inl f_nc))]) hP hD [3, 5, 6, 7] [0, 1, 2, 4] rfl rfl (by decide) (by decide) hk1 hFc hP1 hD1
                clear hP hD hS hPc hDc hKc hFc hP1 hD1 hk1 hz1 ht hvm
                have hP : va_P (dC, dI) cls [(h_nn, .inl (cy_nn, 8000, .inr (.inl f_nn))), (h_bto, .inl (cy_bto, 256, .inl f_bto)), (h_bin, .inl (cy_bin, 256, .inl f_bin)), (h_nv, .inl (cy_nv, 8000, .inl f_nv)), (h_mm, .inr (8, (mo85 vq89 (.ref h_na) (.ref h_nb) (.ref h_nc)))), (h_na, .inl (cy_na, 8000, .inl f_na)), (h_nb, .inl (cy_nb, 8000, .inl f_nb)), (h_nc, .inl (cy_nc, 8000, .inl f_nc))] H := hP9
                have hD : va_D A [(h_nn, .inl (cy_nn, 8000, .inr (.inl f_nn))), (h_bto, .inl (cy_bto, 256, .inl f_bto)), (h_bin, .inl (cy_bin, 256, .inl f_bin)), (h_nv, .inl (cy_nv, 8000, .inl f_nv)), (h_mm, .inr (8, (mo85 vq89 (.ref h_na) (.ref h_nb) (.ref h_nc)))), (h_na, .inl (cy_na, 8000, .inl f_na)), (h_nb, .inl (cy_nb, 8000, .inl f_nb)), (h_nc, .inl (cy_nc, 8000, .inl f_nc))] := hD9
                have hS := hS9
                clear hP9 hD9 hS9
                rw [evq89] at hP hD
                replace hP : va_P (dC, dI) cls [(h_nn, .inl (cy_nn, 8000, .inr (.inl f_nn))), (h_bto, .inl (cy_bto, 256, .inl f_bto)), (h_bin, .inl (cy_bin, 256, .inl f_bin)), (h_nv, .inl (cy_nv, 8000, .inl f_nv)), (h_mm, .inr (8, (mo137 v_mm (.ref h_nv) (.ref h_nn) (.ref h_na) (.ref h_nb) (.ref h_nc) (.ref h_bto) (.ref h_bin) (.int x76) (.int x77)))), (h_na, .inl (cy_na, 8000, .inl f_na)), (h_nb, .inl (cy_nb, 8000, .inl f_nb)), (h_nc, .inl (cy_nc, 8000, .inl f_nc))] H := hP
                replace hD : va_D A [(h_nn, .inl (cy_nn, 8000, .inr (.inl f_nn))), (h_bto, .inl (cy_bto, 256, .inl f_bto)), (h_bin, .inl (cy_bin, 256, .inl f_bin)), (h_nv, .inl (cy_nv, 8000, .inl f_nv)), (h_mm, .inr (8, (mo137 v_mm (.ref h_nv) (.ref h_nn) (.ref h_na) (.ref h_nb) (.ref h_nc) (.ref h_bto) (.ref h_bin) (.int x76) (.int x77)))), (h_na, .inl (cy_na, 8000, .inl f_na)), (h_nb, .inl (cy_nb, 8000, .inl f_nb)), (h_nc, .inl (cy_nc, 8000, .inl f_nc))] := hD
                clear evq89 
                obtain ⟨k91, k92⟩ := hq
                replace k91 : -1 ≤ (r90).toInt ∧ (r90).toInt ≤ 7999 := k91
                replace k92 : ((r90)).toInt = (ptx f_na f_nb f_nc ((z3)).toInt.toNat ((x75)).toInt).toInt := k92
                refine lv_iload hx hb dX11_areAlike_164 (lv_at hl 6 rfl) ?_
                refine lv_aload_n hx hb dX11_areAlike_166 rfl (lv_at hl 0 rfl) ?_
                refine lv_iload hx hb dX11_areAlike_167 (lv_at hl 7 rfl) ?_
                refine lv_iload hx hb dX11_areAlike_169 (lv_at hl 9 rfl) ?_
                obtain ⟨vq93, evq93⟩ := mq137_85 v_mm (.ref h_nv) (.ref h_nn) (.ref h_bto) (.ref h_bin) (.int x76) (.int x77)
                replace hP : va_P (dC, dI) cls [(h_nn, .inl (cy_nn, 8000, .inr (.inl f_nn))), (h_bto, .inl (cy_bto, 256, .inl f_bto)), (h_bin, .inl (cy_bin, 256, .inl f_bin)), (h_nv, .inl (cy_nv, 8000, .inl f_nv)), (h_mm, .inr (8, (mo85 vq93 (.ref h_na) (.ref h_nb) (.ref h_nc)))), (h_na, .inl (cy_na, 8000, .inl f_na)), (h_nb, .inl (cy_nb, 8000, .inl f_nb)), (h_nc, .inl (cy_nc, 8000, .inl f_nc))] H := by rw [evq93]; exact hP
                replace hD : va_D A [(h_nn, .inl (cy_nn, 8000, .inr (.inl f_nn))), (h_bto, .inl (cy_bto, 256, .inl f_bto)), (h_bin, .inl (cy_bin, 256, .inl f_bin)), (h_nv, .inl (cy_nv, 8000, .inl f_nv)), (h_mm, .inr (8, (mo85 vq93 (.ref h_na) (.ref h_nb) (.ref h_nc)))), (h_na, .inl (cy_na, 8000, .inl f_na)), (h_nb, .inl (cy_nb, 8000, .inl f_nb)), (h_nc, .inl (cy_nc, 8000, .inl f_nc))] := by rw [evq93]; exact hD
                have hPc := hP.sub (ws' := [(h_mm, .inr (8, (mo85 vq93 (.ref h_na) (.ref h_nb) (.ref h_nc)))), (h_na, .inl (cy_na, 8000, .inl f_na)), (h_nb, .inl (cy_nb, 8000, .inl f_nb)), (h_nc, .inl (cy_nc, 8000, .inl f_nc))]) [4, 5, 6, 7] rfl
                have hDc := hD.sub (ws' := [(h_mm, .inr (8, (mo85 vq93 (.ref h_na) (.ref h_nb) (.ref h_nc)))), (h_na, .inl (cy_na, 8000, .inl f_na)), (h_nb, .inl (cy_nb, 8000, .inl f_nb)), (h_nc, .inl (cy_nc, 8000, .inl f_nc))]) [4, 5, 6, 7] (by decide) rfl
                have hKc := hK.sub (tys' := [(cy_na, .int), (cy_nb, .int), (cy_nc, .int)]) [1, 2, 3] rfl
                have hFc := va_free (wc := [(h_mm, .inr (8, (mo85 vq93 (.ref h_na) (.ref h_nb) (.ref h_nc)))), (h_na, .inl (cy_na, 8000, .inl f_na)), (h_nb, .inl (cy_nb, 8000, .inl f_nb)), (h_nc, .inl (cy_nc, 8000, .inl f_nc))]) hD hS hA [4, 5, 6, 7] rfl
                refine va_calli (va_runV (As := [.int z17, .int x75]) (rest := [.int z4, .int r90, .ref h_mm]) ⟨hx, hb, hml, hown, hts⟩ (c_X11_part_e l dC dI H.size h_mm h_na h_nb h_nc vq93 cy_na f_na cy_nb f_nb cy_nc f_nc z17 x75 hf_na hf_nb hf_nc (by first | exact k20 | omega)) (cwV 2 hts (gv hT w_m_X11_31 w_instanceMethod_X11_part ws_sel_X11_part w_ini_X11 w_code_X11_part) rfl rfl rfl (by decide +kernel) ⟨(by dsimp only [headSpec]; omega), (by dsimp only [headSpec]; omega)⟩) ⟨pre_blind, va_recv hK hP (ci := 8) (q0 := 4) rfl rfl, pre_of hPc hKc hDc hN⟩ rfl rfl hl.1 rfl (lv_room (Nat.le_of_ble_eq_true rfl)) dX11_areAlike_171 ⟨(Nat.le_of_ble_eq_true rfl), (Nat.le_of_ble_eq_true rfl)⟩) hS (fun q _ h => hFc q h) hFc (fun r94 u t H locs ht hvm hq hB hz1 hk1 hS9 => ?_)
                obtain ⟨hP1, hD1⟩ := hB
                rw [ht] at hP1
                obtain ⟨hP9, hD9⟩ := va_join (wr := [(h_nn, .inl (cy_nn, 8000, .inr (.inl f_nn))), (h_bto, .inl (cy_bto, 256, .inl f_bto)), (h_bin, .inl (cy_bin, 256, .inl f_bin)), (h_nv, .inl (cy_nv, 8000, .inl f_nv))]) (w1 := [(h_mm, .inr (8, (mo85 vq93 (.ref h_na) (.ref h_nb) (.ref h_nc)))), (h_na, .inl (cy_na, 8000, .inl f_na)), (h_nb, .inl (cy_nb, 8000, .inl f_nb)), (h_nc, .inl (cy_nc, 8000, .inl f_nc))]) hP hD [4, 5, 6, 7] [0, 1, 2, 3] rfl rfl (by decide) (by decide) hk1 hFc hP1 hD1
                clear hP hD hS hPc hDc hKc hFc hP1 hD1 hk1 hz1 ht hvm
                have hP : va_P (dC, dI) cls [(h_nn, .inl (cy_nn, 8000, .inr (.inl f_nn))), (h_bto, .inl (cy_bto, 256, .inl f_bto)), (h_bin, .inl (cy_bin, 256, .inl f_bin)), (h_nv, .inl (cy_nv, 8000, .inl f_nv)), (h_mm, .inr (8, (mo85 vq93 (.ref h_na) (.ref h_nb) (.ref h_nc)))), (h_na, .inl (cy_na, 8000, .inl f_na)), (h_nb, .inl (cy_nb, 8000, .inl f_nb)), (h_nc, .inl (cy_nc, 8000, .inl f_nc))] H := hP9
                have hD : va_D A [(h_nn, .inl (cy_nn, 8000, .inr (.inl f_nn))), (h_bto, .inl (cy_bto, 256, .inl f_bto)), (h_bin, .inl (cy_bin, 256, .inl f_bin)), (h_nv, .inl (cy_nv, 8000, .inl f_nv)), (h_mm, .inr (8, (mo85 vq93 (.ref h_na) (.ref h_nb) (.ref h_nc)))), (h_na, .inl (cy_na, 8000, .inl f_na)), (h_nb, .inl (cy_nb, 8000, .inl f_nb)), (h_nc, .inl (cy_nc, 8000, .inl f_nc))] := hD9
                have hS := hS9
                clear hP9 hD9 hS9
                rw [evq93] at hP hD
                replace hP : va_P (dC, dI) cls [(h_nn, .inl (cy_nn, 8000, .inr (.inl f_nn))), (h_bto, .inl (cy_bto, 256, .inl f_bto)), (h_bin, .inl (cy_bin, 256, .inl f_bin)), (h_nv, .inl (cy_nv, 8000, .inl f_nv)), (h_mm, .inr (8, (mo137 v_mm (.ref h_nv) (.ref h_nn) (.ref h_na) (.ref h_nb) (.ref h_nc) (.ref h_bto) (.ref h_bin) (.int x76) (.int x77)))), (h_na, .inl (cy_na, 8000, .inl f_na)), (h_nb, .inl (cy_nb, 8000, .inl f_nb)), (h_nc, .inl (cy_nc, 8000, .inl f_nc))] H := hP
                replace hD : va_D A [(h_nn, .inl (cy_nn, 8000, .inr (.inl f_nn))), (h_bto, .inl (cy_bto, 256, .inl f_bto)), (h_bin, .inl (cy_bin, 256, .inl f_bin)), (h_nv, .inl (cy_nv, 8000, .inl f_nv)), (h_mm, .inr (8, (mo137 v_mm (.ref h_nv) (.ref h_nn) (.ref h_na) (.ref h_nb) (.ref h_nc) (.ref h_bto) (.ref h_bin) (.int x76) (.int x77)))), (h_na, .inl (cy_na, 8000, .inl f_na)), (h_nb, .inl (cy_nb, 8000, .inl f_nb)), (h_nc, .inl (cy_nc, 8000, .inl f_nc))] := hD
                clear evq93 
                obtain ⟨k95, k96⟩ := hq
                replace k95 : -1 ≤ (r94).toInt ∧ (r94).toInt ≤ 7999 := k95
                replace k96 : ((r94)).toInt = (ptx f_na f_nb f_nc ((z17)).toInt.toNat ((x75)).toInt).toInt := k96
                have ca9e : ptx f_na f_nb f_nc (z3).toInt.toNat (x75).toInt = r90 := Int32.toInt_inj.mp (by omega)
                have ca9c := ch_ok (nv := f_nv) (k := (x75).toInt) (x := (z3).toInt.toNat) hn_bi.1 (by omega) (by omega)
                rw [ca9e] at ca9c
                have ca9p := pa_ch (k := (x75).toInt) (k11) (by omega)
                rw [ca9e] at ca9p
                have cb9e : ptx f_na f_nb f_nc (z17).toInt.toNat (x75).toInt = r94 := Int32.toInt_inj.mp (by omega)
                have cb9c := ch_ok (nv := f_nv) (k := (x75).toInt) (x := (z17).toInt.toNat) hn_bi.1 (by omega) (by omega)
                rw [cb9e] at cb9c
                have kg9a := grv_k (i := z4) hn_grv (show 0 ≤ (z3).toInt ∧ (z3).toInt < 8000 by omega) (by omega) ca9e
                have kg9b := grv_k (i := z18) hn_grv (show 0 ≤ (z17).toInt ∧ (z17).toInt < 8000 by omega) (by omega) cb9e
                refine lv_iload hx hb dX11_areAlike_174 (lv_at hl 8 rfl) ?_
                have hPc := hP.sub (ws' := [(h_mm, .inr (8, (mo137 v_mm (.ref h_nv) (.ref h_nn) (.ref h_na) (.ref h_nb) (.ref h_nc) (.ref h_bto) (.ref h_bin) (.int x76) (.int x77)))), (h_nv, .inl (cy_nv, 8000, .inl f_nv)), (h_na, .inl (cy_na, 8000, .inl f_na)), (h_nb, .inl (cy_nb, 8000, .inl f_nb)), (h_nc, .inl (cy_nc, 8000, .inl f_nc)), (h_bto, .inl (cy_bto, 256, .inl f_bto)), (h_bin, .inl (cy_bin, 256, .inl f_bin)), (h_nn, .inl (cy_nn, 8000, .inr (.inl f_nn)))]) [4, 3, 5, 6, 7, 1, 2, 0] rfl
                have hDc := hD.sub (ws' := [(h_mm, .inr (8, (mo137 v_mm (.ref h_nv) (.ref h_nn) (.ref h_na) (.ref h_nb) (.ref h_nc) (.ref h_bto) (.ref h_bin) (.int x76) (.int x77)))), (h_nv, .inl (cy_nv, 8000, .inl f_nv)), (h_na, .inl (cy_na, 8000, .inl f_na)), (h_nb, .inl (cy_nb, 8000, .inl f_nb)), (h_nc, .inl (cy_nc, 8000, .inl f_nc)), (h_bto, .inl (cy_bto, 256, .inl f_bto)), (h_bin, .inl (cy_bin, 256, .inl f_bin)), (h_nn, .inl (cy_nn, 8000, .inr (.inl f_nn)))]) [4, 3, 5, 6, 7, 1, 2, 0] (by decide) rfl
                have hKc := hK.sub (tys' := [(cy_nv, .int), (cy_na, .int), (cy_nb, .int), (cy_nc, .int), (cy_bto, .int), (cy_bin, .int), (cy_nn, .long)]) [0, 1, 2, 3, 4, 5, 6] rfl
                have hFc := va_free (wc := [(h_mm, .inr (8, (mo137 v_mm (.ref h_nv) (.ref h_nn) (.ref h_na) (.ref h_nb) (.ref h_nc) (.ref h_bto) (.ref h_bin) (.int x76) (.int x77)))), (h_nv, .inl (cy_nv, 8000, .inl f_nv)), (h_na, .inl (cy_na, 8000, .inl f_na)), (h_nb, .inl (cy_nb, 8000, .inl f_nb)), (h_nc, .inl (cy_nc, 8000, .inl f_nc)), (h_bto, .inl (cy_bto, 256, .inl f_bto)), (h_bin, .inl (cy_bin, 256, .inl f_bin)), (h_nn, .inl (cy_nn, 8000, .inr (.inl f_nn)))]) hD hS hA [4, 3, 5, 6, 7, 1, 2, 0] rfl
                refine va_calli (va_runV (As := [.int r90, .int z4, .int r94, .int z18]) (rest := []) ⟨hx, hb, hml, hown, hts⟩ (ihf dC dI H.size h_mm h_nv h_na h_nb h_nc h_bto h_bin h_nn v_mm x76 x77 cy_nv f_nv cy_na f_na cy_nb f_nb cy_nc f_nc cy_bto f_bto cy_bin f_bin cy_nn f_nn r90 z4 r94 z18 i0 i1 N hz g z5 (by first | exact klp78_1 | omega) (by first | exact klp78_2 | omega) hf_nv hf_na hf_nb hf_nc hf_bto hf_bin (by first | exact q0 | omega) (by first | exact q1 | omega) (by omega) (by first | exact k9 | omega) (by omega) (by first | exact k23 | omega) (by omega) hn_bi ca9p hn_grv hn_grn) (cwV 4 hts (gv hT w_m_X11_288 w_instanceMethod_X11_areAlike ws_sel_X11_areAlike w_ini_X11 w_code_X11_areAlike) rfl rfl rfl (by decide +kernel) ⟨(by dsimp only [headSpec]; omega), (by dsimp only [headSpec]; omega)⟩) ⟨pre_blind, va_recv hK hP (ci := 8) (q0 := 4) rfl rfl, pre_of hPc hKc hDc hN⟩ rfl rfl hl.1 rfl (lv_room (Nat.le_of_ble_eq_true rfl)) dX11_areAlike_176 ⟨(Nat.le_of_ble_eq_true rfl), (Nat.le_of_ble_eq_true rfl)⟩) hS (fun q _ h => hFc q h) hFc (fun r97 u t H locs ht hvm hq hB hz1 hk1 hS9 => ?_)
                obtain ⟨z98, z99⟩ := u
                obtain ⟨hP1, hD1⟩ := hB
                rw [ht] at hP1
                obtain ⟨hP9, hD9⟩ := va_join (wr := []) (w1 := [(h_mm, .inr (8, (mo137 v_mm (.ref h_nv) (.ref h_nn) (.ref h_na) (.ref h_nb) (.ref h_nc) (.ref h_bto) (.ref h_bin) (.int z98) (.int z99)))), (h_nv, .inl (cy_nv, 8000, .inl f_nv)), (h_na, .inl (cy_na, 8000, .inl f_na)), (h_nb, .inl (cy_nb, 8000, .inl f_nb)), (h_nc, .inl (cy_nc, 8000, .inl f_nc)), (h_bto, .inl (cy_bto, 256, .inl f_bto)), (h_bin, .inl (cy_bin, 256, .inl f_bin)), (h_nn, .inl (cy_nn, 8000, .inr (.inl f_nn)))]) hP hD [4, 3, 5, 6, 7, 1, 2, 0] [] rfl rfl (by decide) (by decide) hk1 hFc hP1 hD1
                clear hP hD hS hPc hDc hKc hFc hP1 hD1 hk1 hz1 ht hvm
                have hP : va_P (dC, dI) cls [(h_mm, .inr (8, (mo137 v_mm (.ref h_nv) (.ref h_nn) (.ref h_na) (.ref h_nb) (.ref h_nc) (.ref h_bto) (.ref h_bin) (.int z98) (.int z99)))), (h_nv, .inl (cy_nv, 8000, .inl f_nv)), (h_na, .inl (cy_na, 8000, .inl f_na)), (h_nb, .inl (cy_nb, 8000, .inl f_nb)), (h_nc, .inl (cy_nc, 8000, .inl f_nc)), (h_bto, .inl (cy_bto, 256, .inl f_bto)), (h_bin, .inl (cy_bin, 256, .inl f_bin)), (h_nn, .inl (cy_nn, 8000, .inr (.inl f_nn)))] H := hP9
                have hD : va_D A [(h_mm, .inr (8, (mo137 v_mm (.ref h_nv) (.ref h_nn) (.ref h_na) (.ref h_nb) (.ref h_nc) (.ref h_bto) (.ref h_bin) (.int z98) (.int z99)))), (h_nv, .inl (cy_nv, 8000, .inl f_nv)), (h_na, .inl (cy_na, 8000, .inl f_na)), (h_nb, .inl (cy_nb, 8000, .inl f_nb)), (h_nc, .inl (cy_nc, 8000, .inl f_nc)), (h_bto, .inl (cy_bto, 256, .inl f_bto)), (h_bin, .inl (cy_bin, 256, .inl f_bin)), (h_nn, .inl (cy_nn, 8000, .inr (.inl f_nn)))] := hD9
                have hS := hS9
                clear hP9 hD9 hS9
                obtain ⟨k100, k101, k102, k103⟩ := hq
                replace k100 : 0 ≤ ((z98)).toInt ∧ ((z98)).toInt ≤ 7999 := k100
                replace k101 : 0 ≤ ((z99)).toInt ∧ ((z99)).toInt ≤ 31 := k101
                replace k102 : 0 ≤ (r97).toInt ∧ (r97).toInt ≤ 1 := k102
                replace k103 : (((r97)).toInt = 1 ∧ ALK (g) (BDW f_bto f_bin) (PLR (r90) (z4)) (PLR (r94) (z18))) ∨ (((r97)).toInt = 0 ∧ ¬ ALK (g) (BDW f_bto f_bin) (PLR (r90) (z4)) (PLR (r94) (z18))) := k103
                refine lv_if_ne (tgt := 184) hx hb dX11_areAlike_179 (by decide) (fun c104 => ?_) (fun c104 => ?_)
                · have kc104 := (not_congr (cv_eq (rfl : (r97).toInt = (r97).toInt) (by decide : (0 : Int32).toInt = 0))).mp c104
                  have kk105 := akk_step (k' := (x75).toInt + 1) klp78_3 (by omega) kg9a kg9b ((k103.resolve_right (fun q9 => by have h9 := q9.1; omega)).2) rfl
                  obtain ⟨z106, ez106⟩ : ∃ y : Int32, y = x75 + 1 := ⟨_, rfl⟩
                  have tz106 : (z106).toInt = (x75).toInt + 1 := by rw [ez106]; exact i_add rfl (by decide) (by omega)
                  refine lv_iinc (v := z106) (lv' := [(9, .int z106), (0, .ref h_mm), (1, .int p1), (2, .int p2), (3, .int p3), (4, .int p4), (5, .int z3), (6, .int z4), (7, .int z17), (8, .int z18)]) hx hb dX11_areAlike_184 hl (k := 9) rfl (by rw [ez106]; rfl) (by decide) rfl (fun ls hl => ?_)
                  refine lv_goto (tgt := 144) hx hb dX11_areAlike_187 (by decide) ?_
                  replace hP : va_P (dC, dI) cls [(h_nn, .inl (cy_nn, 8000, .inr (.inl f_nn))), (h_bto, .inl (cy_bto, 256, .inl f_bto)), (h_bin, .inl (cy_bin, 256, .inl f_bin)), (h_mm, .inr (8, (mo137 v_mm (.ref h_nv) (.ref h_nn) (.ref h_na) (.ref h_nb) (.ref h_nc) (.ref h_bto) (.ref h_bin) (.int z98) (.int z99)))), (h_nv, .inl (cy_nv, 8000, .inl f_nv)), (h_na, .inl (cy_na, 8000, .inl f_na)), (h_nb, .inl (cy_nb, 8000, .inl f_nb)), (h_nc, .inl (cy_nc, 8000, .inl f_nc))] H := hP.sub [7, 5, 6, 0, 1, 2, 3, 4] rfl
                  replace hD : va_D A [(h_nn, .inl (cy_nn, 8000, .inr (.inl f_nn))), (h_bto, .inl (cy_bto, 256, .inl f_bto)), (h_bin, .inl (cy_bin, 256, .inl f_bin)), (h_mm, .inr (8, (mo137 v_mm (.ref h_nv) (.ref h_nn) (.ref h_na) (.ref h_nb) (.ref h_nc) (.ref h_bto) (.ref h_bin) (.int z98) (.int z99)))), (h_nv, .inl (cy_nv, 8000, .inl f_nv)), (h_na, .inl (cy_na, 8000, .inl f_na)), (h_nb, .inl (cy_nb, 8000, .inl f_nb)), (h_nc, .inl (cy_nc, 8000, .inl f_nc))] := hD.sub [7, 5, 6, 0, 1, 2, 3, 4] (by decide) rfl
                  have kb107 := kk105
                  rw [← tz106] at kb107
                  exact ih79 (z106) (z98) (z99) _ _ _ (by omega) (by first | exact k100 | omega) (by first | exact k101 | omega) kb107 (by omega) hP hD hS (lv_sub hl [1, 2, 3, 4, 5, 6, 7, 8, 9, 0] rfl)
                · have kc104 := (cv_eq (rfl : (r97).toInt = (r97).toInt) (by decide : (0 : Int32).toInt = 0)).mp c104
                  refine lv_iconst (v := 0) hx hb dX11_areAlike_182 (by decide) ?_
                  refine W.widen (k := 0) (n := 0) (Nat.le_of_ble_eq_true rfl) (Nat.le_of_ble_eq_true rfl) ?_
                  have cst0 : (0 : Int32).toInt = 0 := by decide
                  have w108 : 0 ≤ ((z98)).toInt ∧ ((z98)).toInt ≤ 7999 := by first | exact k100 | omega
                  have w109 : 0 ≤ ((z99)).toInt ∧ ((z99)).toInt ≤ 31 := by first | exact k101 | omega
                  have w110 : 0 ≤ (0 : Int32).toInt ∧ (0 : Int32).toInt ≤ 1 := by omega
                  have w111 : (((0 : Int32)).toInt = 1 ∧ ALK g (BDW f_bto f_bin) (PLR p1 p2) (PLR p3 p4)) ∨ (((0 : Int32)).toInt = 0 ∧ ¬ ALK g (BDW f_bto f_bin) (PLR p1 p2) (PLR p3 p4)) := (Or.inr ⟨by decide, akk_not (k := (x75).toInt) k14 k28 (by rw [gv9a]; omega) (by rw [ga9a]; omega) kg9a kg9b ((k103.resolve_left (fun q9 => by have h9 := q9.1; omega)).2)⟩)
                  exact W.zret (v := 0) (ty := .boolean) hx hb hr (by decide) (fun t ht hW => ⟨⟨0, (z98, z99), rfl, ⟨w108, w109, w110, w111⟩, by rw [ht]; exact hP, hD⟩, hS.F ht⟩) hS.2.2 dX11_areAlike_183
          have cst0 : (0 : Int32).toInt = 0 := by decide
          exact lp78 _ (0) (z17) (z18) _ _ _ (by decide) (by first | exact k20 | omega) (by first | exact k21 | omega) (akk_zero (by decide)) (Nat.le_refl _) hP hD hS (lv_sub hl [5, 6, 7, 8, 9, 4, 3, 2, 1, 0] rfl)
        · have kc74 := (not_congr (cv_eq (rfl : (r67).toInt = (r67).toInt) (rfl : (r71).toInt = (r71).toInt))).mp c74
          have nm9 : ¬ (g.2.2.1 (PLR z3 z4) = g.2.2.1 (PLR z17 z18) ∧ g.2.2.2.1 (PLR z3 z4) = g.2.2.2.1 (PLR z17 z18)) := by rw [gn9a, gn9b, ga9a, ga9b]; omega
          refine lv_iconst (v := 0) hx hb dX11_areAlike_139 (by decide) ?_
          replace hP : va_P (dC, dI) cls [(h_mm, .inr (8, (mo137 v_mm (.ref h_nv) (.ref h_nn) (.ref h_na) (.ref h_nb) (.ref h_nc) (.ref h_bto) (.ref h_bin) (.int z17) (.int z18)))), (h_nv, .inl (cy_nv, 8000, .inl f_nv)), (h_na, .inl (cy_na, 8000, .inl f_na)), (h_nb, .inl (cy_nb, 8000, .inl f_nb)), (h_nc, .inl (cy_nc, 8000, .inl f_nc)), (h_bto, .inl (cy_bto, 256, .inl f_bto)), (h_bin, .inl (cy_bin, 256, .inl f_bin)), (h_nn, .inl (cy_nn, 8000, .inr (.inl f_nn)))] H := hP.sub [3, 4, 5, 6, 7, 1, 2, 0] rfl
          replace hD : va_D A [(h_mm, .inr (8, (mo137 v_mm (.ref h_nv) (.ref h_nn) (.ref h_na) (.ref h_nb) (.ref h_nc) (.ref h_bto) (.ref h_bin) (.int z17) (.int z18)))), (h_nv, .inl (cy_nv, 8000, .inl f_nv)), (h_na, .inl (cy_na, 8000, .inl f_na)), (h_nb, .inl (cy_nb, 8000, .inl f_nb)), (h_nc, .inl (cy_nc, 8000, .inl f_nc)), (h_bto, .inl (cy_bto, 256, .inl f_bto)), (h_bin, .inl (cy_bin, 256, .inl f_bin)), (h_nn, .inl (cy_nn, 8000, .inr (.inl f_nn)))] := hD.sub [3, 4, 5, 6, 7, 1, 2, 0] (by decide) rfl
          refine W.widen (k := 0) (n := 0) (Nat.le_of_ble_eq_true rfl) (Nat.le_of_ble_eq_true rfl) ?_
          have cst0 : (0 : Int32).toInt = 0 := by decide
          have w112 : 0 ≤ ((z17)).toInt ∧ ((z17)).toInt ≤ 7999 := by first | exact k20 | omega
          have w113 : 0 ≤ ((z18)).toInt ∧ ((z18)).toInt ≤ 31 := by first | exact k21 | omega
          have w114 : 0 ≤ (0 : Int32).toInt ∧ (0 : Int32).toInt ≤ 1 := by omega
          have w115 : (((0 : Int32)).toInt = 1 ∧ ALK g (BDW f_bto f_bin) (PLR p1 p2) (PLR p3 p4)) ∨ (((0 : Int32)).toInt = 0 ∧ ¬ ALK g (BDW f_bto f_bin) (PLR p1 p2) (PLR p3 p4)) := (Or.inr ⟨by decide, alr_not k14 k28 (fun q9 => Or.elim q9 (fun q8 => by have q7 := q8.1; rw [gv9a] at q7; omega) (fun q8 => nm9 q8.2.2))⟩)
          exact W.zret (v := 0) (ty := .boolean) hx hb hr (by decide) (fun t ht hW => ⟨⟨0, (z17, z18), rfl, ⟨w112, w113, w114, w115⟩, by rw [ht]; exact hP, hD⟩, hS.F ht⟩) hS.2.2 dX11_areAlike_140
    · have kc57 := (not_congr (cv_eq (rfl : (z56).toInt = (z56).toInt) (by decide : ((-1) : Int32).toInt = -1))).mp c57
      refine lv_aload_n hx hb dX11_areAlike_59 rfl (lv_at hl 4 rfl) ?_
      refine va_get (D := (dC, dI)) (ci := 8) (v := .ref h_nv) (C := RX11) (T := TX11) (N := 71) hx hb hw iwX11 hown hK hP 1 rfl rfl 1 (by decide) (hw _ w_f_X11_17) (fun _ h9 => h9) rfl dX11_areAlike_60 ?_
      refine lv_iload hx hb dX11_areAlike_63 (lv_at hl 3 rfl) ?_
      refine va_iald hx hb hK hP 2 0 rfl rfl (i := z3) (vp_in_iff.mpr (by omega)) dX11_areAlike_65 ?_
      refine lv_topi (fun z116 ez116 => ?_)
      have qz116 : (z116).toInt = (z29).toInt := by rw [ez116, ez29]
      have rz116 : -1 ≤ (z116).toInt ∧ (z116).toInt ≤ 7 := by rw [ez116]; exact hf_nv _
      refine lv_iconst (v := (-1)) hx hb dX11_areAlike_66 (by decide) ?_
      refine lv_icmp_eq (tgt := 104) hx hb dX11_areAlike_67 (by decide) (fun _ => ?_) (fun c117 => False.elim (by have kc117 := (not_congr (cv_eq (rfl : (z116).toInt = (z116).toInt) (by decide : ((-1) : Int32).toInt = -1))).mp c117; omega))
      have hvz29 : (f_nv (z3).toInt.toNat).toInt = (z29).toInt := by rw [ez29, (clamp_nat (i := z3) (by omega))]
      have hvz56 : (f_nv (z17).toInt.toNat).toInt = (z56).toInt := by rw [ez56, (clamp_nat (i := z17) (by omega))]
      have gv9a := grv_v (i := z4) hn_grv (show 0 ≤ (z3).toInt ∧ (z3).toInt < 8000 by omega)
      have gv9b := grv_v (i := z18) hn_grv (show 0 ≤ (z17).toInt ∧ (z17).toInt < 8000 by omega)
      have nm9 : ¬ ((0 ≤ g.1 (PLR z3 z4) ∧ 0 ≤ g.1 (PLR z17 z18) ∧ g.2.1 (PLR z3 z4) = g.2.1 (PLR z17 z18)) ∨ (¬ 0 ≤ g.1 (PLR z3 z4) ∧ ¬ 0 ≤ g.1 (PLR z17 z18) ∧ g.2.2.1 (PLR z3 z4) = g.2.2.1 (PLR z17 z18) ∧ g.2.2.2.1 (PLR z3 z4) = g.2.2.2.1 (PLR z17 z18))) := by omega
      refine lv_iconst (v := 0) hx hb dX11_areAlike_104 (by decide) ?_
      replace hP : va_P (dC, dI) cls [(h_mm, .inr (8, (mo137 v_mm (.ref h_nv) (.ref h_nn) (.ref h_na) (.ref h_nb) (.ref h_nc) (.ref h_bto) (.ref h_bin) (.int z17) (.int z18)))), (h_nv, .inl (cy_nv, 8000, .inl f_nv)), (h_na, .inl (cy_na, 8000, .inl f_na)), (h_nb, .inl (cy_nb, 8000, .inl f_nb)), (h_nc, .inl (cy_nc, 8000, .inl f_nc)), (h_bto, .inl (cy_bto, 256, .inl f_bto)), (h_bin, .inl (cy_bin, 256, .inl f_bin)), (h_nn, .inl (cy_nn, 8000, .inr (.inl f_nn)))] H := hP.sub [1, 2, 3, 4, 5, 6, 7, 0] rfl
      replace hD : va_D A [(h_mm, .inr (8, (mo137 v_mm (.ref h_nv) (.ref h_nn) (.ref h_na) (.ref h_nb) (.ref h_nc) (.ref h_bto) (.ref h_bin) (.int z17) (.int z18)))), (h_nv, .inl (cy_nv, 8000, .inl f_nv)), (h_na, .inl (cy_na, 8000, .inl f_na)), (h_nb, .inl (cy_nb, 8000, .inl f_nb)), (h_nc, .inl (cy_nc, 8000, .inl f_nc)), (h_bto, .inl (cy_bto, 256, .inl f_bto)), (h_bin, .inl (cy_bin, 256, .inl f_bin)), (h_nn, .inl (cy_nn, 8000, .inr (.inl f_nn)))] := hD.sub [1, 2, 3, 4, 5, 6, 7, 0] (by decide) rfl
      refine W.widen (k := 0) (n := 0) (Nat.le_of_ble_eq_true rfl) (Nat.le_of_ble_eq_true rfl) ?_
      have cst0 : (0 : Int32).toInt = 0 := by decide
      have w118 : 0 ≤ ((z17)).toInt ∧ ((z17)).toInt ≤ 7999 := by first | exact k20 | omega
      have w119 : 0 ≤ ((z18)).toInt ∧ ((z18)).toInt ≤ 31 := by first | exact k21 | omega
      have w120 : 0 ≤ (0 : Int32).toInt ∧ (0 : Int32).toInt ≤ 1 := by omega
      have w121 : (((0 : Int32)).toInt = 1 ∧ ALK g (BDW f_bto f_bin) (PLR p1 p2) (PLR p3 p4)) ∨ (((0 : Int32)).toInt = 0 ∧ ¬ ALK g (BDW f_bto f_bin) (PLR p1 p2) (PLR p3 p4)) := (Or.inr ⟨by decide, alr_not k14 k28 nm9⟩)
      exact W.zret (v := 0) (ty := .boolean) hx hb hr (by decide) (fun t ht hW => ⟨⟨0, (z17, z18), rfl, ⟨w118, w119, w120, w121⟩, by rw [ht]; exact hP, hD⟩, hS.F ht⟩) hS.2.2 dX11_areAlike_105

set_option maxHeartbeats 8000000 in
set_option maxRecDepth 100000 in
theorem c_X11_areOf_x (l : Launch) (dC : Nat → ClassId) (dI : Nat → Nat → Nat) (sz : Nat) (h_mm : Nat) (h_nv : Nat) (h_nn : Nat) (h_na : Nat) (h_nb : Nat) (h_nc : Nat) (v_mm : Nat → Value) (cy_nv : ClassId) (f_nv : Nat → Int32) (cy_nn : ClassId) (f_nn : Nat → Int64) (cy_na : ClassId) (f_na : Nat → Int32) (cy_nb : ClassId) (f_nb : Nat → Int32) (cy_nc : ClassId) (f_nc : Nat → Int32) (p1 : Int32) (p2 : Int32) (hf_nv : Rg (-1) 7 f_nv) (hf_na : Rg (-1) 7999 f_na) (hf_nb : Rg (-1) 7999 f_nb) (hf_nc : Rg (-1) 7999 f_nc) (q0 : 0 ≤ (p1).toInt ∧ (p1).toInt ≤ 7999) (q1 : 0 ≤ (p2).toInt ∧ (p2).toInt ≤ 7999) : Met l yX11_areOf (Ws yX11_areOf cX11_areOf 3 (some .boolean)) (({ frames := 1, cells := 0, slots := 0, locals := 21 } : Room)) (PRE (dC, dI) cls [(cy_nv, .int), (cy_nn, .long), (cy_na, .int), (cy_nb, .int), (cy_nc, .int)] [(h_mm, .inr (8, (mo130 v_mm (.ref h_nv) (.ref h_nn) (.ref h_na) (.ref h_nb) (.ref h_nc)))), (h_nv, .inl (cy_nv, 8000, .inl f_nv)), (h_nn, .inl (cy_nn, 8000, .inr (.inl f_nn))), (h_na, .inl (cy_na, 8000, .inl f_na)), (h_nb, .inl (cy_nb, 8000, .inl f_nb)), (h_nc, .inl (cy_nc, 8000, .inl f_nc))] sz [.ref h_mm, .int p1, .int p2]) (va_Qi (fun (r : Int32) (_ : Unit) => (0 ≤ r.toInt ∧ r.toInt ≤ 1) ∧ (((r).toInt = 1 ∧ (f_nn (p1).toInt.toNat).toInt = (f_nn (p2).toInt.toNat).toInt ∧ npx f_nv f_na f_nb f_nc (p1).toInt.toNat = npx f_nv f_na f_nb f_nc (p2).toInt.toNat) ∨ ((r).toInt = 0 ∧ ¬ ((f_nn (p1).toInt.toNat).toInt = (f_nn (p2).toInt.toNat).toInt ∧ npx f_nv f_na f_nb f_nc (p1).toInt.toNat = npx f_nv f_na f_nb f_nc (p2).toInt.toNat)))) (fun (_ : Unit) (t : State) => va_P (dC, dI) cls [(h_mm, .inr (8, (mo130 v_mm (.ref h_nv) (.ref h_nn) (.ref h_na) (.ref h_nb) (.ref h_nc)))), (h_nv, .inl (cy_nv, 8000, .inl f_nv)), (h_nn, .inl (cy_nn, 8000, .inr (.inl f_nn))), (h_na, .inl (cy_na, 8000, .inl f_na)), (h_nb, .inl (cy_nb, 8000, .inl f_nb)), (h_nc, .inl (cy_nc, 8000, .inl f_nc))] t.heap ∧ va_D (va_A [(h_mm, .inr (8, (mo130 v_mm (.ref h_nv) (.ref h_nn) (.ref h_na) (.ref h_nb) (.ref h_nc)))), (h_nv, .inl (cy_nv, 8000, .inl f_nv)), (h_nn, .inl (cy_nn, 8000, .inr (.inl f_nn))), (h_na, .inl (cy_na, 8000, .inl f_na)), (h_nb, .inl (cy_nb, 8000, .inl f_nb)), (h_nc, .inl (cy_nc, 8000, .inl f_nc))] sz) [(h_mm, .inr (8, (mo130 v_mm (.ref h_nv) (.ref h_nn) (.ref h_na) (.ref h_nb) (.ref h_nc)))), (h_nv, .inl (cy_nv, 8000, .inl f_nv)), (h_nn, .inl (cy_nn, 8000, .inr (.inl f_nn))), (h_na, .inl (cy_na, 8000, .inl f_na)), (h_nb, .inl (cy_nb, 8000, .inl f_nb)), (h_nc, .inl (cy_nc, 8000, .inl f_nc))]) (va_A [(h_mm, .inr (8, (mo130 v_mm (.ref h_nv) (.ref h_nn) (.ref h_na) (.ref h_nb) (.ref h_nc)))), (h_nv, .inl (cy_nv, 8000, .inl f_nv)), (h_nn, .inl (cy_nn, 8000, .inr (.inl f_nn))), (h_na, .inl (cy_na, 8000, .inl f_na)), (h_nb, .inl (cy_nb, 8000, .inl f_nb)), (h_nc, .inl (cy_nc, 8000, .inl f_nc))] sz)) 0 0 (va_A [(h_mm, .inr (8, (mo130 v_mm (.ref h_nv) (.ref h_nn) (.ref h_na) (.ref h_nb) (.ref h_nc)))), (h_nv, .inl (cy_nv, 8000, .inl f_nv)), (h_nn, .inl (cy_nn, 8000, .inr (.inl f_nn))), (h_na, .inl (cy_na, 8000, .inl f_na)), (h_nb, .inl (cy_nb, 8000, .inl f_nb)), (h_nc, .inl (cy_nc, 8000, .inl f_nc))] sz) := by
  refine Met.ofW (cc := cX11_areOf) (maxL := 3) (ret := (some .boolean)) (by decide) rfl ?_
  intro p e s m args below meth c s₁ B hml hv
  obtain ⟨rfl, hsz, hP, hK, hD0, hN⟩ := hv
  have hx := B.exec
  have hb := B.bytes
  have hr := B.returns
  have hts := atoms_spec (ws := Ws yX11_areOf cX11_areOf 3 (some .boolean)) B.pre
  have hT : ∀ w ∈ WALL, w ∈ Ws yX11_areOf cX11_areOf 3 (some .boolean) := fun w h => List.mem_cons_of_mem _ h
  have hw := fun w (h : w ∈ WALL) => hts w (hT w h)
  have hown : s.vm.findClass RX11 = some m.cls := findClass_of_methodNamed B.named
  have hlocks := B.notSynchronized
  subst hsz
  have hD := hD0.self (sz := s.heap.size)
  generalize hAe : va_A [(h_mm, .inr (8, (mo130 v_mm (.ref h_nv) (.ref h_nn) (.ref h_na) (.ref h_nb) (.ref h_nc)))), (h_nv, .inl (cy_nv, 8000, .inl f_nv)), (h_nn, .inl (cy_nn, 8000, .inr (.inl f_nn))), (h_na, .inl (cy_na, 8000, .inl f_na)), (h_nb, .inl (cy_nb, 8000, .inl f_nb)), (h_nc, .inl (cy_nc, 8000, .inl f_nc))] s.heap.size = A at hD ⊢
  have hA : ∀ q : Nat, s.heap.size ≤ q → A q := fun q h => by rw [← hAe]; exact Or.inr h
  have hS : va_S A s.heap s.heap [] := va_S.rf
  have hl := lv_entry ([.ref h_mm, .int p1, .int p2]) (n := 3) (Nat.le_of_ble_eq_true rfl)
  rw [lg_entry_eq]
  generalize (lg_sl ([.ref h_mm, .int p1, .int p2]) ++ List.replicate (3 - (lg_sl ([.ref h_mm, .int p1, .int p2])).length) Slot.unset).toArray = ls at hl ⊢
  have hl : lv_has ls 3 [(0, .ref h_mm), (1, .int p1), (2, .int p2)] := hl
  refine lv_aload_n hx hb dX11_areOf_0 rfl (lv_at hl 0 rfl) ?_
  refine va_get (D := (dC, dI)) (ci := 8) (v := .ref h_nn) (C := RX11) (T := TX11) (N := 71) hx hb hw iwX11 hown hK hP 0 rfl rfl 2 (by decide) (hw _ w_f_X11_23) (fun _ h9 => h9) rfl dX11_areOf_1 ?_
  refine lv_iload_n hx hb dX11_areOf_4 rfl (lv_at hl 1 rfl) ?_
  refine va_lald hx hb hK hP 2 1 rfl rfl (i := p1) (vp_in_iff.mpr (by omega)) dX11_areOf_5 ?_
  refine lv_topl (fun z1 ez1 => ?_)
  refine lv_aload_n hx hb dX11_areOf_6 rfl (lv_at hl 0 rfl) ?_
  refine va_get (D := (dC, dI)) (ci := 8) (v := .ref h_nn) (C := RX11) (T := TX11) (N := 71) hx hb hw iwX11 hown hK hP 0 rfl rfl 2 (by decide) (hw _ w_f_X11_23) (fun _ h9 => h9) rfl dX11_areOf_7 ?_
  refine lv_iload_n hx hb dX11_areOf_10 rfl (lv_at hl 2 rfl) ?_
  refine va_lald hx hb hK hP 2 1 rfl rfl (i := p2) (vp_in_iff.mpr (by omega)) dX11_areOf_11 ?_
  refine lv_topl (fun z2 ez2 => ?_)
  refine W.lcmp hx hb dX11_areOf_12 ?_
  refine lv_topi (fun z3 ez3 => ?_)
  have gz3 := lgc z1 z2
  rw [← ez3] at gz3
  refine lv_if_ne (tgt := 33) hx hb dX11_areOf_13 (by decide) (fun c4 => ?_) (fun c4 => ?_)
  · have kc4 := (not_congr (cv_eq (rfl : (z3).toInt = (z3).toInt) (by decide : (0 : Int32).toInt = 0))).mp c4
    refine lv_iconst (v := 0) hx hb dX11_areOf_33 (by decide) ?_
    have cz91 := clamp_nat (i := p1) (by omega)
    have cz92 := clamp_nat (i := p2) (by omega)
    have nz91 : (f_nn (p1).toInt.toNat).toInt = (z1).toInt := by rw [← cz91, ← ez1]
    have nz92 : (f_nn (p2).toInt.toNat).toInt = (z2).toInt := by rw [← cz92, ← ez2]
    refine W.widen (k := 0) (n := 0) (Nat.le_of_ble_eq_true rfl) (Nat.le_of_ble_eq_true rfl) ?_
    have cst0 : (0 : Int32).toInt = 0 := by decide
    have w5 : 0 ≤ (0 : Int32).toInt ∧ (0 : Int32).toInt ≤ 1 := by omega
    have w6 : (((0 : Int32)).toInt = 1 ∧ (f_nn (p1).toInt.toNat).toInt = (f_nn (p2).toInt.toNat).toInt ∧ npx f_nv f_na f_nb f_nc (p1).toInt.toNat = npx f_nv f_na f_nb f_nc (p2).toInt.toNat) ∨ (((0 : Int32)).toInt = 0 ∧ ¬ ((f_nn (p1).toInt.toNat).toInt = (f_nn (p2).toInt.toNat).toInt ∧ npx f_nv f_na f_nb f_nc (p1).toInt.toNat = npx f_nv f_na f_nb f_nc (p2).toInt.toNat)) := (Or.inr ⟨by decide, by omega⟩)
    exact W.zret (v := 0) (ty := .boolean) hx hb hr (by decide) (fun t ht hW => ⟨⟨0, (), rfl, ⟨w5, w6⟩, by rw [ht]; exact hP, hD⟩, hS.F ht⟩) hS.2.2 dX11_areOf_34
  · have kc4 := (cv_eq (rfl : (z3).toInt = (z3).toInt) (by decide : (0 : Int32).toInt = 0)).mp c4
    refine lv_aload_n hx hb dX11_areOf_16 rfl (lv_at hl 0 rfl) ?_
    refine lv_iload_n hx hb dX11_areOf_17 rfl (lv_at hl 1 rfl) ?_
    obtain ⟨vq7, evq7⟩ := mq130_86 v_mm (.ref h_nn)
    replace hP : va_P (dC, dI) cls [(h_mm, .inr (8, (mo86 vq7 (.ref h_nv) (.ref h_na) (.ref h_nb) (.ref h_nc)))), (h_nv, .inl (cy_nv, 8000, .inl f_nv)), (h_nn, .inl (cy_nn, 8000, .inr (.inl f_nn))), (h_na, .inl (cy_na, 8000, .inl f_na)), (h_nb, .inl (cy_nb, 8000, .inl f_nb)), (h_nc, .inl (cy_nc, 8000, .inl f_nc))] s.heap := by rw [evq7]; exact hP
    replace hD : va_D A [(h_mm, .inr (8, (mo86 vq7 (.ref h_nv) (.ref h_na) (.ref h_nb) (.ref h_nc)))), (h_nv, .inl (cy_nv, 8000, .inl f_nv)), (h_nn, .inl (cy_nn, 8000, .inr (.inl f_nn))), (h_na, .inl (cy_na, 8000, .inl f_na)), (h_nb, .inl (cy_nb, 8000, .inl f_nb)), (h_nc, .inl (cy_nc, 8000, .inl f_nc))] := by rw [evq7]; exact hD
    have hPc := hP.sub (ws' := [(h_mm, .inr (8, (mo86 vq7 (.ref h_nv) (.ref h_na) (.ref h_nb) (.ref h_nc)))), (h_nv, .inl (cy_nv, 8000, .inl f_nv)), (h_na, .inl (cy_na, 8000, .inl f_na)), (h_nb, .inl (cy_nb, 8000, .inl f_nb)), (h_nc, .inl (cy_nc, 8000, .inl f_nc))]) [0, 1, 3, 4, 5] rfl
    have hDc := hD.sub (ws' := [(h_mm, .inr (8, (mo86 vq7 (.ref h_nv) (.ref h_na) (.ref h_nb) (.ref h_nc)))), (h_nv, .inl (cy_nv, 8000, .inl f_nv)), (h_na, .inl (cy_na, 8000, .inl f_na)), (h_nb, .inl (cy_nb, 8000, .inl f_nb)), (h_nc, .inl (cy_nc, 8000, .inl f_nc))]) [0, 1, 3, 4, 5] (by decide) rfl
    have hKc := hK.sub (tys' := [(cy_nv, .int), (cy_na, .int), (cy_nb, .int), (cy_nc, .int)]) [0, 2, 3, 4] rfl
    have hFc := va_free (wc := [(h_mm, .inr (8, (mo86 vq7 (.ref h_nv) (.ref h_na) (.ref h_nb) (.ref h_nc)))), (h_nv, .inl (cy_nv, 8000, .inl f_nv)), (h_na, .inl (cy_na, 8000, .inl f_na)), (h_nb, .inl (cy_nb, 8000, .inl f_nb)), (h_nc, .inl (cy_nc, 8000, .inl f_nc))]) hD hS hA [0, 1, 3, 4, 5] rfl
    refine va_calli (va_runV (As := [.int p1]) (rest := []) ⟨hx, hb, hml, hown, hts⟩ (c_X11_partsAt_e l dC dI s.heap.size h_mm h_nv h_na h_nb h_nc vq7 cy_nv f_nv cy_na f_na cy_nb f_nb cy_nc f_nc p1 hf_nv hf_na hf_nb hf_nc (by first | exact q0 | omega)) (cwV 1 hts (gv hT w_m_X11_27 w_instanceMethod_X11_partsAt ws_sel_X11_partsAt w_ini_X11 w_code_X11_partsAt) rfl rfl rfl (by decide +kernel) ⟨(Nat.le_of_ble_eq_true rfl), (Nat.le_of_ble_eq_true rfl)⟩) ⟨pre_blind, va_recv hK hP (ci := 8) (q0 := 0) rfl rfl, pre_of hPc hKc hDc hN⟩ rfl rfl hl.1 rfl (lv_room (Nat.le_of_ble_eq_true rfl)) dX11_areOf_18 ⟨(Nat.le_of_ble_eq_true rfl), (Nat.le_of_ble_eq_true rfl)⟩) hS (fun q _ h => hFc q h) hFc (fun r8 u t H locs ht hvm hq hB hz1 hk1 hS9 => ?_)
    obtain ⟨hP1, hD1⟩ := hB
    rw [ht] at hP1
    obtain ⟨hP9, hD9⟩ := va_join (wr := [(h_nn, .inl (cy_nn, 8000, .inr (.inl f_nn)))]) (w1 := [(h_mm, .inr (8, (mo86 vq7 (.ref h_nv) (.ref h_na) (.ref h_nb) (.ref h_nc)))), (h_nv, .inl (cy_nv, 8000, .inl f_nv)), (h_na, .inl (cy_na, 8000, .inl f_na)), (h_nb, .inl (cy_nb, 8000, .inl f_nb)), (h_nc, .inl (cy_nc, 8000, .inl f_nc))]) hP hD [0, 1, 3, 4, 5] [2] rfl rfl (by decide) (by decide) hk1 hFc hP1 hD1
    clear hP hD hS hPc hDc hKc hFc hP1 hD1 hk1 hz1 ht hvm
    have hP : va_P (dC, dI) cls [(h_nn, .inl (cy_nn, 8000, .inr (.inl f_nn))), (h_mm, .inr (8, (mo86 vq7 (.ref h_nv) (.ref h_na) (.ref h_nb) (.ref h_nc)))), (h_nv, .inl (cy_nv, 8000, .inl f_nv)), (h_na, .inl (cy_na, 8000, .inl f_na)), (h_nb, .inl (cy_nb, 8000, .inl f_nb)), (h_nc, .inl (cy_nc, 8000, .inl f_nc))] H := hP9
    have hD : va_D A [(h_nn, .inl (cy_nn, 8000, .inr (.inl f_nn))), (h_mm, .inr (8, (mo86 vq7 (.ref h_nv) (.ref h_na) (.ref h_nb) (.ref h_nc)))), (h_nv, .inl (cy_nv, 8000, .inl f_nv)), (h_na, .inl (cy_na, 8000, .inl f_na)), (h_nb, .inl (cy_nb, 8000, .inl f_nb)), (h_nc, .inl (cy_nc, 8000, .inl f_nc))] := hD9
    have hS := hS9
    clear hP9 hD9 hS9
    rw [evq7] at hP hD
    replace hP : va_P (dC, dI) cls [(h_nn, .inl (cy_nn, 8000, .inr (.inl f_nn))), (h_mm, .inr (8, (mo130 v_mm (.ref h_nv) (.ref h_nn) (.ref h_na) (.ref h_nb) (.ref h_nc)))), (h_nv, .inl (cy_nv, 8000, .inl f_nv)), (h_na, .inl (cy_na, 8000, .inl f_na)), (h_nb, .inl (cy_nb, 8000, .inl f_nb)), (h_nc, .inl (cy_nc, 8000, .inl f_nc))] H := hP
    replace hD : va_D A [(h_nn, .inl (cy_nn, 8000, .inr (.inl f_nn))), (h_mm, .inr (8, (mo130 v_mm (.ref h_nv) (.ref h_nn) (.ref h_na) (.ref h_nb) (.ref h_nc)))), (h_nv, .inl (cy_nv, 8000, .inl f_nv)), (h_na, .inl (cy_na, 8000, .inl f_na)), (h_nb, .inl (cy_nb, 8000, .inl f_nb)), (h_nc, .inl (cy_nc, 8000, .inl f_nc))] := hD
    clear evq7 
    obtain ⟨k9, k10⟩ := hq
    replace k9 : 0 ≤ (r8).toInt ∧ (r8).toInt ≤ 3 := k9
    replace k10 : ((r8)).toInt = (npx f_nv f_na f_nb f_nc ((p1)).toInt.toNat) := k10
    refine lv_aload_n hx hb dX11_areOf_21 rfl (lv_at hl 0 rfl) ?_
    refine lv_iload_n hx hb dX11_areOf_22 rfl (lv_at hl 2 rfl) ?_
    obtain ⟨vq11, evq11⟩ := mq130_86 v_mm (.ref h_nn)
    replace hP : va_P (dC, dI) cls [(h_nn, .inl (cy_nn, 8000, .inr (.inl f_nn))), (h_mm, .inr (8, (mo86 vq11 (.ref h_nv) (.ref h_na) (.ref h_nb) (.ref h_nc)))), (h_nv, .inl (cy_nv, 8000, .inl f_nv)), (h_na, .inl (cy_na, 8000, .inl f_na)), (h_nb, .inl (cy_nb, 8000, .inl f_nb)), (h_nc, .inl (cy_nc, 8000, .inl f_nc))] H := by rw [evq11]; exact hP
    replace hD : va_D A [(h_nn, .inl (cy_nn, 8000, .inr (.inl f_nn))), (h_mm, .inr (8, (mo86 vq11 (.ref h_nv) (.ref h_na) (.ref h_nb) (.ref h_nc)))), (h_nv, .inl (cy_nv, 8000, .inl f_nv)), (h_na, .inl (cy_na, 8000, .inl f_na)), (h_nb, .inl (cy_nb, 8000, .inl f_nb)), (h_nc, .inl (cy_nc, 8000, .inl f_nc))] := by rw [evq11]; exact hD
    have hPc := hP.sub (ws' := [(h_mm, .inr (8, (mo86 vq11 (.ref h_nv) (.ref h_na) (.ref h_nb) (.ref h_nc)))), (h_nv, .inl (cy_nv, 8000, .inl f_nv)), (h_na, .inl (cy_na, 8000, .inl f_na)), (h_nb, .inl (cy_nb, 8000, .inl f_nb)), (h_nc, .inl (cy_nc, 8000, .inl f_nc))]) [1, 2, 3, 4, 5] rfl
    have hDc := hD.sub (ws' := [(h_mm, .inr (8, (mo86 vq11 (.ref h_nv) (.ref h_na) (.ref h_nb) (.ref h_nc)))), (h_nv, .inl (cy_nv, 8000, .inl f_nv)), (h_na, .inl (cy_na, 8000, .inl f_na)), (h_nb, .inl (cy_nb, 8000, .inl f_nb)), (h_nc, .inl (cy_nc, 8000, .inl f_nc))]) [1, 2, 3, 4, 5] (by decide) rfl
    have hKc := hK.sub (tys' := [(cy_nv, .int), (cy_na, .int), (cy_nb, .int), (cy_nc, .int)]) [0, 2, 3, 4] rfl
    have hFc := va_free (wc := [(h_mm, .inr (8, (mo86 vq11 (.ref h_nv) (.ref h_na) (.ref h_nb) (.ref h_nc)))), (h_nv, .inl (cy_nv, 8000, .inl f_nv)), (h_na, .inl (cy_na, 8000, .inl f_na)), (h_nb, .inl (cy_nb, 8000, .inl f_nb)), (h_nc, .inl (cy_nc, 8000, .inl f_nc))]) hD hS hA [1, 2, 3, 4, 5] rfl
    refine va_calli (va_runV (As := [.int p2]) (rest := [.int r8]) ⟨hx, hb, hml, hown, hts⟩ (c_X11_partsAt_e l dC dI H.size h_mm h_nv h_na h_nb h_nc vq11 cy_nv f_nv cy_na f_na cy_nb f_nb cy_nc f_nc p2 hf_nv hf_na hf_nb hf_nc (by first | exact q1 | omega)) (cwV 1 hts (gv hT w_m_X11_27 w_instanceMethod_X11_partsAt ws_sel_X11_partsAt w_ini_X11 w_code_X11_partsAt) rfl rfl rfl (by decide +kernel) ⟨(Nat.le_of_ble_eq_true rfl), (Nat.le_of_ble_eq_true rfl)⟩) ⟨pre_blind, va_recv hK hP (ci := 8) (q0 := 1) rfl rfl, pre_of hPc hKc hDc hN⟩ rfl rfl hl.1 rfl (lv_room (Nat.le_of_ble_eq_true rfl)) dX11_areOf_23 ⟨(Nat.le_of_ble_eq_true rfl), (Nat.le_of_ble_eq_true rfl)⟩) hS (fun q _ h => hFc q h) hFc (fun r12 u t H locs ht hvm hq hB hz1 hk1 hS9 => ?_)
    obtain ⟨hP1, hD1⟩ := hB
    rw [ht] at hP1
    obtain ⟨hP9, hD9⟩ := va_join (wr := [(h_nn, .inl (cy_nn, 8000, .inr (.inl f_nn)))]) (w1 := [(h_mm, .inr (8, (mo86 vq11 (.ref h_nv) (.ref h_na) (.ref h_nb) (.ref h_nc)))), (h_nv, .inl (cy_nv, 8000, .inl f_nv)), (h_na, .inl (cy_na, 8000, .inl f_na)), (h_nb, .inl (cy_nb, 8000, .inl f_nb)), (h_nc, .inl (cy_nc, 8000, .inl f_nc))]) hP hD [1, 2, 3, 4, 5] [0] rfl rfl (by decide) (by decide) hk1 hFc hP1 hD1
    clear hP hD hS hPc hDc hKc hFc hP1 hD1 hk1 hz1 ht hvm
    have hP : va_P (dC, dI) cls [(h_nn, .inl (cy_nn, 8000, .inr (.inl f_nn))), (h_mm, .inr (8, (mo86 vq11 (.ref h_nv) (.ref h_na) (.ref h_nb) (.ref h_nc)))), (h_nv, .inl (cy_nv, 8000, .inl f_nv)), (h_na, .inl (cy_na, 8000, .inl f_na)), (h_nb, .inl (cy_nb, 8000, .inl f_nb)), (h_nc, .inl (cy_nc, 8000, .inl f_nc))] H := hP9
    have hD : va_D A [(h_nn, .inl (cy_nn, 8000, .inr (.inl f_nn))), (h_mm, .inr (8, (mo86 vq11 (.ref h_nv) (.ref h_na) (.ref h_nb) (.ref h_nc)))), (h_nv, .inl (cy_nv, 8000, .inl f_nv)), (h_na, .inl (cy_na, 8000, .inl f_na)), (h_nb, .inl (cy_nb, 8000, .inl f_nb)), (h_nc, .inl (cy_nc, 8000, .inl f_nc))] := hD9
    have hS := hS9
    clear hP9 hD9 hS9
    rw [evq11] at hP hD
    replace hP : va_P (dC, dI) cls [(h_nn, .inl (cy_nn, 8000, .inr (.inl f_nn))), (h_mm, .inr (8, (mo130 v_mm (.ref h_nv) (.ref h_nn) (.ref h_na) (.ref h_nb) (.ref h_nc)))), (h_nv, .inl (cy_nv, 8000, .inl f_nv)), (h_na, .inl (cy_na, 8000, .inl f_na)), (h_nb, .inl (cy_nb, 8000, .inl f_nb)), (h_nc, .inl (cy_nc, 8000, .inl f_nc))] H := hP
    replace hD : va_D A [(h_nn, .inl (cy_nn, 8000, .inr (.inl f_nn))), (h_mm, .inr (8, (mo130 v_mm (.ref h_nv) (.ref h_nn) (.ref h_na) (.ref h_nb) (.ref h_nc)))), (h_nv, .inl (cy_nv, 8000, .inl f_nv)), (h_na, .inl (cy_na, 8000, .inl f_na)), (h_nb, .inl (cy_nb, 8000, .inl f_nb)), (h_nc, .inl (cy_nc, 8000, .inl f_nc))] := hD
    clear evq11 
    obtain ⟨k13, k14⟩ := hq
    replace k13 : 0 ≤ (r12).toInt ∧ (r12).toInt ≤ 3 := k13
    replace k14 : ((r12)).toInt = (npx f_nv f_na f_nb f_nc ((p2)).toInt.toNat) := k14
    refine lv_icmp_ne (tgt := 33) hx hb dX11_areOf_26 (by decide) (fun c15 => ?_) (fun c15 => ?_)
    · have kc15 := (not_congr (cv_eq (rfl : (r8).toInt = (r8).toInt) (rfl : (r12).toInt = (r12).toInt))).mp c15
      refine lv_iconst (v := 0) hx hb dX11_areOf_33 (by decide) ?_
      have cz91 := clamp_nat (i := p1) (by omega)
      have cz92 := clamp_nat (i := p2) (by omega)
      have nz91 : (f_nn (p1).toInt.toNat).toInt = (z1).toInt := by rw [← cz91, ← ez1]
      have nz92 : (f_nn (p2).toInt.toNat).toInt = (z2).toInt := by rw [← cz92, ← ez2]
      replace hP : va_P (dC, dI) cls [(h_mm, .inr (8, (mo130 v_mm (.ref h_nv) (.ref h_nn) (.ref h_na) (.ref h_nb) (.ref h_nc)))), (h_nv, .inl (cy_nv, 8000, .inl f_nv)), (h_nn, .inl (cy_nn, 8000, .inr (.inl f_nn))), (h_na, .inl (cy_na, 8000, .inl f_na)), (h_nb, .inl (cy_nb, 8000, .inl f_nb)), (h_nc, .inl (cy_nc, 8000, .inl f_nc))] H := hP.sub [1, 2, 0, 3, 4, 5] rfl
      replace hD : va_D A [(h_mm, .inr (8, (mo130 v_mm (.ref h_nv) (.ref h_nn) (.ref h_na) (.ref h_nb) (.ref h_nc)))), (h_nv, .inl (cy_nv, 8000, .inl f_nv)), (h_nn, .inl (cy_nn, 8000, .inr (.inl f_nn))), (h_na, .inl (cy_na, 8000, .inl f_na)), (h_nb, .inl (cy_nb, 8000, .inl f_nb)), (h_nc, .inl (cy_nc, 8000, .inl f_nc))] := hD.sub [1, 2, 0, 3, 4, 5] (by decide) rfl
      refine W.widen (k := 0) (n := 0) (Nat.le_of_ble_eq_true rfl) (Nat.le_of_ble_eq_true rfl) ?_
      have cst0 : (0 : Int32).toInt = 0 := by decide
      have w16 : 0 ≤ (0 : Int32).toInt ∧ (0 : Int32).toInt ≤ 1 := by omega
      have w17 : (((0 : Int32)).toInt = 1 ∧ (f_nn (p1).toInt.toNat).toInt = (f_nn (p2).toInt.toNat).toInt ∧ npx f_nv f_na f_nb f_nc (p1).toInt.toNat = npx f_nv f_na f_nb f_nc (p2).toInt.toNat) ∨ (((0 : Int32)).toInt = 0 ∧ ¬ ((f_nn (p1).toInt.toNat).toInt = (f_nn (p2).toInt.toNat).toInt ∧ npx f_nv f_na f_nb f_nc (p1).toInt.toNat = npx f_nv f_na f_nb f_nc (p2).toInt.toNat)) := (Or.inr ⟨by decide, by omega⟩)
      exact W.zret (v := 0) (ty := .boolean) hx hb hr (by decide) (fun t ht hW => ⟨⟨0, (), rfl, ⟨w16, w17⟩, by rw [ht]; exact hP, hD⟩, hS.F ht⟩) hS.2.2 dX11_areOf_34
    · have kc15 := (cv_eq (rfl : (r8).toInt = (r8).toInt) (rfl : (r12).toInt = (r12).toInt)).mp c15
      refine lv_iconst (v := 1) hx hb dX11_areOf_29 (by decide) ?_
      refine lv_goto (tgt := 34) hx hb dX11_areOf_30 (by decide) ?_
      have cz91 := clamp_nat (i := p1) (by omega)
      have cz92 := clamp_nat (i := p2) (by omega)
      have nz91 : (f_nn (p1).toInt.toNat).toInt = (z1).toInt := by rw [← cz91, ← ez1]
      have nz92 : (f_nn (p2).toInt.toNat).toInt = (z2).toInt := by rw [← cz92, ← ez2]
      replace hP : va_P (dC, dI) cls [(h_mm, .inr (8, (mo130 v_mm (.ref h_nv) (.ref h_nn) (.ref h_na) (.ref h_nb) (.ref h_nc)))), (h_nv, .inl (cy_nv, 8000, .inl f_nv)), (h_nn, .inl (cy_nn, 8000, .inr (.inl f_nn))), (h_na, .inl (cy_na, 8000, .inl f_na)), (h_nb, .inl (cy_nb, 8000, .inl f_nb)), (h_nc, .inl (cy_nc, 8000, .inl f_nc))] H := hP.sub [1, 2, 0, 3, 4, 5] rfl
      replace hD : va_D A [(h_mm, .inr (8, (mo130 v_mm (.ref h_nv) (.ref h_nn) (.ref h_na) (.ref h_nb) (.ref h_nc)))), (h_nv, .inl (cy_nv, 8000, .inl f_nv)), (h_nn, .inl (cy_nn, 8000, .inr (.inl f_nn))), (h_na, .inl (cy_na, 8000, .inl f_na)), (h_nb, .inl (cy_nb, 8000, .inl f_nb)), (h_nc, .inl (cy_nc, 8000, .inl f_nc))] := hD.sub [1, 2, 0, 3, 4, 5] (by decide) rfl
      refine W.widen (k := 0) (n := 0) (Nat.le_of_ble_eq_true rfl) (Nat.le_of_ble_eq_true rfl) ?_
      have cst1 : (1 : Int32).toInt = 1 := by decide
      have w18 : 0 ≤ (1 : Int32).toInt ∧ (1 : Int32).toInt ≤ 1 := by omega
      have w19 : (((1 : Int32)).toInt = 1 ∧ (f_nn (p1).toInt.toNat).toInt = (f_nn (p2).toInt.toNat).toInt ∧ npx f_nv f_na f_nb f_nc (p1).toInt.toNat = npx f_nv f_na f_nb f_nc (p2).toInt.toNat) ∨ (((1 : Int32)).toInt = 0 ∧ ¬ ((f_nn (p1).toInt.toNat).toInt = (f_nn (p2).toInt.toNat).toInt ∧ npx f_nv f_na f_nb f_nc (p1).toInt.toNat = npx f_nv f_na f_nb f_nc (p2).toInt.toNat)) := (Or.inl ⟨by decide, by omega⟩)
      exact W.zret (v := 1) (ty := .boolean) hx hb hr (by decide) (fun t ht hW => ⟨⟨1, (), rfl, ⟨w18, w19⟩, by rw [ht]; exact hP, hD⟩, hS.F ht⟩) hS.2.2 dX11_areOf_34

def K_X11_counts (l : Launch) (fu : Nat) : Prop := ∀ (dC : Nat → ClassId) (dI : Nat → Nat → Nat) (sz : Nat) (h_mm : Nat) (h_nv : Nat) (h_na : Nat) (h_nb : Nat) (h_nc : Nat) (h_bto : Nat) (h_bin : Nat) (v_mm : Nat → Value) (x_mm_goneTo : Int32) (x_mm_goneIn : Int32) (x_mm_counted : Int32) (cy_nv : ClassId) (f_nv : Nat → Int32) (cy_na : ClassId) (f_na : Nat → Int32) (cy_nb : ClassId) (f_nb : Nat → Int32) (cy_nc : ClassId) (f_nc : Nat → Int32) (cy_bto : ClassId) (f_bto : Nat → Int32) (cy_bin : ClassId) (f_bin : Nat → Int32) (p1 : Int32) (p2 : Int32) (p3 : Int32) (i0 : Int) (i1 : Int) (N : Int) (hz : Nat → Nat) (g : GVT) (P : List Nat) (hx_mm_goneTo : 0 ≤ (x_mm_goneTo).toInt ∧ (x_mm_goneTo).toInt ≤ 7999) (hx_mm_goneIn : 0 ≤ (x_mm_goneIn).toInt ∧ (x_mm_goneIn).toInt ≤ 31) (hx_mm_counted : 0 ≤ (x_mm_counted).toInt ∧ (x_mm_counted).toInt ≤ 2001) (hf_nv : Rg (-1) 7 f_nv) (hf_na : Rg (-1) 7999 f_na) (hf_nb : Rg (-1) 7999 f_nb) (hf_nc : Rg (-1) 7999 f_nc) (hf_bto : Rg (-1) 7999 f_bto) (hf_bin : Rg 0 31 f_bin) (q0 : 0 ≤ i0 ∧ i0 ≤ i1 ∧ i1 ≤ 31) (q1 : N ≤ 8000) (q2 : 0 ≤ (p1).toInt ∧ (p1).toInt < N) (q3 : i0 ≤ (p2).toInt ∧ (p2).toInt ≤ i1) (q4 : 0 ≤ (p3).toInt ∧ (p3).toInt ≤ 2000) (q5 : hz (p1).toInt.toNat + 6 * (256 - (P).length) + 1 ≤ fu) (hn_bi : BI i0 i1 N hz f_nv f_na f_nb f_nc f_bto f_bin) (hn_pa : PA i0 P f_nv f_na f_nb f_nc f_bto f_bin (p1).toInt.toNat (p2).toInt) (hn_grv : GRV g f_nv f_na f_nb f_nc), Met l yX11_counts (Ws yX11_counts cX11_counts 7 none) (({ frames := fu + 2, cells := 0, slots := 0, locals := 26 * fu + 45 } : Room)) (PRE (dC, dI) cls [(cy_nv, .int), (cy_na, .int), (cy_nb, .int), (cy_nc, .int), (cy_bto, .int), (cy_bin, .int)] [(h_mm, .inr (8, (mo138 v_mm (.ref h_nv) (.ref h_na) (.ref h_nb) (.ref h_nc) (.ref h_bto) (.ref h_bin) (.int x_mm_goneTo) (.int x_mm_goneIn) (.int x_mm_counted)))), (h_nv, .inl (cy_nv, 8000, .inl f_nv)), (h_na, .inl (cy_na, 8000, .inl f_na)), (h_nb, .inl (cy_nb, 8000, .inl f_nb)), (h_nc, .inl (cy_nc, 8000, .inl f_nc)), (h_bto, .inl (cy_bto, 256, .inl f_bto)), (h_bin, .inl (cy_bin, 256, .inl f_bin))] sz [.ref h_mm, .int p1, .int p2, .int p3]) (va_Qv (fun (u : (Int32) × (Int32) × (Int32)) => (0 ≤ (u.1).toInt ∧ (u.1).toInt ≤ 7999) ∧ (0 ≤ (u.2.1).toInt ∧ (u.2.1).toInt ≤ 31) ∧ (0 ≤ (u.2.2).toInt ∧ (u.2.2).toInt ≤ 2001) ∧ (CNX g (BDW f_bto f_bin) (PLR p1 p2) (x_mm_counted).toInt (u.2.2).toInt (p3).toInt)) (fun (u : (Int32) × (Int32) × (Int32)) (t : State) => va_P (dC, dI) cls [(h_mm, .inr (8, (mo138 v_mm (.ref h_nv) (.ref h_na) (.ref h_nb) (.ref h_nc) (.ref h_bto) (.ref h_bin) (.int u.1) (.int u.2.1) (.int u.2.2)))), (h_nv, .inl (cy_nv, 8000, .inl f_nv)), (h_na, .inl (cy_na, 8000, .inl f_na)), (h_nb, .inl (cy_nb, 8000, .inl f_nb)), (h_nc, .inl (cy_nc, 8000, .inl f_nc)), (h_bto, .inl (cy_bto, 256, .inl f_bto)), (h_bin, .inl (cy_bin, 256, .inl f_bin))] t.heap ∧ va_D (va_A [(h_mm, .inr (8, (mo138 v_mm (.ref h_nv) (.ref h_na) (.ref h_nb) (.ref h_nc) (.ref h_bto) (.ref h_bin) (.int x_mm_goneTo) (.int x_mm_goneIn) (.int x_mm_counted)))), (h_nv, .inl (cy_nv, 8000, .inl f_nv)), (h_na, .inl (cy_na, 8000, .inl f_na)), (h_nb, .inl (cy_nb, 8000, .inl f_nb)), (h_nc, .inl (cy_nc, 8000, .inl f_nc)), (h_bto, .inl (cy_bto, 256, .inl f_bto)), (h_bin, .inl (cy_bin, 256, .inl f_bin))] sz) [(h_mm, .inr (8, (mo138 v_mm (.ref h_nv) (.ref h_na) (.ref h_nb) (.ref h_nc) (.ref h_bto) (.ref h_bin) (.int u.1) (.int u.2.1) (.int u.2.2)))), (h_nv, .inl (cy_nv, 8000, .inl f_nv)), (h_na, .inl (cy_na, 8000, .inl f_na)), (h_nb, .inl (cy_nb, 8000, .inl f_nb)), (h_nc, .inl (cy_nc, 8000, .inl f_nc)), (h_bto, .inl (cy_bto, 256, .inl f_bto)), (h_bin, .inl (cy_bin, 256, .inl f_bin))]) (va_A [(h_mm, .inr (8, (mo138 v_mm (.ref h_nv) (.ref h_na) (.ref h_nb) (.ref h_nc) (.ref h_bto) (.ref h_bin) (.int x_mm_goneTo) (.int x_mm_goneIn) (.int x_mm_counted)))), (h_nv, .inl (cy_nv, 8000, .inl f_nv)), (h_na, .inl (cy_na, 8000, .inl f_na)), (h_nb, .inl (cy_nb, 8000, .inl f_nb)), (h_nc, .inl (cy_nc, 8000, .inl f_nc)), (h_bto, .inl (cy_bto, 256, .inl f_bto)), (h_bin, .inl (cy_bin, 256, .inl f_bin))] sz)) 0 0 (va_A [(h_mm, .inr (8, (mo138 v_mm (.ref h_nv) (.ref h_na) (.ref h_nb) (.ref h_nc) (.ref h_bto) (.ref h_bin) (.int x_mm_goneTo) (.int x_mm_goneIn) (.int x_mm_counted)))), (h_nv, .inl (cy_nv, 8000, .inl f_nv)), (h_na, .inl (cy_na, 8000, .inl f_na)), (h_nb, .inl (cy_nb, 8000, .inl f_nb)), (h_nc, .inl (cy_nc, 8000, .inl f_nc)), (h_bto, .inl (cy_bto, 256, .inl f_bto)), (h_bin, .inl (cy_bin, 256, .inl f_bin))] sz)
set_option maxHeartbeats 8000000 in
set_option maxRecDepth 100000 in
theorem c_X11_counts (l : Launch) (fu : Nat) : K_X11_counts l fu := by
  refine Nat.rec (motive := fun fu => K_X11_counts l fu) ?_ ?_ fu
  · intro dC dI sz h_mm h_nv h_na h_nb h_nc h_bto h_bin v_mm x_mm_goneTo x_mm_goneIn x_mm_counted cy_nv f_nv cy_na f_na cy_nb f_nb cy_nc f_nc cy_bto f_bto cy_bin f_bin p1 p2 p3 i0 i1 N hz g P hx_mm_goneTo hx_mm_goneIn hx_mm_counted hf_nv hf_na hf_nb hf_nc hf_bto hf_bin q0 q1 q2 q3 q4 q5 hn_bi hn_pa hn_grv
    have h09 : Nat.zero = 0 := rfl
    exact False.elim (by omega)
  intro fu ihf
  intro dC dI sz h_mm h_nv h_na h_nb h_nc h_bto h_bin v_mm x_mm_goneTo x_mm_goneIn x_mm_counted cy_nv f_nv cy_na f_na cy_nb f_nb cy_nc f_nc cy_bto f_bto cy_bin f_bin p1 p2 p3 i0 i1 N hz g P hx_mm_goneTo hx_mm_goneIn hx_mm_counted hf_nv hf_na hf_nb hf_nc hf_bto hf_bin q0 q1 q2 q3 q4 q5 hn_bi hn_pa hn_grv
  refine Met.ofW (cc := cX11_counts) (maxL := 7) (ret := none) (by decide) rfl ?_
  intro p e s m args below meth c s₁ B hml hv
  obtain ⟨rfl, hsz, hP, hK, hD0, hN⟩ := hv
  have hx := B.exec
  have hb := B.bytes
  have hr := B.returns
  have hts := atoms_spec (ws := Ws yX11_counts cX11_counts 7 none) B.pre
  have hT : ∀ w ∈ WALL, w ∈ Ws yX11_counts cX11_counts 7 none := fun w h => List.mem_cons_of_mem _ h
  have hw := fun w (h : w ∈ WALL) => hts w (hT w h)
  have hown : s.vm.findClass RX11 = some m.cls := findClass_of_methodNamed B.named
  have hlocks := B.notSynchronized
  subst hsz
  have hD := hD0.self (sz := s.heap.size)
  generalize hAe : va_A [(h_mm, .inr (8, (mo138 v_mm (.ref h_nv) (.ref h_na) (.ref h_nb) (.ref h_nc) (.ref h_bto) (.ref h_bin) (.int x_mm_goneTo) (.int x_mm_goneIn) (.int x_mm_counted)))), (h_nv, .inl (cy_nv, 8000, .inl f_nv)), (h_na, .inl (cy_na, 8000, .inl f_na)), (h_nb, .inl (cy_nb, 8000, .inl f_nb)), (h_nc, .inl (cy_nc, 8000, .inl f_nc)), (h_bto, .inl (cy_bto, 256, .inl f_bto)), (h_bin, .inl (cy_bin, 256, .inl f_bin))] s.heap.size = A at hD ⊢
  have hA : ∀ q : Nat, s.heap.size ≤ q → A q := fun q h => by rw [← hAe]; exact Or.inr h
  have hS : va_S A s.heap s.heap [] := va_S.rf
  have hl := lv_entry ([.ref h_mm, .int p1, .int p2, .int p3]) (n := 7) (Nat.le_of_ble_eq_true rfl)
  rw [lg_entry_eq]
  generalize (lg_sl ([.ref h_mm, .int p1, .int p2, .int p3]) ++ List.replicate (7 - (lg_sl ([.ref h_mm, .int p1, .int p2, .int p3])).length) Slot.unset).toArray = ls at hl ⊢
  have hl : lv_has ls 7 [(0, .ref h_mm), (1, .int p1), (2, .int p2), (3, .int p3)] := hl
  refine lv_aload_n hx hb dX11_counts_0 rfl (lv_at hl 0 rfl) ?_
  refine va_get (D := (dC, dI)) (ci := 8) (v := .int x_mm_counted) (C := RX11) (T := TX11) (N := 71) hx hb hw iwX11 hown hK hP 0 rfl rfl 33 (by decide) (hw _ w_f_X11_291) (fun _ h9 => h9) rfl dX11_counts_1 ?_
  refine lv_iload_n hx hb dX11_counts_4 rfl (lv_at hl 3 rfl) ?_
  refine lv_icmp_le (tgt := 9) hx hb dX11_counts_5 (by decide) (fun c1 => ?_) (fun c1 => ?_)
  · have kc1 := (cv_le (rfl : (x_mm_counted).toInt = (x_mm_counted).toInt) (rfl : (p3).toInt = (p3).toInt)).mp c1
    refine lv_aload_n hx hb dX11_counts_9 rfl (lv_at hl 0 rfl) ?_
    refine lv_aload_n hx hb dX11_counts_10 rfl (lv_at hl 0 rfl) ?_
    refine va_get (D := (dC, dI)) (ci := 8) (v := .int x_mm_counted) (C := RX11) (T := TX11) (N := 71) hx hb hw iwX11 hown hK hP 0 rfl rfl 33 (by decide) (hw _ w_f_X11_291) (fun _ h9 => h9) rfl dX11_counts_11 ?_
    refine lv_iconst (v := 1) hx hb dX11_counts_14 (by decide) ?_
    refine lv_iadd hx hb dX11_counts_15 ?_
    refine lv_topi (fun z2 ez2 => ?_)
    have tz2 : (z2).toInt = (x_mm_counted).toInt + 1 := by rw [ez2]; exact i_add rfl (by decide) (by omega)
    refine va_put (D := (dC, dI)) (ci := 8) (v := .int z2) (ty := tyX11 33) (C := RX11) (T := TX11) (N := 71) hx hb hw iwX11 tyX11 tyX11_ok nmX11 hown hK hP hD hS 0 rfl rfl 33 (by decide) (hw _ w_f_X11_291) (fun _ h9 => h9) rfl (tyX11_ok 33 (by decide)) rfl rfl (Nat.le_of_ble_eq_true rfl) dX11_counts_16 (fun H locs hP9 hD9 hS9 => ?_)
    clear hP hD hS
    have hP : va_P (dC, dI) cls [(h_mm, .inr (8, (mo138 v_mm (.ref h_nv) (.ref h_na) (.ref h_nb) (.ref h_nc) (.ref h_bto) (.ref h_bin) (.int x_mm_goneTo) (.int x_mm_goneIn) (.int z2)))), (h_nv, .inl (cy_nv, 8000, .inl f_nv)), (h_na, .inl (cy_na, 8000, .inl f_na)), (h_nb, .inl (cy_nb, 8000, .inl f_nb)), (h_nc, .inl (cy_nc, 8000, .inl f_nc)), (h_bto, .inl (cy_bto, 256, .inl f_bto)), (h_bin, .inl (cy_bin, 256, .inl f_bin))] H := hP9
    have hD : va_D A [(h_mm, .inr (8, (mo138 v_mm (.ref h_nv) (.ref h_na) (.ref h_nb) (.ref h_nc) (.ref h_bto) (.ref h_bin) (.int x_mm_goneTo) (.int x_mm_goneIn) (.int z2)))), (h_nv, .inl (cy_nv, 8000, .inl f_nv)), (h_na, .inl (cy_na, 8000, .inl f_na)), (h_nb, .inl (cy_nb, 8000, .inl f_nb)), (h_nc, .inl (cy_nc, 8000, .inl f_nc)), (h_bto, .inl (cy_bto, 256, .inl f_bto)), (h_bin, .inl (cy_bin, 256, .inl f_bin))] := hD9
    have hS := hS9
    clear hP9 hD9 hS9
    refine lv_aload_n hx hb dX11_counts_19 rfl (lv_at hl 0 rfl) ?_
    refine lv_iload_n hx hb dX11_counts_20 rfl (lv_at hl 1 rfl) ?_
    refine lv_iload_n hx hb dX11_counts_21 rfl (lv_at hl 2 rfl) ?_
    obtain ⟨vq3, evq3⟩ := mq138_134 v_mm (.int z2)
    replace hP : va_P (dC, dI) cls [(h_mm, .inr (8, (mo134 vq3 (.ref h_nv) (.ref h_na) (.ref h_nb) (.ref h_nc) (.ref h_bto) (.ref h_bin) (.int x_mm_goneTo) (.int x_mm_goneIn)))), (h_nv, .inl (cy_nv, 8000, .inl f_nv)), (h_na, .inl (cy_na, 8000, .inl f_na)), (h_nb, .inl (cy_nb, 8000, .inl f_nb)), (h_nc, .inl (cy_nc, 8000, .inl f_nc)), (h_bto, .inl (cy_bto, 256, .inl f_bto)), (h_bin, .inl (cy_bin, 256, .inl f_bin))] H := by rw [evq3]; exact hP
    replace hD : va_D A [(h_mm, .inr (8, (mo134 vq3 (.ref h_nv) (.ref h_na) (.ref h_nb) (.ref h_nc) (.ref h_bto) (.ref h_bin) (.int x_mm_goneTo) (.int x_mm_goneIn)))), (h_nv, .inl (cy_nv, 8000, .inl f_nv)), (h_na, .inl (cy_na, 8000, .inl f_na)), (h_nb, .inl (cy_nb, 8000, .inl f_nb)), (h_nc, .inl (cy_nc, 8000, .inl f_nc)), (h_bto, .inl (cy_bto, 256, .inl f_bto)), (h_bin, .inl (cy_bin, 256, .inl f_bin))] := by rw [evq3]; exact hD
    have hPc := hP.sub (ws' := [(h_mm, .inr (8, (mo134 vq3 (.ref h_nv) (.ref h_na) (.ref h_nb) (.ref h_nc) (.ref h_bto) (.ref h_bin) (.int x_mm_goneTo) (.int x_mm_goneIn)))), (h_nv, .inl (cy_nv, 8000, .inl f_nv)), (h_na, .inl (cy_na, 8000, .inl f_na)), (h_nb, .inl (cy_nb, 8000, .inl f_nb)), (h_nc, .inl (cy_nc, 8000, .inl f_nc)), (h_bto, .inl (cy_bto, 256, .inl f_bto)), (h_bin, .inl (cy_bin, 256, .inl f_bin))]) [0, 1, 2, 3, 4, 5, 6] rfl
    have hDc := hD.sub (ws' := [(h_mm, .inr (8, (mo134 vq3 (.ref h_nv) (.ref h_na) (.ref h_nb) (.ref h_nc) (.ref h_bto) (.ref h_bin) (.int x_mm_goneTo) (.int x_mm_goneIn)))), (h_nv, .inl (cy_nv, 8000, .inl f_nv)), (h_na, .inl (cy_na, 8000, .inl f_na)), (h_nb, .inl (cy_nb, 8000, .inl f_nb)), (h_nc, .inl (cy_nc, 8000, .inl f_nc)), (h_bto, .inl (cy_bto, 256, .inl f_bto)), (h_bin, .inl (cy_bin, 256, .inl f_bin))]) [0, 1, 2, 3, 4, 5, 6] (by decide) rfl
    have hKc := hK.sub (tys' := [(cy_nv, .int), (cy_na, .int), (cy_nb, .int), (cy_nc, .int), (cy_bto, .int), (cy_bin, .int)]) [0, 1, 2, 3, 4, 5] rfl
    have hFc := va_free (wc := [(h_mm, .inr (8, (mo134 vq3 (.ref h_nv) (.ref h_na) (.ref h_nb) (.ref h_nc) (.ref h_bto) (.ref h_bin) (.int x_mm_goneTo) (.int x_mm_goneIn)))), (h_nv, .inl (cy_nv, 8000, .inl f_nv)), (h_na, .inl (cy_na, 8000, .inl f_na)), (h_nb, .inl (cy_nb, 8000, .inl f_nb)), (h_nc, .inl (cy_nc, 8000, .inl f_nc)), (h_bto, .inl (cy_bto, 256, .inl f_bto)), (h_bin, .inl (cy_bin, 256, .inl f_bin))]) hD hS hA [0, 1, 2, 3, 4, 5, 6] rfl
    refine va_callv (va_runV (As := [.int p1, .int p2]) (rest := []) ⟨hx, hb, hml, hown, hts⟩ (c_X11_goesTo l dC dI H.size h_mm h_nv h_na h_nb h_nc h_bto h_bin vq3 x_mm_goneTo x_mm_goneIn cy_nv f_nv cy_na f_na cy_nb f_nb cy_nc f_nc cy_bto f_bto cy_bin f_bin p1 p2 i0 i1 N hz g P (fu + 1) (by first | exact hx_mm_goneTo | omega) (by first | exact hx_mm_goneIn | omega) hf_nv hf_na hf_nb hf_nc hf_bto hf_bin (by first | exact q0 | omega) (by first | exact q1 | omega) (by first | exact q2 | omega) (by first | exact q3 | omega) (by omega) hn_bi hn_pa hn_grv) (cwV 2 hts (gv hT w_m_X11_273 w_instanceMethod_X11_goesTo ws_sel_X11_goesTo w_ini_X11 w_code_X11_goesTo) rfl rfl rfl (by decide +kernel) ⟨(by dsimp only [headSpec]; omega), (by dsimp only [headSpec]; omega)⟩) ⟨pre_blind, va_recv hK hP (ci := 8) (q0 := 0) rfl rfl, pre_of hPc hKc hDc hN⟩ rfl rfl hl.1 rfl (lv_room (Nat.le_of_ble_eq_true rfl)) dX11_counts_22 ⟨(Nat.le_of_ble_eq_true rfl), (Nat.le_of_ble_eq_true rfl)⟩) hS (fun q _ h => hFc q h) hFc (fun u t H locs ht hvm hq hB hz1 hk1 hS9 => ?_)
    obtain ⟨z5, z6, z7⟩ := u
    obtain ⟨hP1, hD1⟩ := hB
    rw [ht] at hP1
    obtain ⟨hP9, hD9⟩ := va_join (wr := []) (w1 := [(h_mm, .inr (8, (mo134 vq3 (.ref h_nv) (.ref h_na) (.ref h_nb) (.ref h_nc) (.ref h_bto) (.ref h_bin) (.int z5) (.int z6)))), (h_nv, .inl (cy_nv, 8000, .inl f_nv)), (h_na, .inl (cy_na, 8000, .inl f_na)), (h_nb, .inl (cy_nb, 8000, .inl f_nb)), (h_nc, .inl (cy_nc, 8000, .inl f_nc)), (h_bto, .inl (cy_bto, 256, .inl f_bto)), (h_bin, .inl (cy_bin, 256, .inl f_bin))]) hP hD [0, 1, 2, 3, 4, 5, 6] [] rfl rfl (by decide) (by decide) hk1 hFc hP1 hD1
    clear hP hD hS hPc hDc hKc hFc hP1 hD1 hk1 hz1 ht hvm
    have hP : va_P (dC, dI) cls [(h_mm, .inr (8, (mo134 vq3 (.ref h_nv) (.ref h_na) (.ref h_nb) (.ref h_nc) (.ref h_bto) (.ref h_bin) (.int z5) (.int z6)))), (h_nv, .inl (cy_nv, 8000, .inl f_nv)), (h_na, .inl (cy_na, 8000, .inl f_na)), (h_nb, .inl (cy_nb, 8000, .inl f_nb)), (h_nc, .inl (cy_nc, 8000, .inl f_nc)), (h_bto, .inl (cy_bto, 256, .inl f_bto)), (h_bin, .inl (cy_bin, 256, .inl f_bin))] H := hP9
    have hD : va_D A [(h_mm, .inr (8, (mo134 vq3 (.ref h_nv) (.ref h_na) (.ref h_nb) (.ref h_nc) (.ref h_bto) (.ref h_bin) (.int z5) (.int z6)))), (h_nv, .inl (cy_nv, 8000, .inl f_nv)), (h_na, .inl (cy_na, 8000, .inl f_na)), (h_nb, .inl (cy_nb, 8000, .inl f_nb)), (h_nc, .inl (cy_nc, 8000, .inl f_nc)), (h_bto, .inl (cy_bto, 256, .inl f_bto)), (h_bin, .inl (cy_bin, 256, .inl f_bin))] := hD9
    have hS := hS9
    clear hP9 hD9 hS9
    rw [evq3] at hP hD
    replace hP : va_P (dC, dI) cls [(h_mm, .inr (8, (mo138 v_mm (.ref h_nv) (.ref h_na) (.ref h_nb) (.ref h_nc) (.ref h_bto) (.ref h_bin) (.int z5) (.int z6) (.int z2)))), (h_nv, .inl (cy_nv, 8000, .inl f_nv)), (h_na, .inl (cy_na, 8000, .inl f_na)), (h_nb, .inl (cy_nb, 8000, .inl f_nb)), (h_nc, .inl (cy_nc, 8000, .inl f_nc)), (h_bto, .inl (cy_bto, 256, .inl f_bto)), (h_bin, .inl (cy_bin, 256, .inl f_bin))] H := hP
    replace hD : va_D A [(h_mm, .inr (8, (mo138 v_mm (.ref h_nv) (.ref h_na) (.ref h_nb) (.ref h_nc) (.ref h_bto) (.ref h_bin) (.int z5) (.int z6) (.int z2)))), (h_nv, .inl (cy_nv, 8000, .inl f_nv)), (h_na, .inl (cy_na, 8000, .inl f_na)), (h_nb, .inl (cy_nb, 8000, .inl f_nb)), (h_nc, .inl (cy_nc, 8000, .inl f_nc)), (h_bto, .inl (cy_bto, 256, .inl f_bto)), (h_bin, .inl (cy_bin, 256, .inl f_bin))] := hD
    clear evq3 
    obtain ⟨k8, k9, k10, k11, k12, k13, k14, k15, k16⟩ := hq
    replace k8 : 0 ≤ ((z5)).toInt ∧ ((z5)).toInt ≤ 7999 := k8
    replace k9 : 0 ≤ ((z6)).toInt ∧ ((z6)).toInt ≤ 31 := k9
    replace k10 : 0 ≤ ((z5)).toInt ∧ ((z5)).toInt < (N) := k10
    replace k11 : (i0) ≤ ((z6)).toInt ∧ ((z6)).toInt ≤ (i1) := k11
    replace k12 : (hz) ((z5)).toInt.toNat + 6 * (256 - ((z7)).length) + 1 ≤ ((fu + 1)) := k12
    replace k13 : PA (i0) (z7) f_nv f_na f_nb f_nc f_bto f_bin ((z5)).toInt.toNat ((z6)).toInt := k13
    replace k14 : (f_nv ((z5)).toInt.toNat).toInt = -1 ∨ (f_bto (8 * ((z6)).toInt + (f_nv ((z5)).toInt.toNat).toInt).toNat).toInt = -1 := k14
    replace k15 : ∀ tt : Nat, (f_bto tt).toInt = -1 → NR f_nv f_na f_nb f_nc f_bto f_bin ((z5)).toInt.toNat ((z6)).toInt tt → NR f_nv f_na f_nb f_nc f_bto f_bin ((p1)).toInt.toNat ((p2)).toInt tt := k15
    replace k16 : BRE (g) (BDW f_bto f_bin) (PLR (p1) (p2)) (PLR (z5) (z6)) := k16
    refine lv_aload_n hx hb dX11_counts_25 rfl (lv_at hl 0 rfl) ?_
    refine va_get (D := (dC, dI)) (ci := 8) (v := .int z5) (C := RX11) (T := TX11) (N := 71) hx hb hw iwX11 hown hK hP 0 rfl rfl 31 (by decide) (hw _ w_f_X11_264) (fun _ h9 => h9) rfl dX11_counts_26 ?_
    refine lv_istore (lv' := [(4, .int z5), (0, .ref h_mm), (1, .int p1), (2, .int p2), (3, .int p3)]) hx hb dX11_counts_29 hl (by decide) rfl (fun ls hl => ?_)
    refine lv_aload_n hx hb dX11_counts_31 rfl (lv_at hl 1 rfl) ?_
    refine va_get (D := (dC, dI)) (ci := 8) (v := .int z6) (C := RX11) (T := TX11) (N := 71) hx hb hw iwX11 hown hK hP 0 rfl rfl 32 (by decide) (hw _ w_f_X11_267) (fun _ h9 => h9) rfl dX11_counts_32 ?_
    refine lv_istore (lv' := [(5, .int z6), (4, .int z5), (0, .ref h_mm), (1, .int p1), (2, .int p2), (3, .int p3)]) hx hb dX11_counts_35 hl (by decide) rfl (fun ls hl => ?_)
    have ga9 := grv_a (i := z6) hn_grv (show 0 ≤ (z5).toInt ∧ (z5).toInt < 8000 by omega)
    have gv9 := grv_v (i := z6) hn_grv (show 0 ≤ (z5).toInt ∧ (z5).toInt < 8000 by omega)
    have zz9 : 0 ≤ g.1 (PLR z5 z6) → g.2.2.2.1 (PLR z5 z6) = 0 := fun h9 => by rw [gv9] at h9; rw [ga9]; unfold npx; rw [if_pos (Or.inl (by omega))]
    have np9 : 0 ≤ npx f_nv f_na f_nb f_nc (z5).toInt.toNat := npx_nn
    have cst0 : (0 : Int32).toInt = 0 := by decide
    refine lv_iconst (v := 0) hx hb dX11_counts_37 (by decide) ?_
    refine lv_istore (lv' := [(6, .int 0), (5, .int z6), (4, .int z5), (0, .ref h_mm), (1, .int p1), (2, .int p2), (3, .int p3)]) hx hb dX11_counts_38 hl (by decide) rfl (fun ls hl => ?_)
    have lp21 : ∀ (n : Nat) (x17 : Int32) (x18 : Int32) (x19 : Int32) (x20 : Int32) (H : Heap) (locs : List Loc) (ls : Array Slot), (0 ≤ (x17).toInt ∧ (x17).toInt ≤ 3) → (0 ≤ (x18).toInt ∧ (x18).toInt ≤ 7999) → (0 ≤ (x19).toInt ∧ (x19).toInt ≤ 31) → (0 ≤ (x20).toInt ∧ (x20).toInt ≤ 2001) → ((x17).toInt ≤ npx f_nv f_na f_nb f_nc ((z5).toInt).toNat) → (CNK g (BDW f_bto f_bin) (PLR p1 p2) (PLR z5 z6) (x_mm_counted).toInt (x20).toInt (p3).toInt ((x17).toInt)) → (3 - (x17).toInt).toNat + 1 ≤ n → va_P (dC, dI) cls [(h_mm, .inr (8, (mo138 v_mm (.ref h_nv) (.ref h_na) (.ref h_nb) (.ref h_nc) (.ref h_bto) (.ref h_bin) (.int x18) (.int x19) (.int x20)))), (h_nv, .inl (cy_nv, 8000, .inl f_nv)), (h_na, .inl (cy_na, 8000, .inl f_na)), (h_nb, .inl (cy_nb, 8000, .inl f_nb)), (h_nc, .inl (cy_nc, 8000, .inl f_nc)), (h_bto, .inl (cy_bto, 256, .inl f_bto)), (h_bin, .inl (cy_bin, 256, .inl f_bin))] H → va_D A [(h_mm, .inr (8, (mo138 v_mm (.ref h_nv) (.ref h_na) (.ref h_nb) (.ref h_nc) (.ref h_bto) (.ref h_bin) (.int x18) (.int x19) (.int x20)))), (h_nv, .inl (cy_nv, 8000, .inl f_nv)), (h_na, .inl (cy_na, 8000, .inl f_na)), (h_nb, .inl (cy_nb, 8000, .inl f_nb)), (h_nc, .inl (cy_nc, 8000, .inl f_nc)), (h_bto, .inl (cy_bto, 256, .inl f_bto)), (h_bin, .inl (cy_bin, 256, .inl f_bin))] → va_S A s.heap H locs → lv_has ls 7 [(0, .ref h_mm), (1, .int p1), (2, .int p2), (3, .int p3), (4, .int z5), (5, .int z6), (6, .int x17)] → W p l e ({ frames := (fu + 1) + 2, cells := 0, slots := 0, locals := 26 * (fu + 1) + 45 } : Room) s m ([.ref h_mm, .int p1, .int p2, .int p3] : List Value).toArray below meth c H locs 0 0 (MQ below (va_Qv (fun (u : (Int32) × (Int32) × (Int32)) => (0 ≤ (u.1).toInt ∧ (u.1).toInt ≤ 7999) ∧ (0 ≤ (u.2.1).toInt ∧ (u.2.1).toInt ≤ 31) ∧ (0 ≤ (u.2.2).toInt ∧ (u.2.2).toInt ≤ 2001) ∧ (CNX g (BDW f_bto f_bin) (PLR p1 p2) (x_mm_counted).toInt (u.2.2).toInt (p3).toInt)) (fun (u : (Int32) × (Int32) × (Int32)) (t : State) => va_P (dC, dI) cls [(h_mm, .inr (8, (mo138 v_mm (.ref h_nv) (.ref h_na) (.ref h_nb) (.ref h_nc) (.ref h_bto) (.ref h_bin) (.int u.1) (.int u.2.1) (.int u.2.2)))), (h_nv, .inl (cy_nv, 8000, .inl f_nv)), (h_na, .inl (cy_na, 8000, .inl f_na)), (h_nb, .inl (cy_nb, 8000, .inl f_nb)), (h_nc, .inl (cy_nc, 8000, .inl f_nc)), (h_bto, .inl (cy_bto, 256, .inl f_bto)), (h_bin, .inl (cy_bin, 256, .inl f_bin))] t.heap ∧ va_D A [(h_mm, .inr (8, (mo138 v_mm (.ref h_nv) (.ref h_na) (.ref h_nb) (.ref h_nc) (.ref h_bto) (.ref h_bin) (.int u.1) (.int u.2.1) (.int u.2.2)))), (h_nv, .inl (cy_nv, 8000, .inl f_nv)), (h_na, .inl (cy_na, 8000, .inl f_na)), (h_nb, .inl (cy_nb, 8000, .inl f_nb)), (h_nc, .inl (cy_nc, 8000, .inl f_nc)), (h_bto, .inl (cy_bto, 256, .inl f_bto)), (h_bin, .inl (cy_bin, 256, .inl f_bin))]) A) ([.ref h_mm, .int p1, .int p2, .int p3] : List Value).toArray s 0 0 A) (F0 m 40 ls []) := by
      clear hP hD hS hl
      intro n
      induction n with
      | zero => intro x17 x18 x19 x20 H locs ls klp21_0 klp21_1 klp21_2 klp21_3 klp21_4 klp21_5 hm hP hD hS hl; exact False.elim (by omega)
      | succ n ih => 
        intro x17 x18 x19 x20 H locs ls klp21_0 klp21_1 klp21_2 klp21_3 klp21_4 klp21_5 hm hP hD hS hl
        have ih22 := ih
        clear ih
        refine lv_iload hx hb dX11_counts_40 (lv_at hl 6 rfl) ?_
        refine lv_aload_n hx hb dX11_counts_42 rfl (lv_at hl 0 rfl) ?_
        refine lv_iload hx hb dX11_counts_43 (lv_at hl 4 rfl) ?_
        obtain ⟨vq23, evq23⟩ := mq138_86 v_mm (.ref h_bto) (.ref h_bin) (.int x18) (.int x19) (.int x20)
        replace hP : va_P (dC, dI) cls [(h_mm, .inr (8, (mo86 vq23 (.ref h_nv) (.ref h_na) (.ref h_nb) (.ref h_nc)))), (h_nv, .inl (cy_nv, 8000, .inl f_nv)), (h_na, .inl (cy_na, 8000, .inl f_na)), (h_nb, .inl (cy_nb, 8000, .inl f_nb)), (h_nc, .inl (cy_nc, 8000, .inl f_nc)), (h_bto, .inl (cy_bto, 256, .inl f_bto)), (h_bin, .inl (cy_bin, 256, .inl f_bin))] H := by rw [evq23]; exact hP
        replace hD : va_D A [(h_mm, .inr (8, (mo86 vq23 (.ref h_nv) (.ref h_na) (.ref h_nb) (.ref h_nc)))), (h_nv, .inl (cy_nv, 8000, .inl f_nv)), (h_na, .inl (cy_na, 8000, .inl f_na)), (h_nb, .inl (cy_nb, 8000, .inl f_nb)), (h_nc, .inl (cy_nc, 8000, .inl f_nc)), (h_bto, .inl (cy_bto, 256, .inl f_bto)), (h_bin, .inl (cy_bin, 256, .inl f_bin))] := by rw [evq23]; exact hD
        have hPc := hP.sub (ws' := [(h_mm, .inr (8, (mo86 vq23 (.ref h_nv) (.ref h_na) (.ref h_nb) (.ref h_nc)))), (h_nv, .inl (cy_nv, 8000, .inl f_nv)), (h_na, .inl (cy_na, 8000, .inl f_na)), (h_nb, .inl (cy_nb, 8000, .inl f_nb)), (h_nc, .inl (cy_nc, 8000, .inl f_nc))]) [0, 1, 2, 3, 4] rfl
        have hDc := hD.sub (ws' := [(h_mm, .inr (8, (mo86 vq23 (.ref h_nv) (.ref h_na) (.ref h_nb) (.ref h_nc)))), (h_nv, .inl (cy_nv, 8000, .inl f_nv)), (h_na, .inl (cy_na, 8000, .inl f_na)), (h_nb, .inl (cy_nb, 8000, .inl f_nb)), (h_nc, .inl (cy_nc, 8000, .inl f_nc))]) [0, 1, 2, 3, 4] (by decide) rfl
        have hKc := hK.sub (tys' := [(cy_nv, .int), (cy_na, .int), (cy_nb, .int), (cy_nc, .int)]) [0, 1, 2, 3] rfl
        have hFc := va_free (wc := [(h_mm, .inr (8, (mo86 vq23 (.ref h_nv) (.ref h_na) (.ref h_nb) (.ref h_nc)))), (h_nv, .inl (cy_nv, 8000, .inl f_nv)), (h_na, .inl (cy_na, 8000, .inl f_na)), (h_nb, .inl (cy_nb, 8000, .inl f_nb)), (h_nc, .inl (cy_nc, 8000, .inl f_nc))]) hD hS hA [0, 1, 2, 3, 4] rfl
        refine va_calli (va_runV (As := [.int z5]) (rest := [.int x17]) ⟨hx, hb, hml, hown, hts⟩ (c_X11_partsAt_e l dC dI H.size h_mm h_nv h_na h_nb h_nc vq23 cy_nv f_nv cy_na f_na cy_nb f_nb cy_nc f_nc z5 hf_nv hf_na hf_nb hf_nc (by first | exact k8 | omega)) (cwV 1 hts (gv hT w_m_X11_27 w_instanceMethod_X11_partsAt ws_sel_X11_partsAt w_ini_X11 w_code_X11_partsAt) rfl rfl rfl (by decide +kernel) ⟨(by dsimp only [headSpec]; omega), (by dsimp only [headSpec]; omega)⟩) ⟨pre_blind, va_recv hK hP (ci := 8) (q0 := 0) rfl rfl, pre_of hPc hKc hDc hN⟩ rfl rfl hl.1 rfl (lv_room (Nat.le_of_ble_eq_true rfl)) dX11_counts_45 ⟨(Nat.le_of_ble_eq_true rfl), (Nat.le_of_ble_eq_true rfl)⟩) hS (fun q _ h => hFc q h) hFc (fun r24 u t H locs ht hvm hq hB hz1 hk1 hS9 => ?_)
        obtain ⟨hP1, hD1⟩ := hB
        rw [ht] at hP1
        obtain ⟨hP9, hD9⟩ := va_join (wr := [(h_bto, .inl (cy_bto, 256, .inl f_bto)), (h_bin, .inl (cy_bin, 256, .inl f_bin))]) (w1 := [(h_mm, .inr (8, (mo86 vq23 (.ref h_nv) (.ref h_na) (.ref h_nb) (.ref h_nc)))), (h_nv, .inl (cy_nv, 8000, .inl f_nv)), (h_na, .inl (cy_na, 8000, .inl f_na)), (h_nb, .inl (cy_nb, 8000, .inl f_nb)), (h_nc, .inl (cy_nc, 8000, .inl f_nc))]) hP hD [0, 1, 2, 3, 4] [5, 6] rfl rfl (by decide) (by decide) hk1 hFc hP1 hD1
        clear hP hD hS hPc hDc hKc hFc hP1 hD1 hk1 hz1 ht hvm
        have hP : va_P (dC, dI) cls [(h_bto, .inl (cy_bto, 256, .inl f_bto)), (h_bin, .inl (cy_bin, 256, .inl f_bin)), (h_mm, .inr (8, (mo86 vq23 (.ref h_nv) (.ref h_na) (.ref h_nb) (.ref h_nc)))), (h_nv, .inl (cy_nv, 8000, .inl f_nv)), (h_na, .inl (cy_na, 8000, .inl f_na)), (h_nb, .inl (cy_nb, 8000, .inl f_nb)), (h_nc, .inl (cy_nc, 8000, .inl f_nc))] H := hP9
        have hD : va_D A [(h_bto, .inl (cy_bto, 256, .inl f_bto)), (h_bin, .inl (cy_bin, 256, .inl f_bin)), (h_mm, .inr (8, (mo86 vq23 (.ref h_nv) (.ref h_na) (.ref h_nb) (.ref h_nc)))), (h_nv, .inl (cy_nv, 8000, .inl f_nv)), (h_na, .inl (cy_na, 8000, .inl f_na)), (h_nb, .inl (cy_nb, 8000, .inl f_nb)), (h_nc, .inl (cy_nc, 8000, .inl f_nc))] := hD9
        have hS := hS9
        clear hP9 hD9 hS9
        rw [evq23] at hP hD
        replace hP : va_P (dC, dI) cls [(h_bto, .inl (cy_bto, 256, .inl f_bto)), (h_bin, .inl (cy_bin, 256, .inl f_bin)), (h_mm, .inr (8, (mo138 v_mm (.ref h_nv) (.ref h_na) (.ref h_nb) (.ref h_nc) (.ref h_bto) (.ref h_bin) (.int x18) (.int x19) (.int x20)))), (h_nv, .inl (cy_nv, 8000, .inl f_nv)), (h_na, .inl (cy_na, 8000, .inl f_na)), (h_nb, .inl (cy_nb, 8000, .inl f_nb)), (h_nc, .inl (cy_nc, 8000, .inl f_nc))] H := hP
        replace hD : va_D A [(h_bto, .inl (cy_bto, 256, .inl f_bto)), (h_bin, .inl (cy_bin, 256, .inl f_bin)), (h_mm, .inr (8, (mo138 v_mm (.ref h_nv) (.ref h_na) (.ref h_nb) (.ref h_nc) (.ref h_bto) (.ref h_bin) (.int x18) (.int x19) (.int x20)))), (h_nv, .inl (cy_nv, 8000, .inl f_nv)), (h_na, .inl (cy_na, 8000, .inl f_na)), (h_nb, .inl (cy_nb, 8000, .inl f_nb)), (h_nc, .inl (cy_nc, 8000, .inl f_nc))] := hD
        clear evq23 
        obtain ⟨k25, k26⟩ := hq
        replace k25 : 0 ≤ (r24).toInt ∧ (r24).toInt ≤ 3 := k25
        replace k26 : ((r24)).toInt = (npx f_nv f_na f_nb f_nc ((z5)).toInt.toNat) := k26
        refine lv_icmp_ge (tgt := 80) hx hb dX11_counts_48 (by decide) (fun c27 => ?_) (fun c27 => ?_)
        · have kc27 := (cv_le (rfl : (r24).toInt = (r24).toInt) (rfl : (x17).toInt = (x17).toInt)).mp c27
          replace hP : va_P (dC, dI) cls [(h_mm, .inr (8, (mo138 v_mm (.ref h_nv) (.ref h_na) (.ref h_nb) (.ref h_nc) (.ref h_bto) (.ref h_bin) (.int x18) (.int x19) (.int x20)))), (h_nv, .inl (cy_nv, 8000, .inl f_nv)), (h_na, .inl (cy_na, 8000, .inl f_na)), (h_nb, .inl (cy_nb, 8000, .inl f_nb)), (h_nc, .inl (cy_nc, 8000, .inl f_nc)), (h_bto, .inl (cy_bto, 256, .inl f_bto)), (h_bin, .inl (cy_bin, 256, .inl f_bin))] H := hP.sub [2, 3, 4, 5, 6, 0, 1] rfl
          replace hD : va_D A [(h_mm, .inr (8, (mo138 v_mm (.ref h_nv) (.ref h_na) (.ref h_nb) (.ref h_nc) (.ref h_bto) (.ref h_bin) (.int x18) (.int x19) (.int x20)))), (h_nv, .inl (cy_nv, 8000, .inl f_nv)), (h_na, .inl (cy_na, 8000, .inl f_na)), (h_nb, .inl (cy_nb, 8000, .inl f_nb)), (h_nc, .inl (cy_nc, 8000, .inl f_nc)), (h_bto, .inl (cy_bto, 256, .inl f_bto)), (h_bin, .inl (cy_bin, 256, .inl f_bin))] := hD.sub [2, 3, 4, 5, 6, 0, 1] (by decide) rfl
          refine W.widen (k := 0) (n := 0) (Nat.le_of_ble_eq_true rfl) (Nat.le_of_ble_eq_true rfl) ?_
          have w28 : 0 ≤ ((x18)).toInt ∧ ((x18)).toInt ≤ 7999 := by first | exact klp21_1 | omega
          have w29 : 0 ≤ ((x19)).toInt ∧ ((x19)).toInt ≤ 31 := by first | exact klp21_2 | omega
          have w30 : 0 ≤ ((x20)).toInt ∧ ((x20)).toInt ≤ 2001 := by first | exact klp21_3 | omega
          have w31 : CNX g (BDW f_bto f_bin) (PLR p1 p2) (x_mm_counted).toInt ((x20)).toInt (p3).toInt := (cnk_end k16 zz9 klp21_5 (by rw [ga9]; omega))
          exact W.vret hx hb hr (fun t ht hW => ⟨⟨(x18, x19, x20), rfl, ⟨w28, w29, w30, w31⟩, by rw [ht]; exact hP, hD⟩, hS.F ht⟩) hS.2.2 dX11_counts_80
        · have kc27 := (not_congr (cv_le (rfl : (r24).toInt = (r24).toInt) (rfl : (x17).toInt = (x17).toInt))).mp c27
          refine lv_aload_n hx hb dX11_counts_51 rfl (lv_at hl 0 rfl) ?_
          refine va_get (D := (dC, dI)) (ci := 8) (v := .int x20) (C := RX11) (T := TX11) (N := 71) hx hb hw iwX11 hown hK hP 2 rfl rfl 33 (by decide) (hw _ w_f_X11_291) (fun _ h9 => h9) rfl dX11_counts_52 ?_
          refine lv_iload_n hx hb dX11_counts_55 rfl (lv_at hl 3 rfl) ?_
          refine lv_icmp_gt (tgt := 80) hx hb dX11_counts_56 (by decide) (fun c32 => ?_) (fun c32 => ?_)
          · have kc32 := (cv_lt (rfl : (p3).toInt = (p3).toInt) (rfl : (x20).toInt = (x20).toInt)).mp c32
            replace hP : va_P (dC, dI) cls [(h_mm, .inr (8, (mo138 v_mm (.ref h_nv) (.ref h_na) (.ref h_nb) (.ref h_nc) (.ref h_bto) (.ref h_bin) (.int x18) (.int x19) (.int x20)))), (h_nv, .inl (cy_nv, 8000, .inl f_nv)), (h_na, .inl (cy_na, 8000, .inl f_na)), (h_nb, .inl (cy_nb, 8000, .inl f_nb)), (h_nc, .inl (cy_nc, 8000, .inl f_nc)), (h_bto, .inl (cy_bto, 256, .inl f_bto)), (h_bin, .inl (cy_bin, 256, .inl f_bin))] H := hP.sub [2, 3, 4, 5, 6, 0, 1] rfl
            replace hD : va_D A [(h_mm, .inr (8, (mo138 v_mm (.ref h_nv) (.ref h_na) (.ref h_nb) (.ref h_nc) (.ref h_bto) (.ref h_bin) (.int x18) (.int x19) (.int x20)))), (h_nv, .inl (cy_nv, 8000, .inl f_nv)), (h_na, .inl (cy_na, 8000, .inl f_na)), (h_nb, .inl (cy_nb, 8000, .inl f_nb)), (h_nc, .inl (cy_nc, 8000, .inl f_nc)), (h_bto, .inl (cy_bto, 256, .inl f_bto)), (h_bin, .inl (cy_bin, 256, .inl f_bin))] := hD.sub [2, 3, 4, 5, 6, 0, 1] (by decide) rfl
            refine W.widen (k := 0) (n := 0) (Nat.le_of_ble_eq_true rfl) (Nat.le_of_ble_eq_true rfl) ?_
            have w33 : 0 ≤ ((x18)).toInt ∧ ((x18)).toInt ≤ 7999 := by first | exact klp21_1 | omega
            have w34 : 0 ≤ ((x19)).toInt ∧ ((x19)).toInt ≤ 31 := by first | exact klp21_2 | omega
            have w35 : 0 ≤ ((x20)).toInt ∧ ((x20)).toInt ≤ 2001 := by first | exact klp21_3 | omega
            have w36 : CNX g (BDW f_bto f_bin) (PLR p1 p2) (x_mm_counted).toInt ((x20)).toInt (p3).toInt := (cnk_end k16 zz9 klp21_5 (by rw [ga9]; omega))
            exact W.vret hx hb hr (fun t ht hW => ⟨⟨(x18, x19, x20), rfl, ⟨w33, w34, w35, w36⟩, by rw [ht]; exact hP, hD⟩, hS.F ht⟩) hS.2.2 dX11_counts_80
          · have kc32 := (not_congr (cv_lt (rfl : (p3).toInt = (p3).toInt) (rfl : (x20).toInt = (x20).toInt))).mp c32
            refine lv_aload_n hx hb dX11_counts_59 rfl (lv_at hl 0 rfl) ?_
            refine lv_aload_n hx hb dX11_counts_60 rfl (lv_at hl 0 rfl) ?_
            refine lv_iload hx hb dX11_counts_61 (lv_at hl 4 rfl) ?_
            refine lv_iload hx hb dX11_counts_63 (lv_at hl 6 rfl) ?_
            obtain ⟨vq37, evq37⟩ := mq138_85 v_mm (.ref h_nv) (.ref h_bto) (.ref h_bin) (.int x18) (.int x19) (.int x20)
            replace hP : va_P (dC, dI) cls [(h_bto, .inl (cy_bto, 256, .inl f_bto)), (h_bin, .inl (cy_bin, 256, .inl f_bin)), (h_mm, .inr (8, (mo85 vq37 (.ref h_na) (.ref h_nb) (.ref h_nc)))), (h_nv, .inl (cy_nv, 8000, .inl f_nv)), (h_na, .inl (cy_na, 8000, .inl f_na)), (h_nb, .inl (cy_nb, 8000, .inl f_nb)), (h_nc, .inl (cy_nc, 8000, .inl f_nc))] H := by rw [evq37]; exact hP
            replace hD : va_D A [(h_bto, .inl (cy_bto, 256, .inl f_bto)), (h_bin, .inl (cy_bin, 256, .inl f_bin)), (h_mm, .inr (8, (mo85 vq37 (.ref h_na) (.ref h_nb) (.ref h_nc)))), (h_nv, .inl (cy_nv, 8000, .inl f_nv)), (h_na, .inl (cy_na, 8000, .inl f_na)), (h_nb, .inl (cy_nb, 8000, .inl f_nb)), (h_nc, .inl (cy_nc, 8000, .inl f_nc))] := by rw [evq37]; exact hD
            have hPc := hP.sub (ws' := [(h_mm, .inr (8, (mo85 vq37 (.ref h_na) (.ref h_nb) (.ref h_nc)))), (h_na, .inl (cy_na, 8000, .inl f_na)), (h_nb, .inl (cy_nb, 8000, .inl f_nb)), (h_nc, .inl (cy_nc, 8000, .inl f_nc))]) [2, 4, 5, 6] rfl
            have hDc := hD.sub (ws' := [(h_mm, .inr (8, (mo85 vq37 (.ref h_na) (.ref h_nb) (.ref h_nc)))), (h_na, .inl (cy_na, 8000, .inl f_na)), (h_nb, .inl (cy_nb, 8000, .inl f_nb)), (h_nc, .inl (cy_nc, 8000, .inl f_nc))]) [2, 4, 5, 6] (by decide) rfl
            have hKc := hK.sub (tys' := [(cy_na, .int), (cy_nb, .int), (cy_nc, .int)]) [1, 2, 3] rfl
            have hFc := va_free (wc := [(h_mm, .inr (8, (mo85 vq37 (.ref h_na) (.ref h_nb) (.ref h_nc)))), (h_na, .inl (cy_na, 8000, .inl f_na)), (h_nb, .inl (cy_nb, 8000, .inl f_nb)), (h_nc, .inl (cy_nc, 8000, .inl f_nc))]) hD hS hA [2, 4, 5, 6] rfl
            refine va_calli (va_runV (As := [.int z5, .int x17]) (rest := [.ref h_mm]) ⟨hx, hb, hml, hown, hts⟩ (c_X11_part_e l dC dI H.size h_mm h_na h_nb h_nc vq37 cy_na f_na cy_nb f_nb cy_nc f_nc z5 x17 hf_na hf_nb hf_nc (by first | exact k8 | omega)) (cwV 2 hts (gv hT w_m_X11_31 w_instanceMethod_X11_part ws_sel_X11_part w_ini_X11 w_code_X11_part) rfl rfl rfl (by decide +kernel) ⟨(by dsimp only [headSpec]; omega), (by dsimp only [headSpec]; omega)⟩) ⟨pre_blind, va_recv hK hP (ci := 8) (q0 := 2) rfl rfl, pre_of hPc hKc hDc hN⟩ rfl rfl hl.1 rfl (lv_room (Nat.le_of_ble_eq_true rfl)) dX11_counts_65 ⟨(Nat.le_of_ble_eq_true rfl), (Nat.le_of_ble_eq_true rfl)⟩) hS (fun q _ h => hFc q h) hFc (fun r38 u t H locs ht hvm hq hB hz1 hk1 hS9 => ?_)
            obtain ⟨hP1, hD1⟩ := hB
            rw [ht] at hP1
            obtain ⟨hP9, hD9⟩ := va_join (wr := [(h_bto, .inl (cy_bto, 256, .inl f_bto)), (h_bin, .inl (cy_bin, 256, .inl f_bin)), (h_nv, .inl (cy_nv, 8000, .inl f_nv))]) (w1 := [(h_mm, .inr (8, (mo85 vq37 (.ref h_na) (.ref h_nb) (.ref h_nc)))), (h_na, .inl (cy_na, 8000, .inl f_na)), (h_nb, .inl (cy_nb, 8000, .inl f_nb)), (h_nc, .inl (cy_nc, 8000, .inl f_nc))]) hP hD [2, 4, 5, 6] [0, 1, 3] rfl rfl (by decide) (by decide) hk1 hFc hP1 hD1
            clear hP hD hS hPc hDc hKc hFc hP1 hD1 hk1 hz1 ht hvm
            have hP : va_P (dC, dI) cls [(h_bto, .inl (cy_bto, 256, .inl f_bto)), (h_bin, .inl (cy_bin, 256, .inl f_bin)), (h_nv, .inl (cy_nv, 8000, .inl f_nv)), (h_mm, .inr (8, (mo85 vq37 (.ref h_na) (.ref h_nb) (.ref h_nc)))), (h_na, .inl (cy_na, 8000, .inl f_na)), (h_nb, .inl (cy_nb, 8000, .inl f_nb)), (h_nc, .inl (cy_nc, 8000, .inl f_nc))] H := hP9
            have hD : va_D A [(h_bto, .inl (cy_bto, 256, .inl f_bto)), (h_bin, .inl (cy_bin, 256, .inl f_bin)), (h_nv, .inl (cy_nv, 8000, .inl f_nv)), (h_mm, .inr (8, (mo85 vq37 (.ref h_na) (.ref h_nb) (.ref h_nc)))), (h_na, .inl (cy_na, 8000, .inl f_na)), (h_nb, .inl (cy_nb, 8000, .inl f_nb)), (h_nc, .inl (cy_nc, 8000, .inl f_nc))] := hD9
            have hS := hS9
            clear hP9 hD9 hS9
            rw [evq37] at hP hD
            replace hP : va_P (dC, dI) cls [(h_bto, .inl (cy_bto, 256, .inl f_bto)), (h_bin, .inl (cy_bin, 256, .inl f_bin)), (h_nv, .inl (cy_nv, 8000, .inl f_nv)), (h_mm, .inr (8, (mo138 v_mm (.ref h_nv) (.ref h_na) (.ref h_nb) (.ref h_nc) (.ref h_bto) (.ref h_bin) (.int x18) (.int x19) (.int x20)))), (h_na, .inl (cy_na, 8000, .inl f_na)), (h_nb, .inl (cy_nb, 8000, .inl f_nb)), (h_nc, .inl (cy_nc, 8000, .inl f_nc))] H := hP
            replace hD : va_D A [(h_bto, .inl (cy_bto, 256, .inl f_bto)), (h_bin, .inl (cy_bin, 256, .inl f_bin)), (h_nv, .inl (cy_nv, 8000, .inl f_nv)), (h_mm, .inr (8, (mo138 v_mm (.ref h_nv) (.ref h_na) (.ref h_nb) (.ref h_nc) (.ref h_bto) (.ref h_bin) (.int x18) (.int x19) (.int x20)))), (h_na, .inl (cy_na, 8000, .inl f_na)), (h_nb, .inl (cy_nb, 8000, .inl f_nb)), (h_nc, .inl (cy_nc, 8000, .inl f_nc))] := hD
            clear evq37 
            obtain ⟨k39, k40⟩ := hq
            replace k39 : -1 ≤ (r38).toInt ∧ (r38).toInt ≤ 7999 := k39
            replace k40 : ((r38)).toInt = (ptx f_na f_nb f_nc ((z5)).toInt.toNat ((x17)).toInt).toInt := k40
            have cc9e : ptx f_na f_nb f_nc (z5).toInt.toNat (x17).toInt = r38 := Int32.toInt_inj.mp (by omega)
            have cc9c := ch_ok (nv := f_nv) (k := (x17).toInt) (x := (z5).toInt.toNat) hn_bi.1 (by omega) (by omega)
            rw [cc9e] at cc9c
            have cc9p := pa_ch (k := (x17).toInt) (k13) (by omega)
            rw [cc9e] at cc9p
            have kg9 := grv_k (i := z6) hn_grv (show 0 ≤ (z5).toInt ∧ (z5).toInt < 8000 by omega) (by omega) cc9e
            refine lv_iload hx hb dX11_counts_68 (lv_at hl 5 rfl) ?_
            refine lv_iload_n hx hb dX11_counts_70 rfl (lv_at hl 3 rfl) ?_
            have hPc := hP.sub (ws' := [(h_mm, .inr (8, (mo138 v_mm (.ref h_nv) (.ref h_na) (.ref h_nb) (.ref h_nc) (.ref h_bto) (.ref h_bin) (.int x18) (.int x19) (.int x20)))), (h_nv, .inl (cy_nv, 8000, .inl f_nv)), (h_na, .inl (cy_na, 8000, .inl f_na)), (h_nb, .inl (cy_nb, 8000, .inl f_nb)), (h_nc, .inl (cy_nc, 8000, .inl f_nc)), (h_bto, .inl (cy_bto, 256, .inl f_bto)), (h_bin, .inl (cy_bin, 256, .inl f_bin))]) [3, 2, 4, 5, 6, 0, 1] rfl
            have hDc := hD.sub (ws' := [(h_mm, .inr (8, (mo138 v_mm (.ref h_nv) (.ref h_na) (.ref h_nb) (.ref h_nc) (.ref h_bto) (.ref h_bin) (.int x18) (.int x19) (.int x20)))), (h_nv, .inl (cy_nv, 8000, .inl f_nv)), (h_na, .inl (cy_na, 8000, .inl f_na)), (h_nb, .inl (cy_nb, 8000, .inl f_nb)), (h_nc, .inl (cy_nc, 8000, .inl f_nc)), (h_bto, .inl (cy_bto, 256, .inl f_bto)), (h_bin, .inl (cy_bin, 256, .inl f_bin))]) [3, 2, 4, 5, 6, 0, 1] (by decide) rfl
            have hKc := hK.sub (tys' := [(cy_nv, .int), (cy_na, .int), (cy_nb, .int), (cy_nc, .int), (cy_bto, .int), (cy_bin, .int)]) [0, 1, 2, 3, 4, 5] rfl
            have hFc := va_free (wc := [(h_mm, .inr (8, (mo138 v_mm (.ref h_nv) (.ref h_na) (.ref h_nb) (.ref h_nc) (.ref h_bto) (.ref h_bin) (.int x18) (.int x19) (.int x20)))), (h_nv, .inl (cy_nv, 8000, .inl f_nv)), (h_na, .inl (cy_na, 8000, .inl f_na)), (h_nb, .inl (cy_nb, 8000, .inl f_nb)), (h_nc, .inl (cy_nc, 8000, .inl f_nc)), (h_bto, .inl (cy_bto, 256, .inl f_bto)), (h_bin, .inl (cy_bin, 256, .inl f_bin))]) hD hS hA [3, 2, 4, 5, 6, 0, 1] rfl
            refine va_callv (va_runV (As := [.int r38, .int z6, .int p3]) (rest := []) ⟨hx, hb, hml, hown, hts⟩ (ihf dC dI H.size h_mm h_nv h_na h_nb h_nc h_bto h_bin v_mm x18 x19 x20 cy_nv f_nv cy_na f_na cy_nb f_nb cy_nc f_nc cy_bto f_bto cy_bin f_bin r38 z6 p3 i0 i1 N hz g z7 (by first | exact klp21_1 | omega) (by first | exact klp21_2 | omega) (by first | exact klp21_3 | omega) hf_nv hf_na hf_nb hf_nc hf_bto hf_bin (by first | exact q0 | omega) (by first | exact q1 | omega) (by omega) (by first | exact k11 | omega) (by first | exact q4 | omega) (by omega) hn_bi cc9p hn_grv) (cwV 3 hts (gv hT w_m_X11_294 w_instanceMethod_X11_counts ws_sel_X11_counts w_ini_X11 w_code_X11_counts) rfl rfl rfl (by decide +kernel) ⟨(by dsimp only [headSpec]; omega), (by dsimp only [headSpec]; omega)⟩) ⟨pre_blind, va_recv hK hP (ci := 8) (q0 := 3) rfl rfl, pre_of hPc hKc hDc hN⟩ rfl rfl hl.1 rfl (lv_room (Nat.le_of_ble_eq_true rfl)) dX11_counts_71 ⟨(Nat.le_of_ble_eq_true rfl), (Nat.le_of_ble_eq_true rfl)⟩) hS (fun q _ h => hFc q h) hFc (fun u t H locs ht hvm hq hB hz1 hk1 hS9 => ?_)
            obtain ⟨z42, z43, z44⟩ := u
            obtain ⟨hP1, hD1⟩ := hB
            rw [ht] at hP1
            obtain ⟨hP9, hD9⟩ := va_join (wr := []) (w1 := [(h_mm, .inr (8, (mo138 v_mm (.ref h_nv) (.ref h_na) (.ref h_nb) (.ref h_nc) (.ref h_bto) (.ref h_bin) (.int z42) (.int z43) (.int z44)))), (h_nv, .inl (cy_nv, 8000, .inl f_nv)), (h_na, .inl (cy_na, 8000, .inl f_na)), (h_nb, .inl (cy_nb, 8000, .inl f_nb)), (h_nc, .inl (cy_nc, 8000, .inl f_nc)), (h_bto, .inl (cy_bto, 256, .inl f_bto)), (h_bin, .inl (cy_bin, 256, .inl f_bin))]) hP hD [3, 2, 4, 5, 6, 0, 1] [] rfl rfl (by decide) (by decide) hk1 hFc hP1 hD1
            clear hP hD hS hPc hDc hKc hFc hP1 hD1 hk1 hz1 ht hvm
            have hP : va_P (dC, dI) cls [(h_mm, .inr (8, (mo138 v_mm (.ref h_nv) (.ref h_na) (.ref h_nb) (.ref h_nc) (.ref h_bto) (.ref h_bin) (.int z42) (.int z43) (.int z44)))), (h_nv, .inl (cy_nv, 8000, .inl f_nv)), (h_na, .inl (cy_na, 8000, .inl f_na)), (h_nb, .inl (cy_nb, 8000, .inl f_nb)), (h_nc, .inl (cy_nc, 8000, .inl f_nc)), (h_bto, .inl (cy_bto, 256, .inl f_bto)), (h_bin, .inl (cy_bin, 256, .inl f_bin))] H := hP9
            have hD : va_D A [(h_mm, .inr (8, (mo138 v_mm (.ref h_nv) (.ref h_na) (.ref h_nb) (.ref h_nc) (.ref h_bto) (.ref h_bin) (.int z42) (.int z43) (.int z44)))), (h_nv, .inl (cy_nv, 8000, .inl f_nv)), (h_na, .inl (cy_na, 8000, .inl f_na)), (h_nb, .inl (cy_nb, 8000, .inl f_nb)), (h_nc, .inl (cy_nc, 8000, .inl f_nc)), (h_bto, .inl (cy_bto, 256, .inl f_bto)), (h_bin, .inl (cy_bin, 256, .inl f_bin))] := hD9
            have hS := hS9
            clear hP9 hD9 hS9
            obtain ⟨k45, k46, k47, k48⟩ := hq
            replace k45 : 0 ≤ ((z42)).toInt ∧ ((z42)).toInt ≤ 7999 := k45
            replace k46 : 0 ≤ ((z43)).toInt ∧ ((z43)).toInt ≤ 31 := k46
            replace k47 : 0 ≤ ((z44)).toInt ∧ ((z44)).toInt ≤ 2001 := k47
            replace k48 : CNX (g) (BDW f_bto f_bin) (PLR (r38) (z6)) ((x20)).toInt ((z44)).toInt ((p3)).toInt := k48
            have ck49 := cnk_step (k' := (x17).toInt + 1) k16 zz9 klp21_5 (by omega) (by rw [ga9]; omega) kg9 k48 rfl
            obtain ⟨z50, ez50⟩ : ∃ y : Int32, y = x17 + 1 := ⟨_, rfl⟩
            have tz50 : (z50).toInt = (x17).toInt + 1 := by rw [ez50]; exact i_add rfl (by decide) (by omega)
            refine lv_iinc (v := z50) (lv' := [(6, .int z50), (0, .ref h_mm), (1, .int p1), (2, .int p2), (3, .int p3), (4, .int z5), (5, .int z6)]) hx hb dX11_counts_74 hl (k := 6) rfl (by rw [ez50]; rfl) (by decide) rfl (fun ls hl => ?_)
            refine lv_goto (tgt := 40) hx hb dX11_counts_77 (by decide) ?_
            have cb51 := ck49
            rw [← tz50] at cb51
            exact ih22 (z50) (z42) (z43) (z44) _ _ _ (by omega) (by first | exact k45 | omega) (by first | exact k46 | omega) (by first | exact k47 | omega) (by omega) cb51 (by omega) hP hD hS (lv_sub hl [1, 2, 3, 4, 5, 6, 0] rfl)
    have cst0 : (0 : Int32).toInt = 0 := by decide
    exact lp21 _ (0) (z5) (z6) (z2) _ _ _ (by decide) (by first | exact k8 | omega) (by first | exact k9 | omega) (by omega) (by omega) (cnk_zero (by omega) (by omega) (by decide)) (Nat.le_refl _) hP hD hS (lv_sub hl [3, 4, 5, 6, 2, 1, 0] rfl)
  · have kc1 := (not_congr (cv_le (rfl : (x_mm_counted).toInt = (x_mm_counted).toInt) (rfl : (p3).toInt = (p3).toInt))).mp c1
    refine W.widen (k := 0) (n := 0) (Nat.le_of_ble_eq_true rfl) (Nat.le_of_ble_eq_true rfl) ?_
    have w52 : 0 ≤ ((x_mm_goneTo)).toInt ∧ ((x_mm_goneTo)).toInt ≤ 7999 := by first | exact hx_mm_goneTo | omega
    have w53 : 0 ≤ ((x_mm_goneIn)).toInt ∧ ((x_mm_goneIn)).toInt ≤ 31 := by first | exact hx_mm_goneIn | omega
    have w54 : 0 ≤ ((x_mm_counted)).toInt ∧ ((x_mm_counted)).toInt ≤ 2001 := by first | exact hx_mm_counted | omega
    have w55 : CNX g (BDW f_bto f_bin) (PLR p1 p2) (x_mm_counted).toInt ((x_mm_counted)).toInt (p3).toInt := (cnx_over (by omega) rfl)
    exact W.vret hx hb hr (fun t ht hW => ⟨⟨(x_mm_goneTo, x_mm_goneIn, x_mm_counted), rfl, ⟨w52, w53, w54, w55⟩, by rw [ht]; exact hP, hD⟩, hS.F ht⟩) hS.2.2 dX11_counts_8

set_option maxHeartbeats 8000000 in
set_option maxRecDepth 100000 in
theorem c_X11_isShort (l : Launch) (dC : Nat → ClassId) (dI : Nat → Nat → Nat) (sz : Nat) (h_mm : Nat) (h_nv : Nat) (h_na : Nat) (h_nb : Nat) (h_nc : Nat) (h_bto : Nat) (h_bin : Nat) (v_mm : Nat → Value) (x_mm_goneTo : Int32) (x_mm_goneIn : Int32) (x_mm_counted : Int32) (cy_nv : ClassId) (f_nv : Nat → Int32) (cy_na : ClassId) (f_na : Nat → Int32) (cy_nb : ClassId) (f_nb : Nat → Int32) (cy_nc : ClassId) (f_nc : Nat → Int32) (cy_bto : ClassId) (f_bto : Nat → Int32) (cy_bin : ClassId) (f_bin : Nat → Int32) (p1 : Int32) (p2 : Int32) (p3 : Int32) (i0 : Int) (i1 : Int) (N : Int) (hz : Nat → Nat) (g : GVT) (hx_mm_goneTo : 0 ≤ (x_mm_goneTo).toInt ∧ (x_mm_goneTo).toInt ≤ 7999) (hx_mm_goneIn : 0 ≤ (x_mm_goneIn).toInt ∧ (x_mm_goneIn).toInt ≤ 31) (hx_mm_counted : 0 ≤ (x_mm_counted).toInt ∧ (x_mm_counted).toInt ≤ 2001) (hf_nv : Rg (-1) 7 f_nv) (hf_na : Rg (-1) 7999 f_na) (hf_nb : Rg (-1) 7999 f_nb) (hf_nc : Rg (-1) 7999 f_nc) (hf_bto : Rg (-1) 7999 f_bto) (hf_bin : Rg 0 31 f_bin) (q0 : 0 ≤ i0 ∧ i0 ≤ i1 ∧ i1 ≤ 31) (q1 : N ≤ 8000) (q2 : 0 ≤ (p1).toInt ∧ (p1).toInt < N) (q3 : i0 ≤ (p2).toInt ∧ (p2).toInt ≤ i1) (q4 : 0 ≤ (p3).toInt ∧ (p3).toInt ≤ 2000) (hn_bi : BI i0 i1 N hz f_nv f_na f_nb f_nc f_bto f_bin) (hn_grv : GRV g f_nv f_na f_nb f_nc) : Met l yX11_isShort (Ws yX11_isShort cX11_isShort 4 (some .boolean)) (({ frames := 1547, cells := 0, slots := 0, locals := 40215 } : Room)) (PRE (dC, dI) cls [(cy_nv, .int), (cy_na, .int), (cy_nb, .int), (cy_nc, .int), (cy_bto, .int), (cy_bin, .int)] [(h_mm, .inr (8, (mo138 v_mm (.ref h_nv) (.ref h_na) (.ref h_nb) (.ref h_nc) (.ref h_bto) (.ref h_bin) (.int x_mm_goneTo) (.int x_mm_goneIn) (.int x_mm_counted)))), (h_nv, .inl (cy_nv, 8000, .inl f_nv)), (h_na, .inl (cy_na, 8000, .inl f_na)), (h_nb, .inl (cy_nb, 8000, .inl f_nb)), (h_nc, .inl (cy_nc, 8000, .inl f_nc)), (h_bto, .inl (cy_bto, 256, .inl f_bto)), (h_bin, .inl (cy_bin, 256, .inl f_bin))] sz [.ref h_mm, .int p1, .int p2, .int p3]) (va_Qi (fun (r : Int32) (u : (Int32) × (Int32) × (Int32)) => (0 ≤ (u.1).toInt ∧ (u.1).toInt ≤ 7999) ∧ (0 ≤ (u.2.1).toInt ∧ (u.2.1).toInt ≤ 31) ∧ (0 ≤ (u.2.2).toInt ∧ (u.2.2).toInt ≤ 2001) ∧ (0 ≤ r.toInt ∧ r.toInt ≤ 1) ∧ (((r).toInt = 1 ∧ SMn g (BDW f_bto f_bin) (p3).toInt.toNat [(PLR p1 p2)]) ∨ ((r).toInt = 0 ∧ ¬ SMn g (BDW f_bto f_bin) (p3).toInt.toNat [(PLR p1 p2)]))) (fun (u : (Int32) × (Int32) × (Int32)) (t : State) => va_P (dC, dI) cls [(h_mm, .inr (8, (mo138 v_mm (.ref h_nv) (.ref h_na) (.ref h_nb) (.ref h_nc) (.ref h_bto) (.ref h_bin) (.int u.1) (.int u.2.1) (.int u.2.2)))), (h_nv, .inl (cy_nv, 8000, .inl f_nv)), (h_na, .inl (cy_na, 8000, .inl f_na)), (h_nb, .inl (cy_nb, 8000, .inl f_nb)), (h_nc, .inl (cy_nc, 8000, .inl f_nc)), (h_bto, .inl (cy_bto, 256, .inl f_bto)), (h_bin, .inl (cy_bin, 256, .inl f_bin))] t.heap ∧ va_D (va_A [(h_mm, .inr (8, (mo138 v_mm (.ref h_nv) (.ref h_na) (.ref h_nb) (.ref h_nc) (.ref h_bto) (.ref h_bin) (.int x_mm_goneTo) (.int x_mm_goneIn) (.int x_mm_counted)))), (h_nv, .inl (cy_nv, 8000, .inl f_nv)), (h_na, .inl (cy_na, 8000, .inl f_na)), (h_nb, .inl (cy_nb, 8000, .inl f_nb)), (h_nc, .inl (cy_nc, 8000, .inl f_nc)), (h_bto, .inl (cy_bto, 256, .inl f_bto)), (h_bin, .inl (cy_bin, 256, .inl f_bin))] sz) [(h_mm, .inr (8, (mo138 v_mm (.ref h_nv) (.ref h_na) (.ref h_nb) (.ref h_nc) (.ref h_bto) (.ref h_bin) (.int u.1) (.int u.2.1) (.int u.2.2)))), (h_nv, .inl (cy_nv, 8000, .inl f_nv)), (h_na, .inl (cy_na, 8000, .inl f_na)), (h_nb, .inl (cy_nb, 8000, .inl f_nb)), (h_nc, .inl (cy_nc, 8000, .inl f_nc)), (h_bto, .inl (cy_bto, 256, .inl f_bto)), (h_bin, .inl (cy_bin, 256, .inl f_bin))]) (va_A [(h_mm, .inr (8, (mo138 v_mm (.ref h_nv) (.ref h_na) (.ref h_nb) (.ref h_nc) (.ref h_bto) (.ref h_bin) (.int x_mm_goneTo) (.int x_mm_goneIn) (.int x_mm_counted)))), (h_nv, .inl (cy_nv, 8000, .inl f_nv)), (h_na, .inl (cy_na, 8000, .inl f_na)), (h_nb, .inl (cy_nb, 8000, .inl f_nb)), (h_nc, .inl (cy_nc, 8000, .inl f_nc)), (h_bto, .inl (cy_bto, 256, .inl f_bto)), (h_bin, .inl (cy_bin, 256, .inl f_bin))] sz)) 0 0 (va_A [(h_mm, .inr (8, (mo138 v_mm (.ref h_nv) (.ref h_na) (.ref h_nb) (.ref h_nc) (.ref h_bto) (.ref h_bin) (.int x_mm_goneTo) (.int x_mm_goneIn) (.int x_mm_counted)))), (h_nv, .inl (cy_nv, 8000, .inl f_nv)), (h_na, .inl (cy_na, 8000, .inl f_na)), (h_nb, .inl (cy_nb, 8000, .inl f_nb)), (h_nc, .inl (cy_nc, 8000, .inl f_nc)), (h_bto, .inl (cy_bto, 256, .inl f_bto)), (h_bin, .inl (cy_bin, 256, .inl f_bin))] sz) := by
  refine Met.ofW (cc := cX11_isShort) (maxL := 4) (ret := (some .boolean)) (by decide) rfl ?_
  intro p e s m args below meth c s₁ B hml hv
  obtain ⟨rfl, hsz, hP, hK, hD0, hN⟩ := hv
  have hx := B.exec
  have hb := B.bytes
  have hr := B.returns
  have hts := atoms_spec (ws := Ws yX11_isShort cX11_isShort 4 (some .boolean)) B.pre
  have hT : ∀ w ∈ WALL, w ∈ Ws yX11_isShort cX11_isShort 4 (some .boolean) := fun w h => List.mem_cons_of_mem _ h
  have hw := fun w (h : w ∈ WALL) => hts w (hT w h)
  have hown : s.vm.findClass RX11 = some m.cls := findClass_of_methodNamed B.named
  have hlocks := B.notSynchronized
  subst hsz
  have hD := hD0.self (sz := s.heap.size)
  generalize hAe : va_A [(h_mm, .inr (8, (mo138 v_mm (.ref h_nv) (.ref h_na) (.ref h_nb) (.ref h_nc) (.ref h_bto) (.ref h_bin) (.int x_mm_goneTo) (.int x_mm_goneIn) (.int x_mm_counted)))), (h_nv, .inl (cy_nv, 8000, .inl f_nv)), (h_na, .inl (cy_na, 8000, .inl f_na)), (h_nb, .inl (cy_nb, 8000, .inl f_nb)), (h_nc, .inl (cy_nc, 8000, .inl f_nc)), (h_bto, .inl (cy_bto, 256, .inl f_bto)), (h_bin, .inl (cy_bin, 256, .inl f_bin))] s.heap.size = A at hD ⊢
  have hA : ∀ q : Nat, s.heap.size ≤ q → A q := fun q h => by rw [← hAe]; exact Or.inr h
  have hS : va_S A s.heap s.heap [] := va_S.rf
  have hl := lv_entry ([.ref h_mm, .int p1, .int p2, .int p3]) (n := 4) (Nat.le_of_ble_eq_true rfl)
  rw [lg_entry_eq]
  generalize (lg_sl ([.ref h_mm, .int p1, .int p2, .int p3]) ++ List.replicate (4 - (lg_sl ([.ref h_mm, .int p1, .int p2, .int p3])).length) Slot.unset).toArray = ls at hl ⊢
  have hl : lv_has ls 4 [(0, .ref h_mm), (1, .int p1), (2, .int p2), (3, .int p3)] := hl
  refine lv_aload_n hx hb dX11_isShort_0 rfl (lv_at hl 0 rfl) ?_
  refine lv_iconst (v := 0) hx hb dX11_isShort_1 (by decide) ?_
  refine va_put (D := (dC, dI)) (ci := 8) (v := .int 0) (ty := tyX11 33) (C := RX11) (T := TX11) (N := 71) hx hb hw iwX11 tyX11 tyX11_ok nmX11 hown hK hP hD hS 0 rfl rfl 33 (by decide) (hw _ w_f_X11_291) (fun _ h9 => h9) rfl (tyX11_ok 33 (by decide)) rfl rfl (Nat.le_of_ble_eq_true rfl) dX11_isShort_2 (fun H locs hP9 hD9 hS9 => ?_)
  clear hP hD hS
  have hP : va_P (dC, dI) cls [(h_mm, .inr (8, (mo138 v_mm (.ref h_nv) (.ref h_na) (.ref h_nb) (.ref h_nc) (.ref h_bto) (.ref h_bin) (.int x_mm_goneTo) (.int x_mm_goneIn) (.int 0)))), (h_nv, .inl (cy_nv, 8000, .inl f_nv)), (h_na, .inl (cy_na, 8000, .inl f_na)), (h_nb, .inl (cy_nb, 8000, .inl f_nb)), (h_nc, .inl (cy_nc, 8000, .inl f_nc)), (h_bto, .inl (cy_bto, 256, .inl f_bto)), (h_bin, .inl (cy_bin, 256, .inl f_bin))] H := hP9
  have hD : va_D A [(h_mm, .inr (8, (mo138 v_mm (.ref h_nv) (.ref h_na) (.ref h_nb) (.ref h_nc) (.ref h_bto) (.ref h_bin) (.int x_mm_goneTo) (.int x_mm_goneIn) (.int 0)))), (h_nv, .inl (cy_nv, 8000, .inl f_nv)), (h_na, .inl (cy_na, 8000, .inl f_na)), (h_nb, .inl (cy_nb, 8000, .inl f_nb)), (h_nc, .inl (cy_nc, 8000, .inl f_nc)), (h_bto, .inl (cy_bto, 256, .inl f_bto)), (h_bin, .inl (cy_bin, 256, .inl f_bin))] := hD9
  have hS := hS9
  clear hP9 hD9 hS9
  refine lv_aload_n hx hb dX11_isShort_5 rfl (lv_at hl 0 rfl) ?_
  refine lv_iload_n hx hb dX11_isShort_6 rfl (lv_at hl 1 rfl) ?_
  refine lv_iload_n hx hb dX11_isShort_7 rfl (lv_at hl 2 rfl) ?_
  have l09 : ([] : List Nat).length = 0 := rfl
  have hh9 := (hn_bi.1 (p1).toInt.toNat (by omega) (by omega)).2.2.2
  refine lv_iload_n hx hb dX11_isShort_8 rfl (lv_at hl 3 rfl) ?_
  have hPc := hP.sub (ws' := [(h_mm, .inr (8, (mo138 v_mm (.ref h_nv) (.ref h_na) (.ref h_nb) (.ref h_nc) (.ref h_bto) (.ref h_bin) (.int x_mm_goneTo) (.int x_mm_goneIn) (.int 0)))), (h_nv, .inl (cy_nv, 8000, .inl f_nv)), (h_na, .inl (cy_na, 8000, .inl f_na)), (h_nb, .inl (cy_nb, 8000, .inl f_nb)), (h_nc, .inl (cy_nc, 8000, .inl f_nc)), (h_bto, .inl (cy_bto, 256, .inl f_bto)), (h_bin, .inl (cy_bin, 256, .inl f_bin))]) [0, 1, 2, 3, 4, 5, 6] rfl
  have hDc := hD.sub (ws' := [(h_mm, .inr (8, (mo138 v_mm (.ref h_nv) (.ref h_na) (.ref h_nb) (.ref h_nc) (.ref h_bto) (.ref h_bin) (.int x_mm_goneTo) (.int x_mm_goneIn) (.int 0)))), (h_nv, .inl (cy_nv, 8000, .inl f_nv)), (h_na, .inl (cy_na, 8000, .inl f_na)), (h_nb, .inl (cy_nb, 8000, .inl f_nb)), (h_nc, .inl (cy_nc, 8000, .inl f_nc)), (h_bto, .inl (cy_bto, 256, .inl f_bto)), (h_bin, .inl (cy_bin, 256, .inl f_bin))]) [0, 1, 2, 3, 4, 5, 6] (by decide) rfl
  have hKc := hK.sub (tys' := [(cy_nv, .int), (cy_na, .int), (cy_nb, .int), (cy_nc, .int), (cy_bto, .int), (cy_bin, .int)]) [0, 1, 2, 3, 4, 5] rfl
  have hFc := va_free (wc := [(h_mm, .inr (8, (mo138 v_mm (.ref h_nv) (.ref h_na) (.ref h_nb) (.ref h_nc) (.ref h_bto) (.ref h_bin) (.int x_mm_goneTo) (.int x_mm_goneIn) (.int 0)))), (h_nv, .inl (cy_nv, 8000, .inl f_nv)), (h_na, .inl (cy_na, 8000, .inl f_na)), (h_nb, .inl (cy_nb, 8000, .inl f_nb)), (h_nc, .inl (cy_nc, 8000, .inl f_nc)), (h_bto, .inl (cy_bto, 256, .inl f_bto)), (h_bin, .inl (cy_bin, 256, .inl f_bin))]) hD hS hA [0, 1, 2, 3, 4, 5, 6] rfl
  refine va_callv (va_runV (As := [.int p1, .int p2, .int p3]) (rest := []) ⟨hx, hb, hml, hown, hts⟩ (c_X11_counts l 1544 dC dI H.size h_mm h_nv h_na h_nb h_nc h_bto h_bin v_mm x_mm_goneTo x_mm_goneIn 0 cy_nv f_nv cy_na f_na cy_nb f_nb cy_nc f_nc cy_bto f_bto cy_bin f_bin p1 p2 p3 i0 i1 N hz g ([]) (by first | exact hx_mm_goneTo | omega) (by first | exact hx_mm_goneIn | omega) (by decide) hf_nv hf_na hf_nb hf_nc hf_bto hf_bin (by first | exact q0 | omega) (by first | exact q1 | omega) (by first | exact q2 | omega) (by first | exact q3 | omega) (by first | exact q4 | omega) (by omega) hn_bi pa_nil hn_grv) (cwV 3 hts (gv hT w_m_X11_294 w_instanceMethod_X11_counts ws_sel_X11_counts w_ini_X11 w_code_X11_counts) rfl rfl rfl (by decide +kernel) ⟨(Nat.le_of_ble_eq_true rfl), (Nat.le_of_ble_eq_true rfl)⟩) ⟨pre_blind, va_recv hK hP (ci := 8) (q0 := 0) rfl rfl, pre_of hPc hKc hDc hN⟩ rfl rfl hl.1 rfl (lv_room (Nat.le_of_ble_eq_true rfl)) dX11_isShort_9 ⟨(Nat.le_of_ble_eq_true rfl), (Nat.le_of_ble_eq_true rfl)⟩) hS (fun q _ h => hFc q h) hFc (fun u t H locs ht hvm hq hB hz1 hk1 hS9 => ?_)
  obtain ⟨z2, z3, z4⟩ := u
  obtain ⟨hP1, hD1⟩ := hB
  rw [ht] at hP1
  obtain ⟨hP9, hD9⟩ := va_join (wr := []) (w1 := [(h_mm, .inr (8, (mo138 v_mm (.ref h_nv) (.ref h_na) (.ref h_nb) (.ref h_nc) (.ref h_bto) (.ref h_bin) (.int z2) (.int z3) (.int z4)))), (h_nv, .inl (cy_nv, 8000, .inl f_nv)), (h_na, .inl (cy_na, 8000, .inl f_na)), (h_nb, .inl (cy_nb, 8000, .inl f_nb)), (h_nc, .inl (cy_nc, 8000, .inl f_nc)), (h_bto, .inl (cy_bto, 256, .inl f_bto)), (h_bin, .inl (cy_bin, 256, .inl f_bin))]) hP hD [0, 1, 2, 3, 4, 5, 6] [] rfl rfl (by decide) (by decide) hk1 hFc hP1 hD1
  clear hP hD hS hPc hDc hKc hFc hP1 hD1 hk1 hz1 ht hvm
  have hP : va_P (dC, dI) cls [(h_mm, .inr (8, (mo138 v_mm (.ref h_nv) (.ref h_na) (.ref h_nb) (.ref h_nc) (.ref h_bto) (.ref h_bin) (.int z2) (.int z3) (.int z4)))), (h_nv, .inl (cy_nv, 8000, .inl f_nv)), (h_na, .inl (cy_na, 8000, .inl f_na)), (h_nb, .inl (cy_nb, 8000, .inl f_nb)), (h_nc, .inl (cy_nc, 8000, .inl f_nc)), (h_bto, .inl (cy_bto, 256, .inl f_bto)), (h_bin, .inl (cy_bin, 256, .inl f_bin))] H := hP9
  have hD : va_D A [(h_mm, .inr (8, (mo138 v_mm (.ref h_nv) (.ref h_na) (.ref h_nb) (.ref h_nc) (.ref h_bto) (.ref h_bin) (.int z2) (.int z3) (.int z4)))), (h_nv, .inl (cy_nv, 8000, .inl f_nv)), (h_na, .inl (cy_na, 8000, .inl f_na)), (h_nb, .inl (cy_nb, 8000, .inl f_nb)), (h_nc, .inl (cy_nc, 8000, .inl f_nc)), (h_bto, .inl (cy_bto, 256, .inl f_bto)), (h_bin, .inl (cy_bin, 256, .inl f_bin))] := hD9
  have hS := hS9
  clear hP9 hD9 hS9
  obtain ⟨k5, k6, k7, k8⟩ := hq
  replace k5 : 0 ≤ ((z2)).toInt ∧ ((z2)).toInt ≤ 7999 := k5
  replace k6 : 0 ≤ ((z3)).toInt ∧ ((z3)).toInt ≤ 31 := k6
  replace k7 : 0 ≤ ((z4)).toInt ∧ ((z4)).toInt ≤ 2001 := k7
  replace k8 : CNX (g) (BDW f_bto f_bin) (PLR (p1) (p2)) ((0 : Int32)).toInt ((z4)).toInt ((p3)).toInt := k8
  have cx9 := k8
  rw [show ((0 : Int32)).toInt = 0 by decide] at cx9
  refine lv_aload_n hx hb dX11_isShort_12 rfl (lv_at hl 0 rfl) ?_
  refine va_get (D := (dC, dI)) (ci := 8) (v := .int z4) (C := RX11) (T := TX11) (N := 71) hx hb hw iwX11 hown hK hP 0 rfl rfl 33 (by decide) (hw _ w_f_X11_291) (fun _ h9 => h9) rfl dX11_isShort_13 ?_
  refine lv_iload_n hx hb dX11_isShort_16 rfl (lv_at hl 3 rfl) ?_
  refine lv_icmp_gt (tgt := 24) hx hb dX11_isShort_17 (by decide) (fun c9 => ?_) (fun c9 => ?_)
  · have kc9 := (cv_lt (rfl : (p3).toInt = (p3).toInt) (rfl : (z4).toInt = (z4).toInt)).mp c9
    refine lv_iconst (v := 0) hx hb dX11_isShort_24 (by decide) ?_
    refine W.widen (k := 0) (n := 0) (Nat.le_of_ble_eq_true rfl) (Nat.le_of_ble_eq_true rfl) ?_
    have cst0 : (0 : Int32).toInt = 0 := by decide
    have w10 : 0 ≤ ((z2)).toInt ∧ ((z2)).toInt ≤ 7999 := by first | exact k5 | omega
    have w11 : 0 ≤ ((z3)).toInt ∧ ((z3)).toInt ≤ 31 := by first | exact k6 | omega
    have w12 : 0 ≤ ((z4)).toInt ∧ ((z4)).toInt ≤ 2001 := by first | exact k7 | omega
    have w13 : 0 ≤ (0 : Int32).toInt ∧ (0 : Int32).toInt ≤ 1 := by omega
    have w14 : (((0 : Int32)).toInt = 1 ∧ SMn g (BDW f_bto f_bin) (p3).toInt.toNat [(PLR p1 p2)]) ∨ (((0 : Int32)).toInt = 0 ∧ ¬ SMn g (BDW f_bto f_bin) (p3).toInt.toNat [(PLR p1 p2)]) := (cnx_short cx9 (Or.inr ⟨by decide, by omega⟩))
    exact W.zret (v := 0) (ty := .boolean) hx hb hr (by decide) (fun t ht hW => ⟨⟨0, (z2, z3, z4), rfl, ⟨w10, w11, w12, w13, w14⟩, by rw [ht]; exact hP, hD⟩, hS.F ht⟩) hS.2.2 dX11_isShort_25
  · have kc9 := (not_congr (cv_lt (rfl : (p3).toInt = (p3).toInt) (rfl : (z4).toInt = (z4).toInt))).mp c9
    refine lv_iconst (v := 1) hx hb dX11_isShort_20 (by decide) ?_
    refine lv_goto (tgt := 25) hx hb dX11_isShort_21 (by decide) ?_
    refine W.widen (k := 0) (n := 0) (Nat.le_of_ble_eq_true rfl) (Nat.le_of_ble_eq_true rfl) ?_
    have cst1 : (1 : Int32).toInt = 1 := by decide
    have w15 : 0 ≤ ((z2)).toInt ∧ ((z2)).toInt ≤ 7999 := by first | exact k5 | omega
    have w16 : 0 ≤ ((z3)).toInt ∧ ((z3)).toInt ≤ 31 := by first | exact k6 | omega
    have w17 : 0 ≤ ((z4)).toInt ∧ ((z4)).toInt ≤ 2001 := by first | exact k7 | omega
    have w18 : 0 ≤ (1 : Int32).toInt ∧ (1 : Int32).toInt ≤ 1 := by omega
    have w19 : (((1 : Int32)).toInt = 1 ∧ SMn g (BDW f_bto f_bin) (p3).toInt.toNat [(PLR p1 p2)]) ∨ (((1 : Int32)).toInt = 0 ∧ ¬ SMn g (BDW f_bto f_bin) (p3).toInt.toNat [(PLR p1 p2)]) := (cnx_short cx9 (Or.inl ⟨by decide, by omega⟩))
    exact W.zret (v := 1) (ty := .boolean) hx hb hr (by decide) (fun t ht hW => ⟨⟨1, (z2, z3, z4), rfl, ⟨w15, w16, w17, w18, w19⟩, by rw [ht]; exact hP, hD⟩, hS.F ht⟩) hS.2.2 dX11_isShort_25

set_option maxHeartbeats 8000000 in
set_option maxRecDepth 100000 in
theorem c_X11_takesBack_e (l : Launch) (dC : Nat → ClassId) (dI : Nat → Nat → Nat) (sz : Nat) (h_mm : Nat) (h_bto : Nat) (h_tra : Nat) (v_mm : Nat → Value) (x_mm_trailed : Int32) (cy_bto : ClassId) (f_bto : Nat → Int32) (cy_tra : ClassId) (f_tra : Nat → Int32) (p1 : Int32) (hx_mm_trailed : 0 ≤ (x_mm_trailed).toInt ∧ (x_mm_trailed).toInt ≤ 256) (hf_bto : Rg (-1) 7999 f_bto) (hf_tra : Rg 0 255 f_tra) (q0 : 0 ≤ (p1).toInt) (hn_trl : TRL (x_mm_trailed).toInt f_tra f_bto) : Met l yX11_takesBack (Ws yX11_takesBack cX11_takesBack 2 none) (({ frames := 0, cells := 0, slots := 0, locals := 0 } : Room)) (PRE (dC, dI) cls [(cy_bto, .int), (cy_tra, .int)] [(h_mm, .inr (8, (mo108 v_mm (.ref h_bto) (.ref h_tra) (.int x_mm_trailed)))), (h_bto, .inl (cy_bto, 256, .inl f_bto)), (h_tra, .inl (cy_tra, 256, .inl f_tra))] sz [.ref h_mm, .int p1]) (va_Qv (fun (u : (Int32) × (Nat → Int32)) => (0 ≤ (u.1).toInt ∧ (u.1).toInt ≤ 256) ∧ (Rg (-1) 7999 u.2) ∧ (((u.1).toInt = (p1).toInt ∧ (p1).toInt ≤ (x_mm_trailed).toInt) ∨ ((u.1).toInt = (x_mm_trailed).toInt ∧ (x_mm_trailed).toInt ≤ (p1).toInt)) ∧ (TRL (u.1).toInt f_tra u.2) ∧ (TBK (u.1).toInt (x_mm_trailed).toInt f_bto f_tra u.2) ∧ (TBE (u.1).toInt (x_mm_trailed).toInt f_bto f_tra u.2)) (fun (u : (Int32) × (Nat → Int32)) (t : State) => va_P (dC, dI) cls [(h_mm, .inr (8, (mo108 v_mm (.ref h_bto) (.ref h_tra) (.int u.1)))), (h_bto, .inl (cy_bto, 256, .inl u.2)), (h_tra, .inl (cy_tra, 256, .inl f_tra))] t.heap ∧ va_D (va_A [(h_mm, .inr (8, (mo108 v_mm (.ref h_bto) (.ref h_tra) (.int x_mm_trailed)))), (h_bto, .inl (cy_bto, 256, .inl f_bto)), (h_tra, .inl (cy_tra, 256, .inl f_tra))] sz) [(h_mm, .inr (8, (mo108 v_mm (.ref h_bto) (.ref h_tra) (.int u.1)))), (h_bto, .inl (cy_bto, 256, .inl u.2)), (h_tra, .inl (cy_tra, 256, .inl f_tra))]) (va_A [(h_mm, .inr (8, (mo108 v_mm (.ref h_bto) (.ref h_tra) (.int x_mm_trailed)))), (h_bto, .inl (cy_bto, 256, .inl f_bto)), (h_tra, .inl (cy_tra, 256, .inl f_tra))] sz)) 0 0 (va_A [(h_mm, .inr (8, (mo108 v_mm (.ref h_bto) (.ref h_tra) (.int x_mm_trailed)))), (h_bto, .inl (cy_bto, 256, .inl f_bto)), (h_tra, .inl (cy_tra, 256, .inl f_tra))] sz) := by
  refine Met.ofW (cc := cX11_takesBack) (maxL := 2) (ret := none) (by decide) rfl ?_
  intro p e s m args below meth c s₁ B hml hv
  obtain ⟨rfl, hsz, hP, hK, hD0, hN⟩ := hv
  have hx := B.exec
  have hb := B.bytes
  have hr := B.returns
  have hts := atoms_spec (ws := Ws yX11_takesBack cX11_takesBack 2 none) B.pre
  have hT : ∀ w ∈ WALL, w ∈ Ws yX11_takesBack cX11_takesBack 2 none := fun w h => List.mem_cons_of_mem _ h
  have hw := fun w (h : w ∈ WALL) => hts w (hT w h)
  have hown : s.vm.findClass RX11 = some m.cls := findClass_of_methodNamed B.named
  have hlocks := B.notSynchronized
  subst hsz
  have hD := hD0.self (sz := s.heap.size)
  generalize hAe : va_A [(h_mm, .inr (8, (mo108 v_mm (.ref h_bto) (.ref h_tra) (.int x_mm_trailed)))), (h_bto, .inl (cy_bto, 256, .inl f_bto)), (h_tra, .inl (cy_tra, 256, .inl f_tra))] s.heap.size = A at hD ⊢
  have hA : ∀ q : Nat, s.heap.size ≤ q → A q := fun q h => by rw [← hAe]; exact Or.inr h
  have hS : va_S A s.heap s.heap [] := va_S.rf
  have hl := lv_entry ([.ref h_mm, .int p1]) (n := 2) (Nat.le_of_ble_eq_true rfl)
  rw [lg_entry_eq]
  generalize (lg_sl ([.ref h_mm, .int p1]) ++ List.replicate (2 - (lg_sl ([.ref h_mm, .int p1])).length) Slot.unset).toArray = ls at hl ⊢
  have hl : lv_has ls 2 [(0, .ref h_mm), (1, .int p1)] := hl
  have tb0 : TBK (x_mm_trailed).toInt (x_mm_trailed).toInt f_bto f_tra f_bto := tb_refl
  have lp3 : ∀ (n : Nat) (x1 : Int32) (f2 : Nat → Int32) (H : Heap) (locs : List Loc) (ls : Array Slot), (0 ≤ (x1).toInt ∧ (x1).toInt ≤ 256) → (Rg (-1) 7999 f2) → ((x1).toInt ≤ (x_mm_trailed).toInt) → ((p1).toInt ≤ (x1).toInt ∨ (x1).toInt = (x_mm_trailed).toInt) → (TRL (x1).toInt f_tra f2) → (TBK (x1).toInt (x_mm_trailed).toInt f_bto f_tra f2) → (TBE (x1).toInt (x_mm_trailed).toInt f_bto f_tra f2) → ((x1).toInt).toNat + 1 ≤ n → va_P (dC, dI) cls [(h_mm, .inr (8, (mo108 v_mm (.ref h_bto) (.ref h_tra) (.int x1)))), (h_bto, .inl (cy_bto, 256, .inl f2)), (h_tra, .inl (cy_tra, 256, .inl f_tra))] H → va_D A [(h_mm, .inr (8, (mo108 v_mm (.ref h_bto) (.ref h_tra) (.int x1)))), (h_bto, .inl (cy_bto, 256, .inl f2)), (h_tra, .inl (cy_tra, 256, .inl f_tra))] → va_S A s.heap H locs → lv_has ls 2 [(0, .ref h_mm), (1, .int p1)] → W p l e ({ frames := 0, cells := 0, slots := 0, locals := 0 } : Room) s m ([.ref h_mm, .int p1] : List Value).toArray below meth c H locs 0 0 (MQ below (va_Qv (fun (u : (Int32) × (Nat → Int32)) => (0 ≤ (u.1).toInt ∧ (u.1).toInt ≤ 256) ∧ (Rg (-1) 7999 u.2) ∧ (((u.1).toInt = (p1).toInt ∧ (p1).toInt ≤ (x_mm_trailed).toInt) ∨ ((u.1).toInt = (x_mm_trailed).toInt ∧ (x_mm_trailed).toInt ≤ (p1).toInt)) ∧ (TRL (u.1).toInt f_tra u.2) ∧ (TBK (u.1).toInt (x_mm_trailed).toInt f_bto f_tra u.2) ∧ (TBE (u.1).toInt (x_mm_trailed).toInt f_bto f_tra u.2)) (fun (u : (Int32) × (Nat → Int32)) (t : State) => va_P (dC, dI) cls [(h_mm, .inr (8, (mo108 v_mm (.ref h_bto) (.ref h_tra) (.int u.1)))), (h_bto, .inl (cy_bto, 256, .inl u.2)), (h_tra, .inl (cy_tra, 256, .inl f_tra))] t.heap ∧ va_D A [(h_mm, .inr (8, (mo108 v_mm (.ref h_bto) (.ref h_tra) (.int u.1)))), (h_bto, .inl (cy_bto, 256, .inl u.2)), (h_tra, .inl (cy_tra, 256, .inl f_tra))]) A) ([.ref h_mm, .int p1] : List Value).toArray s 0 0 A) (F0 m 0 ls []) := by
    clear hP hD hS hl
    intro n
    induction n with
    | zero => intro x1 f2 H locs ls klp3_0 hf2 klp3_2 klp3_3 klp3_4 klp3_5 klp3_6 hm hP hD hS hl; exact False.elim (by omega)
    | succ n ih => 
      intro x1 f2 H locs ls klp3_0 hf2 klp3_2 klp3_3 klp3_4 klp3_5 klp3_6 hm hP hD hS hl
      have ih4 := ih
      clear ih
      refine lv_aload_n hx hb dX11_takesBack_0 rfl (lv_at hl 0 rfl) ?_
      refine va_get (D := (dC, dI)) (ci := 8) (v := .int x1) (C := RX11) (T := TX11) (N := 71) hx hb hw iwX11 hown hK hP 0 rfl rfl 30 (by decide) (hw _ w_f_X11_261) (fun _ h9 => h9) rfl dX11_takesBack_1 ?_
      refine lv_iload_n hx hb dX11_takesBack_4 rfl (lv_at hl 1 rfl) ?_
      refine lv_icmp_le (tgt := 36) hx hb dX11_takesBack_5 (by decide) (fun c5 => ?_) (fun c5 => ?_)
      · have kc5 := (cv_le (rfl : (x1).toInt = (x1).toInt) (rfl : (p1).toInt = (p1).toInt)).mp c5
        refine W.widen (k := 0) (n := 0) (Nat.le_of_ble_eq_true rfl) (Nat.le_of_ble_eq_true rfl) ?_
        have w6 : 0 ≤ ((x1)).toInt ∧ ((x1)).toInt ≤ 256 := by first | exact klp3_0 | omega
        have w7 : (((x1)).toInt = (p1).toInt ∧ (p1).toInt ≤ (x_mm_trailed).toInt) ∨ (((x1)).toInt = (x_mm_trailed).toInt ∧ (x_mm_trailed).toInt ≤ (p1).toInt) := by omega
        have w8 : TRL ((x1)).toInt f_tra (f2) := (trl_cast klp3_4 (by omega))
        have w9 : TBK ((x1)).toInt (x_mm_trailed).toInt f_bto f_tra (f2) := (tb_cast klp3_5 (by omega) (by omega))
        have w10 : TBE ((x1)).toInt (x_mm_trailed).toInt f_bto f_tra (f2) := (tbe_cast klp3_6 (by omega) (by omega))
        exact W.vret hx hb hr (fun t ht hW => ⟨⟨(x1, f2), rfl, ⟨w6, hf2, w7, w8, w9, w10⟩, by rw [ht]; exact hP, hD⟩, hS.F ht⟩) hS.2.2 dX11_takesBack_36
      · have kc5 := (not_congr (cv_le (rfl : (x1).toInt = (x1).toInt) (rfl : (p1).toInt = (p1).toInt))).mp c5
        refine lv_aload_n hx hb dX11_takesBack_8 rfl (lv_at hl 0 rfl) ?_
        refine lv_aload_n hx hb dX11_takesBack_9 rfl (lv_at hl 0 rfl) ?_
        refine va_get (D := (dC, dI)) (ci := 8) (v := .int x1) (C := RX11) (T := TX11) (N := 71) hx hb hw iwX11 hown hK hP 0 rfl rfl 30 (by decide) (hw _ w_f_X11_261) (fun _ h9 => h9) rfl dX11_takesBack_10 ?_
        refine lv_iconst (v := 1) hx hb dX11_takesBack_13 (by decide) ?_
        refine lv_isub hx hb dX11_takesBack_14 ?_
        refine lv_topi (fun z11 ez11 => ?_)
        have tz11 : (z11).toInt = (x1).toInt - 1 := by rw [ez11]; exact i_sub rfl (by decide) (by omega)
        refine va_put (D := (dC, dI)) (ci := 8) (v := .int z11) (ty := tyX11 30) (C := RX11) (T := TX11) (N := 71) hx hb hw iwX11 tyX11 tyX11_ok nmX11 hown hK hP hD hS 0 rfl rfl 30 (by decide) (hw _ w_f_X11_261) (fun _ h9 => h9) rfl (tyX11_ok 30 (by decide)) rfl rfl (Nat.le_of_ble_eq_true rfl) dX11_takesBack_15 (fun H locs hP9 hD9 hS9 => ?_)
        clear hP hD hS
        have hP : va_P (dC, dI) cls [(h_mm, .inr (8, (mo108 v_mm (.ref h_bto) (.ref h_tra) (.int z11)))), (h_bto, .inl (cy_bto, 256, .inl f2)), (h_tra, .inl (cy_tra, 256, .inl f_tra))] H := hP9
        have hD : va_D A [(h_mm, .inr (8, (mo108 v_mm (.ref h_bto) (.ref h_tra) (.int z11)))), (h_bto, .inl (cy_bto, 256, .inl f2)), (h_tra, .inl (cy_tra, 256, .inl f_tra))] := hD9
        have hS := hS9
        clear hP9 hD9 hS9
        refine lv_aload_n hx hb dX11_takesBack_18 rfl (lv_at hl 0 rfl) ?_
        refine va_get (D := (dC, dI)) (ci := 8) (v := .ref h_bto) (C := RX11) (T := TX11) (N := 71) hx hb hw iwX11 hown hK hP 0 rfl rfl 27 (by decide) (hw _ w_f_X11_195) (fun _ h9 => h9) rfl dX11_takesBack_19 ?_
        refine lv_aload_n hx hb dX11_takesBack_22 rfl (lv_at hl 0 rfl) ?_
        refine va_get (D := (dC, dI)) (ci := 8) (v := .ref h_tra) (C := RX11) (T := TX11) (N := 71) hx hb hw iwX11 hown hK hP 0 rfl rfl 29 (by decide) (hw _ w_f_X11_201) (fun _ h9 => h9) rfl dX11_takesBack_23 ?_
        refine lv_aload_n hx hb dX11_takesBack_26 rfl (lv_at hl 0 rfl) ?_
        refine va_get (D := (dC, dI)) (ci := 8) (v := .int z11) (C := RX11) (T := TX11) (N := 71) hx hb hw iwX11 hown hK hP 0 rfl rfl 30 (by decide) (hw _ w_f_X11_261) (fun _ h9 => h9) rfl dX11_takesBack_27 ?_
        refine va_iald hx hb hK hP 2 1 rfl rfl (i := z11) (vp_in_iff.mpr (by omega)) dX11_takesBack_30 ?_
        refine lv_topi (fun z12 ez12 => ?_)
        have rz12 : 0 ≤ (z12).toInt ∧ (z12).toInt ≤ 255 := by rw [ez12]; exact hf_tra _
        refine lv_iconst (v := (-1)) hx hb dX11_takesBack_31 (by decide) ?_
        refine va_iast hx hb hK hP hD hS 1 0 rfl rfl (i := z12) (x := (-1)) (vp_in_iff.mpr (by omega)) dX11_takesBack_32 (fun H locs hP9 hD9 hS9 => ?_)
        obtain ⟨f13, ef13⟩ : ∃ g : Nat → Int32, g = upd f2 (Int32.toNatClampNeg z12) (-1) := ⟨_, rfl⟩
        clear hP hD hS
        have hP : va_P (dC, dI) cls [(h_mm, .inr (8, (mo108 v_mm (.ref h_bto) (.ref h_tra) (.int z11)))), (h_bto, .inl (cy_bto, 256, .inl f13)), (h_tra, .inl (cy_tra, 256, .inl f_tra))] H := by rw [ef13]; exact hP9
        have hD : va_D A [(h_mm, .inr (8, (mo108 v_mm (.ref h_bto) (.ref h_tra) (.int z11)))), (h_bto, .inl (cy_bto, 256, .inl f13)), (h_tra, .inl (cy_tra, 256, .inl f_tra))] := by rw [ef13]; exact hD9
        have hS := hS9
        clear hP9 hD9 hS9
        have hf13 : Rg (-1) 7999 f13 := by rw [ef13]; exact rg_upd hf2 (by decide)
        have tl14 : TRL (z11).toInt f_tra f13 := by rw [ef13]; exact trl_cast (trl_step (k := z11) klp3_4 (by omega) (by omega) hf_tra ez12) (by omega)
        have tb15 : TBK (z11).toInt (x_mm_trailed).toInt f_bto f_tra f13 := by rw [ef13]; exact tb_cast (tb_step (k := z11) klp3_5 (by omega) (by omega) hf_tra ez12) (by omega) rfl
        have te16 : TBE (z11).toInt (x_mm_trailed).toInt f_bto f_tra f13 := tbe_step (k := z11) (z := (-1)) klp3_6 (by omega) (by omega) hf_tra ez12 (by decide) ef13 (by omega) (by omega)
        clear ef13
        refine lv_goto (tgt := 0) hx hb dX11_takesBack_33 (by decide) ?_
        exact ih4 (z11) (f13) _ _ _ (by omega) hf13 (by omega) (by omega) (trl_cast tl14 (by omega)) (tb_cast tb15 (by omega) (by omega)) (tbe_cast te16 (by omega) (by omega)) (by omega) hP hD hS (lv_sub hl [0, 1] rfl)
  exact lp3 _ (x_mm_trailed) (f_bto) _ _ _ (by first | exact hx_mm_trailed | omega) hf_bto (by omega) (by omega) (trl_cast hn_trl (by omega)) (tb_cast tb0 (by omega) (by omega)) (tbe_cast (tbe_refl (T := (x_mm_trailed).toInt)) (by omega) (by omega)) (Nat.le_refl _) hP hD hS (lv_sub hl [0, 1] rfl)

