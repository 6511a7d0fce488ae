theorem w_code_X11_areAlike : Cond.code yX11_areAlike prog_13_method_43_code 10 (some .boolean) ∈ WALL := wall_t (tb_6 231 (by decide +kernel)) rfl
theorem w_code_X11_binds : Cond.code yX11_binds prog_13_method_38_code 4 none ∈ WALL := wall_t (tb_6 145 (by decide +kernel)) rfl
theorem w_code_X11_counts : Cond.code yX11_counts prog_13_method_44_code 7 none ∈ WALL := wall_t (tb_6 223 (by decide +kernel)) rfl
theorem w_code_X11_goesTo : Cond.code yX11_goesTo prog_13_method_40_code 4 none ∈ WALL := wall_t (tb_6 133 (by decide +kernel)) rfl
theorem w_code_X11_holds : Cond.code yX11_holds prog_13_method_41_code 7 (some .boolean) ∈ WALL := wall_t (tb_6 141 (by decide +kernel)) rfl
theorem w_code_X11_slotOf : Cond.code yX11_slotOf prog_13_method_39_code 3 (some .int) ∈ WALL := wall_t (tb_6 137 (by decide +kernel)) rfl
theorem w_code_X11_unifies : Cond.code yX11_unifies prog_13_method_42_code 10 (some .boolean) ∈ WALL := wall_t (tb_6 129 (by decide +kernel)) rfl
theorem w_f_X11_198 : Cond.fieldLink "OppositePairsModel" 198 "OppositePairsModel" "boundIn" "[I" ∈ WALL := wall_t (tb_5 166 (by decide +kernel)) rfl
theorem w_f_X11_264 : Cond.fieldLink "OppositePairsModel" 264 "OppositePairsModel" "goneTo" "I" ∈ WALL := wall_t (tb_5 169 (by decide +kernel)) rfl
theorem w_f_X11_267 : Cond.fieldLink "OppositePairsModel" 267 "OppositePairsModel" "goneIn" "I" ∈ WALL := wall_t (tb_5 170 (by decide +kernel)) rfl
theorem w_f_X11_291 : Cond.fieldLink "OppositePairsModel" 291 "OppositePairsModel" "counted" "I" ∈ WALL := wall_t (tb_5 171 (by decide +kernel)) rfl
theorem w_instanceMethod_X11_areAlike : Cond.instanceMethod yX11_areAlike ∈ WALL := wall_t (tb_6 230 (by decide +kernel)) rfl
theorem w_instanceMethod_X11_binds : Cond.instanceMethod yX11_binds ∈ WALL := wall_t (tb_6 144 (by decide +kernel)) rfl
theorem w_instanceMethod_X11_counts : Cond.instanceMethod yX11_counts ∈ WALL := wall_t (tb_6 222 (by decide +kernel)) rfl
theorem w_instanceMethod_X11_goesTo : Cond.instanceMethod yX11_goesTo ∈ WALL := wall_t (tb_6 132 (by decide +kernel)) rfl
theorem w_instanceMethod_X11_holds : Cond.instanceMethod yX11_holds ∈ WALL := wall_t (tb_6 140 (by decide +kernel)) rfl
theorem w_instanceMethod_X11_slotOf : Cond.instanceMethod yX11_slotOf ∈ WALL := wall_t (tb_6 136 (by decide +kernel)) rfl
theorem w_instanceMethod_X11_unifies : Cond.instanceMethod yX11_unifies ∈ WALL := wall_t (tb_6 128 (by decide +kernel)) rfl
theorem w_m_X11_270 : Cond.methodLink "OppositePairsModel" 270 yX11_slotOf ∈ WALL := wall_t (tb_6 134 (by decide +kernel)) rfl
theorem w_m_X11_273 : Cond.methodLink "OppositePairsModel" 273 yX11_goesTo ∈ WALL := wall_t (tb_6 130 (by decide +kernel)) rfl
theorem w_m_X11_276 : Cond.methodLink "OppositePairsModel" 276 yX11_holds ∈ WALL := wall_t (tb_6 138 (by decide +kernel)) rfl
theorem w_m_X11_280 : Cond.methodLink "OppositePairsModel" 280 yX11_binds ∈ WALL := wall_t (tb_6 142 (by decide +kernel)) rfl
theorem w_m_X11_284 : Cond.methodLink "OppositePairsModel" 284 yX11_unifies ∈ WALL := wall_t (tb_6 126 (by decide +kernel)) rfl
theorem w_m_X11_288 : Cond.methodLink "OppositePairsModel" 288 yX11_areAlike ∈ WALL := wall_t (tb_6 228 (by decide +kernel)) rfl
theorem w_m_X11_294 : Cond.methodLink "OppositePairsModel" 294 yX11_counts ∈ WALL := wall_t (tb_6 220 (by decide +kernel)) rfl
theorem ws_sel_X11_areAlike : Cond.selects "OppositePairsModel" yX11_areAlike yX11_areAlike ∈ WALL := wall_s 134 (by decide +kernel) rfl
theorem ws_sel_X11_binds : Cond.selects "OppositePairsModel" yX11_binds yX11_binds ∈ WALL := wall_s 116 (by decide +kernel) rfl
theorem ws_sel_X11_counts : Cond.selects "OppositePairsModel" yX11_counts yX11_counts ∈ WALL := wall_s 132 (by decide +kernel) rfl
theorem ws_sel_X11_goesTo : Cond.selects "OppositePairsModel" yX11_goesTo yX11_goesTo ∈ WALL := wall_s 113 (by decide +kernel) rfl
theorem ws_sel_X11_holds : Cond.selects "OppositePairsModel" yX11_holds yX11_holds ∈ WALL := wall_s 115 (by decide +kernel) rfl
theorem ws_sel_X11_slotOf : Cond.selects "OppositePairsModel" yX11_slotOf yX11_slotOf ∈ WALL := wall_s 114 (by decide +kernel) rfl
theorem ws_sel_X11_unifies : Cond.selects "OppositePairsModel" yX11_unifies yX11_unifies ∈ WALL := wall_s 112 (by decide +kernel) rfl
theorem dX11_areAlike_0 : decode cX11_areAlike 0 = .ok (.aload_n 0, 1) := by decide +kernel
theorem dX11_areAlike_1 : decode cX11_areAlike 1 = .ok (.iload_n 1, 1) := by decide +kernel
theorem dX11_areAlike_10 : decode cX11_areAlike 10 = .ok (.istore 5, 2) := by decide +kernel
theorem dX11_areAlike_100 : decode cX11_areAlike 100 = .ok (.iconst 1, 1) := by decide +kernel
theorem dX11_areAlike_101 : decode cX11_areAlike 101 = .ok (.goto 4, 3) := by decide +kernel
theorem dX11_areAlike_104 : decode cX11_areAlike 104 = .ok (.iconst 0, 1) := by decide +kernel
theorem dX11_areAlike_105 : decode cX11_areAlike 105 = .ok (.ireturn, 1) := by decide +kernel
theorem dX11_areAlike_106 : decode cX11_areAlike 106 = .ok (.aload_n 0, 1) := by decide +kernel
theorem dX11_areAlike_107 : decode cX11_areAlike 107 = .ok (.getfield 23, 3) := by decide +kernel
theorem dX11_areAlike_110 : decode cX11_areAlike 110 = .ok (.iload 5, 2) := by decide +kernel
theorem dX11_areAlike_112 : decode cX11_areAlike 112 = .ok (.laload, 1) := by decide +kernel
theorem dX11_areAlike_113 : decode cX11_areAlike 113 = .ok (.aload_n 0, 1) := by decide +kernel
theorem dX11_areAlike_114 : decode cX11_areAlike 114 = .ok (.getfield 23, 3) := by decide +kernel
theorem dX11_areAlike_117 : decode cX11_areAlike 117 = .ok (.iload 7, 2) := by decide +kernel
theorem dX11_areAlike_119 : decode cX11_areAlike 119 = .ok (.laload, 1) := by decide +kernel
theorem dX11_areAlike_12 : decode cX11_areAlike 12 = .ok (.aload_n 0, 1) := by decide +kernel
theorem dX11_areAlike_120 : decode cX11_areAlike 120 = .ok (.lcmp, 1) := by decide +kernel
theorem dX11_areAlike_121 : decode cX11_areAlike 121 = .ok (.ifCond .ne 18, 3) := by decide +kernel
theorem dX11_areAlike_124 : decode cX11_areAlike 124 = .ok (.aload_n 0, 1) := by decide +kernel
theorem dX11_areAlike_125 : decode cX11_areAlike 125 = .ok (.iload 5, 2) := by decide +kernel
theorem dX11_areAlike_127 : decode cX11_areAlike 127 = .ok (.invokevirtual 27, 3) := by decide +kernel
theorem dX11_areAlike_13 : decode cX11_areAlike 13 = .ok (.getfield 267, 3) := by decide +kernel
theorem dX11_areAlike_130 : decode cX11_areAlike 130 = .ok (.aload_n 0, 1) := by decide +kernel
theorem dX11_areAlike_131 : decode cX11_areAlike 131 = .ok (.iload 7, 2) := by decide +kernel
theorem dX11_areAlike_133 : decode cX11_areAlike 133 = .ok (.invokevirtual 27, 3) := by decide +kernel
theorem dX11_areAlike_136 : decode cX11_areAlike 136 = .ok (.if_icmp .eq 5, 3) := by decide +kernel
theorem dX11_areAlike_139 : decode cX11_areAlike 139 = .ok (.iconst 0, 1) := by decide +kernel
theorem dX11_areAlike_140 : decode cX11_areAlike 140 = .ok (.ireturn, 1) := by decide +kernel
theorem dX11_areAlike_141 : decode cX11_areAlike 141 = .ok (.iconst 0, 1) := by decide +kernel
theorem dX11_areAlike_142 : decode cX11_areAlike 142 = .ok (.istore 9, 2) := by decide +kernel
theorem dX11_areAlike_144 : decode cX11_areAlike 144 = .ok (.iload 9, 2) := by decide +kernel
theorem dX11_areAlike_146 : decode cX11_areAlike 146 = .ok (.aload_n 0, 1) := by decide +kernel
theorem dX11_areAlike_147 : decode cX11_areAlike 147 = .ok (.iload 5, 2) := by decide +kernel
theorem dX11_areAlike_149 : decode cX11_areAlike 149 = .ok (.invokevirtual 27, 3) := by decide +kernel
theorem dX11_areAlike_152 : decode cX11_areAlike 152 = .ok (.if_icmp .ge 38, 3) := by decide +kernel
theorem dX11_areAlike_155 : decode cX11_areAlike 155 = .ok (.aload_n 0, 1) := by decide +kernel
theorem dX11_areAlike_156 : decode cX11_areAlike 156 = .ok (.aload_n 0, 1) := by decide +kernel
theorem dX11_areAlike_157 : decode cX11_areAlike 157 = .ok (.iload 5, 2) := by decide +kernel
theorem dX11_areAlike_159 : decode cX11_areAlike 159 = .ok (.iload 9, 2) := by decide +kernel
theorem dX11_areAlike_16 : decode cX11_areAlike 16 = .ok (.istore 6, 2) := by decide +kernel
theorem dX11_areAlike_161 : decode cX11_areAlike 161 = .ok (.invokevirtual 31, 3) := by decide +kernel
theorem dX11_areAlike_164 : decode cX11_areAlike 164 = .ok (.iload 6, 2) := by decide +kernel
theorem dX11_areAlike_166 : decode cX11_areAlike 166 = .ok (.aload_n 0, 1) := by decide +kernel
theorem dX11_areAlike_167 : decode cX11_areAlike 167 = .ok (.iload 7, 2) := by decide +kernel
theorem dX11_areAlike_169 : decode cX11_areAlike 169 = .ok (.iload 9, 2) := by decide +kernel
theorem dX11_areAlike_171 : decode cX11_areAlike 171 = .ok (.invokevirtual 31, 3) := by decide +kernel
theorem dX11_areAlike_174 : decode cX11_areAlike 174 = .ok (.iload 8, 2) := by decide +kernel
theorem dX11_areAlike_176 : decode cX11_areAlike 176 = .ok (.invokevirtual 288, 3) := by decide +kernel
theorem dX11_areAlike_179 : decode cX11_areAlike 179 = .ok (.ifCond .ne 5, 3) := by decide +kernel
theorem dX11_areAlike_18 : decode cX11_areAlike 18 = .ok (.aload_n 0, 1) := by decide +kernel
theorem dX11_areAlike_182 : decode cX11_areAlike 182 = .ok (.iconst 0, 1) := by decide +kernel
theorem dX11_areAlike_183 : decode cX11_areAlike 183 = .ok (.ireturn, 1) := by decide +kernel
theorem dX11_areAlike_184 : decode cX11_areAlike 184 = .ok (.iinc 9 1, 3) := by decide +kernel
theorem dX11_areAlike_187 : decode cX11_areAlike 187 = .ok (.goto (-43), 3) := by decide +kernel
theorem dX11_areAlike_19 : decode cX11_areAlike 19 = .ok (.iload_n 3, 1) := by decide +kernel
theorem dX11_areAlike_190 : decode cX11_areAlike 190 = .ok (.iconst 1, 1) := by decide +kernel
theorem dX11_areAlike_191 : decode cX11_areAlike 191 = .ok (.ireturn, 1) := by decide +kernel
theorem dX11_areAlike_2 : decode cX11_areAlike 2 = .ok (.iload_n 2, 1) := by decide +kernel
theorem dX11_areAlike_20 : decode cX11_areAlike 20 = .ok (.iload 4, 2) := by decide +kernel
theorem dX11_areAlike_22 : decode cX11_areAlike 22 = .ok (.invokevirtual 273, 3) := by decide +kernel
theorem dX11_areAlike_25 : decode cX11_areAlike 25 = .ok (.aload_n 0, 1) := by decide +kernel
theorem dX11_areAlike_26 : decode cX11_areAlike 26 = .ok (.getfield 264, 3) := by decide +kernel
theorem dX11_areAlike_29 : decode cX11_areAlike 29 = .ok (.istore 7, 2) := by decide +kernel
theorem dX11_areAlike_3 : decode cX11_areAlike 3 = .ok (.invokevirtual 273, 3) := by decide +kernel
theorem dX11_areAlike_31 : decode cX11_areAlike 31 = .ok (.aload_n 0, 1) := by decide +kernel
theorem dX11_areAlike_32 : decode cX11_areAlike 32 = .ok (.getfield 267, 3) := by decide +kernel
theorem dX11_areAlike_35 : decode cX11_areAlike 35 = .ok (.istore 8, 2) := by decide +kernel
theorem dX11_areAlike_37 : decode cX11_areAlike 37 = .ok (.aload_n 0, 1) := by decide +kernel
theorem dX11_areAlike_38 : decode cX11_areAlike 38 = .ok (.getfield 17, 3) := by decide +kernel
theorem dX11_areAlike_41 : decode cX11_areAlike 41 = .ok (.iload 5, 2) := by decide +kernel
theorem dX11_areAlike_43 : decode cX11_areAlike 43 = .ok (.iaload, 1) := by decide +kernel
theorem dX11_areAlike_44 : decode cX11_areAlike 44 = .ok (.iconst (-1), 1) := by decide +kernel
theorem dX11_areAlike_45 : decode cX11_areAlike 45 = .ok (.if_icmp .ne 14, 3) := by decide +kernel
theorem dX11_areAlike_48 : decode cX11_areAlike 48 = .ok (.aload_n 0, 1) := by decide +kernel
theorem dX11_areAlike_49 : decode cX11_areAlike 49 = .ok (.getfield 17, 3) := by decide +kernel
theorem dX11_areAlike_52 : decode cX11_areAlike 52 = .ok (.iload 7, 2) := by decide +kernel
theorem dX11_areAlike_54 : decode cX11_areAlike 54 = .ok (.iaload, 1) := by decide +kernel
theorem dX11_areAlike_55 : decode cX11_areAlike 55 = .ok (.iconst (-1), 1) := by decide +kernel
theorem dX11_areAlike_56 : decode cX11_areAlike 56 = .ok (.if_icmp .eq 50, 3) := by decide +kernel
theorem dX11_areAlike_59 : decode cX11_areAlike 59 = .ok (.aload_n 0, 1) := by decide +kernel
theorem dX11_areAlike_6 : decode cX11_areAlike 6 = .ok (.aload_n 0, 1) := by decide +kernel
theorem dX11_areAlike_60 : decode cX11_areAlike 60 = .ok (.getfield 17, 3) := by decide +kernel
theorem dX11_areAlike_63 : decode cX11_areAlike 63 = .ok (.iload 5, 2) := by decide +kernel
theorem dX11_areAlike_65 : decode cX11_areAlike 65 = .ok (.iaload, 1) := by decide +kernel
theorem dX11_areAlike_66 : decode cX11_areAlike 66 = .ok (.iconst (-1), 1) := by decide +kernel
theorem dX11_areAlike_67 : decode cX11_areAlike 67 = .ok (.if_icmp .eq 37, 3) := by decide +kernel
theorem dX11_areAlike_7 : decode cX11_areAlike 7 = .ok (.getfield 264, 3) := by decide +kernel
theorem dX11_areAlike_70 : decode cX11_areAlike 70 = .ok (.aload_n 0, 1) := by decide +kernel
theorem dX11_areAlike_71 : decode cX11_areAlike 71 = .ok (.getfield 17, 3) := by decide +kernel
theorem dX11_areAlike_74 : decode cX11_areAlike 74 = .ok (.iload 7, 2) := by decide +kernel
theorem dX11_areAlike_76 : decode cX11_areAlike 76 = .ok (.iaload, 1) := by decide +kernel
theorem dX11_areAlike_77 : decode cX11_areAlike 77 = .ok (.iconst (-1), 1) := by decide +kernel
theorem dX11_areAlike_78 : decode cX11_areAlike 78 = .ok (.if_icmp .eq 26, 3) := by decide +kernel
theorem dX11_areAlike_81 : decode cX11_areAlike 81 = .ok (.aload_n 0, 1) := by decide +kernel
theorem dX11_areAlike_82 : decode cX11_areAlike 82 = .ok (.iload 5, 2) := by decide +kernel
theorem dX11_areAlike_84 : decode cX11_areAlike 84 = .ok (.iload 6, 2) := by decide +kernel
theorem dX11_areAlike_86 : decode cX11_areAlike 86 = .ok (.invokevirtual 270, 3) := by decide +kernel
theorem dX11_areAlike_89 : decode cX11_areAlike 89 = .ok (.aload_n 0, 1) := by decide +kernel
theorem dX11_areAlike_90 : decode cX11_areAlike 90 = .ok (.iload 7, 2) := by decide +kernel
theorem dX11_areAlike_92 : decode cX11_areAlike 92 = .ok (.iload 8, 2) := by decide +kernel
theorem dX11_areAlike_94 : decode cX11_areAlike 94 = .ok (.invokevirtual 270, 3) := by decide +kernel
theorem dX11_areAlike_97 : decode cX11_areAlike 97 = .ok (.if_icmp .ne 7, 3) := by decide +kernel
theorem dX11_binds_0 : decode cX11_binds 0 = .ok (.aload_n 0, 1) := by decide +kernel
theorem dX11_binds_1 : decode cX11_binds 1 = .ok (.getfield 195, 3) := by decide +kernel
theorem dX11_binds_11 : decode cX11_binds 11 = .ok (.iload_n 1, 1) := by decide +kernel
theorem dX11_binds_12 : decode cX11_binds 12 = .ok (.iload_n 3, 1) := by decide +kernel
theorem dX11_binds_13 : decode cX11_binds 13 = .ok (.iastore, 1) := by decide +kernel
theorem dX11_binds_14 : decode cX11_binds 14 = .ok (.aload_n 0, 1) := by decide +kernel
theorem dX11_binds_15 : decode cX11_binds 15 = .ok (.getfield 201, 3) := by decide +kernel
theorem dX11_binds_18 : decode cX11_binds 18 = .ok (.aload_n 0, 1) := by decide +kernel
theorem dX11_binds_19 : decode cX11_binds 19 = .ok (.getfield 261, 3) := by decide +kernel
theorem dX11_binds_22 : decode cX11_binds 22 = .ok (.iload_n 1, 1) := by decide +kernel
theorem dX11_binds_23 : decode cX11_binds 23 = .ok (.iastore, 1) := by decide +kernel
theorem dX11_binds_24 : decode cX11_binds 24 = .ok (.aload_n 0, 1) := by decide +kernel
theorem dX11_binds_25 : decode cX11_binds 25 = .ok (.aload_n 0, 1) := by decide +kernel
theorem dX11_binds_26 : decode cX11_binds 26 = .ok (.getfield 261, 3) := by decide +kernel
theorem dX11_binds_29 : decode cX11_binds 29 = .ok (.iconst 1, 1) := by decide +kernel
theorem dX11_binds_30 : decode cX11_binds 30 = .ok (.iadd, 1) := by decide +kernel
theorem dX11_binds_31 : decode cX11_binds 31 = .ok (.putfield 261, 3) := by decide +kernel
theorem dX11_binds_34 : decode cX11_binds 34 = .ok (.return_, 1) := by decide +kernel
theorem dX11_binds_4 : decode cX11_binds 4 = .ok (.iload_n 1, 1) := by decide +kernel
theorem dX11_binds_5 : decode cX11_binds 5 = .ok (.iload_n 2, 1) := by decide +kernel
theorem dX11_binds_6 : decode cX11_binds 6 = .ok (.iastore, 1) := by decide +kernel
theorem dX11_binds_7 : decode cX11_binds 7 = .ok (.aload_n 0, 1) := by decide +kernel
theorem dX11_binds_8 : decode cX11_binds 8 = .ok (.getfield 198, 3) := by decide +kernel
theorem dX11_counts_0 : decode cX11_counts 0 = .ok (.aload_n 0, 1) := by decide +kernel
theorem dX11_counts_1 : decode cX11_counts 1 = .ok (.getfield 291, 3) := by decide +kernel
theorem dX11_counts_10 : decode cX11_counts 10 = .ok (.aload_n 0, 1) := by decide +kernel
theorem dX11_counts_11 : decode cX11_counts 11 = .ok (.getfield 291, 3) := by decide +kernel
theorem dX11_counts_14 : decode cX11_counts 14 = .ok (.iconst 1, 1) := by decide +kernel
theorem dX11_counts_15 : decode cX11_counts 15 = .ok (.iadd, 1) := by decide +kernel
theorem dX11_counts_16 : decode cX11_counts 16 = .ok (.putfield 291, 3) := by decide +kernel
theorem dX11_counts_19 : decode cX11_counts 19 = .ok (.aload_n 0, 1) := by decide +kernel
theorem dX11_counts_20 : decode cX11_counts 20 = .ok (.iload_n 1, 1) := by decide +kernel
theorem dX11_counts_21 : decode cX11_counts 21 = .ok (.iload_n 2, 1) := by decide +kernel
theorem dX11_counts_22 : decode cX11_counts 22 = .ok (.invokevirtual 273, 3) := by decide +kernel
theorem dX11_counts_25 : decode cX11_counts 25 = .ok (.aload_n 0, 1) := by decide +kernel
theorem dX11_counts_26 : decode cX11_counts 26 = .ok (.getfield 264, 3) := by decide +kernel
theorem dX11_counts_29 : decode cX11_counts 29 = .ok (.istore 4, 2) := by decide +kernel
theorem dX11_counts_31 : decode cX11_counts 31 = .ok (.aload_n 0, 1) := by decide +kernel
theorem dX11_counts_32 : decode cX11_counts 32 = .ok (.getfield 267, 3) := by decide +kernel
theorem dX11_counts_35 : decode cX11_counts 35 = .ok (.istore 5, 2) := by decide +kernel
theorem dX11_counts_37 : decode cX11_counts 37 = .ok (.iconst 0, 1) := by decide +kernel
theorem dX11_counts_38 : decode cX11_counts 38 = .ok (.istore 6, 2) := by decide +kernel
theorem dX11_counts_4 : decode cX11_counts 4 = .ok (.iload_n 3, 1) := by decide +kernel
theorem dX11_counts_40 : decode cX11_counts 40 = .ok (.iload 6, 2) := by decide +kernel
theorem dX11_counts_42 : decode cX11_counts 42 = .ok (.aload_n 0, 1) := by decide +kernel
theorem dX11_counts_43 : decode cX11_counts 43 = .ok (.iload 4, 2) := by decide +kernel
theorem dX11_counts_45 : decode cX11_counts 45 = .ok (.invokevirtual 27, 3) := by decide +kernel
theorem dX11_counts_48 : decode cX11_counts 48 = .ok (.if_icmp .ge 32, 3) := by decide +kernel
theorem dX11_counts_5 : decode cX11_counts 5 = .ok (.if_icmp .le 4, 3) := by decide +kernel
theorem dX11_counts_51 : decode cX11_counts 51 = .ok (.aload_n 0, 1) := by decide +kernel
theorem dX11_counts_52 : decode cX11_counts 52 = .ok (.getfield 291, 3) := by decide +kernel
theorem dX11_counts_55 : decode cX11_counts 55 = .ok (.iload_n 3, 1) := by decide +kernel
theorem dX11_counts_56 : decode cX11_counts 56 = .ok (.if_icmp .gt 24, 3) := by decide +kernel
theorem dX11_counts_59 : decode cX11_counts 59 = .ok (.aload_n 0, 1) := by decide +kernel
theorem dX11_counts_60 : decode cX11_counts 60 = .ok (.aload_n 0, 1) := by decide +kernel
theorem dX11_counts_61 : decode cX11_counts 61 = .ok (.iload 4, 2) := by decide +kernel
theorem dX11_counts_63 : decode cX11_counts 63 = .ok (.iload 6, 2) := by decide +kernel
theorem dX11_counts_65 : decode cX11_counts 65 = .ok (.invokevirtual 31, 3) := by decide +kernel
theorem dX11_counts_68 : decode cX11_counts 68 = .ok (.iload 5, 2) := by decide +kernel
theorem dX11_counts_70 : decode cX11_counts 70 = .ok (.iload_n 3, 1) := by decide +kernel
theorem dX11_counts_71 : decode cX11_counts 71 = .ok (.invokevirtual 294, 3) := by decide +kernel
theorem dX11_counts_74 : decode cX11_counts 74 = .ok (.iinc 6 1, 3) := by decide +kernel
theorem dX11_counts_77 : decode cX11_counts 77 = .ok (.goto (-37), 3) := by decide +kernel
theorem dX11_counts_8 : decode cX11_counts 8 = .ok (.return_, 1) := by decide +kernel
theorem dX11_counts_80 : decode cX11_counts 80 = .ok (.return_, 1) := by decide +kernel
theorem dX11_counts_9 : decode cX11_counts 9 = .ok (.aload_n 0, 1) := by decide +kernel
theorem dX11_goesTo_0 : decode cX11_goesTo 0 = .ok (.aload_n 0, 1) := by decide +kernel
theorem dX11_goesTo_1 : decode cX11_goesTo 1 = .ok (.iload_n 1, 1) := by decide +kernel
theorem dX11_goesTo_10 : decode cX11_goesTo 10 = .ok (.aload_n 0, 1) := by decide +kernel
theorem dX11_goesTo_11 : decode cX11_goesTo 11 = .ok (.getfield 17, 3) := by decide +kernel
theorem dX11_goesTo_14 : decode cX11_goesTo 14 = .ok (.aload_n 0, 1) := by decide +kernel
theorem dX11_goesTo_15 : decode cX11_goesTo 15 = .ok (.getfield 264, 3) := by decide +kernel
theorem dX11_goesTo_18 : decode cX11_goesTo 18 = .ok (.iaload, 1) := by decide +kernel
theorem dX11_goesTo_19 : decode cX11_goesTo 19 = .ok (.iconst (-1), 1) := by decide +kernel
theorem dX11_goesTo_2 : decode cX11_goesTo 2 = .ok (.putfield 264, 3) := by decide +kernel
theorem dX11_goesTo_20 : decode cX11_goesTo 20 = .ok (.if_icmp .eq 60, 3) := by decide +kernel
theorem dX11_goesTo_23 : decode cX11_goesTo 23 = .ok (.aload_n 0, 1) := by decide +kernel
theorem dX11_goesTo_24 : decode cX11_goesTo 24 = .ok (.getfield 195, 3) := by decide +kernel
theorem dX11_goesTo_27 : decode cX11_goesTo 27 = .ok (.aload_n 0, 1) := by decide +kernel
theorem dX11_goesTo_28 : decode cX11_goesTo 28 = .ok (.aload_n 0, 1) := by decide +kernel
theorem dX11_goesTo_29 : decode cX11_goesTo 29 = .ok (.getfield 264, 3) := by decide +kernel
theorem dX11_goesTo_32 : decode cX11_goesTo 32 = .ok (.aload_n 0, 1) := by decide +kernel
theorem dX11_goesTo_33 : decode cX11_goesTo 33 = .ok (.getfield 267, 3) := by decide +kernel
theorem dX11_goesTo_36 : decode cX11_goesTo 36 = .ok (.invokevirtual 270, 3) := by decide +kernel
theorem dX11_goesTo_39 : decode cX11_goesTo 39 = .ok (.iaload, 1) := by decide +kernel
theorem dX11_goesTo_40 : decode cX11_goesTo 40 = .ok (.iconst (-1), 1) := by decide +kernel
theorem dX11_goesTo_41 : decode cX11_goesTo 41 = .ok (.if_icmp .eq 39, 3) := by decide +kernel
theorem dX11_goesTo_44 : decode cX11_goesTo 44 = .ok (.aload_n 0, 1) := by decide +kernel
theorem dX11_goesTo_45 : decode cX11_goesTo 45 = .ok (.aload_n 0, 1) := by decide +kernel
theorem dX11_goesTo_46 : decode cX11_goesTo 46 = .ok (.getfield 264, 3) := by decide +kernel
theorem dX11_goesTo_49 : decode cX11_goesTo 49 = .ok (.aload_n 0, 1) := by decide +kernel
theorem dX11_goesTo_5 : decode cX11_goesTo 5 = .ok (.aload_n 0, 1) := by decide +kernel
theorem dX11_goesTo_50 : decode cX11_goesTo 50 = .ok (.getfield 267, 3) := by decide +kernel
theorem dX11_goesTo_53 : decode cX11_goesTo 53 = .ok (.invokevirtual 270, 3) := by decide +kernel
theorem dX11_goesTo_56 : decode cX11_goesTo 56 = .ok (.istore_n 3, 1) := by decide +kernel
theorem dX11_goesTo_57 : decode cX11_goesTo 57 = .ok (.aload_n 0, 1) := by decide +kernel
theorem dX11_goesTo_58 : decode cX11_goesTo 58 = .ok (.aload_n 0, 1) := by decide +kernel
theorem dX11_goesTo_59 : decode cX11_goesTo 59 = .ok (.getfield 195, 3) := by decide +kernel
theorem dX11_goesTo_6 : decode cX11_goesTo 6 = .ok (.iload_n 2, 1) := by decide +kernel
theorem dX11_goesTo_62 : decode cX11_goesTo 62 = .ok (.iload_n 3, 1) := by decide +kernel
theorem dX11_goesTo_63 : decode cX11_goesTo 63 = .ok (.iaload, 1) := by decide +kernel
theorem dX11_goesTo_64 : decode cX11_goesTo 64 = .ok (.putfield 264, 3) := by decide +kernel
theorem dX11_goesTo_67 : decode cX11_goesTo 67 = .ok (.aload_n 0, 1) := by decide +kernel
theorem dX11_goesTo_68 : decode cX11_goesTo 68 = .ok (.aload_n 0, 1) := by decide +kernel
theorem dX11_goesTo_69 : decode cX11_goesTo 69 = .ok (.getfield 198, 3) := by decide +kernel
theorem dX11_goesTo_7 : decode cX11_goesTo 7 = .ok (.putfield 267, 3) := by decide +kernel
theorem dX11_goesTo_72 : decode cX11_goesTo 72 = .ok (.iload_n 3, 1) := by decide +kernel
theorem dX11_goesTo_73 : decode cX11_goesTo 73 = .ok (.iaload, 1) := by decide +kernel
theorem dX11_goesTo_74 : decode cX11_goesTo 74 = .ok (.putfield 267, 3) := by decide +kernel
theorem dX11_goesTo_77 : decode cX11_goesTo 77 = .ok (.goto (-67), 3) := by decide +kernel
theorem dX11_goesTo_80 : decode cX11_goesTo 80 = .ok (.return_, 1) := by decide +kernel
theorem dX11_holds_0 : decode cX11_holds 0 = .ok (.aload_n 0, 1) := by decide +kernel
theorem dX11_holds_1 : decode cX11_holds 1 = .ok (.iload_n 1, 1) := by decide +kernel
theorem dX11_holds_10 : decode cX11_holds 10 = .ok (.istore 4, 2) := by decide +kernel
theorem dX11_holds_12 : decode cX11_holds 12 = .ok (.aload_n 0, 1) := by decide +kernel
theorem dX11_holds_13 : decode cX11_holds 13 = .ok (.getfield 267, 3) := by decide +kernel
theorem dX11_holds_16 : decode cX11_holds 16 = .ok (.istore 5, 2) := by decide +kernel
theorem dX11_holds_18 : decode cX11_holds 18 = .ok (.aload_n 0, 1) := by decide +kernel
theorem dX11_holds_19 : decode cX11_holds 19 = .ok (.getfield 17, 3) := by decide +kernel
theorem dX11_holds_2 : decode cX11_holds 2 = .ok (.iload_n 2, 1) := by decide +kernel
theorem dX11_holds_22 : decode cX11_holds 22 = .ok (.iload 4, 2) := by decide +kernel
theorem dX11_holds_24 : decode cX11_holds 24 = .ok (.iaload, 1) := by decide +kernel
theorem dX11_holds_25 : decode cX11_holds 25 = .ok (.iconst (-1), 1) := by decide +kernel
theorem dX11_holds_26 : decode cX11_holds 26 = .ok (.if_icmp .eq 21, 3) := by decide +kernel
theorem dX11_holds_29 : decode cX11_holds 29 = .ok (.aload_n 0, 1) := by decide +kernel
theorem dX11_holds_3 : decode cX11_holds 3 = .ok (.invokevirtual 273, 3) := by decide +kernel
theorem dX11_holds_30 : decode cX11_holds 30 = .ok (.iload 4, 2) := by decide +kernel
theorem dX11_holds_32 : decode cX11_holds 32 = .ok (.iload 5, 2) := by decide +kernel
theorem dX11_holds_34 : decode cX11_holds 34 = .ok (.invokevirtual 270, 3) := by decide +kernel
theorem dX11_holds_37 : decode cX11_holds 37 = .ok (.iload_n 3, 1) := by decide +kernel
theorem dX11_holds_38 : decode cX11_holds 38 = .ok (.if_icmp .ne 7, 3) := by decide +kernel
theorem dX11_holds_41 : decode cX11_holds 41 = .ok (.iconst 1, 1) := by decide +kernel
theorem dX11_holds_42 : decode cX11_holds 42 = .ok (.goto 4, 3) := by decide +kernel
theorem dX11_holds_45 : decode cX11_holds 45 = .ok (.iconst 0, 1) := by decide +kernel
theorem dX11_holds_46 : decode cX11_holds 46 = .ok (.ireturn, 1) := by decide +kernel
theorem dX11_holds_47 : decode cX11_holds 47 = .ok (.iconst 0, 1) := by decide +kernel
theorem dX11_holds_48 : decode cX11_holds 48 = .ok (.istore 6, 2) := by decide +kernel
theorem dX11_holds_50 : decode cX11_holds 50 = .ok (.iload 6, 2) := by decide +kernel
theorem dX11_holds_52 : decode cX11_holds 52 = .ok (.aload_n 0, 1) := by decide +kernel
theorem dX11_holds_53 : decode cX11_holds 53 = .ok (.iload 4, 2) := by decide +kernel
theorem dX11_holds_55 : decode cX11_holds 55 = .ok (.invokevirtual 27, 3) := by decide +kernel
theorem dX11_holds_58 : decode cX11_holds 58 = .ok (.if_icmp .ge 29, 3) := by decide +kernel
theorem dX11_holds_6 : decode cX11_holds 6 = .ok (.aload_n 0, 1) := by decide +kernel
theorem dX11_holds_61 : decode cX11_holds 61 = .ok (.aload_n 0, 1) := by decide +kernel
theorem dX11_holds_62 : decode cX11_holds 62 = .ok (.aload_n 0, 1) := by decide +kernel
theorem dX11_holds_63 : decode cX11_holds 63 = .ok (.iload 4, 2) := by decide +kernel
theorem dX11_holds_65 : decode cX11_holds 65 = .ok (.iload 6, 2) := by decide +kernel
theorem dX11_holds_67 : decode cX11_holds 67 = .ok (.invokevirtual 31, 3) := by decide +kernel
theorem dX11_holds_7 : decode cX11_holds 7 = .ok (.getfield 264, 3) := by decide +kernel
theorem dX11_holds_70 : decode cX11_holds 70 = .ok (.iload 5, 2) := by decide +kernel
theorem dX11_holds_72 : decode cX11_holds 72 = .ok (.iload_n 3, 1) := by decide +kernel
theorem dX11_holds_73 : decode cX11_holds 73 = .ok (.invokevirtual 276, 3) := by decide +kernel
theorem dX11_holds_76 : decode cX11_holds 76 = .ok (.ifCond .eq 5, 3) := by decide +kernel
theorem dX11_holds_79 : decode cX11_holds 79 = .ok (.iconst 1, 1) := by decide +kernel
theorem dX11_holds_80 : decode cX11_holds 80 = .ok (.ireturn, 1) := by decide +kernel
theorem dX11_holds_81 : decode cX11_holds 81 = .ok (.iinc 6 1, 3) := by decide +kernel
theorem dX11_holds_84 : decode cX11_holds 84 = .ok (.goto (-34), 3) := by decide +kernel
theorem dX11_holds_87 : decode cX11_holds 87 = .ok (.iconst 0, 1) := by decide +kernel
theorem dX11_holds_88 : decode cX11_holds 88 = .ok (.ireturn, 1) := by decide +kernel
theorem dX11_isShort_0 : decode cX11_isShort 0 = .ok (.aload_n 0, 1) := by decide +kernel
theorem dX11_isShort_1 : decode cX11_isShort 1 = .ok (.iconst 0, 1) := by decide +kernel
theorem dX11_isShort_12 : decode cX11_isShort 12 = .ok (.aload_n 0, 1) := by decide +kernel
theorem dX11_isShort_13 : decode cX11_isShort 13 = .ok (.getfield 291, 3) := by decide +kernel
theorem dX11_isShort_16 : decode cX11_isShort 16 = .ok (.iload_n 3, 1) := by decide +kernel
theorem dX11_isShort_17 : decode cX11_isShort 17 = .ok (.if_icmp .gt 7, 3) := by decide +kernel
theorem dX11_isShort_2 : decode cX11_isShort 2 = .ok (.putfield 291, 3) := by decide +kernel
theorem dX11_isShort_20 : decode cX11_isShort 20 = .ok (.iconst 1, 1) := by decide +kernel
theorem dX11_isShort_21 : decode cX11_isShort 21 = .ok (.goto 4, 3) := by decide +kernel
theorem dX11_isShort_24 : decode cX11_isShort 24 = .ok (.iconst 0, 1) := by decide +kernel
theorem dX11_isShort_25 : decode cX11_isShort 25 = .ok (.ireturn, 1) := by decide +kernel
theorem dX11_isShort_5 : decode cX11_isShort 5 = .ok (.aload_n 0, 1) := by decide +kernel
theorem dX11_isShort_6 : decode cX11_isShort 6 = .ok (.iload_n 1, 1) := by decide +kernel
theorem dX11_isShort_7 : decode cX11_isShort 7 = .ok (.iload_n 2, 1) := by decide +kernel
theorem dX11_isShort_8 : decode cX11_isShort 8 = .ok (.iload_n 3, 1) := by decide +kernel
theorem dX11_isShort_9 : decode cX11_isShort 9 = .ok (.invokevirtual 294, 3) := by decide +kernel
theorem dX11_unifies_0 : decode cX11_unifies 0 = .ok (.aload_n 0, 1) := by decide +kernel
theorem dX11_unifies_1 : decode cX11_unifies 1 = .ok (.iload_n 1, 1) := by decide +kernel
theorem dX11_unifies_10 : decode cX11_unifies 10 = .ok (.istore 5, 2) := by decide +kernel
theorem dX11_unifies_100 : decode cX11_unifies 100 = .ok (.iload 9, 2) := by decide +kernel
theorem dX11_unifies_102 : decode cX11_unifies 102 = .ok (.iload 7, 2) := by decide +kernel
theorem dX11_unifies_104 : decode cX11_unifies 104 = .ok (.iload 8, 2) := by decide +kernel
theorem dX11_unifies_106 : decode cX11_unifies 106 = .ok (.invokevirtual 280, 3) := by decide +kernel
theorem dX11_unifies_109 : decode cX11_unifies 109 = .ok (.iconst 1, 1) := by decide +kernel
theorem dX11_unifies_110 : decode cX11_unifies 110 = .ok (.ireturn, 1) := by decide +kernel
theorem dX11_unifies_111 : decode cX11_unifies 111 = .ok (.aload_n 0, 1) := by decide +kernel
theorem dX11_unifies_112 : decode cX11_unifies 112 = .ok (.getfield 17, 3) := by decide +kernel
theorem dX11_unifies_115 : decode cX11_unifies 115 = .ok (.iload 7, 2) := by decide +kernel
theorem dX11_unifies_117 : decode cX11_unifies 117 = .ok (.iaload, 1) := by decide +kernel
theorem dX11_unifies_118 : decode cX11_unifies 118 = .ok (.iconst (-1), 1) := by decide +kernel
theorem dX11_unifies_119 : decode cX11_unifies 119 = .ok (.if_icmp .eq 40, 3) := by decide +kernel
theorem dX11_unifies_12 : decode cX11_unifies 12 = .ok (.aload_n 0, 1) := by decide +kernel
theorem dX11_unifies_122 : decode cX11_unifies 122 = .ok (.aload_n 0, 1) := by decide +kernel
theorem dX11_unifies_123 : decode cX11_unifies 123 = .ok (.iload 7, 2) := by decide +kernel
theorem dX11_unifies_125 : decode cX11_unifies 125 = .ok (.iload 8, 2) := by decide +kernel
theorem dX11_unifies_127 : decode cX11_unifies 127 = .ok (.invokevirtual 270, 3) := by decide +kernel
theorem dX11_unifies_13 : decode cX11_unifies 13 = .ok (.getfield 267, 3) := by decide +kernel
theorem dX11_unifies_130 : decode cX11_unifies 130 = .ok (.istore 9, 2) := by decide +kernel
theorem dX11_unifies_132 : decode cX11_unifies 132 = .ok (.aload_n 0, 1) := by decide +kernel
theorem dX11_unifies_133 : decode cX11_unifies 133 = .ok (.iload 5, 2) := by decide +kernel
theorem dX11_unifies_135 : decode cX11_unifies 135 = .ok (.iload 6, 2) := by decide +kernel
theorem dX11_unifies_137 : decode cX11_unifies 137 = .ok (.iload 9, 2) := by decide +kernel
theorem dX11_unifies_139 : decode cX11_unifies 139 = .ok (.invokevirtual 276, 3) := by decide +kernel
theorem dX11_unifies_142 : decode cX11_unifies 142 = .ok (.ifCond .eq 5, 3) := by decide +kernel
theorem dX11_unifies_145 : decode cX11_unifies 145 = .ok (.iconst 0, 1) := by decide +kernel
theorem dX11_unifies_146 : decode cX11_unifies 146 = .ok (.ireturn, 1) := by decide +kernel
theorem dX11_unifies_147 : decode cX11_unifies 147 = .ok (.aload_n 0, 1) := by decide +kernel
theorem dX11_unifies_148 : decode cX11_unifies 148 = .ok (.iload 9, 2) := by decide +kernel
theorem dX11_unifies_150 : decode cX11_unifies 150 = .ok (.iload 5, 2) := by decide +kernel
theorem dX11_unifies_152 : decode cX11_unifies 152 = .ok (.iload 6, 2) := by decide +kernel
theorem dX11_unifies_154 : decode cX11_unifies 154 = .ok (.invokevirtual 280, 3) := by decide +kernel
theorem dX11_unifies_157 : decode cX11_unifies 157 = .ok (.iconst 1, 1) := by decide +kernel
theorem dX11_unifies_158 : decode cX11_unifies 158 = .ok (.ireturn, 1) := by decide +kernel
theorem dX11_unifies_159 : decode cX11_unifies 159 = .ok (.aload_n 0, 1) := by decide +kernel
theorem dX11_unifies_16 : decode cX11_unifies 16 = .ok (.istore 6, 2) := by decide +kernel
theorem dX11_unifies_160 : decode cX11_unifies 160 = .ok (.getfield 23, 3) := by decide +kernel
theorem dX11_unifies_163 : decode cX11_unifies 163 = .ok (.iload 5, 2) := by decide +kernel
theorem dX11_unifies_165 : decode cX11_unifies 165 = .ok (.laload, 1) := by decide +kernel
theorem dX11_unifies_166 : decode cX11_unifies 166 = .ok (.aload_n 0, 1) := by decide +kernel
theorem dX11_unifies_167 : decode cX11_unifies 167 = .ok (.getfield 23, 3) := by decide +kernel
theorem dX11_unifies_170 : decode cX11_unifies 170 = .ok (.iload 7, 2) := by decide +kernel
theorem dX11_unifies_172 : decode cX11_unifies 172 = .ok (.laload, 1) := by decide +kernel
theorem dX11_unifies_173 : decode cX11_unifies 173 = .ok (.lcmp, 1) := by decide +kernel
theorem dX11_unifies_174 : decode cX11_unifies 174 = .ok (.ifCond .ne 18, 3) := by decide +kernel
theorem dX11_unifies_177 : decode cX11_unifies 177 = .ok (.aload_n 0, 1) := by decide +kernel
theorem dX11_unifies_178 : decode cX11_unifies 178 = .ok (.iload 5, 2) := by decide +kernel
theorem dX11_unifies_18 : decode cX11_unifies 18 = .ok (.aload_n 0, 1) := by decide +kernel
theorem dX11_unifies_180 : decode cX11_unifies 180 = .ok (.invokevirtual 27, 3) := by decide +kernel
theorem dX11_unifies_183 : decode cX11_unifies 183 = .ok (.aload_n 0, 1) := by decide +kernel
theorem dX11_unifies_184 : decode cX11_unifies 184 = .ok (.iload 7, 2) := by decide +kernel
theorem dX11_unifies_186 : decode cX11_unifies 186 = .ok (.invokevirtual 27, 3) := by decide +kernel
theorem dX11_unifies_189 : decode cX11_unifies 189 = .ok (.if_icmp .eq 5, 3) := by decide +kernel
theorem dX11_unifies_19 : decode cX11_unifies 19 = .ok (.iload_n 3, 1) := by decide +kernel
theorem dX11_unifies_192 : decode cX11_unifies 192 = .ok (.iconst 0, 1) := by decide +kernel
theorem dX11_unifies_193 : decode cX11_unifies 193 = .ok (.ireturn, 1) := by decide +kernel
theorem dX11_unifies_194 : decode cX11_unifies 194 = .ok (.iconst 0, 1) := by decide +kernel
theorem dX11_unifies_195 : decode cX11_unifies 195 = .ok (.istore 9, 2) := by decide +kernel
theorem dX11_unifies_197 : decode cX11_unifies 197 = .ok (.iload 9, 2) := by decide +kernel
theorem dX11_unifies_199 : decode cX11_unifies 199 = .ok (.aload_n 0, 1) := by decide +kernel
theorem dX11_unifies_2 : decode cX11_unifies 2 = .ok (.iload_n 2, 1) := by decide +kernel
theorem dX11_unifies_20 : decode cX11_unifies 20 = .ok (.iload 4, 2) := by decide +kernel
theorem dX11_unifies_200 : decode cX11_unifies 200 = .ok (.iload 5, 2) := by decide +kernel
theorem dX11_unifies_202 : decode cX11_unifies 202 = .ok (.invokevirtual 27, 3) := by decide +kernel
theorem dX11_unifies_205 : decode cX11_unifies 205 = .ok (.if_icmp .ge 38, 3) := by decide +kernel
theorem dX11_unifies_208 : decode cX11_unifies 208 = .ok (.aload_n 0, 1) := by decide +kernel
theorem dX11_unifies_209 : decode cX11_unifies 209 = .ok (.aload_n 0, 1) := by decide +kernel
theorem dX11_unifies_210 : decode cX11_unifies 210 = .ok (.iload 5, 2) := by decide +kernel
theorem dX11_unifies_212 : decode cX11_unifies 212 = .ok (.iload 9, 2) := by decide +kernel
theorem dX11_unifies_214 : decode cX11_unifies 214 = .ok (.invokevirtual 31, 3) := by decide +kernel
theorem dX11_unifies_217 : decode cX11_unifies 217 = .ok (.iload 6, 2) := by decide +kernel
theorem dX11_unifies_219 : decode cX11_unifies 219 = .ok (.aload_n 0, 1) := by decide +kernel
theorem dX11_unifies_22 : decode cX11_unifies 22 = .ok (.invokevirtual 273, 3) := by decide +kernel
theorem dX11_unifies_220 : decode cX11_unifies 220 = .ok (.iload 7, 2) := by decide +kernel
theorem dX11_unifies_222 : decode cX11_unifies 222 = .ok (.iload 9, 2) := by decide +kernel
theorem dX11_unifies_224 : decode cX11_unifies 224 = .ok (.invokevirtual 31, 3) := by decide +kernel
theorem dX11_unifies_227 : decode cX11_unifies 227 = .ok (.iload 8, 2) := by decide +kernel
theorem dX11_unifies_229 : decode cX11_unifies 229 = .ok (.invokevirtual 284, 3) := by decide +kernel
theorem dX11_unifies_232 : decode cX11_unifies 232 = .ok (.ifCond .ne 5, 3) := by decide +kernel
theorem dX11_unifies_235 : decode cX11_unifies 235 = .ok (.iconst 0, 1) := by decide +kernel
theorem dX11_unifies_236 : decode cX11_unifies 236 = .ok (.ireturn, 1) := by decide +kernel
theorem dX11_unifies_237 : decode cX11_unifies 237 = .ok (.iinc 9 1, 3) := by decide +kernel
theorem dX11_unifies_240 : decode cX11_unifies 240 = .ok (.goto (-43), 3) := by decide +kernel
theorem dX11_unifies_243 : decode cX11_unifies 243 = .ok (.iconst 1, 1) := by decide +kernel
theorem dX11_unifies_244 : decode cX11_unifies 244 = .ok (.ireturn, 1) := by decide +kernel
theorem dX11_unifies_25 : decode cX11_unifies 25 = .ok (.aload_n 0, 1) := by decide +kernel
theorem dX11_unifies_26 : decode cX11_unifies 26 = .ok (.getfield 264, 3) := by decide +kernel
theorem dX11_unifies_29 : decode cX11_unifies 29 = .ok (.istore 7, 2) := by decide +kernel
theorem dX11_unifies_3 : decode cX11_unifies 3 = .ok (.invokevirtual 273, 3) := by decide +kernel
theorem dX11_unifies_31 : decode cX11_unifies 31 = .ok (.aload_n 0, 1) := by decide +kernel
theorem dX11_unifies_32 : decode cX11_unifies 32 = .ok (.getfield 267, 3) := by decide +kernel
theorem dX11_unifies_35 : decode cX11_unifies 35 = .ok (.istore 8, 2) := by decide +kernel
theorem dX11_unifies_37 : decode cX11_unifies 37 = .ok (.aload_n 0, 1) := by decide +kernel
theorem dX11_unifies_38 : decode cX11_unifies 38 = .ok (.getfield 17, 3) := by decide +kernel
theorem dX11_unifies_41 : decode cX11_unifies 41 = .ok (.iload 5, 2) := by decide +kernel
theorem dX11_unifies_43 : decode cX11_unifies 43 = .ok (.iaload, 1) := by decide +kernel
theorem dX11_unifies_44 : decode cX11_unifies 44 = .ok (.iconst (-1), 1) := by decide +kernel
theorem dX11_unifies_45 : decode cX11_unifies 45 = .ok (.if_icmp .eq 66, 3) := by decide +kernel
theorem dX11_unifies_48 : decode cX11_unifies 48 = .ok (.aload_n 0, 1) := by decide +kernel
theorem dX11_unifies_49 : decode cX11_unifies 49 = .ok (.iload 5, 2) := by decide +kernel
theorem dX11_unifies_51 : decode cX11_unifies 51 = .ok (.iload 6, 2) := by decide +kernel
theorem dX11_unifies_53 : decode cX11_unifies 53 = .ok (.invokevirtual 270, 3) := by decide +kernel
theorem dX11_unifies_56 : decode cX11_unifies 56 = .ok (.istore 9, 2) := by decide +kernel
theorem dX11_unifies_58 : decode cX11_unifies 58 = .ok (.aload_n 0, 1) := by decide +kernel
theorem dX11_unifies_59 : decode cX11_unifies 59 = .ok (.getfield 17, 3) := by decide +kernel
theorem dX11_unifies_6 : decode cX11_unifies 6 = .ok (.aload_n 0, 1) := by decide +kernel
theorem dX11_unifies_62 : decode cX11_unifies 62 = .ok (.iload 7, 2) := by decide +kernel
theorem dX11_unifies_64 : decode cX11_unifies 64 = .ok (.iaload, 1) := by decide +kernel
theorem dX11_unifies_65 : decode cX11_unifies 65 = .ok (.iconst (-1), 1) := by decide +kernel
theorem dX11_unifies_66 : decode cX11_unifies 66 = .ok (.if_icmp .eq 18, 3) := by decide +kernel
theorem dX11_unifies_69 : decode cX11_unifies 69 = .ok (.aload_n 0, 1) := by decide +kernel
theorem dX11_unifies_7 : decode cX11_unifies 7 = .ok (.getfield 264, 3) := by decide +kernel
theorem dX11_unifies_70 : decode cX11_unifies 70 = .ok (.iload 7, 2) := by decide +kernel
theorem dX11_unifies_72 : decode cX11_unifies 72 = .ok (.iload 8, 2) := by decide +kernel
theorem dX11_unifies_74 : decode cX11_unifies 74 = .ok (.invokevirtual 270, 3) := by decide +kernel
theorem dX11_unifies_77 : decode cX11_unifies 77 = .ok (.iload 9, 2) := by decide +kernel
theorem dX11_unifies_79 : decode cX11_unifies 79 = .ok (.if_icmp .ne 5, 3) := by decide +kernel
theorem dX11_unifies_82 : decode cX11_unifies 82 = .ok (.iconst 1, 1) := by decide +kernel
theorem dX11_unifies_83 : decode cX11_unifies 83 = .ok (.ireturn, 1) := by decide +kernel
theorem dX11_unifies_84 : decode cX11_unifies 84 = .ok (.aload_n 0, 1) := by decide +kernel
theorem dX11_unifies_85 : decode cX11_unifies 85 = .ok (.iload 7, 2) := by decide +kernel
theorem dX11_unifies_87 : decode cX11_unifies 87 = .ok (.iload 8, 2) := by decide +kernel
theorem dX11_unifies_89 : decode cX11_unifies 89 = .ok (.iload 9, 2) := by decide +kernel
theorem dX11_unifies_91 : decode cX11_unifies 91 = .ok (.invokevirtual 276, 3) := by decide +kernel
theorem dX11_unifies_94 : decode cX11_unifies 94 = .ok (.ifCond .eq 5, 3) := by decide +kernel
theorem dX11_unifies_97 : decode cX11_unifies 97 = .ok (.iconst 0, 1) := by decide +kernel
theorem dX11_unifies_98 : decode cX11_unifies 98 = .ok (.ireturn, 1) := by decide +kernel
theorem dX11_unifies_99 : decode cX11_unifies 99 = .ok (.aload_n 0, 1) := by decide +kernel
abbrev mo50 (v : Nat → Value) (a1 a3 a4 a5 a27 a28 a31 a32 : Value) : List Value := ((v 0) :: a1 :: (v 2) :: a3 :: a4 :: a5 :: (v 6) :: (v 7) :: (v 8) :: (v 9) :: (v 10) :: (v 11) :: (v 12) :: (v 13) :: (v 14) :: (v 15) :: (v 16) :: (v 17) :: (v 18) :: (v 19) :: (v 20) :: (v 21) :: (v 22) :: (v 23) :: (v 24) :: (v 25) :: (v 26) :: a27 :: a28 :: (v 29) :: (v 30) :: a31 :: a32 :: (v 33) :: (v 34) :: (v 35) :: (v 36) :: (v 37) :: (v 38) :: (v 39) :: (v 40) :: (v 41) :: (v 42) :: [(v 43), (v 44), (v 45), (v 46), (v 47), (v 48), (v 49), (v 50), (v 51), (v 52), (v 53), (v 54), (v 55), (v 56), (v 57), (v 58), (v 59), (v 60), (v 61), (v 62), (v 63), (v 64), (v 65), (v 66), (v 67), (v 68), (v 69), (v 70)])
abbrev mo51 (v : Nat → Value) (a27 a28 a29 a30 : Value) : List Value := ((v 0) :: (v 1) :: (v 2) :: (v 3) :: (v 4) :: (v 5) :: (v 6) :: (v 7) :: (v 8) :: (v 9) :: (v 10) :: (v 11) :: (v 12) :: (v 13) :: (v 14) :: (v 15) :: (v 16) :: (v 17) :: (v 18) :: (v 19) :: (v 20) :: (v 21) :: (v 22) :: (v 23) :: (v 24) :: (v 25) :: (v 26) :: a27 :: a28 :: a29 :: a30 :: (v 31) :: (v 32) :: (v 33) :: (v 34) :: (v 35) :: (v 36) :: (v 37) :: (v 38) :: (v 39) :: (v 40) :: (v 41) :: (v 42) :: [(v 43), (v 44), (v 45), (v 46), (v 47), (v 48), (v 49), (v 50), (v 51), (v 52), (v 53), (v 54), (v 55), (v 56), (v 57), (v 58), (v 59), (v 60), (v 61), (v 62), (v 63), (v 64), (v 65), (v 66), (v 67), (v 68), (v 69), (v 70)])
abbrev mo52 (v : Nat → Value) (a1 a2 a3 a4 a5 a27 a28 a29 a30 a31 a32 : Value) : List Value := ((v 0) :: a1 :: a2 :: a3 :: a4 :: a5 :: (v 6) :: (v 7) :: (v 8) :: (v 9) :: (v 10) :: (v 11) :: (v 12) :: (v 13) :: (v 14) :: (v 15) :: (v 16) :: (v 17) :: (v 18) :: (v 19) :: (v 20) :: (v 21) :: (v 22) :: (v 23) :: (v 24) :: (v 25) :: (v 26) :: a27 :: a28 :: a29 :: a30 :: a31 :: a32 :: (v 33) :: (v 34) :: (v 35) :: (v 36) :: (v 37) :: (v 38) :: (v 39) :: (v 40) :: (v 41) :: (v 42) :: [(v 43), (v 44), (v 45), (v 46), (v 47), (v 48), (v 49), (v 50), (v 51), (v 52), (v 53), (v 54), (v 55), (v 56), (v 57), (v 58), (v 59), (v 60), (v 61), (v 62), (v 63), (v 64), (v 65), (v 66), (v 67), (v 68), (v 69), (v 70)])
abbrev mo53 (v : Nat → Value) (a1 a2 a3 a4 a5 a27 a28 a31 a32 : Value) : List Value := ((v 0) :: a1 :: a2 :: a3 :: a4 :: a5 :: (v 6) :: (v 7) :: (v 8) :: (v 9) :: (v 10) :: (v 11) :: (v 12) :: (v 13) :: (v 14) :: (v 15) :: (v 16) :: (v 17) :: (v 18) :: (v 19) :: (v 20) :: (v 21) :: (v 22) :: (v 23) :: (v 24) :: (v 25) :: (v 26) :: a27 :: a28 :: (v 29) :: (v 30) :: a31 :: a32 :: (v 33) :: (v 34) :: (v 35) :: (v 36) :: (v 37) :: (v 38) :: (v 39) :: (v 40) :: (v 41) :: (v 42) :: [(v 43), (v 44), (v 45), (v 46), (v 47), (v 48), (v 49), (v 50), (v 51), (v 52), (v 53), (v 54), (v 55), (v 56), (v 57), (v 58), (v 59), (v 60), (v 61), (v 62), (v 63), (v 64), (v 65), (v 66), (v 67), (v 68), (v 69), (v 70)])
abbrev mo54 (v : Nat → Value) (a1 a3 a4 a5 a27 a28 a31 a32 a33 : Value) : List Value := ((v 0) :: a1 :: (v 2) :: a3 :: a4 :: a5 :: (v 6) :: (v 7) :: (v 8) :: (v 9) :: (v 10) :: (v 11) :: (v 12) :: (v 13) :: (v 14) :: (v 15) :: (v 16) :: (v 17) :: (v 18) :: (v 19) :: (v 20) :: (v 21) :: (v 22) :: (v 23) :: (v 24) :: (v 25) :: (v 26) :: a27 :: a28 :: (v 29) :: (v 30) :: a31 :: a32 :: a33 :: (v 34) :: (v 35) :: (v 36) :: (v 37) :: (v 38) :: (v 39) :: (v 40) :: (v 41) :: (v 42) :: [(v 43), (v 44), (v 45), (v 46), (v 47), (v 48), (v 49), (v 50), (v 51), (v 52), (v 53), (v 54), (v 55), (v 56), (v 57), (v 58), (v 59), (v 60), (v 61), (v 62), (v 63), (v 64), (v 65), (v 66), (v 67), (v 68), (v 69), (v 70)])
set_option maxHeartbeats 8000000 in
set_option maxRecDepth 100000 in
theorem c_X11_goesTo (l : Launch) (dC : Nat → ClassId) (dI : Nat → Nat → Nat) (sz : Nat) (h_mm : Nat) (h_nv : Nat) (h_na : Nat) (h_nb : Nat) (h_nc : Nat) (h_bto : Nat) (h_bin : Nat) (v_mm : Nat → Value) (x_mm_goneTo : Int32) (x_mm_goneIn : Int32) (cy_nv : ClassId) (f_nv : Nat → Int32) (cy_na : ClassId) (f_na : Nat → Int32) (cy_nb : ClassId) (f_nb : Nat → Int32) (cy_nc : ClassId) (f_nc : Nat → Int32) (cy_bto : ClassId) (f_bto : Nat → Int32) (cy_bin : ClassId) (f_bin : Nat → Int32) (p1 : Int32) (p2 : Int32) (i0 : Int) (i1 : Int) (N : Int) (hz : Nat → Nat) (P : List Nat) (fu : Nat) (hx_mm_goneTo : 0 ≤ (x_mm_goneTo).toInt ∧ (x_mm_goneTo).toInt ≤ 7999) (hx_mm_goneIn : 0 ≤ (x_mm_goneIn).toInt ∧ (x_mm_goneIn).toInt ≤ 31) (hf_nv : Rg (-1) 7 f_nv) (hf_na : Rg (-1) 7999 f_na) (hf_nb : Rg (-1) 7999 f_nb) (hf_nc : Rg (-1) 7999 f_nc) (hf_bto : Rg (-1) 7999 f_bto) (hf_bin : Rg 0 31 f_bin) (q0 : 0 ≤ i0 ∧ i0 ≤ i1 ∧ i1 ≤ 31) (q1 : N ≤ 8000) (q2 : 0 ≤ (p1).toInt ∧ (p1).toInt < N) (q3 : i0 ≤ (p2).toInt ∧ (p2).toInt ≤ i1) (q4 : hz (p1).toInt.toNat + 6 * (256 - (P).length) + 1 ≤ fu) (hn_bi : BI i0 i1 N hz f_nv f_na f_nb f_nc f_bto f_bin) (hn_pa : PA i0 P f_nv f_na f_nb f_nc f_bto f_bin (p1).toInt.toNat (p2).toInt) : Met l yX11_goesTo (Ws yX11_goesTo cX11_goesTo 4 none) (({ frames := 1, cells := 0, slots := 0, locals := 22 } : Room)) (PRE (dC, dI) cls [(cy_nv, .int), (cy_na, .int), (cy_nb, .int), (cy_nc, .int), (cy_bto, .int), (cy_bin, .int)] [(h_mm, .inr (8, (mo50 v_mm (.ref h_nv) (.ref h_na) (.ref h_nb) (.ref h_nc) (.ref h_bto) (.ref h_bin) (.int x_mm_goneTo) (.int x_mm_goneIn)))), (h_nv, .inl (cy_nv, 8000, .inl f_nv)), (h_na, .inl (cy_na, 8000, .inl f_na)), (h_nb, .inl (cy_nb, 8000, .inl f_nb)), (h_nc, .inl (cy_nc, 8000, .inl f_nc)), (h_bto, .inl (cy_bto, 256, .inl f_bto)), (h_bin, .inl (cy_bin, 256, .inl f_bin))] sz [.ref h_mm, .int p1, .int p2]) (va_Qv (fun (u : (Int32) × (Int32) × (List Nat)) => (0 ≤ (u.1).toInt ∧ (u.1).toInt ≤ 7999) ∧ (0 ≤ (u.2.1).toInt ∧ (u.2.1).toInt ≤ 31) ∧ (0 ≤ (u.1).toInt ∧ (u.1).toInt < N) ∧ (i0 ≤ (u.2.1).toInt ∧ (u.2.1).toInt ≤ i1) ∧ (hz (u.1).toInt.toNat + 6 * (256 - (u.2.2).length) + 1 ≤ fu) ∧ (PA i0 u.2.2 f_nv f_na f_nb f_nc f_bto f_bin (u.1).toInt.toNat (u.2.1).toInt) ∧ ((f_nv (u.1).toInt.toNat).toInt = -1 ∨ (f_bto (8 * (u.2.1).toInt + (f_nv (u.1).toInt.toNat).toInt).toNat).toInt = -1) ∧ (∀ tt : Nat, (f_bto tt).toInt = -1 → NR f_nv f_na f_nb f_nc f_bto f_bin (u.1).toInt.toNat (u.2.1).toInt tt → NR f_nv f_na f_nb f_nc f_bto f_bin (p1).toInt.toNat (p2).toInt tt)) (fun (u : (Int32) × (Int32) × (List Nat)) (t : State) => va_P (dC, dI) cls [(h_mm, .inr (8, (mo50 v_mm (.ref h_nv) (.ref h_na) (.ref h_nb) (.ref h_nc) (.ref h_bto) (.ref h_bin) (.int u.1) (.int u.2.1)))), (h_nv, .inl (cy_nv, 8000, .inl f_nv)), (h_na, .inl (cy_na, 8000, .inl f_na)), (h_nb, .inl (cy_nb, 8000, .inl f_nb)), (h_nc, .inl (cy_nc, 8000, .inl f_nc)), (h_bto, .inl (cy_bto, 256, .inl f_bto)), (h_bin, .inl (cy_bin, 256, .inl f_bin))] t.heap ∧ va_D (va_A [(h_mm, .inr (8, (mo50 v_mm (.ref h_nv) (.ref h_na) (.ref h_nb) (.ref h_nc) (.ref h_bto) (.ref h_bin) (.int x_mm_goneTo) (.int x_mm_goneIn)))), (h_nv, .inl (cy_nv, 8000, .inl f_nv)), (h_na, .inl (cy_na, 8000, .inl f_na)), (h_nb, .inl (cy_nb, 8000, .inl f_nb)), (h_nc, .inl (cy_nc, 8000, .inl f_nc)), (h_bto, .inl (cy_bto, 256, .inl f_bto)), (h_bin, .inl (cy_bin, 256, .inl f_bin))] sz) [(h_mm, .inr (8, (mo50 v_mm (.ref h_nv) (.ref h_na) (.ref h_nb) (.ref h_nc) (.ref h_bto) (.ref h_bin) (.int u.1) (.int u.2.1)))), (h_nv, .inl (cy_nv, 8000, .inl f_nv)), (h_na, .inl (cy_na, 8000, .inl f_na)), (h_nb, .inl (cy_nb, 8000, .inl f_nb)), (h_nc, .inl (cy_nc, 8000, .inl f_nc)), (h_bto, .inl (cy_bto, 256, .inl f_bto)), (h_bin, .inl (cy_bin, 256, .inl f_bin))]) (va_A [(h_mm, .inr (8, (mo50 v_mm (.ref h_nv) (.ref h_na) (.ref h_nb) (.ref h_nc) (.ref h_bto) (.ref h_bin) (.int x_mm_goneTo) (.int x_mm_goneIn)))), (h_nv, .inl (cy_nv, 8000, .inl f_nv)), (h_na, .inl (cy_na, 8000, .inl f_na)), (h_nb, .inl (cy_nb, 8000, .inl f_nb)), (h_nc, .inl (cy_nc, 8000, .inl f_nc)), (h_bto, .inl (cy_bto, 256, .inl f_bto)), (h_bin, .inl (cy_bin, 256, .inl f_bin))] sz)) 0 0 (va_A [(h_mm, .inr (8, (mo50 v_mm (.ref h_nv) (.ref h_na) (.ref h_nb) (.ref h_nc) (.ref h_bto) (.ref h_bin) (.int x_mm_goneTo) (.int x_mm_goneIn)))), (h_nv, .inl (cy_nv, 8000, .inl f_nv)), (h_na, .inl (cy_na, 8000, .inl f_na)), (h_nb, .inl (cy_nb, 8000, .inl f_nb)), (h_nc, .inl (cy_nc, 8000, .inl f_nc)), (h_bto, .inl (cy_bto, 256, .inl f_bto)), (h_bin, .inl (cy_bin, 256, .inl f_bin))] sz) := by
  refine Met.ofW (cc := cX11_goesTo) (maxL := 4) (ret := none) (by decide) rfl ?_
  intro p e s m args below meth c s₁ B hml hv
  obtain ⟨rfl, hsz, hP, hK, hD0, hN⟩ := hv
  have hx := B.exec
  have hb := B.bytes
  have hr := B.returns
  have hts := atoms_spec (ws := Ws yX11_goesTo cX11_goesTo 4 none) B.pre
  have hT : ∀ w ∈ WALL, w ∈ Ws yX11_goesTo cX11_goesTo 4 none := fun w h => List.mem_cons_of_mem _ h
  have hw := fun w (h : w ∈ WALL) => hts w (hT w h)
  have hown : s.vm.findClass RX11 = some m.cls := findClass_of_methodNamed B.named
  have hlocks := B.notSynchronized
  subst hsz
  have hD := hD0.self (sz := s.heap.size)
  generalize hAe : va_A [(h_mm, .inr (8, (mo50 v_mm (.ref h_nv) (.ref h_na) (.ref h_nb) (.ref h_nc) (.ref h_bto) (.ref h_bin) (.int x_mm_goneTo) (.int x_mm_goneIn)))), (h_nv, .inl (cy_nv, 8000, .inl f_nv)), (h_na, .inl (cy_na, 8000, .inl f_na)), (h_nb, .inl (cy_nb, 8000, .inl f_nb)), (h_nc, .inl (cy_nc, 8000, .inl f_nc)), (h_bto, .inl (cy_bto, 256, .inl f_bto)), (h_bin, .inl (cy_bin, 256, .inl f_bin))] s.heap.size = A at hD ⊢
  have hA : ∀ q : Nat, s.heap.size ≤ q → A q := fun q h => by rw [← hAe]; exact Or.inr h
  have hS : va_S A s.heap s.heap [] := va_S.rf
  have hl := lv_entry ([.ref h_mm, .int p1, .int p2]) (n := 4) (Nat.le_of_ble_eq_true rfl)
  rw [lg_entry_eq]
  generalize (lg_sl ([.ref h_mm, .int p1, .int p2]) ++ List.replicate (4 - (lg_sl ([.ref h_mm, .int p1, .int p2])).length) Slot.unset).toArray = ls at hl ⊢
  have hl : lv_has ls 4 [(0, .ref h_mm), (1, .int p1), (2, .int p2)] := hl
  refine lv_aload_n hx hb dX11_goesTo_0 rfl (lv_at hl 0 rfl) ?_
  refine lv_iload_n hx hb dX11_goesTo_1 rfl (lv_at hl 1 rfl) ?_
  refine va_put (D := (dC, dI)) (ci := 8) (v := .int p1) (ty := tyX11 31) (C := RX11) (T := TX11) (N := 71) hx hb hw iwX11 tyX11 tyX11_ok nmX11 hown hK hP hD hS 0 rfl rfl 31 (by decide) (hw _ w_f_X11_264) (fun _ h9 => h9) rfl (tyX11_ok 31 (by decide)) rfl rfl (Nat.le_of_ble_eq_true rfl) dX11_goesTo_2 (fun H locs hP hD hS => ?_)
  have hP : va_P (dC, dI) cls [(h_mm, .inr (8, (mo50 v_mm (.ref h_nv) (.ref h_na) (.ref h_nb) (.ref h_nc) (.ref h_bto) (.ref h_bin) (.int p1) (.int x_mm_goneIn)))), (h_nv, .inl (cy_nv, 8000, .inl f_nv)), (h_na, .inl (cy_na, 8000, .inl f_na)), (h_nb, .inl (cy_nb, 8000, .inl f_nb)), (h_nc, .inl (cy_nc, 8000, .inl f_nc)), (h_bto, .inl (cy_bto, 256, .inl f_bto)), (h_bin, .inl (cy_bin, 256, .inl f_bin))] H := hP
  have hD : va_D A [(h_mm, .inr (8, (mo50 v_mm (.ref h_nv) (.ref h_na) (.ref h_nb) (.ref h_nc) (.ref h_bto) (.ref h_bin) (.int p1) (.int x_mm_goneIn)))), (h_nv, .inl (cy_nv, 8000, .inl f_nv)), (h_na, .inl (cy_na, 8000, .inl f_na)), (h_nb, .inl (cy_nb, 8000, .inl f_nb)), (h_nc, .inl (cy_nc, 8000, .inl f_nc)), (h_bto, .inl (cy_bto, 256, .inl f_bto)), (h_bin, .inl (cy_bin, 256, .inl f_bin))] := hD
  refine lv_aload_n hx hb dX11_goesTo_5 rfl (lv_at hl 0 rfl) ?_
  refine lv_iload_n hx hb dX11_goesTo_6 rfl (lv_at hl 2 rfl) ?_
  refine va_put (D := (dC, dI)) (ci := 8) (v := .int p2) (ty := tyX11 32) (C := RX11) (T := TX11) (N := 71) hx hb hw iwX11 tyX11 tyX11_ok nmX11 hown hK hP hD hS 0 rfl rfl 32 (by decide) (hw _ w_f_X11_267) (fun _ h9 => h9) rfl (tyX11_ok 32 (by decide)) rfl rfl (Nat.le_of_ble_eq_true rfl) dX11_goesTo_7 (fun H locs hP hD hS => ?_)
  have hP : va_P (dC, dI) cls [(h_mm, .inr (8, (mo50 v_mm (.ref h_nv) (.ref h_na) (.ref h_nb) (.ref h_nc) (.ref h_bto) (.ref h_bin) (.int p1) (.int p2)))), (h_nv, .inl (cy_nv, 8000, .inl f_nv)), (h_na, .inl (cy_na, 8000, .inl f_na)), (h_nb, .inl (cy_nb, 8000, .inl f_nb)), (h_nc, .inl (cy_nc, 8000, .inl f_nc)), (h_bto, .inl (cy_bto, 256, .inl f_bto)), (h_bin, .inl (cy_bin, 256, .inl f_bin))] H := hP
  have hD : va_D A [(h_mm, .inr (8, (mo50 v_mm (.ref h_nv) (.ref h_na) (.ref h_nb) (.ref h_nc) (.ref h_bto) (.ref h_bin) (.int p1) (.int p2)))), (h_nv, .inl (cy_nv, 8000, .inl f_nv)), (h_na, .inl (cy_na, 8000, .inl f_na)), (h_nb, .inl (cy_nb, 8000, .inl f_nb)), (h_nc, .inl (cy_nc, 8000, .inl f_nc)), (h_bto, .inl (cy_bto, 256, .inl f_bto)), (h_bin, .inl (cy_bin, 256, .inl f_bin))] := hD
  have lp4 : ∀ (n : Nat) (x1 : Int32) (x2 : Int32) (gh3 : List Nat) (H : Heap) (locs : List Loc) (ls : Array Slot), (0 ≤ (x1).toInt ∧ (x1).toInt ≤ 7999) → (0 ≤ (x2).toInt ∧ (x2).toInt ≤ 31) → (0 ≤ (x1).toInt ∧ (x1).toInt < N) → (i0 ≤ (x2).toInt ∧ (x2).toInt ≤ i1) → (hz ((x1).toInt).toNat + 6 * (256 - (gh3).length) + 1 ≤ fu) → (PA i0 gh3 f_nv f_na f_nb f_nc f_bto f_bin ((x1).toInt).toNat (x2).toInt) → (∀ tt : Nat, (f_bto tt).toInt = -1 → NR f_nv f_na f_nb f_nc f_bto f_bin ((x1).toInt).toNat (x2).toInt tt → NR f_nv f_na f_nb f_nc f_bto f_bin (p1).toInt.toNat (p2).toInt tt) → (256 - ((gh3).length : Int)).toNat + 1 ≤ n → va_P (dC, dI) cls [(h_mm, .inr (8, (mo50 v_mm (.ref h_nv) (.ref h_na) (.ref h_nb) (.ref h_nc) (.ref h_bto) (.ref h_bin) (.int x1) (.int x2)))), (h_nv, .inl (cy_nv, 8000, .inl f_nv)), (h_na, .inl (cy_na, 8000, .inl f_na)), (h_nb, .inl (cy_nb, 8000, .inl f_nb)), (h_nc, .inl (cy_nc, 8000, .inl f_nc)), (h_bto, .inl (cy_bto, 256, .inl f_bto)), (h_bin, .inl (cy_bin, 256, .inl f_bin))] H → va_D A [(h_mm, .inr (8, (mo50 v_mm (.ref h_nv) (.ref h_na) (.ref h_nb) (.ref h_nc) (.ref h_bto) (.ref h_bin) (.int x1) (.int x2)))), (h_nv, .inl (cy_nv, 8000, .inl f_nv)), (h_na, .inl (cy_na, 8000, .inl f_na)), (h_nb, .inl (cy_nb, 8000, .inl f_nb)), (h_nc, .inl (cy_nc, 8000, .inl f_nc)), (h_bto, .inl (cy_bto, 256, .inl f_bto)), (h_bin, .inl (cy_bin, 256, .inl f_bin))] → va_S A s.heap H locs → lv_has ls 4 [(0, .ref h_mm), (1, .int p1), (2, .int p2)] → W p l e ({ frames := 1, cells := 0, slots := 0, locals := 22 } : Room) s m ([.ref h_mm, .int p1, .int p2] : List Value).toArray below meth c H locs 0 0 (MQ below (va_Qv (fun (u : (Int32) × (Int32) × (List Nat)) => (0 ≤ (u.1).toInt ∧ (u.1).toInt ≤ 7999) ∧ (0 ≤ (u.2.1).toInt ∧ (u.2.1).toInt ≤ 31) ∧ (0 ≤ (u.1).toInt ∧ (u.1).toInt < N) ∧ (i0 ≤ (u.2.1).toInt ∧ (u.2.1).toInt ≤ i1) ∧ (hz (u.1).toInt.toNat + 6 * (256 - (u.2.2).length) + 1 ≤ fu) ∧ (PA i0 u.2.2 f_nv f_na f_nb f_nc f_bto f_bin (u.1).toInt.toNat (u.2.1).toInt) ∧ ((f_nv (u.1).toInt.toNat).toInt = -1 ∨ (f_bto (8 * (u.2.1).toInt + (f_nv (u.1).toInt.toNat).toInt).toNat).toInt = -1) ∧ (∀ tt : Nat, (f_bto tt).toInt = -1 → NR f_nv f_na f_nb f_nc f_bto f_bin (u.1).toInt.toNat (u.2.1).toInt tt → NR f_nv f_na f_nb f_nc f_bto f_bin (p1).toInt.toNat (p2).toInt tt)) (fun (u : (Int32) × (Int32) × (List Nat)) (t : State) => va_P (dC, dI) cls [(h_mm, .inr (8, (mo50 v_mm (.ref h_nv) (.ref h_na) (.ref h_nb) (.ref h_nc) (.ref h_bto) (.ref h_bin) (.int u.1) (.int u.2.1)))), (h_nv, .inl (cy_nv, 8000, .inl f_nv)), (h_na, .inl (cy_na, 8000, .inl f_na)), (h_nb, .inl (cy_nb, 8000, .inl f_nb)), (h_nc, .inl (cy_nc, 8000, .inl f_nc)), (h_bto, .inl (cy_bto, 256, .inl f_bto)), (h_bin, .inl (cy_bin, 256, .inl f_bin))] t.heap ∧ va_D A [(h_mm, .inr (8, (mo50 v_mm (.ref h_nv) (.ref h_na) (.ref h_nb) (.ref h_nc) (.ref h_bto) (.ref h_bin) (.int u.1) (.int u.2.1)))), (h_nv, .inl (cy_nv, 8000, .inl f_nv)), (h_na, .inl (cy_na, 8000, .inl f_na)), (h_nb, .inl (cy_nb, 8000, .inl f_nb)), (h_nc, .inl (cy_nc, 8000, .inl f_nc)), (h_bto, .inl (cy_bto, 256, .inl f_bto)), (h_bin, .inl (cy_bin, 256, .inl f_bin))]) A) ([.ref h_mm, .int p1, .int p2] : List Value).toArray s 0 0 A) (F0 m 10 ls []) := by
    intro n
    induction n with
    | zero => intro x1 x2 gh3 H locs ls klp4_0 klp4_1 klp4_2 klp4_3 klp4_4 klp4_5 klp4_6 hm hP hD hS hl; exact False.elim (by omega)
    | succ n ih => 
      intro x1 x2 gh3 H locs ls klp4_0 klp4_1 klp4_2 klp4_3 klp4_4 klp4_5 klp4_6 hm hP hD hS hl
      have ih5 := ih
      clear ih
      refine lv_aload_n hx hb dX11_goesTo_10 rfl (lv_at hl 0 rfl) ?_
      refine va_get (D := (dC, dI)) (ci := 8) (v := .ref h_nv) (C := RX11) (T := TX11) (N := 71) hx hb hw iwX11 hown hK hP 0 rfl rfl 1 (by decide) (hw _ w_f_X11_17) (fun _ h9 => h9) rfl dX11_goesTo_11 ?_
      refine lv_aload_n hx hb dX11_goesTo_14 rfl (lv_at hl 0 rfl) ?_
      refine va_get (D := (dC, dI)) (ci := 8) (v := .int x1) (C := RX11) (T := TX11) (N := 71) hx hb hw iwX11 hown hK hP 0 rfl rfl 31 (by decide) (hw _ w_f_X11_264) (fun _ h9 => h9) rfl dX11_goesTo_15 ?_
      refine va_iald hx hb hK hP 1 0 rfl rfl (i := x1) (vp_in_iff.mpr (by omega)) dX11_goesTo_18 ?_
      refine lv_topi (fun z6 ez6 => ?_)
      have rz6 : -1 ≤ (z6).toInt ∧ (z6).toInt ≤ 7 := by rw [ez6]; exact hf_nv _
      refine lv_iconst (v := (-1)) hx hb dX11_goesTo_19 (by decide) ?_
      refine lv_icmp_eq (tgt := 80) hx hb dX11_goesTo_20 (by decide) (fun c7 => ?_) (fun c7 => ?_)
      · have kc7 := (cv_eq (rfl : (z6).toInt = (z6).toInt) (by decide : ((-1) : Int32).toInt = -1)).mp c7
        have hvz6 : (f_nv (x1).toInt.toNat).toInt = (z6).toInt := by rw [ez6, (clamp_nat (i := x1) (by omega))]
        refine W.widen (k := 0) (n := 0) (Nat.le_of_ble_eq_true rfl) (Nat.le_of_ble_eq_true rfl) ?_
        have w8 : 0 ≤ ((x1)).toInt ∧ ((x1)).toInt ≤ 7999 := by omega
        have w9 : 0 ≤ ((x2)).toInt ∧ ((x2)).toInt ≤ 31 := by omega
        have w10 : 0 ≤ ((x1)).toInt ∧ ((x1)).toInt < N := by omega
        have w11 : i0 ≤ ((x2)).toInt ∧ ((x2)).toInt ≤ i1 := by omega
        have w12 : hz ((x1)).toInt.toNat + 6 * (256 - ((gh3)).length) + 1 ≤ fu := by omega
        have w13 : PA i0 (gh3) f_nv f_na f_nb f_nc f_bto f_bin ((x1)).toInt.toNat ((x2)).toInt := klp4_5
        have w14 : (f_nv ((x1)).toInt.toNat).toInt = -1 ∨ (f_bto (8 * ((x2)).toInt + (f_nv ((x1)).toInt.toNat).toInt).toNat).toInt = -1 := (Or.inl (by omega))
        have w15 : ∀ tt : Nat, (f_bto tt).toInt = -1 → NR f_nv f_na f_nb f_nc f_bto f_bin ((x1)).toInt.toNat ((x2)).toInt tt → NR f_nv f_na f_nb f_nc f_bto f_bin (p1).toInt.toNat (p2).toInt tt := klp4_6
        exact W.vret hx hb hr (fun t ht hW => ⟨⟨(x1, x2, gh3), rfl, ⟨w8, w9, w10, w11, w12, w13, w14, w15⟩, by rw [ht]; exact hP, hD⟩, hS.F ht⟩) hS.2.2 dX11_goesTo_80
      · have kc7 := (not_congr (cv_eq (rfl : (z6).toInt = (z6).toInt) (by decide : ((-1) : Int32).toInt = -1))).mp c7
        have hvz6 : (f_nv (x1).toInt.toNat).toInt = (z6).toInt := by rw [ez6, (clamp_nat (i := x1) (by omega))]
        refine lv_aload_n hx hb dX11_goesTo_23 rfl (lv_at hl 0 rfl) ?_
        refine va_get (D := (dC, dI)) (ci := 8) (v := .ref h_bto) (C := RX11) (T := TX11) (N := 71) hx hb hw iwX11 hown hK hP 0 rfl rfl 27 (by decide) (hw _ w_f_X11_195) (fun _ h9 => h9) rfl dX11_goesTo_24 ?_
        refine lv_aload_n hx hb dX11_goesTo_27 rfl (lv_at hl 0 rfl) ?_
        refine lv_aload_n hx hb dX11_goesTo_28 rfl (lv_at hl 0 rfl) ?_
        refine va_get (D := (dC, dI)) (ci := 8) (v := .int x1) (C := RX11) (T := TX11) (N := 71) hx hb hw iwX11 hown hK hP 0 rfl rfl 31 (by decide) (hw _ w_f_X11_264) (fun _ h9 => h9) rfl dX11_goesTo_29 ?_
        refine lv_aload_n hx hb dX11_goesTo_32 rfl (lv_at hl 0 rfl) ?_
        refine va_get (D := (dC, dI)) (ci := 8) (v := .int x2) (C := RX11) (T := TX11) (N := 71) hx hb hw iwX11 hown hK hP 0 rfl rfl 32 (by decide) (hw _ w_f_X11_267) (fun _ h9 => h9) rfl dX11_goesTo_33 ?_
        have hPc := hP.sub (ws' := [(h_mm, .inr (8, (mo50 v_mm (.ref h_nv) (.ref h_na) (.ref h_nb) (.ref h_nc) (.ref h_bto) (.ref h_bin) (.int x1) (.int x2)))), (h_nv, .inl (cy_nv, 8000, .inl f_nv))]) [0, 1] rfl
        have hDc := hD.sub (ws' := [(h_mm, .inr (8, (mo50 v_mm (.ref h_nv) (.ref h_na) (.ref h_nb) (.ref h_nc) (.ref h_bto) (.ref h_bin) (.int x1) (.int x2)))), (h_nv, .inl (cy_nv, 8000, .inl f_nv))]) [0, 1] (by decide) rfl
        have hKc := hK.sub (tys' := [(cy_nv, .int)]) [0] rfl
        have hFc := va_free (wc := [(h_mm, .inr (8, (mo50 v_mm (.ref h_nv) (.ref h_na) (.ref h_nb) (.ref h_nc) (.ref h_bto) (.ref h_bin) (.int x1) (.int x2)))), (h_nv, .inl (cy_nv, 8000, .inl f_nv))]) hD hS hA [0, 1] rfl
        refine va_calli (va_runV (As := [.int x1, .int x2]) (rest := [.ref h_bto]) ⟨hx, hb, hml, hown, hts⟩ (c_X11_slotOf l dC dI H.size h_mm h_nv (fun k => List.getD (mo50 v_mm (.ref h_nv) (.ref h_na) (.ref h_nb) (.ref h_nc) (.ref h_bto) (.ref h_bin) (.int x1) (.int x2)) k .null) cy_nv f_nv x1 x2 hf_nv (by omega) (by omega)) (cwV 2 hts (gv hT w_m_X11_270 w_instanceMethod_X11_slotOf ws_sel_X11_slotOf w_ini_X11 w_code_X11_slotOf) rfl rfl rfl (by decide +kernel) ⟨(Nat.le_of_ble_eq_true rfl), (Nat.le_of_ble_eq_true rfl)⟩) ⟨pre_blind, va_recv hK hP (ci := 8) (q0 := 0) rfl rfl, pre_of hPc hKc hDc hN⟩ rfl rfl hl.1 rfl (lv_room (Nat.le_of_ble_eq_true rfl)) dX11_goesTo_36 ⟨(Nat.le_of_ble_eq_true rfl), (Nat.le_of_ble_eq_true rfl)⟩) hS (fun q _ h => hFc q h) hFc (fun r16 u t H locs ht hvm hq hB hz1 hk1 hS => ?_)
        obtain ⟨hP1, hD1⟩ := hB
        rw [ht] at hP1
        obtain ⟨hP, hD⟩ := va_join (wr := [(h_na, .inl (cy_na, 8000, .inl f_na)), (h_nb, .inl (cy_nb, 8000, .inl f_nb)), (h_nc, .inl (cy_nc, 8000, .inl f_nc)), (h_bto, .inl (cy_bto, 256, .inl f_bto)), (h_bin, .inl (cy_bin, 256, .inl f_bin))]) (w1 := [(h_mm, .inr (8, (mo50 v_mm (.ref h_nv) (.ref h_na) (.ref h_nb) (.ref h_nc) (.ref h_bto) (.ref h_bin) (.int x1) (.int x2)))), (h_nv, .inl (cy_nv, 8000, .inl f_nv))]) hP hD [0, 1] [2, 3, 4, 5, 6] rfl rfl (by decide) (by decide) hk1 hFc hP1 hD1
        have hP : va_P (dC, dI) cls [(h_na, .inl (cy_na, 8000, .inl f_na)), (h_nb, .inl (cy_nb, 8000, .inl f_nb)), (h_nc, .inl (cy_nc, 8000, .inl f_nc)), (h_bto, .inl (cy_bto, 256, .inl f_bto)), (h_bin, .inl (cy_bin, 256, .inl f_bin)), (h_mm, .inr (8, (mo50 v_mm (.ref h_nv) (.ref h_na) (.ref h_nb) (.ref h_nc) (.ref h_bto) (.ref h_bin) (.int x1) (.int x2)))), (h_nv, .inl (cy_nv, 8000, .inl f_nv))] H := hP
        have hD : va_D A [(h_na, .inl (cy_na, 8000, .inl f_na)), (h_nb, .inl (cy_nb, 8000, .inl f_nb)), (h_nc, .inl (cy_nc, 8000, .inl f_nc)), (h_bto, .inl (cy_bto, 256, .inl f_bto)), (h_bin, .inl (cy_bin, 256, .inl f_bin)), (h_mm, .inr (8, (mo50 v_mm (.ref h_nv) (.ref h_na) (.ref h_nb) (.ref h_nc) (.ref h_bto) (.ref h_bin) (.int x1) (.int x2)))), (h_nv, .inl (cy_nv, 8000, .inl f_nv))] := hD
        obtain ⟨k17, k18⟩ := hq
        have k17 : -1 ≤ (r16).toInt ∧ (r16).toInt ≤ 255 := k17
        have k18 : ((r16)).toInt = 8 * ((x2)).toInt + (f_nv ((x1)).toInt.toNat).toInt := k18
        refine va_iald hx hb hK hP 3 4 rfl rfl (i := r16) (vp_in_iff.mpr (by omega)) dX11_goesTo_39 ?_
        refine lv_topi (fun z19 ez19 => ?_)
        have rz19 : -1 ≤ (z19).toInt ∧ (z19).toInt ≤ 7999 := by rw [ez19]; exact hf_bto _
        refine lv_iconst (v := (-1)) hx hb dX11_goesTo_40 (by decide) ?_
        refine lv_icmp_eq (tgt := 80) hx hb dX11_goesTo_41 (by decide) (fun c20 => ?_) (fun c20 => ?_)
        · have kc20 := (cv_eq (rfl : (z19).toInt = (z19).toInt) (by decide : ((-1) : Int32).toInt = -1)).mp c20
          have hvz6 : (f_nv (x1).toInt.toNat).toInt = (z6).toInt := by rw [ez6, (clamp_nat (i := x1) (by omega))]
          have ez9 : (8 * (x2).toInt + (f_nv (x1).toInt.toNat).toInt).toNat = (r16).toInt.toNat := by omega
          have tb9 : (f_bto (8 * (x2).toInt + (f_nv (x1).toInt.toNat).toInt).toNat).toInt = -1 := by rw [ez9, ← clamp_nat (i := r16) (by omega), ← ez19]; omega
          have hP : va_P (dC, dI) cls [(h_mm, .inr (8, (mo50 v_mm (.ref h_nv) (.ref h_na) (.ref h_nb) (.ref h_nc) (.ref h_bto) (.ref h_bin) (.int x1) (.int x2)))), (h_nv, .inl (cy_nv, 8000, .inl f_nv)), (h_na, .inl (cy_na, 8000, .inl f_na)), (h_nb, .inl (cy_nb, 8000, .inl f_nb)), (h_nc, .inl (cy_nc, 8000, .inl f_nc)), (h_bto, .inl (cy_bto, 256, .inl f_bto)), (h_bin, .inl (cy_bin, 256, .inl f_bin))] H := hP.sub [5, 6, 0, 1, 2, 3, 4] rfl
          have hD : va_D A [(h_mm, .inr (8, (mo50 v_mm (.ref h_nv) (.ref h_na) (.ref h_nb) (.ref h_nc) (.ref h_bto) (.ref h_bin) (.int x1) (.int x2)))), (h_nv, .inl (cy_nv, 8000, .inl f_nv)), (h_na, .inl (cy_na, 8000, .inl f_na)), (h_nb, .inl (cy_nb, 8000, .inl f_nb)), (h_nc, .inl (cy_nc, 8000, .inl f_nc)), (h_bto, .inl (cy_bto, 256, .inl f_bto)), (h_bin, .inl (cy_bin, 256, .inl f_bin))] := hD.sub [5, 6, 0, 1, 2, 3, 4] (by decide) rfl
          refine W.widen (k := 0) (n := 0) (Nat.le_of_ble_eq_true rfl) (Nat.le_of_ble_eq_true rfl) ?_
          have w21 : 0 ≤ ((x1)).toInt ∧ ((x1)).toInt ≤ 7999 := by omega
          have w22 : 0 ≤ ((x2)).toInt ∧ ((x2)).toInt ≤ 31 := by omega
          have w23 : 0 ≤ ((x1)).toInt ∧ ((x1)).toInt < N := by omega
          have w24 : i0 ≤ ((x2)).toInt ∧ ((x2)).toInt ≤ i1 := by omega
          have w25 : hz ((x1)).toInt.toNat + 6 * (256 - ((gh3)).length) + 1 ≤ fu := by omega
          have w26 : PA i0 (gh3) f_nv f_na f_nb f_nc f_bto f_bin ((x1)).toInt.toNat ((x2)).toInt := klp4_5
          have w27 : (f_nv ((x1)).toInt.toNat).toInt = -1 ∨ (f_bto (8 * ((x2)).toInt + (f_nv ((x1)).toInt.toNat).toInt).toNat).toInt = -1 := (Or.inr tb9)
          have w28 : ∀ tt : Nat, (f_bto tt).toInt = -1 → NR f_nv f_na f_nb f_nc f_bto f_bin ((x1)).toInt.toNat ((x2)).toInt tt → NR f_nv f_na f_nb f_nc f_bto f_bin (p1).toInt.toNat (p2).toInt tt := klp4_6
          exact W.vret hx hb hr (fun t ht hW => ⟨⟨(x1, x2, gh3), rfl, ⟨w21, w22, w23, w24, w25, w26, w27, w28⟩, by rw [ht]; exact hP, hD⟩, hS.F ht⟩) hS.2.2 dX11_goesTo_80
        · have kc20 := (not_congr (cv_eq (rfl : (z19).toInt = (z19).toInt) (by decide : ((-1) : Int32).toInt = -1))).mp c20
          refine lv_aload_n hx hb dX11_goesTo_44 rfl (lv_at hl 0 rfl) ?_
          refine lv_aload_n hx hb dX11_goesTo_45 rfl (lv_at hl 0 rfl) ?_
          refine va_get (D := (dC, dI)) (ci := 8) (v := .int x1) (C := RX11) (T := TX11) (N := 71) hx hb hw iwX11 hown hK hP 5 rfl rfl 31 (by decide) (hw _ w_f_X11_264) (fun _ h9 => h9) rfl dX11_goesTo_46 ?_
          refine lv_aload_n hx hb dX11_goesTo_49 rfl (lv_at hl 0 rfl) ?_
          refine va_get (D := (dC, dI)) (ci := 8) (v := .int x2) (C := RX11) (T := TX11) (N := 71) hx hb hw iwX11 hown hK hP 5 rfl rfl 32 (by decide) (hw _ w_f_X11_267) (fun _ h9 => h9) rfl dX11_goesTo_50 ?_
          have hPc := hP.sub (ws' := [(h_mm, .inr (8, (mo50 v_mm (.ref h_nv) (.ref h_na) (.ref h_nb) (.ref h_nc) (.ref h_bto) (.ref h_bin) (.int x1) (.int x2)))), (h_nv, .inl (cy_nv, 8000, .inl f_nv))]) [5, 6] rfl
          have hDc := hD.sub (ws' := [(h_mm, .inr (8, (mo50 v_mm (.ref h_nv) (.ref h_na) (.ref h_nb) (.ref h_nc) (.ref h_bto) (.ref h_bin) (.int x1) (.int x2)))), (h_nv, .inl (cy_nv, 8000, .inl f_nv))]) [5, 6] (by decide) rfl
          have hKc := hK.sub (tys' := [(cy_nv, .int)]) [0] rfl
          have hFc := va_free (wc := [(h_mm, .inr (8, (mo50 v_mm (.ref h_nv) (.ref h_na) (.ref h_nb) (.ref h_nc) (.ref h_bto) (.ref h_bin) (.int x1) (.int x2)))), (h_nv, .inl (cy_nv, 8000, .inl f_nv))]) hD hS hA [5, 6] rfl
          refine va_calli (va_runV (As := [.int x1, .int x2]) (rest := []) ⟨hx, hb, hml, hown, hts⟩ (c_X11_slotOf l dC dI H.size h_mm h_nv (fun k => List.getD (mo50 v_mm (.ref h_nv) (.ref h_na) (.ref h_nb) (.ref h_nc) (.ref h_bto) (.ref h_bin) (.int x1) (.int x2)) k .null) cy_nv f_nv x1 x2 hf_nv (by omega) (by omega)) (cwV 2 hts (gv hT w_m_X11_270 w_instanceMethod_X11_slotOf ws_sel_X11_slotOf w_ini_X11 w_code_X11_slotOf) rfl rfl rfl (by decide +kernel) ⟨(Nat.le_of_ble_eq_true rfl), (Nat.le_of_ble_eq_true rfl)⟩) ⟨pre_blind, va_recv hK hP (ci := 8) (q0 := 5) rfl rfl, pre_of hPc hKc hDc hN⟩ rfl rfl hl.1 rfl (lv_room (Nat.le_of_ble_eq_true rfl)) dX11_goesTo_53 ⟨(Nat.le_of_ble_eq_true rfl), (Nat.le_of_ble_eq_true rfl)⟩) hS (fun q _ h => hFc q h) hFc (fun r29 u t H locs ht hvm hq hB hz1 hk1 hS => ?_)
          obtain ⟨hP1, hD1⟩ := hB
          rw [ht] at hP1
          obtain ⟨hP, hD⟩ := va_join (wr := [(h_na, .inl (cy_na, 8000, .inl f_na)), (h_nb, .inl (cy_nb, 8000, .inl f_nb)), (h_nc, .inl (cy_nc, 8000, .inl f_nc)), (h_bto, .inl (cy_bto, 256, .inl f_bto)), (h_bin, .inl (cy_bin, 256, .inl f_bin))]) (w1 := [(h_mm, .inr (8, (mo50 v_mm (.ref h_nv) (.ref h_na) (.ref h_nb) (.ref h_nc) (.ref h_bto) (.ref h_bin) (.int x1) (.int x2)))), (h_nv, .inl (cy_nv, 8000, .inl f_nv))]) hP hD [5, 6] [0, 1, 2, 3, 4] rfl rfl (by decide) (by decide) hk1 hFc hP1 hD1
          have hP : va_P (dC, dI) cls [(h_na, .inl (cy_na, 8000, .inl f_na)), (h_nb, .inl (cy_nb, 8000, .inl f_nb)), (h_nc, .inl (cy_nc, 8000, .inl f_nc)), (h_bto, .inl (cy_bto, 256, .inl f_bto)), (h_bin, .inl (cy_bin, 256, .inl f_bin)), (h_mm, .inr (8, (mo50 v_mm (.ref h_nv) (.ref h_na) (.ref h_nb) (.ref h_nc) (.ref h_bto) (.ref h_bin) (.int x1) (.int x2)))), (h_nv, .inl (cy_nv, 8000, .inl f_nv))] H := hP
          have hD : va_D A [(h_na, .inl (cy_na, 8000, .inl f_na)), (h_nb, .inl (cy_nb, 8000, .inl f_nb)), (h_nc, .inl (cy_nc, 8000, .inl f_nc)), (h_bto, .inl (cy_bto, 256, .inl f_bto)), (h_bin, .inl (cy_bin, 256, .inl f_bin)), (h_mm, .inr (8, (mo50 v_mm (.ref h_nv) (.ref h_na) (.ref h_nb) (.ref h_nc) (.ref h_bto) (.ref h_bin) (.int x1) (.int x2)))), (h_nv, .inl (cy_nv, 8000, .inl f_nv))] := hD
          obtain ⟨k30, k31⟩ := hq
          have k30 : -1 ≤ (r29).toInt ∧ (r29).toInt ≤ 255 := k30
          have k31 : ((r29)).toInt = 8 * ((x2)).toInt + (f_nv ((x1)).toInt.toNat).toInt := k31
          refine lv_istore_n (lv' := [(3, .int r29), (0, .ref h_mm), (1, .int p1), (2, .int p2)]) hx hb dX11_goesTo_56 rfl hl (by decide) rfl (fun ls hl => ?_)
          refine lv_aload_n hx hb dX11_goesTo_57 rfl (lv_at hl 1 rfl) ?_
          refine lv_aload_n hx hb dX11_goesTo_58 rfl (lv_at hl 1 rfl) ?_
          refine va_get (D := (dC, dI)) (ci := 8) (v := .ref h_bto) (C := RX11) (T := TX11) (N := 71) hx hb hw iwX11 hown hK hP 5 rfl rfl 27 (by decide) (hw _ w_f_X11_195) (fun _ h9 => h9) rfl dX11_goesTo_59 ?_
          refine lv_iload_n hx hb dX11_goesTo_62 rfl (lv_at hl 0 rfl) ?_
          refine va_iald hx hb hK hP 3 4 rfl rfl (i := r29) (vp_in_iff.mpr (by omega)) dX11_goesTo_63 ?_
          refine lv_topi (fun z32 ez32 => ?_)
          have rz32 : -1 ≤ (z32).toInt ∧ (z32).toInt ≤ 7999 := by rw [ez32]; exact hf_bto _
          refine va_put (D := (dC, dI)) (ci := 8) (v := .int z32) (ty := tyX11 31) (C := RX11) (T := TX11) (N := 71) hx hb hw iwX11 tyX11 tyX11_ok nmX11 hown hK hP hD hS 5 rfl rfl 31 (by decide) (hw _ w_f_X11_264) (fun _ h9 => h9) rfl (tyX11_ok 31 (by decide)) rfl rfl (Nat.le_of_ble_eq_true rfl) dX11_goesTo_64 (fun H locs hP hD hS => ?_)
          have hP : va_P (dC, dI) cls [(h_na, .inl (cy_na, 8000, .inl f_na)), (h_nb, .inl (cy_nb, 8000, .inl f_nb)), (h_nc, .inl (cy_nc, 8000, .inl f_nc)), (h_bto, .inl (cy_bto, 256, .inl f_bto)), (h_bin, .inl (cy_bin, 256, .inl f_bin)), (h_mm, .inr (8, (mo50 v_mm (.ref h_nv) (.ref h_na) (.ref h_nb) (.ref h_nc) (.ref h_bto) (.ref h_bin) (.int z32) (.int x2)))), (h_nv, .inl (cy_nv, 8000, .inl f_nv))] H := hP
          have hD : va_D A [(h_na, .inl (cy_na, 8000, .inl f_na)), (h_nb, .inl (cy_nb, 8000, .inl f_nb)), (h_nc, .inl (cy_nc, 8000, .inl f_nc)), (h_bto, .inl (cy_bto, 256, .inl f_bto)), (h_bin, .inl (cy_bin, 256, .inl f_bin)), (h_mm, .inr (8, (mo50 v_mm (.ref h_nv) (.ref h_na) (.ref h_nb) (.ref h_nc) (.ref h_bto) (.ref h_bin) (.int z32) (.int x2)))), (h_nv, .inl (cy_nv, 8000, .inl f_nv))] := hD
          refine lv_aload_n hx hb dX11_goesTo_67 rfl (lv_at hl 1 rfl) ?_
          refine lv_aload_n hx hb dX11_goesTo_68 rfl (lv_at hl 1 rfl) ?_
          refine va_get (D := (dC, dI)) (ci := 8) (v := .ref h_bin) (C := RX11) (T := TX11) (N := 71) hx hb hw iwX11 hown hK hP 5 rfl rfl 28 (by decide) (hw _ w_f_X11_198) (fun _ h9 => h9) rfl dX11_goesTo_69 ?_
          refine lv_iload_n hx hb dX11_goesTo_72 rfl (lv_at hl 0 rfl) ?_
          refine va_iald hx hb hK hP 4 5 rfl rfl (i := r29) (vp_in_iff.mpr (by omega)) dX11_goesTo_73 ?_
          refine lv_topi (fun z33 ez33 => ?_)
          have rz33 : 0 ≤ (z33).toInt ∧ (z33).toInt ≤ 31 := by rw [ez33]; exact hf_bin _
          refine va_put (D := (dC, dI)) (ci := 8) (v := .int z33) (ty := tyX11 32) (C := RX11) (T := TX11) (N := 71) hx hb hw iwX11 tyX11 tyX11_ok nmX11 hown hK hP hD hS 5 rfl rfl 32 (by decide) (hw _ w_f_X11_267) (fun _ h9 => h9) rfl (tyX11_ok 32 (by decide)) rfl rfl (Nat.le_of_ble_eq_true rfl) dX11_goesTo_74 (fun H locs hP hD hS => ?_)
          have hP : va_P (dC, dI) cls [(h_na, .inl (cy_na, 8000, .inl f_na)), (h_nb, .inl (cy_nb, 8000, .inl f_nb)), (h_nc, .inl (cy_nc, 8000, .inl f_nc)), (h_bto, .inl (cy_bto, 256, .inl f_bto)), (h_bin, .inl (cy_bin, 256, .inl f_bin)), (h_mm, .inr (8, (mo50 v_mm (.ref h_nv) (.ref h_na) (.ref h_nb) (.ref h_nc) (.ref h_bto) (.ref h_bin) (.int z32) (.int z33)))), (h_nv, .inl (cy_nv, 8000, .inl f_nv))] H := hP
          have hD : va_D A [(h_na, .inl (cy_na, 8000, .inl f_na)), (h_nb, .inl (cy_nb, 8000, .inl f_nb)), (h_nc, .inl (cy_nc, 8000, .inl f_nc)), (h_bto, .inl (cy_bto, 256, .inl f_bto)), (h_bin, .inl (cy_bin, 256, .inl f_bin)), (h_mm, .inr (8, (mo50 v_mm (.ref h_nv) (.ref h_na) (.ref h_nb) (.ref h_nc) (.ref h_bto) (.ref h_bin) (.int z32) (.int z33)))), (h_nv, .inl (cy_nv, 8000, .inl f_nv))] := hD
          have hvz6 : (f_nv (x1).toInt.toNat).toInt = (z6).toInt := by rw [ez6, (clamp_nat (i := x1) (by omega))]
          have er9 : r29 = r16 := Int32.toInt_inj.mp (by omega)
          have qb9 : (z32).toInt = (z19).toInt := by rw [ez32, ez19, er9]
          have cz9 := clamp_nat (i := r29) (by omega)
          have fb9 : f_bto (r29).toInt.toNat = z32 := by rw [← cz9, ← ez32]
          have fi9 : f_bin (r29).toInt.toNat = z33 := by rw [← cz9, ← ez33]
          have hb9 : ¬ (f_bto (r29).toInt.toNat).toInt = -1 := by rw [fb9]; omega
          have wb9 := wb_at (s := (r29).toInt.toNat) hn_bi (by omega) hb9
          rw [fb9, fi9] at wb9
          have pg9 := pa_go (s := (r29).toInt.toNat) (i := (x2).toInt) hn_bi klp4_5 (by omega) (by omega) (by omega) (by omega) hb9
          rw [fb9, fi9] at pg9
          have hh8 := (hn_bi.1 (x1).toInt.toNat (by omega) (by omega)).2.2.2
          have hh9 := (hn_bi.1 (z32).toInt.toNat (by omega) (by omega)).2.2.2
          have hl9 : (((r29).toInt.toNat :: gh3)).length = (gh3).length + 1 := rfl
          have pl9 := pg9.2
          have ng34 : ∀ tt : Nat, (f_bto tt).toInt = -1 → NR f_nv f_na f_nb f_nc f_bto f_bin (z32).toInt.toNat (z33).toInt tt → NR f_nv f_na f_nb f_nc f_bto f_bin (p1).toInt.toNat (p2).toInt tt := fun tt h1 h2 => klp4_6 tt h1 (nr_go (s := (r29).toInt.toNat) (by omega) (by omega) hb9 h1 (by rw [fb9, fi9]; exact h2))
          refine lv_goto (tgt := 10) hx hb dX11_goesTo_77 (by decide) ?_
          have hP : va_P (dC, dI) cls [(h_mm, .inr (8, (mo50 v_mm (.ref h_nv) (.ref h_na) (.ref h_nb) (.ref h_nc) (.ref h_bto) (.ref h_bin) (.int z32) (.int z33)))), (h_nv, .inl (cy_nv, 8000, .inl f_nv)), (h_na, .inl (cy_na, 8000, .inl f_na)), (h_nb, .inl (cy_nb, 8000, .inl f_nb)), (h_nc, .inl (cy_nc, 8000, .inl f_nc)), (h_bto, .inl (cy_bto, 256, .inl f_bto)), (h_bin, .inl (cy_bin, 256, .inl f_bin))] H := hP.sub [5, 6, 0, 1, 2, 3, 4] rfl
          have hD : va_D A [(h_mm, .inr (8, (mo50 v_mm (.ref h_nv) (.ref h_na) (.ref h_nb) (.ref h_nc) (.ref h_bto) (.ref h_bin) (.int z32) (.int z33)))), (h_nv, .inl (cy_nv, 8000, .inl f_nv)), (h_na, .inl (cy_na, 8000, .inl f_na)), (h_nb, .inl (cy_nb, 8000, .inl f_nb)), (h_nc, .inl (cy_nc, 8000, .inl f_nc)), (h_bto, .inl (cy_bto, 256, .inl f_bto)), (h_bin, .inl (cy_bin, 256, .inl f_bin))] := hD.sub [5, 6, 0, 1, 2, 3, 4] (by decide) rfl
          exact ih5 (z32) (z33) (((r29).toInt.toNat :: gh3)) _ _ _ (by omega) (by omega) (by omega) (by omega) (by omega) pg9.1 ng34 (by omega) hP hD hS (lv_sub hl [1, 2, 3] rfl)
  exact lp4 _ (p1) (p2) (P) _ _ _ (by omega) (by omega) (by omega) (by omega) (by omega) hn_pa (fun tt _ h => h) (Nat.le_refl _) hP hD hS (lv_sub hl [0, 1, 2] rfl)

def K_X11_holds (l : Launch) (fu : Nat) : Prop := ∀ (dC : Nat → ClassId) (dI : Nat → Nat → Nat) (sz : Nat) (h_mm : Nat) (h_nv : Nat) (h_na : Nat) (h_nb : Nat) (h_nc : Nat) (h_bto : Nat) (h_bin : Nat) (v_mm : Nat → Value) (x_mm_goneTo : Int32) (x_mm_goneIn : Int32) (cy_nv : ClassId) (f_nv : Nat → Int32) (cy_na : ClassId) (f_na : Nat → Int32) (cy_nb : ClassId) (f_nb : Nat → Int32) (cy_nc : ClassId) (f_nc : Nat → Int32) (cy_bto : ClassId) (f_bto : Nat → Int32) (cy_bin : ClassId) (f_bin : Nat → Int32) (p1 : Int32) (p2 : Int32) (p3 : Int32) (i0 : Int) (i1 : Int) (N : Int) (hz : Nat → Nat) (P : List Nat) (hx_mm_goneTo : 0 ≤ (x_mm_goneTo).toInt ∧ (x_mm_goneTo).toInt ≤ 7999) (hx_mm_goneIn : 0 ≤ (x_mm_goneIn).toInt ∧ (x_mm_goneIn).toInt ≤ 31) (hf_nv : Rg (-1) 7 f_nv) (hf_na : Rg (-1) 7999 f_na) (hf_nb : Rg (-1) 7999 f_nb) (hf_nc : Rg (-1) 7999 f_nc) (hf_bto : Rg (-1) 7999 f_bto) (hf_bin : Rg 0 31 f_bin) (q0 : 0 ≤ i0 ∧ i0 ≤ i1 ∧ i1 ≤ 31) (q1 : N ≤ 8000) (q2 : 0 ≤ (p1).toInt ∧ (p1).toInt < N) (q3 : i0 ≤ (p2).toInt ∧ (p2).toInt ≤ i1) (q4 : 0 ≤ (p3).toInt ∧ (p3).toInt ≤ 255) (q5 : hz (p1).toInt.toNat + 6 * (256 - (P).length) + 1 ≤ fu) (q6 : (f_bto (p3).toInt.toNat).toInt = -1) (hn_bi : BI i0 i1 N hz f_nv f_na f_nb f_nc f_bto f_bin) (hn_pa : PA i0 P f_nv f_na f_nb f_nc f_bto f_bin (p1).toInt.toNat (p2).toInt), Met l yX11_holds (Ws yX11_holds cX11_holds 7 (some .boolean)) (({ frames := fu + 2, cells := 0, slots := 0, locals := 26 * fu + 45 } : Room)) (PRE (dC, dI) cls [(cy_nv, .int), (cy_na, .int), (cy_nb, .int), (cy_nc, .int), (cy_bto, .int), (cy_bin, .int)] [(h_mm, .inr (8, (mo50 v_mm (.ref h_nv) (.ref h_na) (.ref h_nb) (.ref h_nc) (.ref h_bto) (.ref h_bin) (.int x_mm_goneTo) (.int x_mm_goneIn)))), (h_nv, .inl (cy_nv, 8000, .inl f_nv)), (h_na, .inl (cy_na, 8000, .inl f_na)), (h_nb, .inl (cy_nb, 8000, .inl f_nb)), (h_nc, .inl (cy_nc, 8000, .inl f_nc)), (h_bto, .inl (cy_bto, 256, .inl f_bto)), (h_bin, .inl (cy_bin, 256, .inl f_bin))] sz [.ref h_mm, .int p1, .int p2, .int p3]) (va_Qi (fun (r : Int32) (u : (Int32) × (Int32)) => (0 ≤ (u.1).toInt ∧ (u.1).toInt ≤ 7999) ∧ (0 ≤ (u.2).toInt ∧ (u.2).toInt ≤ 31) ∧ (0 ≤ r.toInt ∧ r.toInt ≤ 1) ∧ ((r).toInt = 1 ∨ NR f_nv f_na f_nb f_nc f_bto f_bin (p1).toInt.toNat (p2).toInt (p3).toInt.toNat)) (fun (u : (Int32) × (Int32)) (t : State) => va_P (dC, dI) cls [(h_mm, .inr (8, (mo50 v_mm (.ref h_nv) (.ref h_na) (.ref h_nb) (.ref h_nc) (.ref h_bto) (.ref h_bin) (.int u.1) (.int u.2)))), (h_nv, .inl (cy_nv, 8000, .inl f_nv)), (h_na, .inl (cy_na, 8000, .inl f_na)), (h_nb, .inl (cy_nb, 8000, .inl f_nb)), (h_nc, .inl (cy_nc, 8000, .inl f_nc)), (h_bto, .inl (cy_bto, 256, .inl f_bto)), (h_bin, .inl (cy_bin, 256, .inl f_bin))] t.heap ∧ va_D (va_A [(h_mm, .inr (8, (mo50 v_mm (.ref h_nv) (.ref h_na) (.ref h_nb) (.ref h_nc) (.ref h_bto) (.ref h_bin) (.int x_mm_goneTo) (.int x_mm_goneIn)))), (h_nv, .inl (cy_nv, 8000, .inl f_nv)), (h_na, .inl (cy_na, 8000, .inl f_na)), (h_nb, .inl (cy_nb, 8000, .inl f_nb)), (h_nc, .inl (cy_nc, 8000, .inl f_nc)), (h_bto, .inl (cy_bto, 256, .inl f_bto)), (h_bin, .inl (cy_bin, 256, .inl f_bin))] sz) [(h_mm, .inr (8, (mo50 v_mm (.ref h_nv) (.ref h_na) (.ref h_nb) (.ref h_nc) (.ref h_bto) (.ref h_bin) (.int u.1) (.int u.2)))), (h_nv, .inl (cy_nv, 8000, .inl f_nv)), (h_na, .inl (cy_na, 8000, .inl f_na)), (h_nb, .inl (cy_nb, 8000, .inl f_nb)), (h_nc, .inl (cy_nc, 8000, .inl f_nc)), (h_bto, .inl (cy_bto, 256, .inl f_bto)), (h_bin, .inl (cy_bin, 256, .inl f_bin))]) (va_A [(h_mm, .inr (8, (mo50 v_mm (.ref h_nv) (.ref h_na) (.ref h_nb) (.ref h_nc) (.ref h_bto) (.ref h_bin) (.int x_mm_goneTo) (.int x_mm_goneIn)))), (h_nv, .inl (cy_nv, 8000, .inl f_nv)), (h_na, .inl (cy_na, 8000, .inl f_na)), (h_nb, .inl (cy_nb, 8000, .inl f_nb)), (h_nc, .inl (cy_nc, 8000, .inl f_nc)), (h_bto, .inl (cy_bto, 256, .inl f_bto)), (h_bin, .inl (cy_bin, 256, .inl f_bin))] sz)) 0 0 (va_A [(h_mm, .inr (8, (mo50 v_mm (.ref h_nv) (.ref h_na) (.ref h_nb) (.ref h_nc) (.ref h_bto) (.ref h_bin) (.int x_mm_goneTo) (.int x_mm_goneIn)))), (h_nv, .inl (cy_nv, 8000, .inl f_nv)), (h_na, .inl (cy_na, 8000, .inl f_na)), (h_nb, .inl (cy_nb, 8000, .inl f_nb)), (h_nc, .inl (cy_nc, 8000, .inl f_nc)), (h_bto, .inl (cy_bto, 256, .inl f_bto)), (h_bin, .inl (cy_bin, 256, .inl f_bin))] sz)
set_option maxHeartbeats 8000000 in
set_option maxRecDepth 100000 in
theorem c_X11_holds (l : Launch) (fu : Nat) : K_X11_holds l fu := by
  refine Nat.rec (motive := fun fu => K_X11_holds l fu) ?_ ?_ fu
  · intro dC dI sz h_mm h_nv h_na h_nb h_nc h_bto h_bin v_mm x_mm_goneTo x_mm_goneIn cy_nv f_nv cy_na f_na cy_nb f_nb cy_nc f_nc cy_bto f_bto cy_bin f_bin p1 p2 p3 i0 i1 N hz P hx_mm_goneTo hx_mm_goneIn hf_nv hf_na hf_nb hf_nc hf_bto hf_bin q0 q1 q2 q3 q4 q5 q6 hn_bi hn_pa
    have h09 : Nat.zero = 0 := rfl
    exact False.elim (by omega)
  intro fu ihf
  intro dC dI sz h_mm h_nv h_na h_nb h_nc h_bto h_bin v_mm x_mm_goneTo x_mm_goneIn cy_nv f_nv cy_na f_na cy_nb f_nb cy_nc f_nc cy_bto f_bto cy_bin f_bin p1 p2 p3 i0 i1 N hz P hx_mm_goneTo hx_mm_goneIn hf_nv hf_na hf_nb hf_nc hf_bto hf_bin q0 q1 q2 q3 q4 q5 q6 hn_bi hn_pa
  refine Met.ofW (cc := cX11_holds) (maxL := 7) (ret := (some .boolean)) (by decide) rfl ?_
  intro p e s m args below meth c s₁ B hml hv
  obtain ⟨rfl, hsz, hP, hK, hD0, hN⟩ := hv
  have hx := B.exec
  have hb := B.bytes
  have hr := B.returns
  have hts := atoms_spec (ws := Ws yX11_holds cX11_holds 7 (some .boolean)) B.pre
  have hT : ∀ w ∈ WALL, w ∈ Ws yX11_holds cX11_holds 7 (some .boolean) := fun w h => List.mem_cons_of_mem _ h
  have hw := fun w (h : w ∈ WALL) => hts w (hT w h)
  have hown : s.vm.findClass RX11 = some m.cls := findClass_of_methodNamed B.named
  have hlocks := B.notSynchronized
  subst hsz
  have hD := hD0.self (sz := s.heap.size)
  generalize hAe : va_A [(h_mm, .inr (8, (mo50 v_mm (.ref h_nv) (.ref h_na) (.ref h_nb) (.ref h_nc) (.ref h_bto) (.ref h_bin) (.int x_mm_goneTo) (.int x_mm_goneIn)))), (h_nv, .inl (cy_nv, 8000, .inl f_nv)), (h_na, .inl (cy_na, 8000, .inl f_na)), (h_nb, .inl (cy_nb, 8000, .inl f_nb)), (h_nc, .inl (cy_nc, 8000, .inl f_nc)), (h_bto, .inl (cy_bto, 256, .inl f_bto)), (h_bin, .inl (cy_bin, 256, .inl f_bin))] s.heap.size = A at hD ⊢
  have hA : ∀ q : Nat, s.heap.size ≤ q → A q := fun q h => by rw [← hAe]; exact Or.inr h
  have hS : va_S A s.heap s.heap [] := va_S.rf
  have hl := lv_entry ([.ref h_mm, .int p1, .int p2, .int p3]) (n := 7) (Nat.le_of_ble_eq_true rfl)
  rw [lg_entry_eq]
  generalize (lg_sl ([.ref h_mm, .int p1, .int p2, .int p3]) ++ List.replicate (7 - (lg_sl ([.ref h_mm, .int p1, .int p2, .int p3])).length) Slot.unset).toArray = ls at hl ⊢
  have hl : lv_has ls 7 [(0, .ref h_mm), (1, .int p1), (2, .int p2), (3, .int p3)] := hl
  refine lv_aload_n hx hb dX11_holds_0 rfl (lv_at hl 0 rfl) ?_
  refine lv_iload_n hx hb dX11_holds_1 rfl (lv_at hl 1 rfl) ?_
  refine lv_iload_n hx hb dX11_holds_2 rfl (lv_at hl 2 rfl) ?_
  have hPc := hP.sub (ws' := [(h_mm, .inr (8, (mo50 v_mm (.ref h_nv) (.ref h_na) (.ref h_nb) (.ref h_nc) (.ref h_bto) (.ref h_bin) (.int x_mm_goneTo) (.int x_mm_goneIn)))), (h_nv, .inl (cy_nv, 8000, .inl f_nv)), (h_na, .inl (cy_na, 8000, .inl f_na)), (h_nb, .inl (cy_nb, 8000, .inl f_nb)), (h_nc, .inl (cy_nc, 8000, .inl f_nc)), (h_bto, .inl (cy_bto, 256, .inl f_bto)), (h_bin, .inl (cy_bin, 256, .inl f_bin))]) [0, 1, 2, 3, 4, 5, 6] rfl
  have hDc := hD.sub (ws' := [(h_mm, .inr (8, (mo50 v_mm (.ref h_nv) (.ref h_na) (.ref h_nb) (.ref h_nc) (.ref h_bto) (.ref h_bin) (.int x_mm_goneTo) (.int x_mm_goneIn)))), (h_nv, .inl (cy_nv, 8000, .inl f_nv)), (h_na, .inl (cy_na, 8000, .inl f_na)), (h_nb, .inl (cy_nb, 8000, .inl f_nb)), (h_nc, .inl (cy_nc, 8000, .inl f_nc)), (h_bto, .inl (cy_bto, 256, .inl f_bto)), (h_bin, .inl (cy_bin, 256, .inl f_bin))]) [0, 1, 2, 3, 4, 5, 6] (by decide) rfl
  have hKc := hK.sub (tys' := [(cy_nv, .int), (cy_na, .int), (cy_nb, .int), (cy_nc, .int), (cy_bto, .int), (cy_bin, .int)]) [0, 1, 2, 3, 4, 5] rfl
  have hFc := va_free (wc := [(h_mm, .inr (8, (mo50 v_mm (.ref h_nv) (.ref h_na) (.ref h_nb) (.ref h_nc) (.ref h_bto) (.ref h_bin) (.int x_mm_goneTo) (.int x_mm_goneIn)))), (h_nv, .inl (cy_nv, 8000, .inl f_nv)), (h_na, .inl (cy_na, 8000, .inl f_na)), (h_nb, .inl (cy_nb, 8000, .inl f_nb)), (h_nc, .inl (cy_nc, 8000, .inl f_nc)), (h_bto, .inl (cy_bto, 256, .inl f_bto)), (h_bin, .inl (cy_bin, 256, .inl f_bin))]) hD hS hA [0, 1, 2, 3, 4, 5, 6] rfl
  refine va_callv (va_runV (As := [.int p1, .int p2]) (rest := []) ⟨hx, hb, hml, hown, hts⟩ (c_X11_goesTo l dC dI s.heap.size h_mm h_nv h_na h_nb h_nc h_bto h_bin v_mm x_mm_goneTo x_mm_goneIn cy_nv f_nv cy_na f_na cy_nb f_nb cy_nc f_nc cy_bto f_bto cy_bin f_bin p1 p2 i0 i1 N hz P (fu + 1) (by omega) (by omega) hf_nv hf_na hf_nb hf_nc hf_bto hf_bin (by omega) (by omega) (by omega) (by omega) (by omega) hn_bi hn_pa) (cwV 2 hts (gv hT w_m_X11_273 w_instanceMethod_X11_goesTo ws_sel_X11_goesTo w_ini_X11 w_code_X11_goesTo) rfl rfl rfl (by decide +kernel) ⟨(by dsimp only [headSpec]; omega), (by dsimp only [headSpec]; omega)⟩) ⟨pre_blind, va_recv hK hP (ci := 8) (q0 := 0) rfl rfl, pre_of hPc hKc hDc hN⟩ rfl rfl hl.1 rfl (lv_room (Nat.le_of_ble_eq_true rfl)) dX11_holds_3 ⟨(Nat.le_of_ble_eq_true rfl), (Nat.le_of_ble_eq_true rfl)⟩) hS (fun q _ h => hFc q h) hFc (fun u t H locs ht hvm hq hB hz1 hk1 hS => ?_)
  obtain ⟨z2, z3, z4⟩ := u
  obtain ⟨hP1, hD1⟩ := hB
  rw [ht] at hP1
  obtain ⟨hP, hD⟩ := va_join (wr := []) (w1 := [(h_mm, .inr (8, (mo50 v_mm (.ref h_nv) (.ref h_na) (.ref h_nb) (.ref h_nc) (.ref h_bto) (.ref h_bin) (.int z2) (.int z3)))), (h_nv, .inl (cy_nv, 8000, .inl f_nv)), (h_na, .inl (cy_na, 8000, .inl f_na)), (h_nb, .inl (cy_nb, 8000, .inl f_nb)), (h_nc, .inl (cy_nc, 8000, .inl f_nc)), (h_bto, .inl (cy_bto, 256, .inl f_bto)), (h_bin, .inl (cy_bin, 256, .inl f_bin))]) hP hD [0, 1, 2, 3, 4, 5, 6] [] rfl rfl (by decide) (by decide) hk1 hFc hP1 hD1
  have hP : va_P (dC, dI) cls [(h_mm, .inr (8, (mo50 v_mm (.ref h_nv) (.ref h_na) (.ref h_nb) (.ref h_nc) (.ref h_bto) (.ref h_bin) (.int z2) (.int z3)))), (h_nv, .inl (cy_nv, 8000, .inl f_nv)), (h_na, .inl (cy_na, 8000, .inl f_na)), (h_nb, .inl (cy_nb, 8000, .inl f_nb)), (h_nc, .inl (cy_nc, 8000, .inl f_nc)), (h_bto, .inl (cy_bto, 256, .inl f_bto)), (h_bin, .inl (cy_bin, 256, .inl f_bin))] H := hP
  have hD : va_D A [(h_mm, .inr (8, (mo50 v_mm (.ref h_nv) (.ref h_na) (.ref h_nb) (.ref h_nc) (.ref h_bto) (.ref h_bin) (.int z2) (.int z3)))), (h_nv, .inl (cy_nv, 8000, .inl f_nv)), (h_na, .inl (cy_na, 8000, .inl f_na)), (h_nb, .inl (cy_nb, 8000, .inl f_nb)), (h_nc, .inl (cy_nc, 8000, .inl f_nc)), (h_bto, .inl (cy_bto, 256, .inl f_bto)), (h_bin, .inl (cy_bin, 256, .inl f_bin))] := hD
  obtain ⟨k5, k6, k7, k8, k9, k10, k11, k12⟩ := hq
  have k5 : 0 ≤ ((z2)).toInt ∧ ((z2)).toInt ≤ 7999 := k5
  have k6 : 0 ≤ ((z3)).toInt ∧ ((z3)).toInt ≤ 31 := k6
  have k7 : 0 ≤ ((z2)).toInt ∧ ((z2)).toInt < (N) := k7
  have k8 : (i0) ≤ ((z3)).toInt ∧ ((z3)).toInt ≤ (i1) := k8
  have k9 : (hz) ((z2)).toInt.toNat + 6 * (256 - ((z4)).length) + 1 ≤ ((fu + 1)) := k9
  have k10 : PA (i0) (z4) f_nv f_na f_nb f_nc f_bto f_bin ((z2)).toInt.toNat ((z3)).toInt := k10
  have k11 : (f_nv ((z2)).toInt.toNat).toInt = -1 ∨ (f_bto (8 * ((z3)).toInt + (f_nv ((z2)).toInt.toNat).toInt).toNat).toInt = -1 := k11
  have k12 : ∀ tt : Nat, (f_bto tt).toInt = -1 → NR f_nv f_na f_nb f_nc f_bto f_bin ((z2)).toInt.toNat ((z3)).toInt tt → NR f_nv f_na f_nb f_nc f_bto f_bin ((p1)).toInt.toNat ((p2)).toInt tt := k12
  refine lv_aload_n hx hb dX11_holds_6 rfl (lv_at hl 0 rfl) ?_
  refine va_get (D := (dC, dI)) (ci := 8) (v := .int z2) (C := RX11) (T := TX11) (N := 71) hx hb hw iwX11 hown hK hP 0 rfl rfl 31 (by decide) (hw _ w_f_X11_264) (fun _ h9 => h9) rfl dX11_holds_7 ?_
  refine lv_istore (lv' := [(4, .int z2), (0, .ref h_mm), (1, .int p1), (2, .int p2), (3, .int p3)]) hx hb dX11_holds_10 hl (by decide) rfl (fun ls hl => ?_)
  refine lv_aload_n hx hb dX11_holds_12 rfl (lv_at hl 1 rfl) ?_
  refine va_get (D := (dC, dI)) (ci := 8) (v := .int z3) (C := RX11) (T := TX11) (N := 71) hx hb hw iwX11 hown hK hP 0 rfl rfl 32 (by decide) (hw _ w_f_X11_267) (fun _ h9 => h9) rfl dX11_holds_13 ?_
  refine lv_istore (lv' := [(5, .int z3), (4, .int z2), (0, .ref h_mm), (1, .int p1), (2, .int p2), (3, .int p3)]) hx hb dX11_holds_16 hl (by decide) rfl (fun ls hl => ?_)
  refine lv_aload_n hx hb dX11_holds_18 rfl (lv_at hl 2 rfl) ?_
  refine va_get (D := (dC, dI)) (ci := 8) (v := .ref h_nv) (C := RX11) (T := TX11) (N := 71) hx hb hw iwX11 hown hK hP 0 rfl rfl 1 (by decide) (hw _ w_f_X11_17) (fun _ h9 => h9) rfl dX11_holds_19 ?_
  refine lv_iload hx hb dX11_holds_22 (lv_at hl 1 rfl) ?_
  refine va_iald hx hb hK hP 1 0 rfl rfl (i := z2) (vp_in_iff.mpr (by omega)) dX11_holds_24 ?_
  refine lv_topi (fun z13 ez13 => ?_)
  have rz13 : -1 ≤ (z13).toInt ∧ (z13).toInt ≤ 7 := by rw [ez13]; exact hf_nv _
  refine lv_iconst (v := (-1)) hx hb dX11_holds_25 (by decide) ?_
  refine lv_icmp_eq (tgt := 47) hx hb dX11_holds_26 (by decide) (fun c14 => ?_) (fun c14 => ?_)
  · have kc14 := (cv_eq (rfl : (z13).toInt = (z13).toInt) (by decide : ((-1) : Int32).toInt = -1)).mp c14
    have hvz13 : (f_nv (z2).toInt.toNat).toInt = (z13).toInt := by rw [ez13, (clamp_nat (i := z2) (by omega))]
    have nk0 : ∀ j : Int, 0 ≤ j → j < 0 → NR f_nv f_na f_nb f_nc f_bto f_bin (ptx f_na f_nb f_nc (z2).toInt.toNat j).toInt.toNat (z3).toInt (p3).toInt.toNat := fun j h1 h2 => absurd h2 (by omega)
    have cst0 : (0 : Int32).toInt = 0 := by decide
    refine lv_iconst (v := 0) hx hb dX11_holds_47 (by decide) ?_
    refine lv_istore (lv' := [(6, .int 0), (5, .int z3), (4, .int z2), (0, .ref h_mm), (1, .int p1), (2, .int p2), (3, .int p3)]) hx hb dX11_holds_48 hl (by decide) rfl (fun ls hl => ?_)
    have lp18 : ∀ (n : Nat) (x15 : Int32) (x16 : Int32) (x17 : Int32) (H : Heap) (locs : List Loc) (ls : Array Slot), (0 ≤ (x15).toInt ∧ (x15).toInt ≤ 3) → (0 ≤ (x16).toInt ∧ (x16).toInt ≤ 7999) → (0 ≤ (x17).toInt ∧ (x17).toInt ≤ 31) → (∀ j : Int, 0 ≤ j → j < (x15).toInt → NR f_nv f_na f_nb f_nc f_bto f_bin (ptx f_na f_nb f_nc ((z2).toInt).toNat j).toInt.toNat (z3).toInt (p3).toInt.toNat) → (3 - (x15).toInt).toNat + 1 ≤ n → va_P (dC, dI) cls [(h_mm, .inr (8, (mo50 v_mm (.ref h_nv) (.ref h_na) (.ref h_nb) (.ref h_nc) (.ref h_bto) (.ref h_bin) (.int x16) (.int x17)))), (h_nv, .inl (cy_nv, 8000, .inl f_nv)), (h_na, .inl (cy_na, 8000, .inl f_na)), (h_nb, .inl (cy_nb, 8000, .inl f_nb)), (h_nc, .inl (cy_nc, 8000, .inl f_nc)), (h_bto, .inl (cy_bto, 256, .inl f_bto)), (h_bin, .inl (cy_bin, 256, .inl f_bin))] H → va_D A [(h_mm, .inr (8, (mo50 v_mm (.ref h_nv) (.ref h_na) (.ref h_nb) (.ref h_nc) (.ref h_bto) (.ref h_bin) (.int x16) (.int x17)))), (h_nv, .inl (cy_nv, 8000, .inl f_nv)), (h_na, .inl (cy_na, 8000, .inl f_na)), (h_nb, .inl (cy_nb, 8000, .inl f_nb)), (h_nc, .inl (cy_nc, 8000, .inl f_nc)), (h_bto, .inl (cy_bto, 256, .inl f_bto)), (h_bin, .inl (cy_bin, 256, .inl f_bin))] → va_S A s.heap H locs → lv_has ls 7 [(0, .ref h_mm), (1, .int p1), (2, .int p2), (3, .int p3), (4, .int z2), (5, .int z3), (6, .int x15)] → W p l e ({ frames := (fu + 1) + 2, cells := 0, slots := 0, locals := 26 * (fu + 1) + 45 } : Room) s m ([.ref h_mm, .int p1, .int p2, .int p3] : List Value).toArray below meth c H locs 0 0 (MQ below (va_Qi (fun (r : Int32) (u : (Int32) × (Int32)) => (0 ≤ (u.1).toInt ∧ (u.1).toInt ≤ 7999) ∧ (0 ≤ (u.2).toInt ∧ (u.2).toInt ≤ 31) ∧ (0 ≤ r.toInt ∧ r.toInt ≤ 1) ∧ ((r).toInt = 1 ∨ NR f_nv f_na f_nb f_nc f_bto f_bin (p1).toInt.toNat (p2).toInt (p3).toInt.toNat)) (fun (u : (Int32) × (Int32)) (t : State) => va_P (dC, dI) cls [(h_mm, .inr (8, (mo50 v_mm (.ref h_nv) (.ref h_na) (.ref h_nb) (.ref h_nc) (.ref h_bto) (.ref h_bin) (.int u.1) (.int u.2)))), (h_nv, .inl (cy_nv, 8000, .inl f_nv)), (h_na, .inl (cy_na, 8000, .inl f_na)), (h_nb, .inl (cy_nb, 8000, .inl f_nb)), (h_nc, .inl (cy_nc, 8000, .inl f_nc)), (h_bto, .inl (cy_bto, 256, .inl f_bto)), (h_bin, .inl (cy_bin, 256, .inl f_bin))] t.heap ∧ va_D A [(h_mm, .inr (8, (mo50 v_mm (.ref h_nv) (.ref h_na) (.ref h_nb) (.ref h_nc) (.ref h_bto) (.ref h_bin) (.int u.1) (.int u.2)))), (h_nv, .inl (cy_nv, 8000, .inl f_nv)), (h_na, .inl (cy_na, 8000, .inl f_na)), (h_nb, .inl (cy_nb, 8000, .inl f_nb)), (h_nc, .inl (cy_nc, 8000, .inl f_nc)), (h_bto, .inl (cy_bto, 256, .inl f_bto)), (h_bin, .inl (cy_bin, 256, .inl f_bin))]) A) ([.ref h_mm, .int p1, .int p2, .int p3] : List Value).toArray s 0 0 A) (F0 m 50 ls []) := by
      intro n
      induction n with
      | zero => intro x15 x16 x17 H locs ls klp18_0 klp18_1 klp18_2 klp18_3 hm hP hD hS hl; exact False.elim (by omega)
      | succ n ih => 
        intro x15 x16 x17 H locs ls klp18_0 klp18_1 klp18_2 klp18_3 hm hP hD hS hl
        have ih19 := ih
        clear ih
        refine lv_iload hx hb dX11_holds_50 (lv_at hl 6 rfl) ?_
        refine lv_aload_n hx hb dX11_holds_52 rfl (lv_at hl 0 rfl) ?_
        refine lv_iload hx hb dX11_holds_53 (lv_at hl 4 rfl) ?_
        have hPc := hP.sub (ws' := [(h_mm, .inr (8, (mo50 v_mm (.ref h_nv) (.ref h_na) (.ref h_nb) (.ref h_nc) (.ref h_bto) (.ref h_bin) (.int x16) (.int x17)))), (h_nv, .inl (cy_nv, 8000, .inl f_nv)), (h_na, .inl (cy_na, 8000, .inl f_na)), (h_nb, .inl (cy_nb, 8000, .inl f_nb)), (h_nc, .inl (cy_nc, 8000, .inl f_nc))]) [0, 1, 2, 3, 4] rfl
        have hDc := hD.sub (ws' := [(h_mm, .inr (8, (mo50 v_mm (.ref h_nv) (.ref h_na) (.ref h_nb) (.ref h_nc) (.ref h_bto) (.ref h_bin) (.int x16) (.int x17)))), (h_nv, .inl (cy_nv, 8000, .inl f_nv)), (h_na, .inl (cy_na, 8000, .inl f_na)), (h_nb, .inl (cy_nb, 8000, .inl f_nb)), (h_nc, .inl (cy_nc, 8000, .inl f_nc))]) [0, 1, 2, 3, 4] (by decide) rfl
        have hKc := hK.sub (tys' := [(cy_nv, .int), (cy_na, .int), (cy_nb, .int), (cy_nc, .int)]) [0, 1, 2, 3] rfl
        have hFc := va_free (wc := [(h_mm, .inr (8, (mo50 v_mm (.ref h_nv) (.ref h_na) (.ref h_nb) (.ref h_nc) (.ref h_bto) (.ref h_bin) (.int x16) (.int x17)))), (h_nv, .inl (cy_nv, 8000, .inl f_nv)), (h_na, .inl (cy_na, 8000, .inl f_na)), (h_nb, .inl (cy_nb, 8000, .inl f_nb)), (h_nc, .inl (cy_nc, 8000, .inl f_nc))]) hD hS hA [0, 1, 2, 3, 4] rfl
        refine va_calli (va_runV (As := [.int z2]) (rest := [.int x15]) ⟨hx, hb, hml, hown, hts⟩ (c_X11_partsAt_e l dC dI H.size h_mm h_nv h_na h_nb h_nc (fun k => List.getD (mo50 v_mm (.ref h_nv) (.ref h_na) (.ref h_nb) (.ref h_nc) (.ref h_bto) (.ref h_bin) (.int x16) (.int x17)) k .null) cy_nv f_nv cy_na f_na cy_nb f_nb cy_nc f_nc z2 hf_nv hf_na hf_nb hf_nc (by omega)) (cwV 1 hts (gv hT w_m_X11_27 w_instanceMethod_X11_partsAt ws_sel_X11_partsAt w_ini_X11 w_code_X11_partsAt) rfl rfl rfl (by decide +kernel) ⟨(by dsimp only [headSpec]; omega), (by dsimp only [headSpec]; omega)⟩) ⟨pre_blind, va_recv hK hP (ci := 8) (q0 := 0) rfl rfl, pre_of hPc hKc hDc hN⟩ rfl rfl hl.1 rfl (lv_room (Nat.le_of_ble_eq_true rfl)) dX11_holds_55 ⟨(Nat.le_of_ble_eq_true rfl), (Nat.le_of_ble_eq_true rfl)⟩) hS (fun q _ h => hFc q h) hFc (fun r20 u t H locs ht hvm hq hB hz1 hk1 hS => ?_)
        obtain ⟨hP1, hD1⟩ := hB
        rw [ht] at hP1
        obtain ⟨hP, hD⟩ := va_join (wr := [(h_bto, .inl (cy_bto, 256, .inl f_bto)), (h_bin, .inl (cy_bin, 256, .inl f_bin))]) (w1 := [(h_mm, .inr (8, (mo50 v_mm (.ref h_nv) (.ref h_na) (.ref h_nb) (.ref h_nc) (.ref h_bto) (.ref h_bin) (.int x16) (.int x17)))), (h_nv, .inl (cy_nv, 8000, .inl f_nv)), (h_na, .inl (cy_na, 8000, .inl f_na)), (h_nb, .inl (cy_nb, 8000, .inl f_nb)), (h_nc, .inl (cy_nc, 8000, .inl f_nc))]) hP hD [0, 1, 2, 3, 4] [5, 6] rfl rfl (by decide) (by decide) hk1 hFc hP1 hD1
        have hP : va_P (dC, dI) cls [(h_bto, .inl (cy_bto, 256, .inl f_bto)), (h_bin, .inl (cy_bin, 256, .inl f_bin)), (h_mm, .inr (8, (mo50 v_mm (.ref h_nv) (.ref h_na) (.ref h_nb) (.ref h_nc) (.ref h_bto) (.ref h_bin) (.int x16) (.int x17)))), (h_nv, .inl (cy_nv, 8000, .inl f_nv)), (h_na, .inl (cy_na, 8000, .inl f_na)), (h_nb, .inl (cy_nb, 8000, .inl f_nb)), (h_nc, .inl (cy_nc, 8000, .inl f_nc))] H := hP
        have hD : va_D A [(h_bto, .inl (cy_bto, 256, .inl f_bto)), (h_bin, .inl (cy_bin, 256, .inl f_bin)), (h_mm, .inr (8, (mo50 v_mm (.ref h_nv) (.ref h_na) (.ref h_nb) (.ref h_nc) (.ref h_bto) (.ref h_bin) (.int x16) (.int x17)))), (h_nv, .inl (cy_nv, 8000, .inl f_nv)), (h_na, .inl (cy_na, 8000, .inl f_na)), (h_nb, .inl (cy_nb, 8000, .inl f_nb)), (h_nc, .inl (cy_nc, 8000, .inl f_nc))] := hD
        obtain ⟨k21, k22⟩ := hq
        have k21 : 0 ≤ (r20).toInt ∧ (r20).toInt ≤ 3 := k21
        have k22 : ((r20)).toInt = (npx f_nv f_na f_nb f_nc ((z2)).toInt.toNat) := k22
        refine lv_icmp_ge (tgt := 87) hx hb dX11_holds_58 (by decide) (fun c23 => ?_) (fun c23 => ?_)
        · have kc23 := (cv_le (rfl : (r20).toInt = (r20).toInt) (rfl : (x15).toInt = (x15).toInt)).mp c23
          refine lv_iconst (v := 0) hx hb dX11_holds_87 (by decide) ?_
          have hP : va_P (dC, dI) cls [(h_mm, .inr (8, (mo50 v_mm (.ref h_nv) (.ref h_na) (.ref h_nb) (.ref h_nc) (.ref h_bto) (.ref h_bin) (.int x16) (.int x17)))), (h_nv, .inl (cy_nv, 8000, .inl f_nv)), (h_na, .inl (cy_na, 8000, .inl f_na)), (h_nb, .inl (cy_nb, 8000, .inl f_nb)), (h_nc, .inl (cy_nc, 8000, .inl f_nc)), (h_bto, .inl (cy_bto, 256, .inl f_bto)), (h_bin, .inl (cy_bin, 256, .inl f_bin))] H := hP.sub [2, 3, 4, 5, 6, 0, 1] rfl
          have hD : va_D A [(h_mm, .inr (8, (mo50 v_mm (.ref h_nv) (.ref h_na) (.ref h_nb) (.ref h_nc) (.ref h_bto) (.ref h_bin) (.int x16) (.int x17)))), (h_nv, .inl (cy_nv, 8000, .inl f_nv)), (h_na, .inl (cy_na, 8000, .inl f_na)), (h_nb, .inl (cy_nb, 8000, .inl f_nb)), (h_nc, .inl (cy_nc, 8000, .inl f_nc)), (h_bto, .inl (cy_bto, 256, .inl f_bto)), (h_bin, .inl (cy_bin, 256, .inl f_bin))] := hD.sub [2, 3, 4, 5, 6, 0, 1] (by decide) rfl
          refine W.widen (k := 0) (n := 0) (Nat.le_of_ble_eq_true rfl) (Nat.le_of_ble_eq_true rfl) ?_
          have cst0 : (0 : Int32).toInt = 0 := by decide
          have w24 : 0 ≤ ((x16)).toInt ∧ ((x16)).toInt ≤ 7999 := by omega
          have w25 : 0 ≤ ((x17)).toInt ∧ ((x17)).toInt ≤ 31 := by omega
          have w26 : 0 ≤ (0 : Int32).toInt ∧ (0 : Int32).toInt ≤ 1 := by omega
          have w27 : ((0 : Int32)).toInt = 1 ∨ NR f_nv f_na f_nb f_nc f_bto f_bin (p1).toInt.toNat (p2).toInt (p3).toInt.toNat := (Or.inr (k12 _ q6 (nr_node (by omega) (fun j h1 h2 => klp18_3 j h1 (by omega)))))
          exact W.zret (v := 0) (ty := .boolean) hx hb hr (by decide) (fun t ht hW => ⟨⟨0, (x16, x17), rfl, ⟨w24, w25, w26, w27⟩, by rw [ht]; exact hP, hD⟩, hS.F ht⟩) hS.2.2 dX11_holds_88
        · have kc23 := (not_congr (cv_le (rfl : (r20).toInt = (r20).toInt) (rfl : (x15).toInt = (x15).toInt))).mp c23
          refine lv_aload_n hx hb dX11_holds_61 rfl (lv_at hl 0 rfl) ?_
          refine lv_aload_n hx hb dX11_holds_62 rfl (lv_at hl 0 rfl) ?_
          refine lv_iload hx hb dX11_holds_63 (lv_at hl 4 rfl) ?_
          refine lv_iload hx hb dX11_holds_65 (lv_at hl 6 rfl) ?_
          have hPc := hP.sub (ws' := [(h_mm, .inr (8, (mo50 v_mm (.ref h_nv) (.ref h_na) (.ref h_nb) (.ref h_nc) (.ref h_bto) (.ref h_bin) (.int x16) (.int x17)))), (h_na, .inl (cy_na, 8000, .inl f_na)), (h_nb, .inl (cy_nb, 8000, .inl f_nb)), (h_nc, .inl (cy_nc, 8000, .inl f_nc))]) [2, 4, 5, 6] rfl
          have hDc := hD.sub (ws' := [(h_mm, .inr (8, (mo50 v_mm (.ref h_nv) (.ref h_na) (.ref h_nb) (.ref h_nc) (.ref h_bto) (.ref h_bin) (.int x16) (.int x17)))), (h_na, .inl (cy_na, 8000, .inl f_na)), (h_nb, .inl (cy_nb, 8000, .inl f_nb)), (h_nc, .inl (cy_nc, 8000, .inl f_nc))]) [2, 4, 5, 6] (by decide) rfl
          have hKc := hK.sub (tys' := [(cy_na, .int), (cy_nb, .int), (cy_nc, .int)]) [1, 2, 3] rfl
          have hFc := va_free (wc := [(h_mm, .inr (8, (mo50 v_mm (.ref h_nv) (.ref h_na) (.ref h_nb) (.ref h_nc) (.ref h_bto) (.ref h_bin) (.int x16) (.int x17)))), (h_na, .inl (cy_na, 8000, .inl f_na)), (h_nb, .inl (cy_nb, 8000, .inl f_nb)), (h_nc, .inl (cy_nc, 8000, .inl f_nc))]) hD hS hA [2, 4, 5, 6] rfl
          refine va_calli (va_runV (As := [.int z2, .int x15]) (rest := [.ref h_mm]) ⟨hx, hb, hml, hown, hts⟩ (c_X11_part_e l dC dI H.size h_mm h_na h_nb h_nc (fun k => List.getD (mo50 v_mm (.ref h_nv) (.ref h_na) (.ref h_nb) (.ref h_nc) (.ref h_bto) (.ref h_bin) (.int x16) (.int x17)) k .null) cy_na f_na cy_nb f_nb cy_nc f_nc z2 x15 hf_na hf_nb hf_nc (by omega)) (cwV 2 hts (gv hT w_m_X11_31 w_instanceMethod_X11_part ws_sel_X11_part w_ini_X11 w_code_X11_part) rfl rfl rfl (by decide +kernel) ⟨(by dsimp only [headSpec]; omega), (by dsimp only [headSpec]; omega)⟩) ⟨pre_blind, va_recv hK hP (ci := 8) (q0 := 2) rfl rfl, pre_of hPc hKc hDc hN⟩ rfl rfl hl.1 rfl (lv_room (Nat.le_of_ble_eq_true rfl)) dX11_holds_67 ⟨(Nat.le_of_ble_eq_true rfl), (Nat.le_of_ble_eq_true rfl)⟩) hS (fun q _ h => hFc q h) hFc (fun r28 u t H locs ht hvm hq hB hz1 hk1 hS => ?_)
          obtain ⟨hP1, hD1⟩ := hB
          rw [ht] at hP1
          obtain ⟨hP, hD⟩ := va_join (wr := [(h_bto, .inl (cy_bto, 256, .inl f_bto)), (h_bin, .inl (cy_bin, 256, .inl f_bin)), (h_nv, .inl (cy_nv, 8000, .inl f_nv))]) (w1 := [(h_mm, .inr (8, (mo50 v_mm (.ref h_nv) (.ref h_na) (.ref h_nb) (.ref h_nc) (.ref h_bto) (.ref h_bin) (.int x16) (.int x17)))), (h_na, .inl (cy_na, 8000, .inl f_na)), (h_nb, .inl (cy_nb, 8000, .inl f_nb)), (h_nc, .inl (cy_nc, 8000, .inl f_nc))]) hP hD [2, 4, 5, 6] [0, 1, 3] rfl rfl (by decide) (by decide) hk1 hFc hP1 hD1
          have hP : va_P (dC, dI) cls [(h_bto, .inl (cy_bto, 256, .inl f_bto)), (h_bin, .inl (cy_bin, 256, .inl f_bin)), (h_nv, .inl (cy_nv, 8000, .inl f_nv)), (h_mm, .inr (8, (mo50 v_mm (.ref h_nv) (.ref h_na) (.ref h_nb) (.ref h_nc) (.ref h_bto) (.ref h_bin) (.int x16) (.int x17)))), (h_na, .inl (cy_na, 8000, .inl f_na)), (h_nb, .inl (cy_nb, 8000, .inl f_nb)), (h_nc, .inl (cy_nc, 8000, .inl f_nc))] H := hP
          have hD : va_D A [(h_bto, .inl (cy_bto, 256, .inl f_bto)), (h_bin, .inl (cy_bin, 256, .inl f_bin)), (h_nv, .inl (cy_nv, 8000, .inl f_nv)), (h_mm, .inr (8, (mo50 v_mm (.ref h_nv) (.ref h_na) (.ref h_nb) (.ref h_nc) (.ref h_bto) (.ref h_bin) (.int x16) (.int x17)))), (h_na, .inl (cy_na, 8000, .inl f_na)), (h_nb, .inl (cy_nb, 8000, .inl f_nb)), (h_nc, .inl (cy_nc, 8000, .inl f_nc))] := hD
          obtain ⟨k29, k30⟩ := hq
          have k29 : -1 ≤ (r28).toInt ∧ (r28).toInt ≤ 7999 := k29
          have k30 : ((r28)).toInt = (ptx f_na f_nb f_nc ((z2)).toInt.toNat ((x15)).toInt).toInt := k30
          have cc9e : ptx f_na f_nb f_nc (z2).toInt.toNat (x15).toInt = r28 := Int32.toInt_inj.mp (by omega)
          have cc9c := ch_ok (nv := f_nv) (k := (x15).toInt) (x := (z2).toInt.toNat) hn_bi.1 (by omega) (by omega)
          rw [cc9e] at cc9c
          have cc9p := pa_ch (k := (x15).toInt) (k10) (by omega)
          rw [cc9e] at cc9p
          refine lv_iload hx hb dX11_holds_70 (lv_at hl 5 rfl) ?_
          refine lv_iload_n hx hb dX11_holds_72 rfl (lv_at hl 3 rfl) ?_
          have hPc := hP.sub (ws' := [(h_mm, .inr (8, (mo50 v_mm (.ref h_nv) (.ref h_na) (.ref h_nb) (.ref h_nc) (.ref h_bto) (.ref h_bin) (.int x16) (.int x17)))), (h_nv, .inl (cy_nv, 8000, .inl f_nv)), (h_na, .inl (cy_na, 8000, .inl f_na)), (h_nb, .inl (cy_nb, 8000, .inl f_nb)), (h_nc, .inl (cy_nc, 8000, .inl f_nc)), (h_bto, .inl (cy_bto, 256, .inl f_bto)), (h_bin, .inl (cy_bin, 256, .inl f_bin))]) [3, 2, 4, 5, 6, 0, 1] rfl
          have hDc := hD.sub (ws' := [(h_mm, .inr (8, (mo50 v_mm (.ref h_nv) (.ref h_na) (.ref h_nb) (.ref h_nc) (.ref h_bto) (.ref h_bin) (.int x16) (.int x17)))), (h_nv, .inl (cy_nv, 8000, .inl f_nv)), (h_na, .inl (cy_na, 8000, .inl f_na)), (h_nb, .inl (cy_nb, 8000, .inl f_nb)), (h_nc, .inl (cy_nc, 8000, .inl f_nc)), (h_bto, .inl (cy_bto, 256, .inl f_bto)), (h_bin, .inl (cy_bin, 256, .inl f_bin))]) [3, 2, 4, 5, 6, 0, 1] (by decide) rfl
          have hKc := hK.sub (tys' := [(cy_nv, .int), (cy_na, .int), (cy_nb, .int), (cy_nc, .int), (cy_bto, .int), (cy_bin, .int)]) [0, 1, 2, 3, 4, 5] rfl
          have hFc := va_free (wc := [(h_mm, .inr (8, (mo50 v_mm (.ref h_nv) (.ref h_na) (.ref h_nb) (.ref h_nc) (.ref h_bto) (.ref h_bin) (.int x16) (.int x17)))), (h_nv, .inl (cy_nv, 8000, .inl f_nv)), (h_na, .inl (cy_na, 8000, .inl f_na)), (h_nb, .inl (cy_nb, 8000, .inl f_nb)), (h_nc, .inl (cy_nc, 8000, .inl f_nc)), (h_bto, .inl (cy_bto, 256, .inl f_bto)), (h_bin, .inl (cy_bin, 256, .inl f_bin))]) hD hS hA [3, 2, 4, 5, 6, 0, 1] rfl
          refine va_calli (va_runV (As := [.int r28, .int z3, .int p3]) (rest := []) ⟨hx, hb, hml, hown, hts⟩ (ihf dC dI H.size h_mm h_nv h_na h_nb h_nc h_bto h_bin v_mm x16 x17 cy_nv f_nv cy_na f_na cy_nb f_nb cy_nc f_nc cy_bto f_bto cy_bin f_bin r28 z3 p3 i0 i1 N hz z4 (by omega) (by omega) hf_nv hf_na hf_nb hf_nc hf_bto hf_bin (by omega) (by omega) (by omega) (by omega) (by omega) (by omega) (by omega) hn_bi cc9p) (cwV 3 hts (gv hT w_m_X11_276 w_instanceMethod_X11_holds ws_sel_X11_holds w_ini_X11 w_code_X11_holds) rfl rfl rfl (by decide +kernel) ⟨(by dsimp only [headSpec]; omega), (by dsimp only [headSpec]; omega)⟩) ⟨pre_blind, va_recv hK hP (ci := 8) (q0 := 3) rfl rfl, pre_of hPc hKc hDc hN⟩ rfl rfl hl.1 rfl (lv_room (Nat.le_of_ble_eq_true rfl)) dX11_holds_73 ⟨(Nat.le_of_ble_eq_true rfl), (Nat.le_of_ble_eq_true rfl)⟩) hS (fun q _ h => hFc q h) hFc (fun r31 u t H locs ht hvm hq hB hz1 hk1 hS => ?_)
          obtain ⟨z32, z33⟩ := u
          obtain ⟨hP1, hD1⟩ := hB
          rw [ht] at hP1
          obtain ⟨hP, hD⟩ := va_join (wr := []) (w1 := [(h_mm, .inr (8, (mo50 v_mm (.ref h_nv) (.ref h_na) (.ref h_nb) (.ref h_nc) (.ref h_bto) (.ref h_bin) (.int z32) (.int z33)))), (h_nv, .inl (cy_nv, 8000, .inl f_nv)), (h_na, .inl (cy_na, 8000, .inl f_na)), (h_nb, .inl (cy_nb, 8000, .inl f_nb)), (h_nc, .inl (cy_nc, 8000, .inl f_nc)), (h_bto, .inl (cy_bto, 256, .inl f_bto)), (h_bin, .inl (cy_bin, 256, .inl f_bin))]) hP hD [3, 2, 4, 5, 6, 0, 1] [] rfl rfl (by decide) (by decide) hk1 hFc hP1 hD1
          have hP : va_P (dC, dI) cls [(h_mm, .inr (8, (mo50 v_mm (.ref h_nv) (.ref h_na) (.ref h_nb) (.ref h_nc) (.ref h_bto) (.ref h_bin) (.int z32) (.int z33)))), (h_nv, .inl (cy_nv, 8000, .inl f_nv)), (h_na, .inl (cy_na, 8000, .inl f_na)), (h_nb, .inl (cy_nb, 8000, .inl f_nb)), (h_nc, .inl (cy_nc, 8000, .inl f_nc)), (h_bto, .inl (cy_bto, 256, .inl f_bto)), (h_bin, .inl (cy_bin, 256, .inl f_bin))] H := hP
          have hD : va_D A [(h_mm, .inr (8, (mo50 v_mm (.ref h_nv) (.ref h_na) (.ref h_nb) (.ref h_nc) (.ref h_bto) (.ref h_bin) (.int z32) (.int z33)))), (h_nv, .inl (cy_nv, 8000, .inl f_nv)), (h_na, .inl (cy_na, 8000, .inl f_na)), (h_nb, .inl (cy_nb, 8000, .inl f_nb)), (h_nc, .inl (cy_nc, 8000, .inl f_nc)), (h_bto, .inl (cy_bto, 256, .inl f_bto)), (h_bin, .inl (cy_bin, 256, .inl f_bin))] := hD
          obtain ⟨k34, k35, k36, k37⟩ := hq
          have k34 : 0 ≤ ((z32)).toInt ∧ ((z32)).toInt ≤ 7999 := k34
          have k35 : 0 ≤ ((z33)).toInt ∧ ((z33)).toInt ≤ 31 := k35
          have k36 : 0 ≤ (r31).toInt ∧ (r31).toInt ≤ 1 := k36
          have k37 : ((r31)).toInt = 1 ∨ NR f_nv f_na f_nb f_nc f_bto f_bin ((r28)).toInt.toNat ((z3)).toInt ((p3)).toInt.toNat := k37
          refine lv_if_eq (tgt := 81) hx hb dX11_holds_76 (by decide) (fun c38 => ?_) (fun c38 => ?_)
          · have kc38 := (cv_eq (rfl : (r31).toInt = (r31).toInt) (by decide : (0 : Int32).toInt = 0)).mp c38
            have nk39 : ∀ j : Int, 0 ≤ j → j < (x15).toInt + 1 → NR f_nv f_na f_nb f_nc f_bto f_bin (ptx f_na f_nb f_nc (z2).toInt.toNat j).toInt.toNat (z3).toInt (p3).toInt.toNat := nrk_step klp18_3 (by rw [cc9e]; exact (k37).resolve_left (by omega))
            obtain ⟨z40, ez40⟩ : ∃ y : Int32, y = x15 + 1 := ⟨_, rfl⟩
            have tz40 : (z40).toInt = (x15).toInt + 1 := by rw [ez40]; exact i_add rfl (by decide) (by omega)
            refine lv_iinc (v := z40) (lv' := [(6, .int z40), (0, .ref h_mm), (1, .int p1), (2, .int p2), (3, .int p3), (4, .int z2), (5, .int z3)]) hx hb dX11_holds_81 hl (k := 6) rfl (by rw [ez40]; rfl) (by decide) rfl (fun ls hl => ?_)
            refine lv_goto (tgt := 50) hx hb dX11_holds_84 (by decide) ?_
            exact ih19 (z40) (z32) (z33) _ _ _ (by omega) (by omega) (by omega) (fun j h1 h2 => nk39 j h1 (by omega)) (by omega) hP hD hS (lv_sub hl [1, 2, 3, 4, 5, 6, 0] rfl)
          · have kc38 := (not_congr (cv_eq (rfl : (r31).toInt = (r31).toInt) (by decide : (0 : Int32).toInt = 0))).mp c38
            refine lv_iconst (v := 1) hx hb dX11_holds_79 (by decide) ?_
            refine W.widen (k := 0) (n := 0) (Nat.le_of_ble_eq_true rfl) (Nat.le_of_ble_eq_true rfl) ?_
            have cst1 : (1 : Int32).toInt = 1 := by decide
            have w41 : 0 ≤ ((z32)).toInt ∧ ((z32)).toInt ≤ 7999 := by omega
            have w42 : 0 ≤ ((z33)).toInt ∧ ((z33)).toInt ≤ 31 := by omega
            have w43 : 0 ≤ (1 : Int32).toInt ∧ (1 : Int32).toInt ≤ 1 := by omega
            have w44 : ((1 : Int32)).toInt = 1 ∨ NR f_nv f_na f_nb f_nc f_bto f_bin (p1).toInt.toNat (p2).toInt (p3).toInt.toNat := (Or.inl (by decide))
            exact W.zret (v := 1) (ty := .boolean) hx hb hr (by decide) (fun t ht hW => ⟨⟨1, (z32, z33), rfl, ⟨w41, w42, w43, w44⟩, by rw [ht]; exact hP, hD⟩, hS.F ht⟩) hS.2.2 dX11_holds_80
    have cst0 : (0 : Int32).toInt = 0 := by decide
    exact lp18 _ (0) (z2) (z3) _ _ _ (by decide) (by omega) (by omega) (fun j h1 h2 => nk0 j h1 (by omega)) (Nat.le_refl _) hP hD hS (lv_sub hl [3, 4, 5, 6, 2, 1, 0] rfl)
  · have kc14 := (not_congr (cv_eq (rfl : (z13).toInt = (z13).toInt) (by decide : ((-1) : Int32).toInt = -1))).mp c14
    refine lv_aload_n hx hb dX11_holds_29 rfl (lv_at hl 2 rfl) ?_
    refine lv_iload hx hb dX11_holds_30 (lv_at hl 1 rfl) ?_
    refine lv_iload hx hb dX11_holds_32 (lv_at hl 0 rfl) ?_
    have hPc := hP.sub (ws' := [(h_mm, .inr (8, (mo50 v_mm (.ref h_nv) (.ref h_na) (.ref h_nb) (.ref h_nc) (.ref h_bto) (.ref h_bin) (.int z2) (.int z3)))), (h_nv, .inl (cy_nv, 8000, .inl f_nv))]) [0, 1] rfl
    have hDc := hD.sub (ws' := [(h_mm, .inr (8, (mo50 v_mm (.ref h_nv) (.ref h_na) (.ref h_nb) (.ref h_nc) (.ref h_bto) (.ref h_bin) (.int z2) (.int z3)))), (h_nv, .inl (cy_nv, 8000, .inl f_nv))]) [0, 1] (by decide) rfl
    have hKc := hK.sub (tys' := [(cy_nv, .int)]) [0] rfl
    have hFc := va_free (wc := [(h_mm, .inr (8, (mo50 v_mm (.ref h_nv) (.ref h_na) (.ref h_nb) (.ref h_nc) (.ref h_bto) (.ref h_bin) (.int z2) (.int z3)))), (h_nv, .inl (cy_nv, 8000, .inl f_nv))]) hD hS hA [0, 1] rfl
    refine va_calli (va_runV (As := [.int z2, .int z3]) (rest := []) ⟨hx, hb, hml, hown, hts⟩ (c_X11_slotOf l dC dI H.size h_mm h_nv (fun k => List.getD (mo50 v_mm (.ref h_nv) (.ref h_na) (.ref h_nb) (.ref h_nc) (.ref h_bto) (.ref h_bin) (.int z2) (.int z3)) k .null) cy_nv f_nv z2 z3 hf_nv (by omega) (by omega)) (cwV 2 hts (gv hT w_m_X11_270 w_instanceMethod_X11_slotOf ws_sel_X11_slotOf w_ini_X11 w_code_X11_slotOf) rfl rfl rfl (by decide +kernel) ⟨(by dsimp only [headSpec]; omega), (by dsimp only [headSpec]; omega)⟩) ⟨pre_blind, va_recv hK hP (ci := 8) (q0 := 0) rfl rfl, pre_of hPc hKc hDc hN⟩ rfl rfl hl.1 rfl (lv_room (Nat.le_of_ble_eq_true rfl)) dX11_holds_34 ⟨(Nat.le_of_ble_eq_true rfl), (Nat.le_of_ble_eq_true rfl)⟩) hS (fun q _ h => hFc q h) hFc (fun r45 u t H locs ht hvm hq hB hz1 hk1 hS => ?_)
    obtain ⟨hP1, hD1⟩ := hB
    rw [ht] at hP1
    obtain ⟨hP, hD⟩ := va_join (wr := [(h_na, .inl (cy_na, 8000, .inl f_na)), (h_nb, .inl (cy_nb, 8000, .inl f_nb)), (h_nc, .inl (cy_nc, 8000, .inl f_nc)), (h_bto, .inl (cy_bto, 256, .inl f_bto)), (h_bin, .inl (cy_bin, 256, .inl f_bin))]) (w1 := [(h_mm, .inr (8, (mo50 v_mm (.ref h_nv) (.ref h_na) (.ref h_nb) (.ref h_nc) (.ref h_bto) (.ref h_bin) (.int z2) (.int z3)))), (h_nv, .inl (cy_nv, 8000, .inl f_nv))]) hP hD [0, 1] [2, 3, 4, 5, 6] rfl rfl (by decide) (by decide) hk1 hFc hP1 hD1
    have hP : va_P (dC, dI) cls [(h_na, .inl (cy_na, 8000, .inl f_na)), (h_nb, .inl (cy_nb, 8000, .inl f_nb)), (h_nc, .inl (cy_nc, 8000, .inl f_nc)), (h_bto, .inl (cy_bto, 256, .inl f_bto)), (h_bin, .inl (cy_bin, 256, .inl f_bin)), (h_mm, .inr (8, (mo50 v_mm (.ref h_nv) (.ref h_na) (.ref h_nb) (.ref h_nc) (.ref h_bto) (.ref h_bin) (.int z2) (.int z3)))), (h_nv, .inl (cy_nv, 8000, .inl f_nv))] H := hP
    have hD : va_D A [(h_na, .inl (cy_na, 8000, .inl f_na)), (h_nb, .inl (cy_nb, 8000, .inl f_nb)), (h_nc, .inl (cy_nc, 8000, .inl f_nc)), (h_bto, .inl (cy_bto, 256, .inl f_bto)), (h_bin, .inl (cy_bin, 256, .inl f_bin)), (h_mm, .inr (8, (mo50 v_mm (.ref h_nv) (.ref h_na) (.ref h_nb) (.ref h_nc) (.ref h_bto) (.ref h_bin) (.int z2) (.int z3)))), (h_nv, .inl (cy_nv, 8000, .inl f_nv))] := hD
    obtain ⟨k46, k47⟩ := hq
    have k46 : -1 ≤ (r45).toInt ∧ (r45).toInt ≤ 255 := k46
    have k47 : ((r45)).toInt = 8 * ((z3)).toInt + (f_nv ((z2)).toInt.toNat).toInt := k47
    refine lv_iload_n hx hb dX11_holds_37 rfl (lv_at hl 5 rfl) ?_
    refine lv_icmp_ne (tgt := 45) hx hb dX11_holds_38 (by decide) (fun c48 => ?_) (fun c48 => ?_)
    · have kc48 := (not_congr (cv_eq (rfl : (r45).toInt = (r45).toInt) (rfl : (p3).toInt = (p3).toInt))).mp c48
      have hvz13 : (f_nv (z2).toInt.toNat).toInt = (z13).toInt := by rw [ez13, (clamp_nat (i := z2) (by omega))]
      have tb9 := (k11).resolve_left (by omega)
      refine lv_iconst (v := 0) hx hb dX11_holds_45 (by decide) ?_
      have hP : va_P (dC, dI) cls [(h_mm, .inr (8, (mo50 v_mm (.ref h_nv) (.ref h_na) (.ref h_nb) (.ref h_nc) (.ref h_bto) (.ref h_bin) (.int z2) (.int z3)))), (h_nv, .inl (cy_nv, 8000, .inl f_nv)), (h_na, .inl (cy_na, 8000, .inl f_na)), (h_nb, .inl (cy_nb, 8000, .inl f_nb)), (h_nc, .inl (cy_nc, 8000, .inl f_nc)), (h_bto, .inl (cy_bto, 256, .inl f_bto)), (h_bin, .inl (cy_bin, 256, .inl f_bin))] H := hP.sub [5, 6, 0, 1, 2, 3, 4] rfl
      have hD : va_D A [(h_mm, .inr (8, (mo50 v_mm (.ref h_nv) (.ref h_na) (.ref h_nb) (.ref h_nc) (.ref h_bto) (.ref h_bin) (.int z2) (.int z3)))), (h_nv, .inl (cy_nv, 8000, .inl f_nv)), (h_na, .inl (cy_na, 8000, .inl f_na)), (h_nb, .inl (cy_nb, 8000, .inl f_nb)), (h_nc, .inl (cy_nc, 8000, .inl f_nc)), (h_bto, .inl (cy_bto, 256, .inl f_bto)), (h_bin, .inl (cy_bin, 256, .inl f_bin))] := hD.sub [5, 6, 0, 1, 2, 3, 4] (by decide) rfl
      refine W.widen (k := 0) (n := 0) (Nat.le_of_ble_eq_true rfl) (Nat.le_of_ble_eq_true rfl) ?_
      have cst0 : (0 : Int32).toInt = 0 := by decide
      have w49 : 0 ≤ ((z2)).toInt ∧ ((z2)).toInt ≤ 7999 := by omega
      have w50 : 0 ≤ ((z3)).toInt ∧ ((z3)).toInt ≤ 31 := by omega
      have w51 : 0 ≤ (0 : Int32).toInt ∧ (0 : Int32).toInt ≤ 1 := by omega
      have w52 : ((0 : Int32)).toInt = 1 ∨ NR f_nv f_na f_nb f_nc f_bto f_bin (p1).toInt.toNat (p2).toInt (p3).toInt.toNat := (Or.inr (k12 _ q6 (nr_var (s := (8 * (z3).toInt + (f_nv (z2).toInt.toNat).toInt).toNat) (by omega) (by omega) tb9 (by omega))))
      exact W.zret (v := 0) (ty := .boolean) hx hb hr (by decide) (fun t ht hW => ⟨⟨0, (z2, z3), rfl, ⟨w49, w50, w51, w52⟩, by rw [ht]; exact hP, hD⟩, hS.F ht⟩) hS.2.2 dX11_holds_46
    · have kc48 := (cv_eq (rfl : (r45).toInt = (r45).toInt) (rfl : (p3).toInt = (p3).toInt)).mp c48
      refine lv_iconst (v := 1) hx hb dX11_holds_41 (by decide) ?_
      refine lv_goto (tgt := 46) hx hb dX11_holds_42 (by decide) ?_
      have hP : va_P (dC, dI) cls [(h_mm, .inr (8, (mo50 v_mm (.ref h_nv) (.ref h_na) (.ref h_nb) (.ref h_nc) (.ref h_bto) (.ref h_bin) (.int z2) (.int z3)))), (h_nv, .inl (cy_nv, 8000, .inl f_nv)), (h_na, .inl (cy_na, 8000, .inl f_na)), (h_nb, .inl (cy_nb, 8000, .inl f_nb)), (h_nc, .inl (cy_nc, 8000, .inl f_nc)), (h_bto, .inl (cy_bto, 256, .inl f_bto)), (h_bin, .inl (cy_bin, 256, .inl f_bin))] H := hP.sub [5, 6, 0, 1, 2, 3, 4] rfl
      have hD : va_D A [(h_mm, .inr (8, (mo50 v_mm (.ref h_nv) (.ref h_na) (.ref h_nb) (.ref h_nc) (.ref h_bto) (.ref h_bin) (.int z2) (.int z3)))), (h_nv, .inl (cy_nv, 8000, .inl f_nv)), (h_na, .inl (cy_na, 8000, .inl f_na)), (h_nb, .inl (cy_nb, 8000, .inl f_nb)), (h_nc, .inl (cy_nc, 8000, .inl f_nc)), (h_bto, .inl (cy_bto, 256, .inl f_bto)), (h_bin, .inl (cy_bin, 256, .inl f_bin))] := hD.sub [5, 6, 0, 1, 2, 3, 4] (by decide) rfl
      refine W.widen (k := 0) (n := 0) (Nat.le_of_ble_eq_true rfl) (Nat.le_of_ble_eq_true rfl) ?_
      have cst1 : (1 : Int32).toInt = 1 := by decide
      have w53 : 0 ≤ ((z2)).toInt ∧ ((z2)).toInt ≤ 7999 := by omega
      have w54 : 0 ≤ ((z3)).toInt ∧ ((z3)).toInt ≤ 31 := by omega
      have w55 : 0 ≤ (1 : Int32).toInt ∧ (1 : Int32).toInt ≤ 1 := by omega
      have w56 : ((1 : Int32)).toInt = 1 ∨ NR f_nv f_na f_nb f_nc f_bto f_bin (p1).toInt.toNat (p2).toInt (p3).toInt.toNat := (Or.inl (by decide))
      exact W.zret (v := 1) (ty := .boolean) hx hb hr (by decide) (fun t ht hW => ⟨⟨1, (z2, z3), rfl, ⟨w53, w54, w55, w56⟩, by rw [ht]; exact hP, hD⟩, hS.F ht⟩) hS.2.2 dX11_holds_46

set_option maxHeartbeats 8000000 in
set_option maxRecDepth 100000 in
theorem c_X11_binds (l : Launch) (dC : Nat → ClassId) (dI : Nat → Nat → Nat) (sz : Nat) (h_mm : Nat) (h_bto : Nat) (h_bin : Nat) (h_tra : Nat) (v_mm : Nat → Value) (x_mm_trailed : Int32) (cy_bto : ClassId) (f_bto : Nat → Int32) (cy_bin : ClassId) (f_bin : Nat → Int32) (cy_tra : ClassId) (f_tra : Nat → Int32) (p1 : Int32) (p2 : Int32) (p3 : Int32) (hx_mm_trailed : 0 ≤ (x_mm_trailed).toInt ∧ (x_mm_trailed).toInt ≤ 256) (hf_bto : Rg (-1) 7999 f_bto) (hf_bin : Rg 0 31 f_bin) (hf_tra : Rg 0 255 f_tra) (q0 : 0 ≤ (p1).toInt ∧ (p1).toInt ≤ 255) (q1 : 0 ≤ (p2).toInt ∧ (p2).toInt ≤ 7999) (q2 : 0 ≤ (p3).toInt ∧ (p3).toInt ≤ 31) (q3 : (x_mm_trailed).toInt ≤ 255) : Met l yX11_binds (Ws yX11_binds cX11_binds 4 none) (({ frames := 0, cells := 0, slots := 0, locals := 0 } : Room)) (PRE (dC, dI) cls [(cy_bto, .int), (cy_bin, .int), (cy_tra, .int)] [(h_mm, .inr (8, (mo51 v_mm (.ref h_bto) (.ref h_bin) (.ref h_tra) (.int x_mm_trailed)))), (h_bto, .inl (cy_bto, 256, .inl f_bto)), (h_bin, .inl (cy_bin, 256, .inl f_bin)), (h_tra, .inl (cy_tra, 256, .inl f_tra))] sz [.ref h_mm, .int p1, .int p2, .int p3]) (va_Qv (fun (u : (Int32) × (Nat → Int32) × (Nat → Int32) × (Nat → Int32)) => (0 ≤ (u.1).toInt ∧ (u.1).toInt ≤ 256) ∧ (Rg (-1) 7999 u.2.1) ∧ (Rg 0 31 u.2.2.1) ∧ (Rg 0 255 u.2.2.2) ∧ ((u.1).toInt = (x_mm_trailed).toInt + 1) ∧ (u.2.1 = upd f_bto (Int32.toNatClampNeg p1) p2 ∧ u.2.2.1 = upd f_bin (Int32.toNatClampNeg p1) p3 ∧ u.2.2.2 = upd f_tra (Int32.toNatClampNeg x_mm_trailed) p1)) (fun (u : (Int32) × (Nat → Int32) × (Nat → Int32) × (Nat → Int32)) (t : State) => va_P (dC, dI) cls [(h_mm, .inr (8, (mo51 v_mm (.ref h_bto) (.ref h_bin) (.ref h_tra) (.int u.1)))), (h_bto, .inl (cy_bto, 256, .inl u.2.1)), (h_bin, .inl (cy_bin, 256, .inl u.2.2.1)), (h_tra, .inl (cy_tra, 256, .inl u.2.2.2))] t.heap ∧ va_D (va_A [(h_mm, .inr (8, (mo51 v_mm (.ref h_bto) (.ref h_bin) (.ref h_tra) (.int x_mm_trailed)))), (h_bto, .inl (cy_bto, 256, .inl f_bto)), (h_bin, .inl (cy_bin, 256, .inl f_bin)), (h_tra, .inl (cy_tra, 256, .inl f_tra))] sz) [(h_mm, .inr (8, (mo51 v_mm (.ref h_bto) (.ref h_bin) (.ref h_tra) (.int u.1)))), (h_bto, .inl (cy_bto, 256, .inl u.2.1)), (h_bin, .inl (cy_bin, 256, .inl u.2.2.1)), (h_tra, .inl (cy_tra, 256, .inl u.2.2.2))]) (va_A [(h_mm, .inr (8, (mo51 v_mm (.ref h_bto) (.ref h_bin) (.ref h_tra) (.int x_mm_trailed)))), (h_bto, .inl (cy_bto, 256, .inl f_bto)), (h_bin, .inl (cy_bin, 256, .inl f_bin)), (h_tra, .inl (cy_tra, 256, .inl f_tra))] sz)) 0 0 (va_A [(h_mm, .inr (8, (mo51 v_mm (.ref h_bto) (.ref h_bin) (.ref h_tra) (.int x_mm_trailed)))), (h_bto, .inl (cy_bto, 256, .inl f_bto)), (h_bin, .inl (cy_bin, 256, .inl f_bin)), (h_tra, .inl (cy_tra, 256, .inl f_tra))] sz) := by
  refine Met.ofW (cc := cX11_binds) (maxL := 4) (ret := none) (by decide) rfl ?_
  intro p e s m args below meth c s₁ B hml hv
  obtain ⟨rfl, hsz, hP, hK, hD0, hN⟩ := hv
  have hx := B.exec
  have hb := B.bytes
  have hr := B.returns
  have hts := atoms_spec (ws := Ws yX11_binds cX11_binds 4 none) B.pre
  have hT : ∀ w ∈ WALL, w ∈ Ws yX11_binds cX11_binds 4 none := fun w h => List.mem_cons_of_mem _ h
  have hw := fun w (h : w ∈ WALL) => hts w (hT w h)
  have hown : s.vm.findClass RX11 = some m.cls := findClass_of_methodNamed B.named
  have hlocks := B.notSynchronized
  subst hsz
  have hD := hD0.self (sz := s.heap.size)
  generalize hAe : va_A [(h_mm, .inr (8, (mo51 v_mm (.ref h_bto) (.ref h_bin) (.ref h_tra) (.int x_mm_trailed)))), (h_bto, .inl (cy_bto, 256, .inl f_bto)), (h_bin, .inl (cy_bin, 256, .inl f_bin)), (h_tra, .inl (cy_tra, 256, .inl f_tra))] s.heap.size = A at hD ⊢
  have hA : ∀ q : Nat, s.heap.size ≤ q → A q := fun q h => by rw [← hAe]; exact Or.inr h
  have hS : va_S A s.heap s.heap [] := va_S.rf
  have hl := lv_entry ([.ref h_mm, .int p1, .int p2, .int p3]) (n := 4) (Nat.le_of_ble_eq_true rfl)
  rw [lg_entry_eq]
  generalize (lg_sl ([.ref h_mm, .int p1, .int p2, .int p3]) ++ List.replicate (4 - (lg_sl ([.ref h_mm, .int p1, .int p2, .int p3])).length) Slot.unset).toArray = ls at hl ⊢
  have hl : lv_has ls 4 [(0, .ref h_mm), (1, .int p1), (2, .int p2), (3, .int p3)] := hl
  refine lv_aload_n hx hb dX11_binds_0 rfl (lv_at hl 0 rfl) ?_
  refine va_get (D := (dC, dI)) (ci := 8) (v := .ref h_bto) (C := RX11) (T := TX11) (N := 71) hx hb hw iwX11 hown hK hP 0 rfl rfl 27 (by decide) (hw _ w_f_X11_195) (fun _ h9 => h9) rfl dX11_binds_1 ?_
  refine lv_iload_n hx hb dX11_binds_4 rfl (lv_at hl 1 rfl) ?_
  refine lv_iload_n hx hb dX11_binds_5 rfl (lv_at hl 2 rfl) ?_
  refine va_iast hx hb hK hP hD hS 1 0 rfl rfl (i := p1) (x := p2) (vp_in_iff.mpr (by omega)) dX11_binds_6 (fun H locs hP hD hS => ?_)
  obtain ⟨f1, ef1⟩ : ∃ g : Nat → Int32, g = upd f_bto (Int32.toNatClampNeg p1) p2 := ⟨_, rfl⟩
  have hP : va_P (dC, dI) cls [(h_mm, .inr (8, (mo51 v_mm (.ref h_bto) (.ref h_bin) (.ref h_tra) (.int x_mm_trailed)))), (h_bto, .inl (cy_bto, 256, .inl f1)), (h_bin, .inl (cy_bin, 256, .inl f_bin)), (h_tra, .inl (cy_tra, 256, .inl f_tra))] H := by rw [ef1]; exact hP
  have hD : va_D A [(h_mm, .inr (8, (mo51 v_mm (.ref h_bto) (.ref h_bin) (.ref h_tra) (.int x_mm_trailed)))), (h_bto, .inl (cy_bto, 256, .inl f1)), (h_bin, .inl (cy_bin, 256, .inl f_bin)), (h_tra, .inl (cy_tra, 256, .inl f_tra))] := by rw [ef1]; exact hD
  have hf1 : Rg (-1) 7999 f1 := by rw [ef1]; exact rg_upd hf_bto (by omega)
  refine lv_aload_n hx hb dX11_binds_7 rfl (lv_at hl 0 rfl) ?_
  refine va_get (D := (dC, dI)) (ci := 8) (v := .ref h_bin) (C := RX11) (T := TX11) (N := 71) hx hb hw iwX11 hown hK hP 0 rfl rfl 28 (by decide) (hw _ w_f_X11_198) (fun _ h9 => h9) rfl dX11_binds_8 ?_
  refine lv_iload_n hx hb dX11_binds_11 rfl (lv_at hl 1 rfl) ?_
  refine lv_iload_n hx hb dX11_binds_12 rfl (lv_at hl 3 rfl) ?_
  refine va_iast hx hb hK hP hD hS 2 1 rfl rfl (i := p1) (x := p3) (vp_in_iff.mpr (by omega)) dX11_binds_13 (fun H locs hP hD hS => ?_)
  obtain ⟨f2, ef2⟩ : ∃ g : Nat → Int32, g = upd f_bin (Int32.toNatClampNeg p1) p3 := ⟨_, rfl⟩
  have hP : va_P (dC, dI) cls [(h_mm, .inr (8, (mo51 v_mm (.ref h_bto) (.ref h_bin) (.ref h_tra) (.int x_mm_trailed)))), (h_bto, .inl (cy_bto, 256, .inl f1)), (h_bin, .inl (cy_bin, 256, .inl f2)), (h_tra, .inl (cy_tra, 256, .inl f_tra))] H := by rw [ef2]; exact hP
  have hD : va_D A [(h_mm, .inr (8, (mo51 v_mm (.ref h_bto) (.ref h_bin) (.ref h_tra) (.int x_mm_trailed)))), (h_bto, .inl (cy_bto, 256, .inl f1)), (h_bin, .inl (cy_bin, 256, .inl f2)), (h_tra, .inl (cy_tra, 256, .inl f_tra))] := by rw [ef2]; exact hD
  have hf2 : Rg 0 31 f2 := by rw [ef2]; exact rg_upd hf_bin (by omega)
  refine lv_aload_n hx hb dX11_binds_14 rfl (lv_at hl 0 rfl) ?_
  refine va_get (D := (dC, dI)) (ci := 8) (v := .ref h_tra) (C := RX11) (T := TX11) (N := 71) hx hb hw iwX11 hown hK hP 0 rfl rfl 29 (by decide) (hw _ w_f_X11_201) (fun _ h9 => h9) rfl dX11_binds_15 ?_
  refine lv_aload_n hx hb dX11_binds_18 rfl (lv_at hl 0 rfl) ?_
  refine va_get (D := (dC, dI)) (ci := 8) (v := .int x_mm_trailed) (C := RX11) (T := TX11) (N := 71) hx hb hw iwX11 hown hK hP 0 rfl rfl 30 (by decide) (hw _ w_f_X11_261) (fun _ h9 => h9) rfl dX11_binds_19 ?_
  refine lv_iload_n hx hb dX11_binds_22 rfl (lv_at hl 1 rfl) ?_
  refine va_iast hx hb hK hP hD hS 3 2 rfl rfl (i := x_mm_trailed) (x := p1) (vp_in_iff.mpr (by omega)) dX11_binds_23 (fun H locs hP hD hS => ?_)
  obtain ⟨f3, ef3⟩ : ∃ g : Nat → Int32, g = upd f_tra (Int32.toNatClampNeg x_mm_trailed) p1 := ⟨_, rfl⟩
  have hP : va_P (dC, dI) cls [(h_mm, .inr (8, (mo51 v_mm (.ref h_bto) (.ref h_bin) (.ref h_tra) (.int x_mm_trailed)))), (h_bto, .inl (cy_bto, 256, .inl f1)), (h_bin, .inl (cy_bin, 256, .inl f2)), (h_tra, .inl (cy_tra, 256, .inl f3))] H := by rw [ef3]; exact hP
  have hD : va_D A [(h_mm, .inr (8, (mo51 v_mm (.ref h_bto) (.ref h_bin) (.ref h_tra) (.int x_mm_trailed)))), (h_bto, .inl (cy_bto, 256, .inl f1)), (h_bin, .inl (cy_bin, 256, .inl f2)), (h_tra, .inl (cy_tra, 256, .inl f3))] := by rw [ef3]; exact hD
  have hf3 : Rg 0 255 f3 := by rw [ef3]; exact rg_upd hf_tra (by omega)
  refine lv_aload_n hx hb dX11_binds_24 rfl (lv_at hl 0 rfl) ?_
  refine lv_aload_n hx hb dX11_binds_25 rfl (lv_at hl 0 rfl) ?_
  refine va_get (D := (dC, dI)) (ci := 8) (v := .int x_mm_trailed) (C := RX11) (T := TX11) (N := 71) hx hb hw iwX11 hown hK hP 0 rfl rfl 30 (by decide) (hw _ w_f_X11_261) (fun _ h9 => h9) rfl dX11_binds_26 ?_
  refine lv_iconst (v := 1) hx hb dX11_binds_29 (by decide) ?_
  refine lv_iadd hx hb dX11_binds_30 ?_
  refine lv_topi (fun z4 ez4 => ?_)
  have tz4 : (z4).toInt = (x_mm_trailed).toInt + 1 := by rw [ez4]; exact i_add rfl (by decide) (by omega)
  refine va_put (D := (dC, dI)) (ci := 8) (v := .int z4) (ty := tyX11 30) (C := RX11) (T := TX11) (N := 71) hx hb hw iwX11 tyX11 tyX11_ok nmX11 hown hK hP hD hS 0 rfl rfl 30 (by decide) (hw _ w_f_X11_261) (fun _ h9 => h9) rfl (tyX11_ok 30 (by decide)) rfl rfl (Nat.le_of_ble_eq_true rfl) dX11_binds_31 (fun H locs hP hD hS => ?_)
  have hP : va_P (dC, dI) cls [(h_mm, .inr (8, (mo51 v_mm (.ref h_bto) (.ref h_bin) (.ref h_tra) (.int z4)))), (h_bto, .inl (cy_bto, 256, .inl f1)), (h_bin, .inl (cy_bin, 256, .inl f2)), (h_tra, .inl (cy_tra, 256, .inl f3))] H := hP
  have hD : va_D A [(h_mm, .inr (8, (mo51 v_mm (.ref h_bto) (.ref h_bin) (.ref h_tra) (.int z4)))), (h_bto, .inl (cy_bto, 256, .inl f1)), (h_bin, .inl (cy_bin, 256, .inl f2)), (h_tra, .inl (cy_tra, 256, .inl f3))] := hD
  refine W.widen (k := 0) (n := 0) (Nat.le_of_ble_eq_true rfl) (Nat.le_of_ble_eq_true rfl) ?_
  have w5 : 0 ≤ ((z4)).toInt ∧ ((z4)).toInt ≤ 256 := by omega
  have w6 : ((z4)).toInt = (x_mm_trailed).toInt + 1 := by omega
  have w7 : (f1) = upd f_bto (Int32.toNatClampNeg p1) p2 ∧ (f2) = upd f_bin (Int32.toNatClampNeg p1) p3 ∧ (f3) = upd f_tra (Int32.toNatClampNeg x_mm_trailed) p1 := ⟨ef1, ef2, ef3⟩
  exact W.vret hx hb hr (fun t ht hW => ⟨⟨(z4, f1, f2, f3), rfl, ⟨w5, hf1, hf2, hf3, w6, w7⟩, by rw [ht]; exact hP, hD⟩, hS.F ht⟩) hS.2.2 dX11_binds_34

def K_X11_unifies (l : Launch) (fu : Nat) : Prop := ∀ (dC : Nat → ClassId) (dI : Nat → Nat → Nat) (sz : Nat) (h_mm : Nat) (h_nv : Nat) (h_na : Nat) (h_nb : Nat) (h_nc : Nat) (h_bto : Nat) (h_bin : Nat) (h_nn : Nat) (h_tra : Nat) (v_mm : Nat → Value) (x_mm_trailed : Int32) (x_mm_goneTo : Int32) (x_mm_goneIn : Int32) (cy_nv : ClassId) (f_nv : Nat → Int32) (cy_na : ClassId) (f_na : Nat → Int32) (cy_nb : ClassId) (f_nb : Nat → Int32) (cy_nc : ClassId) (f_nc : Nat → Int32) (cy_bto : ClassId) (f_bto : Nat → Int32) (cy_bin : ClassId) (f_bin : Nat → Int32) (cy_nn : ClassId) (f_nn : Nat → Int64) (cy_tra : ClassId) (f_tra : Nat → Int32) (p1 : Int32) (p2 : Int32) (p3 : Int32) (p4 : Int32) (i0 : Int) (i1 : Int) (N : Int) (hz : Nat → Nat) (P : List Nat) (Q : List Nat) (hx_mm_trailed : 0 ≤ (x_mm_trailed).toInt ∧ (x_mm_trailed).toInt ≤ 256) (hx_mm_goneTo : 0 ≤ (x_mm_goneTo).toInt ∧ (x_mm_goneTo).toInt ≤ 7999) (hx_mm_goneIn : 0 ≤ (x_mm_goneIn).toInt ∧ (x_mm_goneIn).toInt ≤ 31) (hf_nv : Rg (-1) 7 f_nv) (hf_na : Rg (-1) 7999 f_na) (hf_nb : Rg (-1) 7999 f_nb) (hf_nc : Rg (-1) 7999 f_nc) (hf_bto : Rg (-1) 7999 f_bto) (hf_bin : Rg 0 31 f_bin) (hf_tra : Rg 0 255 f_tra) (q0 : 0 ≤ i0 ∧ i0 ≤ i1 ∧ i1 ≤ 31) (q1 : N ≤ 8000) (q2 : 0 ≤ (p1).toInt ∧ (p1).toInt < N) (q3 : i0 ≤ (p2).toInt ∧ (p2).toInt ≤ i1) (q4 : 0 ≤ (p3).toInt ∧ (p3).toInt < N) (q5 : i0 ≤ (p4).toInt ∧ (p4).toInt ≤ i1) (q6 : hz (p1).toInt.toNat + 6 * (256 - (P).length) + 1 ≤ fu) (q7 : hz (p3).toInt.toNat + 6 * (256 - (Q).length) + 1 ≤ fu) (hn_bi : BI i0 i1 N hz f_nv f_na f_nb f_nc f_bto f_bin) (hn_trl : TRL (x_mm_trailed).toInt f_tra f_bto) (hn_pa : PA i0 P f_nv f_na f_nb f_nc f_bto f_bin (p1).toInt.toNat (p2).toInt) (hn_paq : PA i0 Q f_nv f_na f_nb f_nc f_bto f_bin (p3).toInt.toNat (p4).toInt), Met l yX11_unifies (Ws yX11_unifies cX11_unifies 10 (some .boolean)) (({ frames := fu + 3, cells := 0, slots := 0, locals := 29 * fu + 71 } : Room)) (PRE (dC, dI) cls [(cy_nv, .int), (cy_na, .int), (cy_nb, .int), (cy_nc, .int), (cy_bto, .int), (cy_bin, .int), (cy_nn, .long), (cy_tra, .int)] [(h_mm, .inr (8, (mo52 v_mm (.ref h_nv) (.ref h_nn) (.ref h_na) (.ref h_nb) (.ref h_nc) (.ref h_bto) (.ref h_bin) (.ref h_tra) (.int x_mm_trailed) (.int x_mm_goneTo) (.int x_mm_goneIn)))), (h_nv, .inl (cy_nv, 8000, .inl f_nv)), (h_na, .inl (cy_na, 8000, .inl f_na)), (h_nb, .inl (cy_nb, 8000, .inl f_nb)), (h_nc, .inl (cy_nc, 8000, .inl f_nc)), (h_bto, .inl (cy_bto, 256, .inl f_bto)), (h_bin, .inl (cy_bin, 256, .inl f_bin)), (h_nn, .inl (cy_nn, 8000, .inr (.inl f_nn))), (h_tra, .inl (cy_tra, 256, .inl f_tra))] sz [.ref h_mm, .int p1, .int p2, .int p3, .int p4]) (va_Qi (fun (r : Int32) (u : (Int32) × (Int32) × (Int32) × (Nat → Int32) × (Nat → Int32) × (Nat → Int32)) => (0 ≤ (u.1).toInt ∧ (u.1).toInt ≤ 256) ∧ (0 ≤ (u.2.1).toInt ∧ (u.2.1).toInt ≤ 7999) ∧ (0 ≤ (u.2.2.1).toInt ∧ (u.2.2.1).toInt ≤ 31) ∧ (Rg (-1) 7999 u.2.2.2.1) ∧ (Rg 0 31 u.2.2.2.2.1) ∧ (Rg 0 255 u.2.2.2.2.2) ∧ (0 ≤ r.toInt ∧ r.toInt ≤ 1) ∧ (BI i0 i1 N hz f_nv f_na f_nb f_nc u.2.2.2.1 u.2.2.2.2.1) ∧ (TRL (u.1).toInt u.2.2.2.2.2 u.2.2.2.1) ∧ (GRW (x_mm_trailed).toInt (u.1).toInt f_bto f_bin f_tra u.2.2.2.1 u.2.2.2.2.1 u.2.2.2.2.2)) (fun (u : (Int32) × (Int32) × (Int32) × (Nat → Int32) × (Nat → Int32) × (Nat → Int32)) (t : State) => va_P (dC, dI) cls [(h_mm, .inr (8, (mo52 v_mm (.ref h_nv) (.ref h_nn) (.ref h_na) (.ref h_nb) (.ref h_nc) (.ref h_bto) (.ref h_bin) (.ref h_tra) (.int u.1) (.int u.2.1) (.int u.2.2.1)))), (h_nv, .inl (cy_nv, 8000, .inl f_nv)), (h_na, .inl (cy_na, 8000, .inl f_na)), (h_nb, .inl (cy_nb, 8000, .inl f_nb)), (h_nc, .inl (cy_nc, 8000, .inl f_nc)), (h_bto, .inl (cy_bto, 256, .inl u.2.2.2.1)), (h_bin, .inl (cy_bin, 256, .inl u.2.2.2.2.1)), (h_nn, .inl (cy_nn, 8000, .inr (.inl f_nn))), (h_tra, .inl (cy_tra, 256, .inl u.2.2.2.2.2))] t.heap ∧ va_D (va_A [(h_mm, .inr (8, (mo52 v_mm (.ref h_nv) (.ref h_nn) (.ref h_na) (.ref h_nb) (.ref h_nc) (.ref h_bto) (.ref h_bin) (.ref h_tra) (.int x_mm_trailed) (.int x_mm_goneTo) (.int x_mm_goneIn)))), (h_nv, .inl (cy_nv, 8000, .inl f_nv)), (h_na, .inl (cy_na, 8000, .inl f_na)), (h_nb, .inl (cy_nb, 8000, .inl f_nb)), (h_nc, .inl (cy_nc, 8000, .inl f_nc)), (h_bto, .inl (cy_bto, 256, .inl f_bto)), (h_bin, .inl (cy_bin, 256, .inl f_bin)), (h_nn, .inl (cy_nn, 8000, .inr (.inl f_nn))), (h_tra, .inl (cy_tra, 256, .inl f_tra))] sz) [(h_mm, .inr (8, (mo52 v_mm (.ref h_nv) (.ref h_nn) (.ref h_na) (.ref h_nb) (.ref h_nc) (.ref h_bto) (.ref h_bin) (.ref h_tra) (.int u.1) (.int u.2.1) (.int u.2.2.1)))), (h_nv, .inl (cy_nv, 8000, .inl f_nv)), (h_na, .inl (cy_na, 8000, .inl f_na)), (h_nb, .inl (cy_nb, 8000, .inl f_nb)), (h_nc, .inl (cy_nc, 8000, .inl f_nc)), (h_bto, .inl (cy_bto, 256, .inl u.2.2.2.1)), (h_bin, .inl (cy_bin, 256, .inl u.2.2.2.2.1)), (h_nn, .inl (cy_nn, 8000, .inr (.inl f_nn))), (h_tra, .inl (cy_tra, 256, .inl u.2.2.2.2.2))]) (va_A [(h_mm, .inr (8, (mo52 v_mm (.ref h_nv) (.ref h_nn) (.ref h_na) (.ref h_nb) (.ref h_nc) (.ref h_bto) (.ref h_bin) (.ref h_tra) (.int x_mm_trailed) (.int x_mm_goneTo) (.int x_mm_goneIn)))), (h_nv, .inl (cy_nv, 8000, .inl f_nv)), (h_na, .inl (cy_na, 8000, .inl f_na)), (h_nb, .inl (cy_nb, 8000, .inl f_nb)), (h_nc, .inl (cy_nc, 8000, .inl f_nc)), (h_bto, .inl (cy_bto, 256, .inl f_bto)), (h_bin, .inl (cy_bin, 256, .inl f_bin)), (h_nn, .inl (cy_nn, 8000, .inr (.inl f_nn))), (h_tra, .inl (cy_tra, 256, .inl f_tra))] sz)) 0 0 (va_A [(h_mm, .inr (8, (mo52 v_mm (.ref h_nv) (.ref h_nn) (.ref h_na) (.ref h_nb) (.ref h_nc) (.ref h_bto) (.ref h_bin) (.ref h_tra) (.int x_mm_trailed) (.int x_mm_goneTo) (.int x_mm_goneIn)))), (h_nv, .inl (cy_nv, 8000, .inl f_nv)), (h_na, .inl (cy_na, 8000, .inl f_na)), (h_nb, .inl (cy_nb, 8000, .inl f_nb)), (h_nc, .inl (cy_nc, 8000, .inl f_nc)), (h_bto, .inl (cy_bto, 256, .inl f_bto)), (h_bin, .inl (cy_bin, 256, .inl f_bin)), (h_nn, .inl (cy_nn, 8000, .inr (.inl f_nn))), (h_tra, .inl (cy_tra, 256, .inl f_tra))] sz)
set_option maxHeartbeats 8000000 in
set_option maxRecDepth 100000 in
theorem c_X11_unifies (l : Launch) (fu : Nat) : K_X11_unifies l fu := by
  refine Nat.rec (motive := fun fu => K_X11_unifies l fu) ?_ ?_ fu
  · intro dC dI sz h_mm h_nv h_na h_nb h_nc h_bto h_bin h_nn h_tra v_mm x_mm_trailed x_mm_goneTo x_mm_goneIn cy_nv f_nv cy_na f_na cy_nb f_nb cy_nc f_nc cy_bto f_bto cy_bin f_bin cy_nn f_nn cy_tra f_tra p1 p2 p3 p4 i0 i1 N hz P Q hx_mm_trailed hx_mm_goneTo hx_mm_goneIn hf_nv hf_na hf_nb hf_nc hf_bto hf_bin hf_tra q0 q1 q2 q3 q4 q5 q6 q7 hn_bi hn_trl hn_pa hn_paq
    have h09 : Nat.zero = 0 := rfl
    exact False.elim (by omega)
  intro fu ihf
  intro dC dI sz h_mm h_nv h_na h_nb h_nc h_bto h_bin h_nn h_tra v_mm x_mm_trailed x_mm_goneTo x_mm_goneIn cy_nv f_nv cy_na f_na cy_nb f_nb cy_nc f_nc cy_bto f_bto cy_bin f_bin cy_nn f_nn cy_tra f_tra p1 p2 p3 p4 i0 i1 N hz P Q hx_mm_trailed hx_mm_goneTo hx_mm_goneIn hf_nv hf_na hf_nb hf_nc hf_bto hf_bin hf_tra q0 q1 q2 q3 q4 q5 q6 q7 hn_bi hn_trl hn_pa hn_paq
  refine Met.ofW (cc := cX11_unifies) (maxL := 10) (ret := (some .boolean)) (by decide) rfl ?_
  intro p e s m args below meth c s₁ B hml hv
  obtain ⟨rfl, hsz, hP, hK, hD0, hN⟩ := hv
  have hx := B.exec
  have hb := B.bytes
  have hr := B.returns
  have hts := atoms_spec (ws := Ws yX11_unifies cX11_unifies 10 (some .boolean)) B.pre
  have hT : ∀ w ∈ WALL, w ∈ Ws yX11_unifies cX11_unifies 10 (some .boolean) := fun w h => List.mem_cons_of_mem _ h
  have hw := fun w (h : w ∈ WALL) => hts w (hT w h)
  have hown : s.vm.findClass RX11 = some m.cls := findClass_of_methodNamed B.named
  have hlocks := B.notSynchronized
  subst hsz
  have hD := hD0.self (sz := s.heap.size)
  generalize hAe : va_A [(h_mm, .inr (8, (mo52 v_mm (.ref h_nv) (.ref h_nn) (.ref h_na) (.ref h_nb) (.ref h_nc) (.ref h_bto) (.ref h_bin) (.ref h_tra) (.int x_mm_trailed) (.int x_mm_goneTo) (.int x_mm_goneIn)))), (h_nv, .inl (cy_nv, 8000, .inl f_nv)), (h_na, .inl (cy_na, 8000, .inl f_na)), (h_nb, .inl (cy_nb, 8000, .inl f_nb)), (h_nc, .inl (cy_nc, 8000, .inl f_nc)), (h_bto, .inl (cy_bto, 256, .inl f_bto)), (h_bin, .inl (cy_bin, 256, .inl f_bin)), (h_nn, .inl (cy_nn, 8000, .inr (.inl f_nn))), (h_tra, .inl (cy_tra, 256, .inl f_tra))] s.heap.size = A at hD ⊢
  have hA : ∀ q : Nat, s.heap.size ≤ q → A q := fun q h => by rw [← hAe]; exact Or.inr h
  have hS : va_S A s.heap s.heap [] := va_S.rf
  have hl := lv_entry ([.ref h_mm, .int p1, .int p2, .int p3, .int p4]) (n := 10) (Nat.le_of_ble_eq_true rfl)
  rw [lg_entry_eq]
  generalize (lg_sl ([.ref h_mm, .int p1, .int p2, .int p3, .int p4]) ++ List.replicate (10 - (lg_sl ([.ref h_mm, .int p1, .int p2, .int p3, .int p4])).length) Slot.unset).toArray = ls at hl ⊢
  have hl : lv_has ls 10 [(0, .ref h_mm), (1, .int p1), (2, .int p2), (3, .int p3), (4, .int p4)] := hl
  have gr0 : GRW (x_mm_trailed).toInt (x_mm_trailed).toInt f_bto f_bin f_tra f_bto f_bin f_tra := gr_refl
  refine lv_aload_n hx hb dX11_unifies_0 rfl (lv_at hl 0 rfl) ?_
  refine lv_iload_n hx hb dX11_unifies_1 rfl (lv_at hl 1 rfl) ?_
  refine lv_iload_n hx hb dX11_unifies_2 rfl (lv_at hl 2 rfl) ?_
  have hPc := hP.sub (ws' := [(h_mm, .inr (8, (mo52 v_mm (.ref h_nv) (.ref h_nn) (.ref h_na) (.ref h_nb) (.ref h_nc) (.ref h_bto) (.ref h_bin) (.ref h_tra) (.int x_mm_trailed) (.int x_mm_goneTo) (.int x_mm_goneIn)))), (h_nv, .inl (cy_nv, 8000, .inl f_nv)), (h_na, .inl (cy_na, 8000, .inl f_na)), (h_nb, .inl (cy_nb, 8000, .inl f_nb)), (h_nc, .inl (cy_nc, 8000, .inl f_nc)), (h_bto, .inl (cy_bto, 256, .inl f_bto)), (h_bin, .inl (cy_bin, 256, .inl f_bin))]) [0, 1, 2, 3, 4, 5, 6] rfl
  have hDc := hD.sub (ws' := [(h_mm, .inr (8, (mo52 v_mm (.ref h_nv) (.ref h_nn) (.ref h_na) (.ref h_nb) (.ref h_nc) (.ref h_bto) (.ref h_bin) (.ref h_tra) (.int x_mm_trailed) (.int x_mm_goneTo) (.int x_mm_goneIn)))), (h_nv, .inl (cy_nv, 8000, .inl f_nv)), (h_na, .inl (cy_na, 8000, .inl f_na)), (h_nb, .inl (cy_nb, 8000, .inl f_nb)), (h_nc, .inl (cy_nc, 8000, .inl f_nc)), (h_bto, .inl (cy_bto, 256, .inl f_bto)), (h_bin, .inl (cy_bin, 256, .inl f_bin))]) [0, 1, 2, 3, 4, 5, 6] (by decide) rfl
  have hKc := hK.sub (tys' := [(cy_nv, .int), (cy_na, .int), (cy_nb, .int), (cy_nc, .int), (cy_bto, .int), (cy_bin, .int)]) [0, 1, 2, 3, 4, 5] rfl
  have hFc := va_free (wc := [(h_mm, .inr (8, (mo52 v_mm (.ref h_nv) (.ref h_nn) (.ref h_na) (.ref h_nb) (.ref h_nc) (.ref h_bto) (.ref h_bin) (.ref h_tra) (.int x_mm_trailed) (.int x_mm_goneTo) (.int x_mm_goneIn)))), (h_nv, .inl (cy_nv, 8000, .inl f_nv)), (h_na, .inl (cy_na, 8000, .inl f_na)), (h_nb, .inl (cy_nb, 8000, .inl f_nb)), (h_nc, .inl (cy_nc, 8000, .inl f_nc)), (h_bto, .inl (cy_bto, 256, .inl f_bto)), (h_bin, .inl (cy_bin, 256, .inl f_bin))]) hD hS hA [0, 1, 2, 3, 4, 5, 6] rfl
  refine va_callv (va_runV (As := [.int p1, .int p2]) (rest := []) ⟨hx, hb, hml, hown, hts⟩ (c_X11_goesTo l dC dI s.heap.size h_mm h_nv h_na h_nb h_nc h_bto h_bin (fun k => List.getD (mo52 v_mm (.ref h_nv) (.ref h_nn) (.ref h_na) (.ref h_nb) (.ref h_nc) (.ref h_bto) (.ref h_bin) (.ref h_tra) (.int x_mm_trailed) (.int x_mm_goneTo) (.int x_mm_goneIn)) k .null) x_mm_goneTo x_mm_goneIn cy_nv f_nv cy_na f_na cy_nb f_nb cy_nc f_nc cy_bto f_bto cy_bin f_bin p1 p2 i0 i1 N hz P (fu + 1) (by omega) (by omega) hf_nv hf_na hf_nb hf_nc hf_bto hf_bin (by omega) (by omega) (by omega) (by omega) (by omega) hn_bi hn_pa) (cwV 2 hts (gv hT w_m_X11_273 w_instanceMethod_X11_goesTo ws_sel_X11_goesTo w_ini_X11 w_code_X11_goesTo) rfl rfl rfl (by decide +kernel) ⟨(by dsimp only [headSpec]; omega), (by dsimp only [headSpec]; omega)⟩) ⟨pre_blind, va_recv hK hP (ci := 8) (q0 := 0) rfl rfl, pre_of hPc hKc hDc hN⟩ rfl rfl hl.1 rfl (lv_room (Nat.le_of_ble_eq_true rfl)) dX11_unifies_3 ⟨(Nat.le_of_ble_eq_true rfl), (Nat.le_of_ble_eq_true rfl)⟩) hS (fun q _ h => hFc q h) hFc (fun u t H locs ht hvm hq hB hz1 hk1 hS => ?_)
  obtain ⟨z2, z3, z4⟩ := u
  obtain ⟨hP1, hD1⟩ := hB
  rw [ht] at hP1
  obtain ⟨hP, hD⟩ := va_join (wr := [(h_nn, .inl (cy_nn, 8000, .inr (.inl f_nn))), (h_tra, .inl (cy_tra, 256, .inl f_tra))]) (w1 := [(h_mm, .inr (8, (mo52 v_mm (.ref h_nv) (.ref h_nn) (.ref h_na) (.ref h_nb) (.ref h_nc) (.ref h_bto) (.ref h_bin) (.ref h_tra) (.int x_mm_trailed) (.int z2) (.int z3)))), (h_nv, .inl (cy_nv, 8000, .inl f_nv)), (h_na, .inl (cy_na, 8000, .inl f_na)), (h_nb, .inl (cy_nb, 8000, .inl f_nb)), (h_nc, .inl (cy_nc, 8000, .inl f_nc)), (h_bto, .inl (cy_bto, 256, .inl f_bto)), (h_bin, .inl (cy_bin, 256, .inl f_bin))]) hP hD [0, 1, 2, 3, 4, 5, 6] [7, 8] rfl rfl (by decide) (by decide) hk1 hFc hP1 hD1
  have hP : va_P (dC, dI) cls [(h_nn, .inl (cy_nn, 8000, .inr (.inl f_nn))), (h_tra, .inl (cy_tra, 256, .inl f_tra)), (h_mm, .inr (8, (mo52 v_mm (.ref h_nv) (.ref h_nn) (.ref h_na) (.ref h_nb) (.ref h_nc) (.ref h_bto) (.ref h_bin) (.ref h_tra) (.int x_mm_trailed) (.int z2) (.int z3)))), (h_nv, .inl (cy_nv, 8000, .inl f_nv)), (h_na, .inl (cy_na, 8000, .inl f_na)), (h_nb, .inl (cy_nb, 8000, .inl f_nb)), (h_nc, .inl (cy_nc, 8000, .inl f_nc)), (h_bto, .inl (cy_bto, 256, .inl f_bto)), (h_bin, .inl (cy_bin, 256, .inl f_bin))] H := hP
  have hD : va_D A [(h_nn, .inl (cy_nn, 8000, .inr (.inl f_nn))), (h_tra, .inl (cy_tra, 256, .inl f_tra)), (h_mm, .inr (8, (mo52 v_mm (.ref h_nv) (.ref h_nn) (.ref h_na) (.ref h_nb) (.ref h_nc) (.ref h_bto) (.ref h_bin) (.ref h_tra) (.int x_mm_trailed) (.int z2) (.int z3)))), (h_nv, .inl (cy_nv, 8000, .inl f_nv)), (h_na, .inl (cy_na, 8000, .inl f_na)), (h_nb, .inl (cy_nb, 8000, .inl f_nb)), (h_nc, .inl (cy_nc, 8000, .inl f_nc)), (h_bto, .inl (cy_bto, 256, .inl f_bto)), (h_bin, .inl (cy_bin, 256, .inl f_bin))] := hD
  obtain ⟨k5, k6, k7, k8, k9, k10, k11, k12⟩ := hq
  have k5 : 0 ≤ ((z2)).toInt ∧ ((z2)).toInt ≤ 7999 := k5
  have k6 : 0 ≤ ((z3)).toInt ∧ ((z3)).toInt ≤ 31 := k6
  have k7 : 0 ≤ ((z2)).toInt ∧ ((z2)).toInt < (N) := k7
  have k8 : (i0) ≤ ((z3)).toInt ∧ ((z3)).toInt ≤ (i1) := k8
  have k9 : (hz) ((z2)).toInt.toNat + 6 * (256 - ((z4)).length) + 1 ≤ ((fu + 1)) := k9
  have k10 : PA (i0) (z4) f_nv f_na f_nb f_nc f_bto f_bin ((z2)).toInt.toNat ((z3)).toInt := k10
  have k11 : (f_nv ((z2)).toInt.toNat).toInt = -1 ∨ (f_bto (8 * ((z3)).toInt + (f_nv ((z2)).toInt.toNat).toInt).toNat).toInt = -1 := k11
  have k12 : ∀ tt : Nat, (f_bto tt).toInt = -1 → NR f_nv f_na f_nb f_nc f_bto f_bin ((z2)).toInt.toNat ((z3)).toInt tt → NR f_nv f_na f_nb f_nc f_bto f_bin ((p1)).toInt.toNat ((p2)).toInt tt := k12
  refine lv_aload_n hx hb dX11_unifies_6 rfl (lv_at hl 0 rfl) ?_
  refine va_get (D := (dC, dI)) (ci := 8) (v := .int z2) (C := RX11) (T := TX11) (N := 71) hx hb hw iwX11 hown hK hP 2 rfl rfl 31 (by decide) (hw _ w_f_X11_264) (fun _ h9 => h9) rfl dX11_unifies_7 ?_
  refine lv_istore (lv' := [(5, .int z2), (0, .ref h_mm), (1, .int p1), (2, .int p2), (3, .int p3), (4, .int p4)]) hx hb dX11_unifies_10 hl (by decide) rfl (fun ls hl => ?_)
  refine lv_aload_n hx hb dX11_unifies_12 rfl (lv_at hl 1 rfl) ?_
  refine va_get (D := (dC, dI)) (ci := 8) (v := .int z3) (C := RX11) (T := TX11) (N := 71) hx hb hw iwX11 hown hK hP 2 rfl rfl 32 (by decide) (hw _ w_f_X11_267) (fun _ h9 => h9) rfl dX11_unifies_13 ?_
  refine lv_istore (lv' := [(6, .int z3), (5, .int z2), (0, .ref h_mm), (1, .int p1), (2, .int p2), (3, .int p3), (4, .int p4)]) hx hb dX11_unifies_16 hl (by decide) rfl (fun ls hl => ?_)
  refine lv_aload_n hx hb dX11_unifies_18 rfl (lv_at hl 2 rfl) ?_
  refine lv_iload_n hx hb dX11_unifies_19 rfl (lv_at hl 5 rfl) ?_
  refine lv_iload hx hb dX11_unifies_20 (lv_at hl 6 rfl) ?_
  have hPc := hP.sub (ws' := [(h_mm, .inr (8, (mo52 v_mm (.ref h_nv) (.ref h_nn) (.ref h_na) (.ref h_nb) (.ref h_nc) (.ref h_bto) (.ref h_bin) (.ref h_tra) (.int x_mm_trailed) (.int z2) (.int z3)))), (h_nv, .inl (cy_nv, 8000, .inl f_nv)), (h_na, .inl (cy_na, 8000, .inl f_na)), (h_nb, .inl (cy_nb, 8000, .inl f_nb)), (h_nc, .inl (cy_nc, 8000, .inl f_nc)), (h_bto, .inl (cy_bto, 256, .inl f_bto)), (h_bin, .inl (cy_bin, 256, .inl f_bin))]) [2, 3, 4, 5, 6, 7, 8] rfl
  have hDc := hD.sub (ws' := [(h_mm, .inr (8, (mo52 v_mm (.ref h_nv) (.ref h_nn) (.ref h_na) (.ref h_nb) (.ref h_nc) (.ref h_bto) (.ref h_bin) (.ref h_tra) (.int x_mm_trailed) (.int z2) (.int z3)))), (h_nv, .inl (cy_nv, 8000, .inl f_nv)), (h_na, .inl (cy_na, 8000, .inl f_na)), (h_nb, .inl (cy_nb, 8000, .inl f_nb)), (h_nc, .inl (cy_nc, 8000, .inl f_nc)), (h_bto, .inl (cy_bto, 256, .inl f_bto)), (h_bin, .inl (cy_bin, 256, .inl f_bin))]) [2, 3, 4, 5, 6, 7, 8] (by decide) rfl
  have hKc := hK.sub (tys' := [(cy_nv, .int), (cy_na, .int), (cy_nb, .int), (cy_nc, .int), (cy_bto, .int), (cy_bin, .int)]) [0, 1, 2, 3, 4, 5] rfl
  have hFc := va_free (wc := [(h_mm, .inr (8, (mo52 v_mm (.ref h_nv) (.ref h_nn) (.ref h_na) (.ref h_nb) (.ref h_nc) (.ref h_bto) (.ref h_bin) (.ref h_tra) (.int x_mm_trailed) (.int z2) (.int z3)))), (h_nv, .inl (cy_nv, 8000, .inl f_nv)), (h_na, .inl (cy_na, 8000, .inl f_na)), (h_nb, .inl (cy_nb, 8000, .inl f_nb)), (h_nc, .inl (cy_nc, 8000, .inl f_nc)), (h_bto, .inl (cy_bto, 256, .inl f_bto)), (h_bin, .inl (cy_bin, 256, .inl f_bin))]) hD hS hA [2, 3, 4, 5, 6, 7, 8] rfl
  refine va_callv (va_runV (As := [.int p3, .int p4]) (rest := []) ⟨hx, hb, hml, hown, hts⟩ (c_X11_goesTo l dC dI H.size h_mm h_nv h_na h_nb h_nc h_bto h_bin (fun k => List.getD (mo52 v_mm (.ref h_nv) (.ref h_nn) (.ref h_na) (.ref h_nb) (.ref h_nc) (.ref h_bto) (.ref h_bin) (.ref h_tra) (.int x_mm_trailed) (.int z2) (.int z3)) k .null) z2 z3 cy_nv f_nv cy_na f_na cy_nb f_nb cy_nc f_nc cy_bto f_bto cy_bin f_bin p3 p4 i0 i1 N hz Q (fu + 1) (by omega) (by omega) hf_nv hf_na hf_nb hf_nc hf_bto hf_bin (by omega) (by omega) (by omega) (by omega) (by omega) hn_bi hn_paq) (cwV 2 hts (gv hT w_m_X11_273 w_instanceMethod_X11_goesTo ws_sel_X11_goesTo w_ini_X11 w_code_X11_goesTo) rfl rfl rfl (by decide +kernel) ⟨(by dsimp only [headSpec]; omega), (by dsimp only [headSpec]; omega)⟩) ⟨pre_blind, va_recv hK hP (ci := 8) (q0 := 2) rfl rfl, pre_of hPc hKc hDc hN⟩ rfl rfl hl.1 rfl (lv_room (Nat.le_of_ble_eq_true rfl)) dX11_unifies_22 ⟨(Nat.le_of_ble_eq_true rfl), (Nat.le_of_ble_eq_true rfl)⟩) hS (fun q _ h => hFc q h) hFc (fun u t H locs ht hvm hq hB hz1 hk1 hS => ?_)
  obtain ⟨z14, z15, z16⟩ := u
  obtain ⟨hP1, hD1⟩ := hB
  rw [ht] at hP1
  obtain ⟨hP, hD⟩ := va_join (wr := [(h_nn, .inl (cy_nn, 8000, .inr (.inl f_nn))), (h_tra, .inl (cy_tra, 256, .inl f_tra))]) (w1 := [(h_mm, .inr (8, (mo52 v_mm (.ref h_nv) (.ref h_nn) (.ref h_na) (.ref h_nb) (.ref h_nc) (.ref h_bto) (.ref h_bin) (.ref h_tra) (.int x_mm_trailed) (.int z14) (.int z15)))), (h_nv, .inl (cy_nv, 8000, .inl f_nv)), (h_na, .inl (cy_na, 8000, .inl f_na)), (h_nb, .inl (cy_nb, 8000, .inl f_nb)), (h_nc, .inl (cy_nc, 8000, .inl f_nc)), (h_bto, .inl (cy_bto, 256, .inl f_bto)), (h_bin, .inl (cy_bin, 256, .inl f_bin))]) hP hD [2, 3, 4, 5, 6, 7, 8] [0, 1] rfl rfl (by decide) (by decide) hk1 hFc hP1 hD1
  have hP : va_P (dC, dI) cls [(h_nn, .inl (cy_nn, 8000, .inr (.inl f_nn))), (h_tra, .inl (cy_tra, 256, .inl f_tra)), (h_mm, .inr (8, (mo52 v_mm (.ref h_nv) (.ref h_nn) (.ref h_na) (.ref h_nb) (.ref h_nc) (.ref h_bto) (.ref h_bin) (.ref h_tra) (.int x_mm_trailed) (.int z14) (.int z15)))), (h_nv, .inl (cy_nv, 8000, .inl f_nv)), (h_na, .inl (cy_na, 8000, .inl f_na)), (h_nb, .inl (cy_nb, 8000, .inl f_nb)), (h_nc, .inl (cy_nc, 8000, .inl f_nc)), (h_bto, .inl (cy_bto, 256, .inl f_bto)), (h_bin, .inl (cy_bin, 256, .inl f_bin))] H := hP
  have hD : va_D A [(h_nn, .inl (cy_nn, 8000, .inr (.inl f_nn))), (h_tra, .inl (cy_tra, 256, .inl f_tra)), (h_mm, .inr (8, (mo52 v_mm (.ref h_nv) (.ref h_nn) (.ref h_na) (.ref h_nb) (.ref h_nc) (.ref h_bto) (.ref h_bin) (.ref h_tra) (.int x_mm_trailed) (.int z14) (.int z15)))), (h_nv, .inl (cy_nv, 8000, .inl f_nv)), (h_na, .inl (cy_na, 8000, .inl f_na)), (h_nb, .inl (cy_nb, 8000, .inl f_nb)), (h_nc, .inl (cy_nc, 8000, .inl f_nc)), (h_bto, .inl (cy_bto, 256, .inl f_bto)), (h_bin, .inl (cy_bin, 256, .inl f_bin))] := hD
  obtain ⟨k17, k18, k19, k20, k21, k22, k23, k24⟩ := hq
  have k17 : 0 ≤ ((z14)).toInt ∧ ((z14)).toInt ≤ 7999 := k17
  have k18 : 0 ≤ ((z15)).toInt ∧ ((z15)).toInt ≤ 31 := k18
  have k19 : 0 ≤ ((z14)).toInt ∧ ((z14)).toInt < (N) := k19
  have k20 : (i0) ≤ ((z15)).toInt ∧ ((z15)).toInt ≤ (i1) := k20
  have k21 : (hz) ((z14)).toInt.toNat + 6 * (256 - ((z16)).length) + 1 ≤ ((fu + 1)) := k21
  have k22 : PA (i0) (z16) f_nv f_na f_nb f_nc f_bto f_bin ((z14)).toInt.toNat ((z15)).toInt := k22
  have k23 : (f_nv ((z14)).toInt.toNat).toInt = -1 ∨ (f_bto (8 * ((z15)).toInt + (f_nv ((z14)).toInt.toNat).toInt).toNat).toInt = -1 := k23
  have k24 : ∀ tt : Nat, (f_bto tt).toInt = -1 → NR f_nv f_na f_nb f_nc f_bto f_bin ((z14)).toInt.toNat ((z15)).toInt tt → NR f_nv f_na f_nb f_nc f_bto f_bin ((p3)).toInt.toNat ((p4)).toInt tt := k24
  refine lv_aload_n hx hb dX11_unifies_25 rfl (lv_at hl 2 rfl) ?_
  refine va_get (D := (dC, dI)) (ci := 8) (v := .int z14) (C := RX11) (T := TX11) (N := 71) hx hb hw iwX11 hown hK hP 2 rfl rfl 31 (by decide) (hw _ w_f_X11_264) (fun _ h9 => h9) rfl dX11_unifies_26 ?_
  refine lv_istore (lv' := [(7, .int z14), (6, .int z3), (5, .int z2), (0, .ref h_mm), (1, .int p1), (2, .int p2), (3, .int p3), (4, .int p4)]) hx hb dX11_unifies_29 hl (by decide) rfl (fun ls hl => ?_)
  refine lv_aload_n hx hb dX11_unifies_31 rfl (lv_at hl 3 rfl) ?_
  refine va_get (D := (dC, dI)) (ci := 8) (v := .int z15) (C := RX11) (T := TX11) (N := 71) hx hb hw iwX11 hown hK hP 2 rfl rfl 32 (by decide) (hw _ w_f_X11_267) (fun _ h9 => h9) rfl dX11_unifies_32 ?_
  refine lv_istore (lv' := [(8, .int z15), (7, .int z14), (6, .int z3), (5, .int z2), (0, .ref h_mm), (1, .int p1), (2, .int p2), (3, .int p3), (4, .int p4)]) hx hb dX11_unifies_35 hl (by decide) rfl (fun ls hl => ?_)
  refine lv_aload_n hx hb dX11_unifies_37 rfl (lv_at hl 4 rfl) ?_
  refine va_get (D := (dC, dI)) (ci := 8) (v := .ref h_nv) (C := RX11) (T := TX11) (N := 71) hx hb hw iwX11 hown hK hP 2 rfl rfl 1 (by decide) (hw _ w_f_X11_17) (fun _ h9 => h9) rfl dX11_unifies_38 ?_
  refine lv_iload hx hb dX11_unifies_41 (lv_at hl 3 rfl) ?_
  refine va_iald hx hb hK hP 3 0 rfl rfl (i := z2) (vp_in_iff.mpr (by omega)) dX11_unifies_43 ?_
  refine lv_topi (fun z25 ez25 => ?_)
  have rz25 : -1 ≤ (z25).toInt ∧ (z25).toInt ≤ 7 := by rw [ez25]; exact hf_nv _
  refine lv_iconst (v := (-1)) hx hb dX11_unifies_44 (by decide) ?_
  refine lv_icmp_eq (tgt := 111) hx hb dX11_unifies_45 (by decide) (fun c26 => ?_) (fun c26 => ?_)
  · have kc26 := (cv_eq (rfl : (z25).toInt = (z25).toInt) (by decide : ((-1) : Int32).toInt = -1)).mp c26
    refine lv_aload_n hx hb dX11_unifies_111 rfl (lv_at hl 4 rfl) ?_
    refine va_get (D := (dC, dI)) (ci := 8) (v := .ref h_nv) (C := RX11) (T := TX11) (N := 71) hx hb hw iwX11 hown hK hP 2 rfl rfl 1 (by decide) (hw _ w_f_X11_17) (fun _ h9 => h9) rfl dX11_unifies_112 ?_
    refine lv_iload hx hb dX11_unifies_115 (lv_at hl 1 rfl) ?_
    refine va_iald hx hb hK hP 3 0 rfl rfl (i := z14) (vp_in_iff.mpr (by omega)) dX11_unifies_117 ?_
    refine lv_topi (fun z27 ez27 => ?_)
    have rz27 : -1 ≤ (z27).toInt ∧ (z27).toInt ≤ 7 := by rw [ez27]; exact hf_nv _
    refine lv_iconst (v := (-1)) hx hb dX11_unifies_118 (by decide) ?_
    refine lv_icmp_eq (tgt := 159) hx hb dX11_unifies_119 (by decide) (fun c28 => ?_) (fun c28 => ?_)
    · have kc28 := (cv_eq (rfl : (z27).toInt = (z27).toInt) (by decide : ((-1) : Int32).toInt = -1)).mp c28
      refine lv_aload_n hx hb dX11_unifies_159 rfl (lv_at hl 4 rfl) ?_
      refine va_get (D := (dC, dI)) (ci := 8) (v := .ref h_nn) (C := RX11) (T := TX11) (N := 71) hx hb hw iwX11 hown hK hP 2 rfl rfl 2 (by decide) (hw _ w_f_X11_23) (fun _ h9 => h9) rfl dX11_unifies_160 ?_
      refine lv_iload hx hb dX11_unifies_163 (lv_at hl 3 rfl) ?_
      refine va_lald hx hb hK hP 0 6 rfl rfl (i := z2) (vp_in_iff.mpr (by omega)) dX11_unifies_165 ?_
      refine lv_topl (fun z29 ez29 => ?_)
      refine lv_aload_n hx hb dX11_unifies_166 rfl (lv_at hl 4 rfl) ?_
      refine va_get (D := (dC, dI)) (ci := 8) (v := .ref h_nn) (C := RX11) (T := TX11) (N := 71) hx hb hw iwX11 hown hK hP 2 rfl rfl 2 (by decide) (hw _ w_f_X11_23) (fun _ h9 => h9) rfl dX11_unifies_167 ?_
      refine lv_iload hx hb dX11_unifies_170 (lv_at hl 1 rfl) ?_
      refine va_lald hx hb hK hP 0 6 rfl rfl (i := z14) (vp_in_iff.mpr (by omega)) dX11_unifies_172 ?_
      refine lv_topl (fun z30 ez30 => ?_)
      refine W.lcmp hx hb dX11_unifies_173 ?_
      refine lv_topi (fun z31 ez31 => ?_)
      refine lv_if_ne (tgt := 192) hx hb dX11_unifies_174 (by decide) (fun c32 => ?_) (fun c32 => ?_)
      · have kc32 := (not_congr (cv_eq (rfl : (z31).toInt = (z31).toInt) (by decide : (0 : Int32).toInt = 0))).mp c32
        refine lv_iconst (v := 0) hx hb dX11_unifies_192 (by decide) ?_
        have hP : va_P (dC, dI) cls [(h_mm, .inr (8, (mo52 v_mm (.ref h_nv) (.ref h_nn) (.ref h_na) (.ref h_nb) (.ref h_nc) (.ref h_bto) (.ref h_bin) (.ref h_tra) (.int x_mm_trailed) (.int z14) (.int z15)))), (h_nv, .inl (cy_nv, 8000, .inl f_nv)), (h_na, .inl (cy_na, 8000, .inl f_na)), (h_nb, .inl (cy_nb, 8000, .inl f_nb)), (h_nc, .inl (cy_nc, 8000, .inl f_nc)), (h_bto, .inl (cy_bto, 256, .inl f_bto)), (h_bin, .inl (cy_bin, 256, .inl f_bin)), (h_nn, .inl (cy_nn, 8000, .inr (.inl f_nn))), (h_tra, .inl (cy_tra, 256, .inl f_tra))] H := hP.sub [2, 3, 4, 5, 6, 7, 8, 0, 1] rfl
        have hD : va_D A [(h_mm, .inr (8, (mo52 v_mm (.ref h_nv) (.ref h_nn) (.ref h_na) (.ref h_nb) (.ref h_nc) (.ref h_bto) (.ref h_bin) (.ref h_tra) (.int x_mm_trailed) (.int z14) (.int z15)))), (h_nv, .inl (cy_nv, 8000, .inl f_nv)), (h_na, .inl (cy_na, 8000, .inl f_na)), (h_nb, .inl (cy_nb, 8000, .inl f_nb)), (h_nc, .inl (cy_nc, 8000, .inl f_nc)), (h_bto, .inl (cy_bto, 256, .inl f_bto)), (h_bin, .inl (cy_bin, 256, .inl f_bin)), (h_nn, .inl (cy_nn, 8000, .inr (.inl f_nn))), (h_tra, .inl (cy_tra, 256, .inl f_tra))] := hD.sub [2, 3, 4, 5, 6, 7, 8, 0, 1] (by decide) rfl
        refine W.widen (k := 0) (n := 0) (Nat.le_of_ble_eq_true rfl) (Nat.le_of_ble_eq_true rfl) ?_
        have cst0 : (0 : Int32).toInt = 0 := by decide
        have w33 : 0 ≤ ((x_mm_trailed)).toInt ∧ ((x_mm_trailed)).toInt ≤ 256 := by omega
        have w34 : 0 ≤ ((z14)).toInt ∧ ((z14)).toInt ≤ 7999 := by omega
        have w35 : 0 ≤ ((z15)).toInt ∧ ((z15)).toInt ≤ 31 := by omega
        have w36 : 0 ≤ (0 : Int32).toInt ∧ (0 : Int32).toInt ≤ 1 := by omega
        have w37 : BI i0 i1 N hz f_nv f_na f_nb f_nc (f_bto) (f_bin) := hn_bi
        have w38 : TRL ((x_mm_trailed)).toInt (f_tra) (f_bto) := (trl_cast hn_trl (by omega))
        have w39 : GRW (x_mm_trailed).toInt ((x_mm_trailed)).toInt f_bto f_bin f_tra (f_bto) (f_bin) (f_tra) := (gr_cast gr0 (by omega) (by omega))
        exact W.zret (v := 0) (ty := .boolean) hx hb hr (by decide) (fun t ht hW => ⟨⟨0, (x_mm_trailed, z14, z15, f_bto, f_bin, f_tra), rfl, ⟨w33, w34, w35, hf_bto, hf_bin, hf_tra, w36, w37, w38, w39⟩, by rw [ht]; exact hP, hD⟩, hS.F ht⟩) hS.2.2 dX11_unifies_193
      · have kc32 := (cv_eq (rfl : (z31).toInt = (z31).toInt) (by decide : (0 : Int32).toInt = 0)).mp c32
        refine lv_aload_n hx hb dX11_unifies_177 rfl (lv_at hl 4 rfl) ?_
        refine lv_iload hx hb dX11_unifies_178 (lv_at hl 3 rfl) ?_
        have hPc := hP.sub (ws' := [(h_mm, .inr (8, (mo52 v_mm (.ref h_nv) (.ref h_nn) (.ref h_na) (.ref h_nb) (.ref h_nc) (.ref h_bto) (.ref h_bin) (.ref h_tra) (.int x_mm_trailed) (.int z14) (.int z15)))), (h_nv, .inl (cy_nv, 8000, .inl f_nv)), (h_na, .inl (cy_na, 8000, .inl f_na)), (h_nb, .inl (cy_nb, 8000, .inl f_nb)), (h_nc, .inl (cy_nc, 8000, .inl f_nc))]) [2, 3, 4, 5, 6] rfl
        have hDc := hD.sub (ws' := [(h_mm, .inr (8, (mo52 v_mm (.ref h_nv) (.ref h_nn) (.ref h_na) (.ref h_nb) (.ref h_nc) (.ref h_bto) (.ref h_bin) (.ref h_tra) (.int x_mm_trailed) (.int z14) (.int z15)))), (h_nv, .inl (cy_nv, 8000, .inl f_nv)), (h_na, .inl (cy_na, 8000, .inl f_na)), (h_nb, .inl (cy_nb, 8000, .inl f_nb)), (h_nc, .inl (cy_nc, 8000, .inl f_nc))]) [2, 3, 4, 5, 6] (by decide) rfl
        have hKc := hK.sub (tys' := [(cy_nv, .int), (cy_na, .int), (cy_nb, .int), (cy_nc, .int)]) [0, 1, 2, 3] rfl
        have hFc := va_free (wc := [(h_mm, .inr (8, (mo52 v_mm (.ref h_nv) (.ref h_nn) (.ref h_na) (.ref h_nb) (.ref h_nc) (.ref h_bto) (.ref h_bin) (.ref h_tra) (.int x_mm_trailed) (.int z14) (.int z15)))), (h_nv, .inl (cy_nv, 8000, .inl f_nv)), (h_na, .inl (cy_na, 8000, .inl f_na)), (h_nb, .inl (cy_nb, 8000, .inl f_nb)), (h_nc, .inl (cy_nc, 8000, .inl f_nc))]) hD hS hA [2, 3, 4, 5, 6] rfl
        refine va_calli (va_runV (As := [.int z2]) (rest := []) ⟨hx, hb, hml, hown, hts⟩ (c_X11_partsAt_e l dC dI H.size h_mm h_nv h_na h_nb h_nc (fun k => List.getD (mo52 v_mm (.ref h_nv) (.ref h_nn) (.ref h_na) (.ref h_nb) (.ref h_nc) (.ref h_bto) (.ref h_bin) (.ref h_tra) (.int x_mm_trailed) (.int z14) (.int z15)) k .null) cy_nv f_nv cy_na f_na cy_nb f_nb cy_nc f_nc z2 hf_nv hf_na hf_nb hf_nc (by omega)) (cwV 1 hts (gv hT w_m_X11_27 w_instanceMethod_X11_partsAt ws_sel_X11_partsAt w_ini_X11 w_code_X11_partsAt) rfl rfl rfl (by decide +kernel) ⟨(by dsimp only [headSpec]; omega), (by dsimp only [headSpec]; omega)⟩) ⟨pre_blind, va_recv hK hP (ci := 8) (q0 := 2) rfl rfl, pre_of hPc hKc hDc hN⟩ rfl rfl hl.1 rfl (lv_room (Nat.le_of_ble_eq_true rfl)) dX11_unifies_180 ⟨(Nat.le_of_ble_eq_true rfl), (Nat.le_of_ble_eq_true rfl)⟩) hS (fun q _ h => hFc q h) hFc (fun r40 u t H locs ht hvm hq hB hz1 hk1 hS => ?_)
        obtain ⟨hP1, hD1⟩ := hB
        rw [ht] at hP1
        obtain ⟨hP, hD⟩ := va_join (wr := [(h_nn, .inl (cy_nn, 8000, .inr (.inl f_nn))), (h_tra, .inl (cy_tra, 256, .inl f_tra)), (h_bto, .inl (cy_bto, 256, .inl f_bto)), (h_bin, .inl (cy_bin, 256, .inl f_bin))]) (w1 := [(h_mm, .inr (8, (mo52 v_mm (.ref h_nv) (.ref h_nn) (.ref h_na) (.ref h_nb) (.ref h_nc) (.ref h_bto) (.ref h_bin) (.ref h_tra) (.int x_mm_trailed) (.int z14) (.int z15)))), (h_nv, .inl (cy_nv, 8000, .inl f_nv)), (h_na, .inl (cy_na, 8000, .inl f_na)), (h_nb, .inl (cy_nb, 8000, .inl f_nb)), (h_nc, .inl (cy_nc, 8000, .inl f_nc))]) hP hD [2, 3, 4, 5, 6] [0, 1, 7, 8] rfl rfl (by decide) (by decide) hk1 hFc hP1 hD1
        have hP : va_P (dC, dI) cls [(h_nn, .inl (cy_nn, 8000, .inr (.inl f_nn))), (h_tra, .inl (cy_tra, 256, .inl f_tra)), (h_bto, .inl (cy_bto, 256, .inl f_bto)), (h_bin, .inl (cy_bin, 256, .inl f_bin)), (h_mm, .inr (8, (mo52 v_mm (.ref h_nv) (.ref h_nn) (.ref h_na) (.ref h_nb) (.ref h_nc) (.ref h_bto) (.ref h_bin) (.ref h_tra) (.int x_mm_trailed) (.int z14) (.int z15)))), (h_nv, .inl (cy_nv, 8000, .inl f_nv)), (h_na, .inl (cy_na, 8000, .inl f_na)), (h_nb, .inl (cy_nb, 8000, .inl f_nb)), (h_nc, .inl (cy_nc, 8000, .inl f_nc))] H := hP
        have hD : va_D A [(h_nn, .inl (cy_nn, 8000, .inr (.inl f_nn))), (h_tra, .inl (cy_tra, 256, .inl f_tra)), (h_bto, .inl (cy_bto, 256, .inl f_bto)), (h_bin, .inl (cy_bin, 256, .inl f_bin)), (h_mm, .inr (8, (mo52 v_mm (.ref h_nv) (.ref h_nn) (.ref h_na) (.ref h_nb) (.ref h_nc) (.ref h_bto) (.ref h_bin) (.ref h_tra) (.int x_mm_trailed) (.int z14) (.int z15)))), (h_nv, .inl (cy_nv, 8000, .inl f_nv)), (h_na, .inl (cy_na, 8000, .inl f_na)), (h_nb, .inl (cy_nb, 8000, .inl f_nb)), (h_nc, .inl (cy_nc, 8000, .inl f_nc))] := hD
        obtain ⟨k41, k42⟩ := hq
        have k41 : 0 ≤ (r40).toInt ∧ (r40).toInt ≤ 3 := k41
        have k42 : ((r40)).toInt = (npx f_nv f_na f_nb f_nc ((z2)).toInt.toNat) := k42
        refine lv_aload_n hx hb dX11_unifies_183 rfl (lv_at hl 4 rfl) ?_
        refine lv_iload hx hb dX11_unifies_184 (lv_at hl 1 rfl) ?_
        have hPc := hP.sub (ws' := [(h_mm, .inr (8, (mo52 v_mm (.ref h_nv) (.ref h_nn) (.ref h_na) (.ref h_nb) (.ref h_nc) (.ref h_bto) (.ref h_bin) (.ref h_tra) (.int x_mm_trailed) (.int z14) (.int z15)))), (h_nv, .inl (cy_nv, 8000, .inl f_nv)), (h_na, .inl (cy_na, 8000, .inl f_na)), (h_nb, .inl (cy_nb, 8000, .inl f_nb)), (h_nc, .inl (cy_nc, 8000, .inl f_nc))]) [4, 5, 6, 7, 8] rfl
        have hDc := hD.sub (ws' := [(h_mm, .inr (8, (mo52 v_mm (.ref h_nv) (.ref h_nn) (.ref h_na) (.ref h_nb) (.ref h_nc) (.ref h_bto) (.ref h_bin) (.ref h_tra) (.int x_mm_trailed) (.int z14) (.int z15)))), (h_nv, .inl (cy_nv, 8000, .inl f_nv)), (h_na, .inl (cy_na, 8000, .inl f_na)), (h_nb, .inl (cy_nb, 8000, .inl f_nb)), (h_nc, .inl (cy_nc, 8000, .inl f_nc))]) [4, 5, 6, 7, 8] (by decide) rfl
        have hKc := hK.sub (tys' := [(cy_nv, .int), (cy_na, .int), (cy_nb, .int), (cy_nc, .int)]) [0, 1, 2, 3] rfl
        have hFc := va_free (wc := [(h_mm, .inr (8, (mo52 v_mm (.ref h_nv) (.ref h_nn) (.ref h_na) (.ref h_nb) (.ref h_nc) (.ref h_bto) (.ref h_bin) (.ref h_tra) (.int x_mm_trailed) (.int z14) (.int z15)))), (h_nv, .inl (cy_nv, 8000, .inl f_nv)), (h_na, .inl (cy_na, 8000, .inl f_na)), (h_nb, .inl (cy_nb, 8000, .inl f_nb)), (h_nc, .inl (cy_nc, 8000, .inl f_nc))]) hD hS hA [4, 5, 6, 7, 8] rfl
        refine va_calli (va_runV (As := [.int z14]) (rest := [.int r40]) ⟨hx, hb, hml, hown, hts⟩ (c_X11_partsAt_e l dC dI H.size h_mm h_nv h_na h_nb h_nc (fun k => List.getD (mo52 v_mm (.ref h_nv) (.ref h_nn) (.ref h_na) (.ref h_nb) (.ref h_nc) (.ref h_bto) (.ref h_bin) (.ref h_tra) (.int x_mm_trailed) (.int z14) (.int z15)) k .null) cy_nv f_nv cy_na f_na cy_nb f_nb cy_nc f_nc z14 hf_nv hf_na hf_nb hf_nc (by omega)) (cwV 1 hts (gv hT w_m_X11_27 w_instanceMethod_X11_partsAt ws_sel_X11_partsAt w_ini_X11 w_code_X11_partsAt) rfl rfl rfl (by decide +kernel) ⟨(by dsimp only [headSpec]; omega), (by dsimp only [headSpec]; omega)⟩) ⟨pre_blind, va_recv hK hP (ci := 8) (q0 := 4) rfl rfl, pre_of hPc hKc hDc hN⟩ rfl rfl hl.1 rfl (lv_room (Nat.le_of_ble_eq_true rfl)) dX11_unifies_186 ⟨(Nat.le_of_ble_eq_true rfl), (Nat.le_of_ble_eq_true rfl)⟩) hS (fun q _ h => hFc q h) hFc (fun r43 u t H locs ht hvm hq hB hz1 hk1 hS => ?_)
        obtain ⟨hP1, hD1⟩ := hB
        rw [ht] at hP1
        obtain ⟨hP, hD⟩ := va_join (wr := [(h_nn, .inl (cy_nn, 8000, .inr (.inl f_nn))), (h_tra, .inl (cy_tra, 256, .inl f_tra)), (h_bto, .inl (cy_bto, 256, .inl f_bto)), (h_bin, .inl (cy_bin, 256, .inl f_bin))]) (w1 := [(h_mm, .inr (8, (mo52 v_mm (.ref h_nv) (.ref h_nn) (.ref h_na) (.ref h_nb) (.ref h_nc) (.ref h_bto) (.ref h_bin) (.ref h_tra) (.int x_mm_trailed) (.int z14) (.int z15)))), (h_nv, .inl (cy_nv, 8000, .inl f_nv)), (h_na, .inl (cy_na, 8000, .inl f_na)), (h_nb, .inl (cy_nb, 8000, .inl f_nb)), (h_nc, .inl (cy_nc, 8000, .inl f_nc))]) hP hD [4, 5, 6, 7, 8] [0, 1, 2, 3] rfl rfl (by decide) (by decide) hk1 hFc hP1 hD1
        have hP : va_P (dC, dI) cls [(h_nn, .inl (cy_nn, 8000, .inr (.inl f_nn))), (h_tra, .inl (cy_tra, 256, .inl f_tra)), (h_bto, .inl (cy_bto, 256, .inl f_bto)), (h_bin, .inl (cy_bin, 256, .inl f_bin)), (h_mm, .inr (8, (mo52 v_mm (.ref h_nv) (.ref h_nn) (.ref h_na) (.ref h_nb) (.ref h_nc) (.ref h_bto) (.ref h_bin) (.ref h_tra) (.int x_mm_trailed) (.int z14) (.int z15)))), (h_nv, .inl (cy_nv, 8000, .inl f_nv)), (h_na, .inl (cy_na, 8000, .inl f_na)), (h_nb, .inl (cy_nb, 8000, .inl f_nb)), (h_nc, .inl (cy_nc, 8000, .inl f_nc))] H := hP
        have hD : va_D A [(h_nn, .inl (cy_nn, 8000, .inr (.inl f_nn))), (h_tra, .inl (cy_tra, 256, .inl f_tra)), (h_bto, .inl (cy_bto, 256, .inl f_bto)), (h_bin, .inl (cy_bin, 256, .inl f_bin)), (h_mm, .inr (8, (mo52 v_mm (.ref h_nv) (.ref h_nn) (.ref h_na) (.ref h_nb) (.ref h_nc) (.ref h_bto) (.ref h_bin) (.ref h_tra) (.int x_mm_trailed) (.int z14) (.int z15)))), (h_nv, .inl (cy_nv, 8000, .inl f_nv)), (h_na, .inl (cy_na, 8000, .inl f_na)), (h_nb, .inl (cy_nb, 8000, .inl f_nb)), (h_nc, .inl (cy_nc, 8000, .inl f_nc))] := hD
        obtain ⟨k44, k45⟩ := hq
        have k44 : 0 ≤ (r43).toInt ∧ (r43).toInt ≤ 3 := k44
        have k45 : ((r43)).toInt = (npx f_nv f_na f_nb f_nc ((z14)).toInt.toNat) := k45
        refine lv_icmp_eq (tgt := 194) hx hb dX11_unifies_189 (by decide) (fun c46 => ?_) (fun c46 => ?_)
        · have kc46 := (cv_eq (rfl : (r40).toInt = (r40).toInt) (rfl : (r43).toInt = (r43).toInt)).mp c46
          refine lv_iconst (v := 0) hx hb dX11_unifies_194 (by decide) ?_
          refine lv_istore (lv' := [(9, .int 0), (8, .int z15), (7, .int z14), (6, .int z3), (5, .int z2), (0, .ref h_mm), (1, .int p1), (2, .int p2), (3, .int p3), (4, .int p4)]) hx hb dX11_unifies_195 hl (by decide) rfl (fun ls hl => ?_)
          have lp54 : ∀ (n : Nat) (x47 : Int32) (f48 : Nat → Int32) (f49 : Nat → Int32) (f50 : Nat → Int32) (x51 : Int32) (x52 : Int32) (x53 : Int32) (H : Heap) (locs : List Loc) (ls : Array Slot), (0 ≤ (x47).toInt ∧ (x47).toInt ≤ 3) → (Rg 0 255 f48) → (Rg (-1) 7999 f49) → (Rg 0 31 f50) → (0 ≤ (x51).toInt ∧ (x51).toInt ≤ 256) → (0 ≤ (x52).toInt ∧ (x52).toInt ≤ 7999) → (0 ≤ (x53).toInt ∧ (x53).toInt ≤ 31) → (BI i0 i1 N hz f_nv f_na f_nb f_nc f49 f50) → (TRL (x51).toInt f48 f49) → (GRW (x_mm_trailed).toInt (x51).toInt f_bto f_bin f_tra f49 f50 f48) → (3 - (x47).toInt).toNat + 1 ≤ n → va_P (dC, dI) cls [(h_nn, .inl (cy_nn, 8000, .inr (.inl f_nn))), (h_tra, .inl (cy_tra, 256, .inl f48)), (h_bto, .inl (cy_bto, 256, .inl f49)), (h_bin, .inl (cy_bin, 256, .inl f50)), (h_mm, .inr (8, (mo52 v_mm (.ref h_nv) (.ref h_nn) (.ref h_na) (.ref h_nb) (.ref h_nc) (.ref h_bto) (.ref h_bin) (.ref h_tra) (.int x51) (.int x52) (.int x53)))), (h_nv, .inl (cy_nv, 8000, .inl f_nv)), (h_na, .inl (cy_na, 8000, .inl f_na)), (h_nb, .inl (cy_nb, 8000, .inl f_nb)), (h_nc, .inl (cy_nc, 8000, .inl f_nc))] H → va_D A [(h_nn, .inl (cy_nn, 8000, .inr (.inl f_nn))), (h_tra, .inl (cy_tra, 256, .inl f48)), (h_bto, .inl (cy_bto, 256, .inl f49)), (h_bin, .inl (cy_bin, 256, .inl f50)), (h_mm, .inr (8, (mo52 v_mm (.ref h_nv) (.ref h_nn) (.ref h_na) (.ref h_nb) (.ref h_nc) (.ref h_bto) (.ref h_bin) (.ref h_tra) (.int x51) (.int x52) (.int x53)))), (h_nv, .inl (cy_nv, 8000, .inl f_nv)), (h_na, .inl (cy_na, 8000, .inl f_na)), (h_nb, .inl (cy_nb, 8000, .inl f_nb)), (h_nc, .inl (cy_nc, 8000, .inl f_nc))] → va_S A s.heap H locs → lv_has ls 10 [(0, .ref h_mm), (1, .int p1), (2, .int p2), (3, .int p3), (4, .int p4), (5, .int z2), (6, .int z3), (7, .int z14), (8, .int z15), (9, .int x47)] → W p l e ({ frames := (fu + 1) + 3, cells := 0, slots := 0, locals := 29 * (fu + 1) + 71 } : Room) s m ([.ref h_mm, .int p1, .int p2, .int p3, .int p4] : List Value).toArray below meth c H locs 0 0 (MQ below (va_Qi (fun (r : Int32) (u : (Int32) × (Int32) × (Int32) × (Nat → Int32) × (Nat → Int32) × (Nat → Int32)) => (0 ≤ (u.1).toInt ∧ (u.1).toInt ≤ 256) ∧ (0 ≤ (u.2.1).toInt ∧ (u.2.1).toInt ≤ 7999) ∧ (0 ≤ (u.2.2.1).toInt ∧ (u.2.2.1).toInt ≤ 31) ∧ (Rg (-1) 7999 u.2.2.2.1) ∧ (Rg 0 31 u.2.2.2.2.1) ∧ (Rg 0 255 u.2.2.2.2.2) ∧ (0 ≤ r.toInt ∧ r.toInt ≤ 1) ∧ (BI i0 i1 N hz f_nv f_na f_nb f_nc u.2.2.2.1 u.2.2.2.2.1) ∧ (TRL (u.1).toInt u.2.2.2.2.2 u.2.2.2.1) ∧ (GRW (x_mm_trailed).toInt (u.1).toInt f_bto f_bin f_tra u.2.2.2.1 u.2.2.2.2.1 u.2.2.2.2.2)) (fun (u : (Int32) × (Int32) × (Int32) × (Nat → Int32) × (Nat → Int32) × (Nat → Int32)) (t : State) => va_P (dC, dI) cls [(h_mm, .inr (8, (mo52 v_mm (.ref h_nv) (.ref h_nn) (.ref h_na) (.ref h_nb) (.ref h_nc) (.ref h_bto) (.ref h_bin) (.ref h_tra) (.int u.1) (.int u.2.1) (.int u.2.2.1)))), (h_nv, .inl (cy_nv, 8000, .inl f_nv)), (h_na, .inl (cy_na, 8000, .inl f_na)), (h_nb, .inl (cy_nb, 8000, .inl f_nb)), (h_nc, .inl (cy_nc, 8000, .inl f_nc)), (h_bto, .inl (cy_bto, 256, .inl u.2.2.2.1)), (h_bin, .inl (cy_bin, 256, .inl u.2.2.2.2.1)), (h_nn, .inl (cy_nn, 8000, .inr (.inl f_nn))), (h_tra, .inl (cy_tra, 256, .inl u.2.2.2.2.2))] t.heap ∧ va_D A [(h_mm, .inr (8, (mo52 v_mm (.ref h_nv) (.ref h_nn) (.ref h_na) (.ref h_nb) (.ref h_nc) (.ref h_bto) (.ref h_bin) (.ref h_tra) (.int u.1) (.int u.2.1) (.int u.2.2.1)))), (h_nv, .inl (cy_nv, 8000, .inl f_nv)), (h_na, .inl (cy_na, 8000, .inl f_na)), (h_nb, .inl (cy_nb, 8000, .inl f_nb)), (h_nc, .inl (cy_nc, 8000, .inl f_nc)), (h_bto, .inl (cy_bto, 256, .inl u.2.2.2.1)), (h_bin, .inl (cy_bin, 256, .inl u.2.2.2.2.1)), (h_nn, .inl (cy_nn, 8000, .inr (.inl f_nn))), (h_tra, .inl (cy_tra, 256, .inl u.2.2.2.2.2))]) A) ([.ref h_mm, .int p1, .int p2, .int p3, .int p4] : List Value).toArray s 0 0 A) (F0 m 197 ls []) := by
            intro n
            induction n with
            | zero => intro x47 f48 f49 f50 x51 x52 x53 H locs ls klp54_0 hf48 hf49 hf50 klp54_4 klp54_5 klp54_6 klp54_7 klp54_8 klp54_9 hm hP hD hS hl; exact False.elim (by omega)
            | succ n ih => 
              intro x47 f48 f49 f50 x51 x52 x53 H locs ls klp54_0 hf48 hf49 hf50 klp54_4 klp54_5 klp54_6 klp54_7 klp54_8 klp54_9 hm hP hD hS hl
              have ih55 := ih
              clear ih
              refine lv_iload hx hb dX11_unifies_197 (lv_at hl 9 rfl) ?_
              refine lv_aload_n hx hb dX11_unifies_199 rfl (lv_at hl 0 rfl) ?_
              refine lv_iload hx hb dX11_unifies_200 (lv_at hl 5 rfl) ?_
              have hPc := hP.sub (ws' := [(h_mm, .inr (8, (mo52 v_mm (.ref h_nv) (.ref h_nn) (.ref h_na) (.ref h_nb) (.ref h_nc) (.ref h_bto) (.ref h_bin) (.ref h_tra) (.int x51) (.int x52) (.int x53)))), (h_nv, .inl (cy_nv, 8000, .inl f_nv)), (h_na, .inl (cy_na, 8000, .inl f_na)), (h_nb, .inl (cy_nb, 8000, .inl f_nb)), (h_nc, .inl (cy_nc, 8000, .inl f_nc))]) [4, 5, 6, 7, 8] rfl
              have hDc := hD.sub (ws' := [(h_mm, .inr (8, (mo52 v_mm (.ref h_nv) (.ref h_nn) (.ref h_na) (.ref h_nb) (.ref h_nc) (.ref h_bto) (.ref h_bin) (.ref h_tra) (.int x51) (.int x52) (.int x53)))), (h_nv, .inl (cy_nv, 8000, .inl f_nv)), (h_na, .inl (cy_na, 8000, .inl f_na)), (h_nb, .inl (cy_nb, 8000, .inl f_nb)), (h_nc, .inl (cy_nc, 8000, .inl f_nc))]) [4, 5, 6, 7, 8] (by decide) rfl
              have hKc := hK.sub (tys' := [(cy_nv, .int), (cy_na, .int), (cy_nb, .int), (cy_nc, .int)]) [0, 1, 2, 3] rfl
              have hFc := va_free (wc := [(h_mm, .inr (8, (mo52 v_mm (.ref h_nv) (.ref h_nn) (.ref h_na) (.ref h_nb) (.ref h_nc) (.ref h_bto) (.ref h_bin) (.ref h_tra) (.int x51) (.int x52) (.int x53)))), (h_nv, .inl (cy_nv, 8000, .inl f_nv)), (h_na, .inl (cy_na, 8000, .inl f_na)), (h_nb, .inl (cy_nb, 8000, .inl f_nb)), (h_nc, .inl (cy_nc, 8000, .inl f_nc))]) hD hS hA [4, 5, 6, 7, 8] rfl
              refine va_calli (va_runV (As := [.int z2]) (rest := [.int x47]) ⟨hx, hb, hml, hown, hts⟩ (c_X11_partsAt_e l dC dI H.size h_mm h_nv h_na h_nb h_nc (fun k => List.getD (mo52 v_mm (.ref h_nv) (.ref h_nn) (.ref h_na) (.ref h_nb) (.ref h_nc) (.ref h_bto) (.ref h_bin) (.ref h_tra) (.int x51) (.int x52) (.int x53)) k .null) cy_nv f_nv cy_na f_na cy_nb f_nb cy_nc f_nc z2 hf_nv hf_na hf_nb hf_nc (by omega)) (cwV 1 hts (gv hT w_m_X11_27 w_instanceMethod_X11_partsAt ws_sel_X11_partsAt w_ini_X11 w_code_X11_partsAt) rfl rfl rfl (by decide +kernel) ⟨(by dsimp only [headSpec]; omega), (by dsimp only [headSpec]; omega)⟩) ⟨pre_blind, va_recv hK hP (ci := 8) (q0 := 4) rfl rfl, pre_of hPc hKc hDc hN⟩ rfl rfl hl.1 rfl (lv_room (Nat.le_of_ble_eq_true rfl)) dX11_unifies_202 ⟨(Nat.le_of_ble_eq_true rfl), (Nat.le_of_ble_eq_true rfl)⟩) hS (fun q _ h => hFc q h) hFc (fun r56 u t H locs ht hvm hq hB hz1 hk1 hS => ?_)
              obtain ⟨hP1, hD1⟩ := hB
              rw [ht] at hP1
              obtain ⟨hP, hD⟩ := va_join (wr := [(h_nn, .inl (cy_nn, 8000, .inr (.inl f_nn))), (h_tra, .inl (cy_tra, 256, .inl f48)), (h_bto, .inl (cy_bto, 256, .inl f49)), (h_bin, .inl (cy_bin, 256, .inl f50))]) (w1 := [(h_mm, .inr (8, (mo52 v_mm (.ref h_nv) (.ref h_nn) (.ref h_na) (.ref h_nb) (.ref h_nc) (.ref h_bto) (.ref h_bin) (.ref h_tra) (.int x51) (.int x52) (.int x53)))), (h_nv, .inl (cy_nv, 8000, .inl f_nv)), (h_na, .inl (cy_na, 8000, .inl f_na)), (h_nb, .inl (cy_nb, 8000, .inl f_nb)), (h_nc, .inl (cy_nc, 8000, .inl f_nc))]) hP hD [4, 5, 6, 7, 8] [0, 1, 2, 3] rfl rfl (by decide) (by decide) hk1 hFc hP1 hD1
              have hP : va_P (dC, dI) cls [(h_nn, .inl (cy_nn, 8000, .inr (.inl f_nn))), (h_tra, .inl (cy_tra, 256, .inl f48)), (h_bto, .inl (cy_bto, 256, .inl f49)), (h_bin, .inl (cy_bin, 256, .inl f50)), (h_mm, .inr (8, (mo52 v_mm (.ref h_nv) (.ref h_nn) (.ref h_na) (.ref h_nb) (.ref h_nc) (.ref h_bto) (.ref h_bin) (.ref h_tra) (.int x51) (.int x52) (.int x53)))), (h_nv, .inl (cy_nv, 8000, .inl f_nv)), (h_na, .inl (cy_na, 8000, .inl f_na)), (h_nb, .inl (cy_nb, 8000, .inl f_nb)), (h_nc, .inl (cy_nc, 8000, .inl f_nc))] H := hP
              have hD : va_D A [(h_nn, .inl (cy_nn, 8000, .inr (.inl f_nn))), (h_tra, .inl (cy_tra, 256, .inl f48)), (h_bto, .inl (cy_bto, 256, .inl f49)), (h_bin, .inl (cy_bin, 256, .inl f50)), (h_mm, .inr (8, (mo52 v_mm (.ref h_nv) (.ref h_nn) (.ref h_na) (.ref h_nb) (.ref h_nc) (.ref h_bto) (.ref h_bin) (.ref h_tra) (.int x51) (.int x52) (.int x53)))), (h_nv, .inl (cy_nv, 8000, .inl f_nv)), (h_na, .inl (cy_na, 8000, .inl f_na)), (h_nb, .inl (cy_nb, 8000, .inl f_nb)), (h_nc, .inl (cy_nc, 8000, .inl f_nc))] := hD
              obtain ⟨k57, k58⟩ := hq
              have k57 : 0 ≤ (r56).toInt ∧ (r56).toInt ≤ 3 := k57
              have k58 : ((r56)).toInt = (npx f_nv f_na f_nb f_nc ((z2)).toInt.toNat) := k58
              refine lv_icmp_ge (tgt := 243) hx hb dX11_unifies_205 (by decide) (fun c59 => ?_) (fun c59 => ?_)
              · have kc59 := (cv_le (rfl : (r56).toInt = (r56).toInt) (rfl : (x47).toInt = (x47).toInt)).mp c59
                refine lv_iconst (v := 1) hx hb dX11_unifies_243 (by decide) ?_
                have hP : va_P (dC, dI) cls [(h_mm, .inr (8, (mo52 v_mm (.ref h_nv) (.ref h_nn) (.ref h_na) (.ref h_nb) (.ref h_nc) (.ref h_bto) (.ref h_bin) (.ref h_tra) (.int x51) (.int x52) (.int x53)))), (h_nv, .inl (cy_nv, 8000, .inl f_nv)), (h_na, .inl (cy_na, 8000, .inl f_na)), (h_nb, .inl (cy_nb, 8000, .inl f_nb)), (h_nc, .inl (cy_nc, 8000, .inl f_nc)), (h_bto, .inl (cy_bto, 256, .inl f49)), (h_bin, .inl (cy_bin, 256, .inl f50)), (h_nn, .inl (cy_nn, 8000, .inr (.inl f_nn))), (h_tra, .inl (cy_tra, 256, .inl f48))] H := hP.sub [4, 5, 6, 7, 8, 2, 3, 0, 1] rfl
                have hD : va_D A [(h_mm, .inr (8, (mo52 v_mm (.ref h_nv) (.ref h_nn) (.ref h_na) (.ref h_nb) (.ref h_nc) (.ref h_bto) (.ref h_bin) (.ref h_tra) (.int x51) (.int x52) (.int x53)))), (h_nv, .inl (cy_nv, 8000, .inl f_nv)), (h_na, .inl (cy_na, 8000, .inl f_na)), (h_nb, .inl (cy_nb, 8000, .inl f_nb)), (h_nc, .inl (cy_nc, 8000, .inl f_nc)), (h_bto, .inl (cy_bto, 256, .inl f49)), (h_bin, .inl (cy_bin, 256, .inl f50)), (h_nn, .inl (cy_nn, 8000, .inr (.inl f_nn))), (h_tra, .inl (cy_tra, 256, .inl f48))] := hD.sub [4, 5, 6, 7, 8, 2, 3, 0, 1] (by decide) rfl
                refine W.widen (k := 0) (n := 0) (Nat.le_of_ble_eq_true rfl) (Nat.le_of_ble_eq_true rfl) ?_
                have cst1 : (1 : Int32).toInt = 1 := by decide
                have w60 : 0 ≤ ((x51)).toInt ∧ ((x51)).toInt ≤ 256 := by omega
                have w61 : 0 ≤ ((x52)).toInt ∧ ((x52)).toInt ≤ 7999 := by omega
                have w62 : 0 ≤ ((x53)).toInt ∧ ((x53)).toInt ≤ 31 := by omega
                have w63 : 0 ≤ (1 : Int32).toInt ∧ (1 : Int32).toInt ≤ 1 := by omega
                have w64 : BI i0 i1 N hz f_nv f_na f_nb f_nc (f49) (f50) := klp54_7
                have w65 : TRL ((x51)).toInt (f48) (f49) := (trl_cast klp54_8 (by omega))
                have w66 : GRW (x_mm_trailed).toInt ((x51)).toInt f_bto f_bin f_tra (f49) (f50) (f48) := (gr_cast klp54_9 (by omega) (by omega))
                exact W.zret (v := 1) (ty := .boolean) hx hb hr (by decide) (fun t ht hW => ⟨⟨1, (x51, x52, x53, f49, f50, f48), rfl, ⟨w60, w61, w62, hf49, hf50, hf48, w63, w64, w65, w66⟩, by rw [ht]; exact hP, hD⟩, hS.F ht⟩) hS.2.2 dX11_unifies_244
              · have kc59 := (not_congr (cv_le (rfl : (r56).toInt = (r56).toInt) (rfl : (x47).toInt = (x47).toInt))).mp c59
                refine lv_aload_n hx hb dX11_unifies_208 rfl (lv_at hl 0 rfl) ?_
                refine lv_aload_n hx hb dX11_unifies_209 rfl (lv_at hl 0 rfl) ?_
                refine lv_iload hx hb dX11_unifies_210 (lv_at hl 5 rfl) ?_
                refine lv_iload hx hb dX11_unifies_212 (lv_at hl 9 rfl) ?_
                have hPc := hP.sub (ws' := [(h_mm, .inr (8, (mo52 v_mm (.ref h_nv) (.ref h_nn) (.ref h_na) (.ref h_nb) (.ref h_nc) (.ref h_bto) (.ref h_bin) (.ref h_tra) (.int x51) (.int x52) (.int x53)))), (h_na, .inl (cy_na, 8000, .inl f_na)), (h_nb, .inl (cy_nb, 8000, .inl f_nb)), (h_nc, .inl (cy_nc, 8000, .inl f_nc))]) [4, 6, 7, 8] rfl
                have hDc := hD.sub (ws' := [(h_mm, .inr (8, (mo52 v_mm (.ref h_nv) (.ref h_nn) (.ref h_na) (.ref h_nb) (.ref h_nc) (.ref h_bto) (.ref h_bin) (.ref h_tra) (.int x51) (.int x52) (.int x53)))), (h_na, .inl (cy_na, 8000, .inl f_na)), (h_nb, .inl (cy_nb, 8000, .inl f_nb)), (h_nc, .inl (cy_nc, 8000, .inl f_nc))]) [4, 6, 7, 8] (by decide) rfl
                have hKc := hK.sub (tys' := [(cy_na, .int), (cy_nb, .int), (cy_nc, .int)]) [1, 2, 3] rfl
                have hFc := va_free (wc := [(h_mm, .inr (8, (mo52 v_mm (.ref h_nv) (.ref h_nn) (.ref h_na) (.ref h_nb) (.ref h_nc) (.ref h_bto) (.ref h_bin) (.ref h_tra) (.int x51) (.int x52) (.int x53)))), (h_na, .inl (cy_na, 8000, .inl f_na)), (h_nb, .inl (cy_nb, 8000, .inl f_nb)), (h_nc, .inl (cy_nc, 8000, .inl f_nc))]) hD hS hA [4, 6, 7, 8] rfl
                refine va_calli (va_runV (As := [.int z2, .int x47]) (rest := [.ref h_mm]) ⟨hx, hb, hml, hown, hts⟩ (c_X11_part_e l dC dI H.size h_mm h_na h_nb h_nc (fun k => List.getD (mo52 v_mm (.ref h_nv) (.ref h_nn) (.ref h_na) (.ref h_nb) (.ref h_nc) (.ref h_bto) (.ref h_bin) (.ref h_tra) (.int x51) (.int x52) (.int x53)) k .null) cy_na f_na cy_nb f_nb cy_nc f_nc z2 x47 hf_na hf_nb hf_nc (by omega)) (cwV 2 hts (gv hT w_m_X11_31 w_instanceMethod_X11_part ws_sel_X11_part w_ini_X11 w_code_X11_part) rfl rfl rfl (by decide +kernel) ⟨(by dsimp only [headSpec]; omega), (by dsimp only [headSpec]; omega)⟩) ⟨pre_blind, va_recv hK hP (ci := 8) (q0 := 4) rfl rfl, pre_of hPc hKc hDc hN⟩ rfl rfl hl.1 rfl (lv_room (Nat.le_of_ble_eq_true rfl)) dX11_unifies_214 ⟨(Nat.le_of_ble_eq_true rfl), (Nat.le_of_ble_eq_true rfl)⟩) hS (fun q _ h => hFc q h) hFc (fun r67 u t H locs ht hvm hq hB hz1 hk1 hS => ?_)
                obtain ⟨hP1, hD1⟩ := hB
                rw [ht] at hP1
                obtain ⟨hP, hD⟩ := va_join (wr := [(h_nn, .inl (cy_nn, 8000, .inr (.inl f_nn))), (h_tra, .inl (cy_tra, 256, .inl f48)), (h_bto, .inl (cy_bto, 256, .inl f49)), (h_bin, .inl (cy_bin, 256, .inl f50)), (h_nv, .inl (cy_nv, 8000, .inl f_nv))]) (w1 := [(h_mm, .inr (8, (mo52 v_mm (.ref h_nv) (.ref h_nn) (.ref h_na) (.ref h_nb) (.ref h_nc) (.ref h_bto) (.ref h_bin) (.ref h_tra) (.int x51) (.int x52) (.int x53)))), (h_na, .inl (cy_na, 8000, .inl f_na)), (h_nb, .inl (cy_nb, 8000, .inl f_nb)), (h_nc, .inl (cy_nc, 8000, .inl f_nc))]) hP hD [4, 6, 7, 8] [0, 1, 2, 3, 5] rfl rfl (by decide) (by decide) hk1 hFc hP1 hD1
                have hP : va_P (dC, dI) cls [(h_nn, .inl (cy_nn, 8000, .inr (.inl f_nn))), (h_tra, .inl (cy_tra, 256, .inl f48)), (h_bto, .inl (cy_bto, 256, .inl f49)), (h_bin, .inl (cy_bin, 256, .inl f50)), (h_nv, .inl (cy_nv, 8000, .inl f_nv)), (h_mm, .inr (8, (mo52 v_mm (.ref h_nv) (.ref h_nn) (.ref h_na) (.ref h_nb) (.ref h_nc) (.ref h_bto) (.ref h_bin) (.ref h_tra) (.int x51) (.int x52) (.int x53)))), (h_na, .inl (cy_na, 8000, .inl f_na)), (h_nb, .inl (cy_nb, 8000, .inl f_nb)), (h_nc, .inl (cy_nc, 8000, .inl f_nc))] H := hP
                have hD : va_D A [(h_nn, .inl (cy_nn, 8000, .inr (.inl f_nn))), (h_tra, .inl (cy_tra, 256, .inl f48)), (h_bto, .inl (cy_bto, 256, .inl f49)), (h_bin, .inl (cy_bin, 256, .inl f50)), (h_nv, .inl (cy_nv, 8000, .inl f_nv)), (h_mm, .inr (8, (mo52 v_mm (.ref h_nv) (.ref h_nn) (.ref h_na) (.ref h_nb) (.ref h_nc) (.ref h_bto) (.ref h_bin) (.ref h_tra) (.int x51) (.int x52) (.int x53)))), (h_na, .inl (cy_na, 8000, .inl f_na)), (h_nb, .inl (cy_nb, 8000, .inl f_nb)), (h_nc, .inl (cy_nc, 8000, .inl f_nc))] := hD
                obtain ⟨k68, k69⟩ := hq
                have k68 : -1 ≤ (r67).toInt ∧ (r67).toInt ≤ 7999 := k68
                have k69 : ((r67)).toInt = (ptx f_na f_nb f_nc ((z2)).toInt.toNat ((x47)).toInt).toInt := k69
                refine lv_iload hx hb dX11_unifies_217 (lv_at hl 6 rfl) ?_
                refine lv_aload_n hx hb dX11_unifies_219 rfl (lv_at hl 0 rfl) ?_
                refine lv_iload hx hb dX11_unifies_220 (lv_at hl 7 rfl) ?_
                refine lv_iload hx hb dX11_unifies_222 (lv_at hl 9 rfl) ?_
                have hPc := hP.sub (ws' := [(h_mm, .inr (8, (mo52 v_mm (.ref h_nv) (.ref h_nn) (.ref h_na) (.ref h_nb) (.ref h_nc) (.ref h_bto) (.ref h_bin) (.ref h_tra) (.int x51) (.int x52) (.int x53)))), (h_na, .inl (cy_na, 8000, .inl f_na)), (h_nb, .inl (cy_nb, 8000, .inl f_nb)), (h_nc, .inl (cy_nc, 8000, .inl f_nc))]) [5, 6, 7, 8] rfl
                have hDc := hD.sub (ws' := [(h_mm, .inr (8, (mo52 v_mm (.ref h_nv) (.ref h_nn) (.ref h_na) (.ref h_nb) (.ref h_nc) (.ref h_bto) (.ref h_bin) (.ref h_tra) (.int x51) (.int x52) (.int x53)))), (h_na, .inl (cy_na, 8000, .inl f_na)), (h_nb, .inl (cy_nb, 8000, .inl f_nb)), (h_nc, .inl (cy_nc, 8000, .inl f_nc))]) [5, 6, 7, 8] (by decide) rfl
                have hKc := hK.sub (tys' := [(cy_na, .int), (cy_nb, .int), (cy_nc, .int)]) [1, 2, 3] rfl
                have hFc := va_free (wc := [(h_mm, .inr (8, (mo52 v_mm (.ref h_nv) (.ref h_nn) (.ref h_na) (.ref h_nb) (.ref h_nc) (.ref h_bto) (.ref h_bin) (.ref h_tra) (.int x51) (.int x52) (.int x53)))), (h_na, .inl (cy_na, 8000, .inl f_na)), (h_nb, .inl (cy_nb, 8000, .inl f_nb)), (h_nc, .inl (cy_nc, 8000, .inl f_nc))]) hD hS hA [5, 6, 7, 8] rfl
                refine va_calli (va_runV (As := [.int z14, .int x47]) (rest := [.int z3, .int r67, .ref h_mm]) ⟨hx, hb, hml, hown, hts⟩ (c_X11_part_e l dC dI H.size h_mm h_na h_nb h_nc (fun k => List.getD (mo52 v_mm (.ref h_nv) (.ref h_nn) (.ref h_na) (.ref h_nb) (.ref h_nc) (.ref h_bto) (.ref h_bin) (.ref h_tra) (.int x51) (.int x52) (.int x53)) k .null) cy_na f_na cy_nb f_nb cy_nc f_nc z14 x47 hf_na hf_nb hf_nc (by omega)) (cwV 2 hts (gv hT w_m_X11_31 w_instanceMethod_X11_part ws_sel_X11_part w_ini_X11 w_code_X11_part) rfl rfl rfl (by decide +kernel) ⟨(by dsimp only [headSpec]; omega), (by dsimp only [headSpec]; omega)⟩) ⟨pre_blind, va_recv hK hP (ci := 8) (q0 := 5) rfl rfl, pre_of hPc hKc hDc hN⟩ rfl rfl hl.1 rfl (lv_room (Nat.le_of_ble_eq_true rfl)) dX11_unifies_224 ⟨(Nat.le_of_ble_eq_true rfl), (Nat.le_of_ble_eq_true rfl)⟩) hS (fun q _ h => hFc q h) hFc (fun r70 u t H locs ht hvm hq hB hz1 hk1 hS => ?_)
                obtain ⟨hP1, hD1⟩ := hB
                rw [ht] at hP1
                obtain ⟨hP, hD⟩ := va_join (wr := [(h_nn, .inl (cy_nn, 8000, .inr (.inl f_nn))), (h_tra, .inl (cy_tra, 256, .inl f48)), (h_bto, .inl (cy_bto, 256, .inl f49)), (h_bin, .inl (cy_bin, 256, .inl f50)), (h_nv, .inl (cy_nv, 8000, .inl f_nv))]) (w1 := [(h_mm, .inr (8, (mo52 v_mm (.ref h_nv) (.ref h_nn) (.ref h_na) (.ref h_nb) (.ref h_nc) (.ref h_bto) (.ref h_bin) (.ref h_tra) (.int x51) (.int x52) (.int x53)))), (h_na, .inl (cy_na, 8000, .inl f_na)), (h_nb, .inl (cy_nb, 8000, .inl f_nb)), (h_nc, .inl (cy_nc, 8000, .inl f_nc))]) hP hD [5, 6, 7, 8] [0, 1, 2, 3, 4] rfl rfl (by decide) (by decide) hk1 hFc hP1 hD1
                have hP : va_P (dC, dI) cls [(h_nn, .inl (cy_nn, 8000, .inr (.inl f_nn))), (h_tra, .inl (cy_tra, 256, .inl f48)), (h_bto, .inl (cy_bto, 256, .inl f49)), (h_bin, .inl (cy_bin, 256, .inl f50)), (h_nv, .inl (cy_nv, 8000, .inl f_nv)), (h_mm, .inr (8, (mo52 v_mm (.ref h_nv) (.ref h_nn) (.ref h_na) (.ref h_nb) (.ref h_nc) (.ref h_bto) (.ref h_bin) (.ref h_tra) (.int x51) (.int x52) (.int x53)))), (h_na, .inl (cy_na, 8000, .inl f_na)), (h_nb, .inl (cy_nb, 8000, .inl f_nb)), (h_nc, .inl (cy_nc, 8000, .inl f_nc))] H := hP
                have hD : va_D A [(h_nn, .inl (cy_nn, 8000, .inr (.inl f_nn))), (h_tra, .inl (cy_tra, 256, .inl f48)), (h_bto, .inl (cy_bto, 256, .inl f49)), (h_bin, .inl (cy_bin, 256, .inl f50)), (h_nv, .inl (cy_nv, 8000, .inl f_nv)), (h_mm, .inr (8, (mo52 v_mm (.ref h_nv) (.ref h_nn) (.ref h_na) (.ref h_nb) (.ref h_nc) (.ref h_bto) (.ref h_bin) (.ref h_tra) (.int x51) (.int x52) (.int x53)))), (h_na, .inl (cy_na, 8000, .inl f_na)), (h_nb, .inl (cy_nb, 8000, .inl f_nb)), (h_nc, .inl (cy_nc, 8000, .inl f_nc))] := hD
                obtain ⟨k71, k72⟩ := hq
                have k71 : -1 ≤ (r70).toInt ∧ (r70).toInt ≤ 7999 := k71
                have k72 : ((r70)).toInt = (ptx f_na f_nb f_nc ((z14)).toInt.toNat ((x47)).toInt).toInt := k72
                have ca9e : ptx f_na f_nb f_nc (z2).toInt.toNat (x47).toInt = r67 := Int32.toInt_inj.mp (by omega)
                have ca9c := ch_ok (nv := f_nv) (k := (x47).toInt) (x := (z2).toInt.toNat) klp54_7.1 (by omega) (by omega)
                rw [ca9e] at ca9c
                have ca9p := pa_ch (k := (x47).toInt) (pa_mono klp54_9 k10) (by omega)
                rw [ca9e] at ca9p
                have cb9e : ptx f_na f_nb f_nc (z14).toInt.toNat (x47).toInt = r70 := Int32.toInt_inj.mp (by omega)
                have cb9c := ch_ok (nv := f_nv) (k := (x47).toInt) (x := (z14).toInt.toNat) klp54_7.1 (by omega) (by omega)
                rw [cb9e] at cb9c
                have cb9p := pa_ch (k := (x47).toInt) (pa_mono klp54_9 k22) (by omega)
                rw [cb9e] at cb9p
                refine lv_iload hx hb dX11_unifies_227 (lv_at hl 8 rfl) ?_
                have hPc := hP.sub (ws' := [(h_mm, .inr (8, (mo52 v_mm (.ref h_nv) (.ref h_nn) (.ref h_na) (.ref h_nb) (.ref h_nc) (.ref h_bto) (.ref h_bin) (.ref h_tra) (.int x51) (.int x52) (.int x53)))), (h_nv, .inl (cy_nv, 8000, .inl f_nv)), (h_na, .inl (cy_na, 8000, .inl f_na)), (h_nb, .inl (cy_nb, 8000, .inl f_nb)), (h_nc, .inl (cy_nc, 8000, .inl f_nc)), (h_bto, .inl (cy_bto, 256, .inl f49)), (h_bin, .inl (cy_bin, 256, .inl f50)), (h_nn, .inl (cy_nn, 8000, .inr (.inl f_nn))), (h_tra, .inl (cy_tra, 256, .inl f48))]) [5, 4, 6, 7, 8, 2, 3, 0, 1] rfl
                have hDc := hD.sub (ws' := [(h_mm, .inr (8, (mo52 v_mm (.ref h_nv) (.ref h_nn) (.ref h_na) (.ref h_nb) (.ref h_nc) (.ref h_bto) (.ref h_bin) (.ref h_tra) (.int x51) (.int x52) (.int x53)))), (h_nv, .inl (cy_nv, 8000, .inl f_nv)), (h_na, .inl (cy_na, 8000, .inl f_na)), (h_nb, .inl (cy_nb, 8000, .inl f_nb)), (h_nc, .inl (cy_nc, 8000, .inl f_nc)), (h_bto, .inl (cy_bto, 256, .inl f49)), (h_bin, .inl (cy_bin, 256, .inl f50)), (h_nn, .inl (cy_nn, 8000, .inr (.inl f_nn))), (h_tra, .inl (cy_tra, 256, .inl f48))]) [5, 4, 6, 7, 8, 2, 3, 0, 1] (by decide) rfl
                have hKc := hK.sub (tys' := [(cy_nv, .int), (cy_na, .int), (cy_nb, .int), (cy_nc, .int), (cy_bto, .int), (cy_bin, .int), (cy_nn, .long), (cy_tra, .int)]) [0, 1, 2, 3, 4, 5, 6, 7] rfl
                have hFc := va_free (wc := [(h_mm, .inr (8, (mo52 v_mm (.ref h_nv) (.ref h_nn) (.ref h_na) (.ref h_nb) (.ref h_nc) (.ref h_bto) (.ref h_bin) (.ref h_tra) (.int x51) (.int x52) (.int x53)))), (h_nv, .inl (cy_nv, 8000, .inl f_nv)), (h_na, .inl (cy_na, 8000, .inl f_na)), (h_nb, .inl (cy_nb, 8000, .inl f_nb)), (h_nc, .inl (cy_nc, 8000, .inl f_nc)), (h_bto, .inl (cy_bto, 256, .inl f49)), (h_bin, .inl (cy_bin, 256, .inl f50)), (h_nn, .inl (cy_nn, 8000, .inr (.inl f_nn))), (h_tra, .inl (cy_tra, 256, .inl f48))]) hD hS hA [5, 4, 6, 7, 8, 2, 3, 0, 1] rfl
                refine va_calli (va_runV (As := [.int r67, .int z3, .int r70, .int z15]) (rest := []) ⟨hx, hb, hml, hown, hts⟩ (ihf dC dI H.size h_mm h_nv h_na h_nb h_nc h_bto h_bin h_nn h_tra v_mm x51 x52 x53 cy_nv f_nv cy_na f_na cy_nb f_nb cy_nc f_nc cy_bto f49 cy_bin f50 cy_nn f_nn cy_tra f48 r67 z3 r70 z15 i0 i1 N hz z4 z16 (by omega) (by omega) (by omega) hf_nv hf_na hf_nb hf_nc hf49 hf50 hf48 (by omega) (by omega) (by omega) (by omega) (by omega) (by omega) (by omega) (by omega) klp54_7 (trl_cast klp54_8 (by omega)) ca9p cb9p) (cwV 4 hts (gv hT w_m_X11_284 w_instanceMethod_X11_unifies ws_sel_X11_unifies w_ini_X11 w_code_X11_unifies) rfl rfl rfl (by decide +kernel) ⟨(by dsimp only [headSpec]; omega), (by dsimp only [headSpec]; omega)⟩) ⟨pre_blind, va_recv hK hP (ci := 8) (q0 := 5) rfl rfl, pre_of hPc hKc hDc hN⟩ rfl rfl hl.1 rfl (lv_room (Nat.le_of_ble_eq_true rfl)) dX11_unifies_229 ⟨(Nat.le_of_ble_eq_true rfl), (Nat.le_of_ble_eq_true rfl)⟩) hS (fun q _ h => hFc q h) hFc (fun r73 u t H locs ht hvm hq hB hz1 hk1 hS => ?_)
                obtain ⟨z74, z75, z76, f77, f78, f79⟩ := u
                obtain ⟨hP1, hD1⟩ := hB
                rw [ht] at hP1
                obtain ⟨hP, hD⟩ := va_join (wr := []) (w1 := [(h_mm, .inr (8, (mo52 v_mm (.ref h_nv) (.ref h_nn) (.ref h_na) (.ref h_nb) (.ref h_nc) (.ref h_bto) (.ref h_bin) (.ref h_tra) (.int z74) (.int z75) (.int z76)))), (h_nv, .inl (cy_nv, 8000, .inl f_nv)), (h_na, .inl (cy_na, 8000, .inl f_na)), (h_nb, .inl (cy_nb, 8000, .inl f_nb)), (h_nc, .inl (cy_nc, 8000, .inl f_nc)), (h_bto, .inl (cy_bto, 256, .inl f77)), (h_bin, .inl (cy_bin, 256, .inl f78)), (h_nn, .inl (cy_nn, 8000, .inr (.inl f_nn))), (h_tra, .inl (cy_tra, 256, .inl f79))]) hP hD [5, 4, 6, 7, 8, 2, 3, 0, 1] [] rfl rfl (by decide) (by decide) hk1 hFc hP1 hD1
                have hP : va_P (dC, dI) cls [(h_mm, .inr (8, (mo52 v_mm (.ref h_nv) (.ref h_nn) (.ref h_na) (.ref h_nb) (.ref h_nc) (.ref h_bto) (.ref h_bin) (.ref h_tra) (.int z74) (.int z75) (.int z76)))), (h_nv, .inl (cy_nv, 8000, .inl f_nv)), (h_na, .inl (cy_na, 8000, .inl f_na)), (h_nb, .inl (cy_nb, 8000, .inl f_nb)), (h_nc, .inl (cy_nc, 8000, .inl f_nc)), (h_bto, .inl (cy_bto, 256, .inl f77)), (h_bin, .inl (cy_bin, 256, .inl f78)), (h_nn, .inl (cy_nn, 8000, .inr (.inl f_nn))), (h_tra, .inl (cy_tra, 256, .inl f79))] H := hP
                have hD : va_D A [(h_mm, .inr (8, (mo52 v_mm (.ref h_nv) (.ref h_nn) (.ref h_na) (.ref h_nb) (.ref h_nc) (.ref h_bto) (.ref h_bin) (.ref h_tra) (.int z74) (.int z75) (.int z76)))), (h_nv, .inl (cy_nv, 8000, .inl f_nv)), (h_na, .inl (cy_na, 8000, .inl f_na)), (h_nb, .inl (cy_nb, 8000, .inl f_nb)), (h_nc, .inl (cy_nc, 8000, .inl f_nc)), (h_bto, .inl (cy_bto, 256, .inl f77)), (h_bin, .inl (cy_bin, 256, .inl f78)), (h_nn, .inl (cy_nn, 8000, .inr (.inl f_nn))), (h_tra, .inl (cy_tra, 256, .inl f79))] := hD
                obtain ⟨k80, k81, k82, hf77, hf78, hf79, k83, k84, k85, k86⟩ := hq
                have k80 : 0 ≤ ((z74)).toInt ∧ ((z74)).toInt ≤ 256 := k80
                have k81 : 0 ≤ ((z75)).toInt ∧ ((z75)).toInt ≤ 7999 := k81
                have k82 : 0 ≤ ((z76)).toInt ∧ ((z76)).toInt ≤ 31 := k82
                have hf77 : Rg (-1) 7999 (f77) := hf77
                have hf78 : Rg 0 31 (f78) := hf78
                have hf79 : Rg 0 255 (f79) := hf79
                have k83 : 0 ≤ (r73).toInt ∧ (r73).toInt ≤ 1 := k83
                have k84 : BI (i0) (i1) (N) (hz) f_nv f_na f_nb f_nc (f77) (f78) := k84
                have k85 : TRL ((z74)).toInt (f79) (f77) := k85
                have k86 : GRW ((x51)).toInt ((z74)).toInt (f49) (f50) (f48) (f77) (f78) (f79) := k86
                have gr87 : GRW (x_mm_trailed).toInt (z74).toInt f_bto f_bin f_tra f77 f78 f79 := gr_trans hf79 klp54_9 k86
                refine lv_if_ne (tgt := 237) hx hb dX11_unifies_232 (by decide) (fun c88 => ?_) (fun c88 => ?_)
                · have kc88 := (not_congr (cv_eq (rfl : (r73).toInt = (r73).toInt) (by decide : (0 : Int32).toInt = 0))).mp c88
                  obtain ⟨z89, ez89⟩ : ∃ y : Int32, y = x47 + 1 := ⟨_, rfl⟩
                  have tz89 : (z89).toInt = (x47).toInt + 1 := by rw [ez89]; exact i_add rfl (by decide) (by omega)
                  refine lv_iinc (v := z89) (lv' := [(9, .int z89), (0, .ref h_mm), (1, .int p1), (2, .int p2), (3, .int p3), (4, .int p4), (5, .int z2), (6, .int z3), (7, .int z14), (8, .int z15)]) hx hb dX11_unifies_237 hl (k := 9) rfl (by rw [ez89]; rfl) (by decide) rfl (fun ls hl => ?_)
                  refine lv_goto (tgt := 197) hx hb dX11_unifies_240 (by decide) ?_
                  have hP : va_P (dC, dI) cls [(h_nn, .inl (cy_nn, 8000, .inr (.inl f_nn))), (h_tra, .inl (cy_tra, 256, .inl f79)), (h_bto, .inl (cy_bto, 256, .inl f77)), (h_bin, .inl (cy_bin, 256, .inl f78)), (h_mm, .inr (8, (mo52 v_mm (.ref h_nv) (.ref h_nn) (.ref h_na) (.ref h_nb) (.ref h_nc) (.ref h_bto) (.ref h_bin) (.ref h_tra) (.int z74) (.int z75) (.int z76)))), (h_nv, .inl (cy_nv, 8000, .inl f_nv)), (h_na, .inl (cy_na, 8000, .inl f_na)), (h_nb, .inl (cy_nb, 8000, .inl f_nb)), (h_nc, .inl (cy_nc, 8000, .inl f_nc))] H := hP.sub [7, 8, 5, 6, 0, 1, 2, 3, 4] rfl
                  have hD : va_D A [(h_nn, .inl (cy_nn, 8000, .inr (.inl f_nn))), (h_tra, .inl (cy_tra, 256, .inl f79)), (h_bto, .inl (cy_bto, 256, .inl f77)), (h_bin, .inl (cy_bin, 256, .inl f78)), (h_mm, .inr (8, (mo52 v_mm (.ref h_nv) (.ref h_nn) (.ref h_na) (.ref h_nb) (.ref h_nc) (.ref h_bto) (.ref h_bin) (.ref h_tra) (.int z74) (.int z75) (.int z76)))), (h_nv, .inl (cy_nv, 8000, .inl f_nv)), (h_na, .inl (cy_na, 8000, .inl f_na)), (h_nb, .inl (cy_nb, 8000, .inl f_nb)), (h_nc, .inl (cy_nc, 8000, .inl f_nc))] := hD.sub [7, 8, 5, 6, 0, 1, 2, 3, 4] (by decide) rfl
                  exact ih55 (z89) (f79) (f77) (f78) (z74) (z75) (z76) _ _ _ (by omega) hf79 hf77 hf78 (by omega) (by omega) (by omega) k84 (trl_cast k85 (by omega)) (gr_cast gr87 (by omega) (by omega)) (by omega) hP hD hS (lv_sub hl [1, 2, 3, 4, 5, 6, 7, 8, 9, 0] rfl)
                · have kc88 := (cv_eq (rfl : (r73).toInt = (r73).toInt) (by decide : (0 : Int32).toInt = 0)).mp c88
                  refine lv_iconst (v := 0) hx hb dX11_unifies_235 (by decide) ?_
                  refine W.widen (k := 0) (n := 0) (Nat.le_of_ble_eq_true rfl) (Nat.le_of_ble_eq_true rfl) ?_
                  have cst0 : (0 : Int32).toInt = 0 := by decide
                  have w90 : 0 ≤ ((z74)).toInt ∧ ((z74)).toInt ≤ 256 := by omega
                  have w91 : 0 ≤ ((z75)).toInt ∧ ((z75)).toInt ≤ 7999 := by omega
                  have w92 : 0 ≤ ((z76)).toInt ∧ ((z76)).toInt ≤ 31 := by omega
                  have w93 : 0 ≤ (0 : Int32).toInt ∧ (0 : Int32).toInt ≤ 1 := by omega
                  have w94 : BI i0 i1 N hz f_nv f_na f_nb f_nc (f77) (f78) := k84
                  have w95 : TRL ((z74)).toInt (f79) (f77) := (trl_cast k85 (by omega))
                  have w96 : GRW (x_mm_trailed).toInt ((z74)).toInt f_bto f_bin f_tra (f77) (f78) (f79) := (gr_cast gr87 (by omega) (by omega))
                  exact W.zret (v := 0) (ty := .boolean) hx hb hr (by decide) (fun t ht hW => ⟨⟨0, (z74, z75, z76, f77, f78, f79), rfl, ⟨w90, w91, w92, hf77, hf78, hf79, w93, w94, w95, w96⟩, by rw [ht]; exact hP, hD⟩, hS.F ht⟩) hS.2.2 dX11_unifies_236
          have cst0 : (0 : Int32).toInt = 0 := by decide
          exact lp54 _ (0) (f_tra) (f_bto) (f_bin) (x_mm_trailed) (z14) (z15) _ _ _ (by decide) hf_tra hf_bto hf_bin (by omega) (by omega) (by omega) hn_bi (trl_cast hn_trl (by omega)) (gr_cast gr0 (by omega) (by omega)) (Nat.le_refl _) hP hD hS (lv_sub hl [5, 6, 7, 8, 9, 4, 3, 2, 1, 0] rfl)
        · have kc46 := (not_congr (cv_eq (rfl : (r40).toInt = (r40).toInt) (rfl : (r43).toInt = (r43).toInt))).mp c46
          refine lv_iconst (v := 0) hx hb dX11_unifies_192 (by decide) ?_
          have hP : va_P (dC, dI) cls [(h_mm, .inr (8, (mo52 v_mm (.ref h_nv) (.ref h_nn) (.ref h_na) (.ref h_nb) (.ref h_nc) (.ref h_bto) (.ref h_bin) (.ref h_tra) (.int x_mm_trailed) (.int z14) (.int z15)))), (h_nv, .inl (cy_nv, 8000, .inl f_nv)), (h_na, .inl (cy_na, 8000, .inl f_na)), (h_nb, .inl (cy_nb, 8000, .inl f_nb)), (h_nc, .inl (cy_nc, 8000, .inl f_nc)), (h_bto, .inl (cy_bto, 256, .inl f_bto)), (h_bin, .inl (cy_bin, 256, .inl f_bin)), (h_nn, .inl (cy_nn, 8000, .inr (.inl f_nn))), (h_tra, .inl (cy_tra, 256, .inl f_tra))] H := hP.sub [4, 5, 6, 7, 8, 2, 3, 0, 1] rfl
          have hD : va_D A [(h_mm, .inr (8, (mo52 v_mm (.ref h_nv) (.ref h_nn) (.ref h_na) (.ref h_nb) (.ref h_nc) (.ref h_bto) (.ref h_bin) (.ref h_tra) (.int x_mm_trailed) (.int z14) (.int z15)))), (h_nv, .inl (cy_nv, 8000, .inl f_nv)), (h_na, .inl (cy_na, 8000, .inl f_na)), (h_nb, .inl (cy_nb, 8000, .inl f_nb)), (h_nc, .inl (cy_nc, 8000, .inl f_nc)), (h_bto, .inl (cy_bto, 256, .inl f_bto)), (h_bin, .inl (cy_bin, 256, .inl f_bin)), (h_nn, .inl (cy_nn, 8000, .inr (.inl f_nn))), (h_tra, .inl (cy_tra, 256, .inl f_tra))] := hD.sub [4, 5, 6, 7, 8, 2, 3, 0, 1] (by decide) rfl
          refine W.widen (k := 0) (n := 0) (Nat.le_of_ble_eq_true rfl) (Nat.le_of_ble_eq_true rfl) ?_
          have cst0 : (0 : Int32).toInt = 0 := by decide
          have w97 : 0 ≤ ((x_mm_trailed)).toInt ∧ ((x_mm_trailed)).toInt ≤ 256 := by omega
          have w98 : 0 ≤ ((z14)).toInt ∧ ((z14)).toInt ≤ 7999 := by omega
          have w99 : 0 ≤ ((z15)).toInt ∧ ((z15)).toInt ≤ 31 := by omega
          have w100 : 0 ≤ (0 : Int32).toInt ∧ (0 : Int32).toInt ≤ 1 := by omega
          have w101 : BI i0 i1 N hz f_nv f_na f_nb f_nc (f_bto) (f_bin) := hn_bi
          have w102 : TRL ((x_mm_trailed)).toInt (f_tra) (f_bto) := (trl_cast hn_trl (by omega))
          have w103 : GRW (x_mm_trailed).toInt ((x_mm_trailed)).toInt f_bto f_bin f_tra (f_bto) (f_bin) (f_tra) := (gr_cast gr0 (by omega) (by omega))
          exact W.zret (v := 0) (ty := .boolean) hx hb hr (by decide) (fun t ht hW => ⟨⟨0, (x_mm_trailed, z14, z15, f_bto, f_bin, f_tra), rfl, ⟨w97, w98, w99, hf_bto, hf_bin, hf_tra, w100, w101, w102, w103⟩, by rw [ht]; exact hP, hD⟩, hS.F ht⟩) hS.2.2 dX11_unifies_193
    · have kc28 := (not_congr (cv_eq (rfl : (z27).toInt = (z27).toInt) (by decide : ((-1) : Int32).toInt = -1))).mp c28
      refine lv_aload_n hx hb dX11_unifies_122 rfl (lv_at hl 4 rfl) ?_
      refine lv_iload hx hb dX11_unifies_123 (lv_at hl 1 rfl) ?_
      refine lv_iload hx hb dX11_unifies_125 (lv_at hl 0 rfl) ?_
      have hPc := hP.sub (ws' := [(h_mm, .inr (8, (mo52 v_mm (.ref h_nv) (.ref h_nn) (.ref h_na) (.ref h_nb) (.ref h_nc) (.ref h_bto) (.ref h_bin) (.ref h_tra) (.int x_mm_trailed) (.int z14) (.int z15)))), (h_nv, .inl (cy_nv, 8000, .inl f_nv))]) [2, 3] rfl
      have hDc := hD.sub (ws' := [(h_mm, .inr (8, (mo52 v_mm (.ref h_nv) (.ref h_nn) (.ref h_na) (.ref h_nb) (.ref h_nc) (.ref h_bto) (.ref h_bin) (.ref h_tra) (.int x_mm_trailed) (.int z14) (.int z15)))), (h_nv, .inl (cy_nv, 8000, .inl f_nv))]) [2, 3] (by decide) rfl
      have hKc := hK.sub (tys' := [(cy_nv, .int)]) [0] rfl
      have hFc := va_free (wc := [(h_mm, .inr (8, (mo52 v_mm (.ref h_nv) (.ref h_nn) (.ref h_na) (.ref h_nb) (.ref h_nc) (.ref h_bto) (.ref h_bin) (.ref h_tra) (.int x_mm_trailed) (.int z14) (.int z15)))), (h_nv, .inl (cy_nv, 8000, .inl f_nv))]) hD hS hA [2, 3] rfl
      refine va_calli (va_runV (As := [.int z14, .int z15]) (rest := []) ⟨hx, hb, hml, hown, hts⟩ (c_X11_slotOf l dC dI H.size h_mm h_nv (fun k => List.getD (mo52 v_mm (.ref h_nv) (.ref h_nn) (.ref h_na) (.ref h_nb) (.ref h_nc) (.ref h_bto) (.ref h_bin) (.ref h_tra) (.int x_mm_trailed) (.int z14) (.int z15)) k .null) cy_nv f_nv z14 z15 hf_nv (by omega) (by omega)) (cwV 2 hts (gv hT w_m_X11_270 w_instanceMethod_X11_slotOf ws_sel_X11_slotOf w_ini_X11 w_code_X11_slotOf) rfl rfl rfl (by decide +kernel) ⟨(by dsimp only [headSpec]; omega), (by dsimp only [headSpec]; omega)⟩) ⟨pre_blind, va_recv hK hP (ci := 8) (q0 := 2) rfl rfl, pre_of hPc hKc hDc hN⟩ rfl rfl hl.1 rfl (lv_room (Nat.le_of_ble_eq_true rfl)) dX11_unifies_127 ⟨(Nat.le_of_ble_eq_true rfl), (Nat.le_of_ble_eq_true rfl)⟩) hS (fun q _ h => hFc q h) hFc (fun r104 u t H locs ht hvm hq hB hz1 hk1 hS => ?_)
      obtain ⟨hP1, hD1⟩ := hB
      rw [ht] at hP1
      obtain ⟨hP, hD⟩ := va_join (wr := [(h_nn, .inl (cy_nn, 8000, .inr (.inl f_nn))), (h_tra, .inl (cy_tra, 256, .inl f_tra)), (h_na, .inl (cy_na, 8000, .inl f_na)), (h_nb, .inl (cy_nb, 8000, .inl f_nb)), (h_nc, .inl (cy_nc, 8000, .inl f_nc)), (h_bto, .inl (cy_bto, 256, .inl f_bto)), (h_bin, .inl (cy_bin, 256, .inl f_bin))]) (w1 := [(h_mm, .inr (8, (mo52 v_mm (.ref h_nv) (.ref h_nn) (.ref h_na) (.ref h_nb) (.ref h_nc) (.ref h_bto) (.ref h_bin) (.ref h_tra) (.int x_mm_trailed) (.int z14) (.int z15)))), (h_nv, .inl (cy_nv, 8000, .inl f_nv))]) hP hD [2, 3] [0, 1, 4, 5, 6, 7, 8] rfl rfl (by decide) (by decide) hk1 hFc hP1 hD1
      have hP : va_P (dC, dI) cls [(h_nn, .inl (cy_nn, 8000, .inr (.inl f_nn))), (h_tra, .inl (cy_tra, 256, .inl f_tra)), (h_na, .inl (cy_na, 8000, .inl f_na)), (h_nb, .inl (cy_nb, 8000, .inl f_nb)), (h_nc, .inl (cy_nc, 8000, .inl f_nc)), (h_bto, .inl (cy_bto, 256, .inl f_bto)), (h_bin, .inl (cy_bin, 256, .inl f_bin)), (h_mm, .inr (8, (mo52 v_mm (.ref h_nv) (.ref h_nn) (.ref h_na) (.ref h_nb) (.ref h_nc) (.ref h_bto) (.ref h_bin) (.ref h_tra) (.int x_mm_trailed) (.int z14) (.int z15)))), (h_nv, .inl (cy_nv, 8000, .inl f_nv))] H := hP
      have hD : va_D A [(h_nn, .inl (cy_nn, 8000, .inr (.inl f_nn))), (h_tra, .inl (cy_tra, 256, .inl f_tra)), (h_na, .inl (cy_na, 8000, .inl f_na)), (h_nb, .inl (cy_nb, 8000, .inl f_nb)), (h_nc, .inl (cy_nc, 8000, .inl f_nc)), (h_bto, .inl (cy_bto, 256, .inl f_bto)), (h_bin, .inl (cy_bin, 256, .inl f_bin)), (h_mm, .inr (8, (mo52 v_mm (.ref h_nv) (.ref h_nn) (.ref h_na) (.ref h_nb) (.ref h_nc) (.ref h_bto) (.ref h_bin) (.ref h_tra) (.int x_mm_trailed) (.int z14) (.int z15)))), (h_nv, .inl (cy_nv, 8000, .inl f_nv))] := hD
      obtain ⟨k105, k106⟩ := hq
      have k105 : -1 ≤ (r104).toInt ∧ (r104).toInt ≤ 255 := k105
      have k106 : ((r104)).toInt = 8 * ((z15)).toInt + (f_nv ((z14)).toInt.toNat).toInt := k106
      refine lv_istore (lv' := [(9, .int r104), (8, .int z15), (7, .int z14), (6, .int z3), (5, .int z2), (0, .ref h_mm), (1, .int p1), (2, .int p2), (3, .int p3), (4, .int p4)]) hx hb dX11_unifies_130 hl (by decide) rfl (fun ls hl => ?_)
      have hvz27 : (f_nv (z14).toInt.toNat).toInt = (z27).toInt := by rw [ez27, (clamp_nat (i := z14) (by omega))]
      have hb9 : (f_bto (r104).toInt.toNat).toInt = -1 := by have h9 := (k23).resolve_left (by omega); rwa [show (8 * (z15).toInt + (f_nv (z14).toInt.toNat).toInt).toNat = (r104).toInt.toNat by omega] at h9
      refine lv_aload_n hx hb dX11_unifies_132 rfl (lv_at hl 5 rfl) ?_
      refine lv_iload hx hb dX11_unifies_133 (lv_at hl 4 rfl) ?_
      refine lv_iload hx hb dX11_unifies_135 (lv_at hl 3 rfl) ?_
      refine lv_iload hx hb dX11_unifies_137 (lv_at hl 0 rfl) ?_
      have hPc := hP.sub (ws' := [(h_mm, .inr (8, (mo52 v_mm (.ref h_nv) (.ref h_nn) (.ref h_na) (.ref h_nb) (.ref h_nc) (.ref h_bto) (.ref h_bin) (.ref h_tra) (.int x_mm_trailed) (.int z14) (.int z15)))), (h_nv, .inl (cy_nv, 8000, .inl f_nv)), (h_na, .inl (cy_na, 8000, .inl f_na)), (h_nb, .inl (cy_nb, 8000, .inl f_nb)), (h_nc, .inl (cy_nc, 8000, .inl f_nc)), (h_bto, .inl (cy_bto, 256, .inl f_bto)), (h_bin, .inl (cy_bin, 256, .inl f_bin))]) [7, 8, 2, 3, 4, 5, 6] rfl
      have hDc := hD.sub (ws' := [(h_mm, .inr (8, (mo52 v_mm (.ref h_nv) (.ref h_nn) (.ref h_na) (.ref h_nb) (.ref h_nc) (.ref h_bto) (.ref h_bin) (.ref h_tra) (.int x_mm_trailed) (.int z14) (.int z15)))), (h_nv, .inl (cy_nv, 8000, .inl f_nv)), (h_na, .inl (cy_na, 8000, .inl f_na)), (h_nb, .inl (cy_nb, 8000, .inl f_nb)), (h_nc, .inl (cy_nc, 8000, .inl f_nc)), (h_bto, .inl (cy_bto, 256, .inl f_bto)), (h_bin, .inl (cy_bin, 256, .inl f_bin))]) [7, 8, 2, 3, 4, 5, 6] (by decide) rfl
      have hKc := hK.sub (tys' := [(cy_nv, .int), (cy_na, .int), (cy_nb, .int), (cy_nc, .int), (cy_bto, .int), (cy_bin, .int)]) [0, 1, 2, 3, 4, 5] rfl
      have hFc := va_free (wc := [(h_mm, .inr (8, (mo52 v_mm (.ref h_nv) (.ref h_nn) (.ref h_na) (.ref h_nb) (.ref h_nc) (.ref h_bto) (.ref h_bin) (.ref h_tra) (.int x_mm_trailed) (.int z14) (.int z15)))), (h_nv, .inl (cy_nv, 8000, .inl f_nv)), (h_na, .inl (cy_na, 8000, .inl f_na)), (h_nb, .inl (cy_nb, 8000, .inl f_nb)), (h_nc, .inl (cy_nc, 8000, .inl f_nc)), (h_bto, .inl (cy_bto, 256, .inl f_bto)), (h_bin, .inl (cy_bin, 256, .inl f_bin))]) hD hS hA [7, 8, 2, 3, 4, 5, 6] rfl
      refine va_calli (va_runV (As := [.int z2, .int z3, .int r104]) (rest := []) ⟨hx, hb, hml, hown, hts⟩ (c_X11_holds l (fu + 1) dC dI H.size h_mm h_nv h_na h_nb h_nc h_bto h_bin (fun k => List.getD (mo52 v_mm (.ref h_nv) (.ref h_nn) (.ref h_na) (.ref h_nb) (.ref h_nc) (.ref h_bto) (.ref h_bin) (.ref h_tra) (.int x_mm_trailed) (.int z14) (.int z15)) k .null) z14 z15 cy_nv f_nv cy_na f_na cy_nb f_nb cy_nc f_nc cy_bto f_bto cy_bin f_bin z2 z3 r104 i0 i1 N hz z4 (by omega) (by omega) hf_nv hf_na hf_nb hf_nc hf_bto hf_bin (by omega) (by omega) (by omega) (by omega) (by omega) (by omega) (by omega) hn_bi k10) (cwV 3 hts (gv hT w_m_X11_276 w_instanceMethod_X11_holds ws_sel_X11_holds w_ini_X11 w_code_X11_holds) rfl rfl rfl (by decide +kernel) ⟨(by dsimp only [headSpec]; omega), (by dsimp only [headSpec]; omega)⟩) ⟨pre_blind, va_recv hK hP (ci := 8) (q0 := 7) rfl rfl, pre_of hPc hKc hDc hN⟩ rfl rfl hl.1 rfl (lv_room (Nat.le_of_ble_eq_true rfl)) dX11_unifies_139 ⟨(Nat.le_of_ble_eq_true rfl), (Nat.le_of_ble_eq_true rfl)⟩) hS (fun q _ h => hFc q h) hFc (fun r107 u t H locs ht hvm hq hB hz1 hk1 hS => ?_)
      obtain ⟨z108, z109⟩ := u
      obtain ⟨hP1, hD1⟩ := hB
      rw [ht] at hP1
      obtain ⟨hP, hD⟩ := va_join (wr := [(h_nn, .inl (cy_nn, 8000, .inr (.inl f_nn))), (h_tra, .inl (cy_tra, 256, .inl f_tra))]) (w1 := [(h_mm, .inr (8, (mo52 v_mm (.ref h_nv) (.ref h_nn) (.ref h_na) (.ref h_nb) (.ref h_nc) (.ref h_bto) (.ref h_bin) (.ref h_tra) (.int x_mm_trailed) (.int z108) (.int z109)))), (h_nv, .inl (cy_nv, 8000, .inl f_nv)), (h_na, .inl (cy_na, 8000, .inl f_na)), (h_nb, .inl (cy_nb, 8000, .inl f_nb)), (h_nc, .inl (cy_nc, 8000, .inl f_nc)), (h_bto, .inl (cy_bto, 256, .inl f_bto)), (h_bin, .inl (cy_bin, 256, .inl f_bin))]) hP hD [7, 8, 2, 3, 4, 5, 6] [0, 1] rfl rfl (by decide) (by decide) hk1 hFc hP1 hD1
      have hP : va_P (dC, dI) cls [(h_nn, .inl (cy_nn, 8000, .inr (.inl f_nn))), (h_tra, .inl (cy_tra, 256, .inl f_tra)), (h_mm, .inr (8, (mo52 v_mm (.ref h_nv) (.ref h_nn) (.ref h_na) (.ref h_nb) (.ref h_nc) (.ref h_bto) (.ref h_bin) (.ref h_tra) (.int x_mm_trailed) (.int z108) (.int z109)))), (h_nv, .inl (cy_nv, 8000, .inl f_nv)), (h_na, .inl (cy_na, 8000, .inl f_na)), (h_nb, .inl (cy_nb, 8000, .inl f_nb)), (h_nc, .inl (cy_nc, 8000, .inl f_nc)), (h_bto, .inl (cy_bto, 256, .inl f_bto)), (h_bin, .inl (cy_bin, 256, .inl f_bin))] H := hP
      have hD : va_D A [(h_nn, .inl (cy_nn, 8000, .inr (.inl f_nn))), (h_tra, .inl (cy_tra, 256, .inl f_tra)), (h_mm, .inr (8, (mo52 v_mm (.ref h_nv) (.ref h_nn) (.ref h_na) (.ref h_nb) (.ref h_nc) (.ref h_bto) (.ref h_bin) (.ref h_tra) (.int x_mm_trailed) (.int z108) (.int z109)))), (h_nv, .inl (cy_nv, 8000, .inl f_nv)), (h_na, .inl (cy_na, 8000, .inl f_na)), (h_nb, .inl (cy_nb, 8000, .inl f_nb)), (h_nc, .inl (cy_nc, 8000, .inl f_nc)), (h_bto, .inl (cy_bto, 256, .inl f_bto)), (h_bin, .inl (cy_bin, 256, .inl f_bin))] := hD
      obtain ⟨k110, k111, k112, k113⟩ := hq
      have k110 : 0 ≤ ((z108)).toInt ∧ ((z108)).toInt ≤ 7999 := k110
      have k111 : 0 ≤ ((z109)).toInt ∧ ((z109)).toInt ≤ 31 := k111
      have k112 : 0 ≤ (r107).toInt ∧ (r107).toInt ≤ 1 := k112
      have k113 : ((r107)).toInt = 1 ∨ NR f_nv f_na f_nb f_nc f_bto f_bin ((z2)).toInt.toNat ((z3)).toInt ((r104)).toInt.toNat := k113
      refine lv_if_eq (tgt := 147) hx hb dX11_unifies_142 (by decide) (fun c114 => ?_) (fun c114 => ?_)
      · have kc114 := (cv_eq (rfl : (r107).toInt = (r107).toInt) (by decide : (0 : Int32).toInt = 0)).mp c114
        have tr9 := trl_room (s := (r104).toInt.toNat) hn_trl hf_tra (by omega) (by omega) hb9
        refine lv_aload_n hx hb dX11_unifies_147 rfl (lv_at hl 5 rfl) ?_
        refine lv_iload hx hb dX11_unifies_148 (lv_at hl 0 rfl) ?_
        refine lv_iload hx hb dX11_unifies_150 (lv_at hl 4 rfl) ?_
        refine lv_iload hx hb dX11_unifies_152 (lv_at hl 3 rfl) ?_
        have hPc := hP.sub (ws' := [(h_mm, .inr (8, (mo52 v_mm (.ref h_nv) (.ref h_nn) (.ref h_na) (.ref h_nb) (.ref h_nc) (.ref h_bto) (.ref h_bin) (.ref h_tra) (.int x_mm_trailed) (.int z108) (.int z109)))), (h_bto, .inl (cy_bto, 256, .inl f_bto)), (h_bin, .inl (cy_bin, 256, .inl f_bin)), (h_tra, .inl (cy_tra, 256, .inl f_tra))]) [2, 7, 8, 1] rfl
        have hDc := hD.sub (ws' := [(h_mm, .inr (8, (mo52 v_mm (.ref h_nv) (.ref h_nn) (.ref h_na) (.ref h_nb) (.ref h_nc) (.ref h_bto) (.ref h_bin) (.ref h_tra) (.int x_mm_trailed) (.int z108) (.int z109)))), (h_bto, .inl (cy_bto, 256, .inl f_bto)), (h_bin, .inl (cy_bin, 256, .inl f_bin)), (h_tra, .inl (cy_tra, 256, .inl f_tra))]) [2, 7, 8, 1] (by decide) rfl
        have hKc := hK.sub (tys' := [(cy_bto, .int), (cy_bin, .int), (cy_tra, .int)]) [4, 5, 7] rfl
        have hFc := va_free (wc := [(h_mm, .inr (8, (mo52 v_mm (.ref h_nv) (.ref h_nn) (.ref h_na) (.ref h_nb) (.ref h_nc) (.ref h_bto) (.ref h_bin) (.ref h_tra) (.int x_mm_trailed) (.int z108) (.int z109)))), (h_bto, .inl (cy_bto, 256, .inl f_bto)), (h_bin, .inl (cy_bin, 256, .inl f_bin)), (h_tra, .inl (cy_tra, 256, .inl f_tra))]) hD hS hA [2, 7, 8, 1] rfl
        refine va_callv (va_runV (As := [.int r104, .int z2, .int z3]) (rest := []) ⟨hx, hb, hml, hown, hts⟩ (c_X11_binds l dC dI H.size h_mm h_bto h_bin h_tra (fun k => List.getD (mo52 v_mm (.ref h_nv) (.ref h_nn) (.ref h_na) (.ref h_nb) (.ref h_nc) (.ref h_bto) (.ref h_bin) (.ref h_tra) (.int x_mm_trailed) (.int z108) (.int z109)) k .null) x_mm_trailed cy_bto f_bto cy_bin f_bin cy_tra f_tra r104 z2 z3 (by omega) hf_bto hf_bin hf_tra (by omega) (by omega) (by omega) (by omega)) (cwV 3 hts (gv hT w_m_X11_280 w_instanceMethod_X11_binds ws_sel_X11_binds w_ini_X11 w_code_X11_binds) rfl rfl rfl (by decide +kernel) ⟨(by dsimp only [headSpec]; omega), (by dsimp only [headSpec]; omega)⟩) ⟨pre_blind, va_recv hK hP (ci := 8) (q0 := 2) rfl rfl, pre_of hPc hKc hDc hN⟩ rfl rfl hl.1 rfl (lv_room (Nat.le_of_ble_eq_true rfl)) dX11_unifies_154 ⟨(Nat.le_of_ble_eq_true rfl), (Nat.le_of_ble_eq_true rfl)⟩) hS (fun q _ h => hFc q h) hFc (fun u t H locs ht hvm hq hB hz1 hk1 hS => ?_)
        obtain ⟨z116, f117, f118, f119⟩ := u
        obtain ⟨hP1, hD1⟩ := hB
        rw [ht] at hP1
        obtain ⟨hP, hD⟩ := va_join (wr := [(h_nn, .inl (cy_nn, 8000, .inr (.inl f_nn))), (h_nv, .inl (cy_nv, 8000, .inl f_nv)), (h_na, .inl (cy_na, 8000, .inl f_na)), (h_nb, .inl (cy_nb, 8000, .inl f_nb)), (h_nc, .inl (cy_nc, 8000, .inl f_nc))]) (w1 := [(h_mm, .inr (8, (mo52 v_mm (.ref h_nv) (.ref h_nn) (.ref h_na) (.ref h_nb) (.ref h_nc) (.ref h_bto) (.ref h_bin) (.ref h_tra) (.int z116) (.int z108) (.int z109)))), (h_bto, .inl (cy_bto, 256, .inl f117)), (h_bin, .inl (cy_bin, 256, .inl f118)), (h_tra, .inl (cy_tra, 256, .inl f119))]) hP hD [2, 7, 8, 1] [0, 3, 4, 5, 6] rfl rfl (by decide) (by decide) hk1 hFc hP1 hD1
        have hP : va_P (dC, dI) cls [(h_nn, .inl (cy_nn, 8000, .inr (.inl f_nn))), (h_nv, .inl (cy_nv, 8000, .inl f_nv)), (h_na, .inl (cy_na, 8000, .inl f_na)), (h_nb, .inl (cy_nb, 8000, .inl f_nb)), (h_nc, .inl (cy_nc, 8000, .inl f_nc)), (h_mm, .inr (8, (mo52 v_mm (.ref h_nv) (.ref h_nn) (.ref h_na) (.ref h_nb) (.ref h_nc) (.ref h_bto) (.ref h_bin) (.ref h_tra) (.int z116) (.int z108) (.int z109)))), (h_bto, .inl (cy_bto, 256, .inl f117)), (h_bin, .inl (cy_bin, 256, .inl f118)), (h_tra, .inl (cy_tra, 256, .inl f119))] H := hP
        have hD : va_D A [(h_nn, .inl (cy_nn, 8000, .inr (.inl f_nn))), (h_nv, .inl (cy_nv, 8000, .inl f_nv)), (h_na, .inl (cy_na, 8000, .inl f_na)), (h_nb, .inl (cy_nb, 8000, .inl f_nb)), (h_nc, .inl (cy_nc, 8000, .inl f_nc)), (h_mm, .inr (8, (mo52 v_mm (.ref h_nv) (.ref h_nn) (.ref h_na) (.ref h_nb) (.ref h_nc) (.ref h_bto) (.ref h_bin) (.ref h_tra) (.int z116) (.int z108) (.int z109)))), (h_bto, .inl (cy_bto, 256, .inl f117)), (h_bin, .inl (cy_bin, 256, .inl f118)), (h_tra, .inl (cy_tra, 256, .inl f119))] := hD
        obtain ⟨k120, hf117, hf118, hf119, k121, k122⟩ := hq
        have k120 : 0 ≤ ((z116)).toInt ∧ ((z116)).toInt ≤ 256 := k120
        have hf117 : Rg (-1) 7999 (f117) := hf117
        have hf118 : Rg 0 31 (f118) := hf118
        have hf119 : Rg 0 255 (f119) := hf119
        have k121 : ((z116)).toInt = ((x_mm_trailed)).toInt + 1 := k121
        have k122 : (f117) = upd f_bto (Int32.toNatClampNeg (r104)) (z2) ∧ (f118) = upd f_bin (Int32.toNatClampNeg (r104)) (z3) ∧ (f119) = upd f_tra (Int32.toNatClampNeg (x_mm_trailed)) (r104) := k122
        obtain ⟨eb9, ei9, et9⟩ := k122
        have cs9 := clamp_nat (i := r104) (by omega)
        have bi9 : BI i0 i1 N hz f_nv f_na f_nb f_nc f117 f118 := by rw [eb9, ei9, cs9]; exact bi_bind hn_bi hf_nv hb9 ((k113).resolve_left (by omega)) (by omega) (by omega) (by omega)
        have tl9 : TRL ((x_mm_trailed).toInt + 1) f119 f117 := by rw [et9, eb9]; exact trl_bind hn_trl rfl (by omega) (by omega) (by rw [cs9]; exact hb9) (by omega)
        have gr9 : GRW (x_mm_trailed).toInt ((x_mm_trailed).toInt + 1) f_bto f_bin f_tra f117 f118 f119 := by rw [et9, eb9, ei9]; exact gr_bind rfl (by omega) (by omega) (by rw [cs9]; exact hb9)
        refine lv_iconst (v := 1) hx hb dX11_unifies_157 (by decide) ?_
        have hP : va_P (dC, dI) cls [(h_mm, .inr (8, (mo52 v_mm (.ref h_nv) (.ref h_nn) (.ref h_na) (.ref h_nb) (.ref h_nc) (.ref h_bto) (.ref h_bin) (.ref h_tra) (.int z116) (.int z108) (.int z109)))), (h_nv, .inl (cy_nv, 8000, .inl f_nv)), (h_na, .inl (cy_na, 8000, .inl f_na)), (h_nb, .inl (cy_nb, 8000, .inl f_nb)), (h_nc, .inl (cy_nc, 8000, .inl f_nc)), (h_bto, .inl (cy_bto, 256, .inl f117)), (h_bin, .inl (cy_bin, 256, .inl f118)), (h_nn, .inl (cy_nn, 8000, .inr (.inl f_nn))), (h_tra, .inl (cy_tra, 256, .inl f119))] H := hP.sub [5, 1, 2, 3, 4, 6, 7, 0, 8] rfl
        have hD : va_D A [(h_mm, .inr (8, (mo52 v_mm (.ref h_nv) (.ref h_nn) (.ref h_na) (.ref h_nb) (.ref h_nc) (.ref h_bto) (.ref h_bin) (.ref h_tra) (.int z116) (.int z108) (.int z109)))), (h_nv, .inl (cy_nv, 8000, .inl f_nv)), (h_na, .inl (cy_na, 8000, .inl f_na)), (h_nb, .inl (cy_nb, 8000, .inl f_nb)), (h_nc, .inl (cy_nc, 8000, .inl f_nc)), (h_bto, .inl (cy_bto, 256, .inl f117)), (h_bin, .inl (cy_bin, 256, .inl f118)), (h_nn, .inl (cy_nn, 8000, .inr (.inl f_nn))), (h_tra, .inl (cy_tra, 256, .inl f119))] := hD.sub [5, 1, 2, 3, 4, 6, 7, 0, 8] (by decide) rfl
        refine W.widen (k := 0) (n := 0) (Nat.le_of_ble_eq_true rfl) (Nat.le_of_ble_eq_true rfl) ?_
        have cst1 : (1 : Int32).toInt = 1 := by decide
        have w123 : 0 ≤ ((z116)).toInt ∧ ((z116)).toInt ≤ 256 := by omega
        have w124 : 0 ≤ ((z108)).toInt ∧ ((z108)).toInt ≤ 7999 := by omega
        have w125 : 0 ≤ ((z109)).toInt ∧ ((z109)).toInt ≤ 31 := by omega
        have w126 : 0 ≤ (1 : Int32).toInt ∧ (1 : Int32).toInt ≤ 1 := by omega
        have w127 : BI i0 i1 N hz f_nv f_na f_nb f_nc (f117) (f118) := bi9
        have w128 : TRL ((z116)).toInt (f119) (f117) := (trl_cast tl9 (by omega))
        have w129 : GRW (x_mm_trailed).toInt ((z116)).toInt f_bto f_bin f_tra (f117) (f118) (f119) := (gr_cast gr9 (by omega) (by omega))
        exact W.zret (v := 1) (ty := .boolean) hx hb hr (by decide) (fun t ht hW => ⟨⟨1, (z116, z108, z109, f117, f118, f119), rfl, ⟨w123, w124, w125, hf117, hf118, hf119, w126, w127, w128, w129⟩, by rw [ht]; exact hP, hD⟩, hS.F ht⟩) hS.2.2 dX11_unifies_158
      · have kc114 := (not_congr (cv_eq (rfl : (r107).toInt = (r107).toInt) (by decide : (0 : Int32).toInt = 0))).mp c114
        refine lv_iconst (v := 0) hx hb dX11_unifies_145 (by decide) ?_
        have hP : va_P (dC, dI) cls [(h_mm, .inr (8, (mo52 v_mm (.ref h_nv) (.ref h_nn) (.ref h_na) (.ref h_nb) (.ref h_nc) (.ref h_bto) (.ref h_bin) (.ref h_tra) (.int x_mm_trailed) (.int z108) (.int z109)))), (h_nv, .inl (cy_nv, 8000, .inl f_nv)), (h_na, .inl (cy_na, 8000, .inl f_na)), (h_nb, .inl (cy_nb, 8000, .inl f_nb)), (h_nc, .inl (cy_nc, 8000, .inl f_nc)), (h_bto, .inl (cy_bto, 256, .inl f_bto)), (h_bin, .inl (cy_bin, 256, .inl f_bin)), (h_nn, .inl (cy_nn, 8000, .inr (.inl f_nn))), (h_tra, .inl (cy_tra, 256, .inl f_tra))] H := hP.sub [2, 3, 4, 5, 6, 7, 8, 0, 1] rfl
        have hD : va_D A [(h_mm, .inr (8, (mo52 v_mm (.ref h_nv) (.ref h_nn) (.ref h_na) (.ref h_nb) (.ref h_nc) (.ref h_bto) (.ref h_bin) (.ref h_tra) (.int x_mm_trailed) (.int z108) (.int z109)))), (h_nv, .inl (cy_nv, 8000, .inl f_nv)), (h_na, .inl (cy_na, 8000, .inl f_na)), (h_nb, .inl (cy_nb, 8000, .inl f_nb)), (h_nc, .inl (cy_nc, 8000, .inl f_nc)), (h_bto, .inl (cy_bto, 256, .inl f_bto)), (h_bin, .inl (cy_bin, 256, .inl f_bin)), (h_nn, .inl (cy_nn, 8000, .inr (.inl f_nn))), (h_tra, .inl (cy_tra, 256, .inl f_tra))] := hD.sub [2, 3, 4, 5, 6, 7, 8, 0, 1] (by decide) rfl
        refine W.widen (k := 0) (n := 0) (Nat.le_of_ble_eq_true rfl) (Nat.le_of_ble_eq_true rfl) ?_
        have cst0 : (0 : Int32).toInt = 0 := by decide
        have w130 : 0 ≤ ((x_mm_trailed)).toInt ∧ ((x_mm_trailed)).toInt ≤ 256 := by omega
        have w131 : 0 ≤ ((z108)).toInt ∧ ((z108)).toInt ≤ 7999 := by omega
        have w132 : 0 ≤ ((z109)).toInt ∧ ((z109)).toInt ≤ 31 := by omega
        have w133 : 0 ≤ (0 : Int32).toInt ∧ (0 : Int32).toInt ≤ 1 := by omega
        have w134 : BI i0 i1 N hz f_nv f_na f_nb f_nc (f_bto) (f_bin) := hn_bi
        have w135 : TRL ((x_mm_trailed)).toInt (f_tra) (f_bto) := (trl_cast hn_trl (by omega))
        have w136 : GRW (x_mm_trailed).toInt ((x_mm_trailed)).toInt f_bto f_bin f_tra (f_bto) (f_bin) (f_tra) := (gr_cast gr0 (by omega) (by omega))
        exact W.zret (v := 0) (ty := .boolean) hx hb hr (by decide) (fun t ht hW => ⟨⟨0, (x_mm_trailed, z108, z109, f_bto, f_bin, f_tra), rfl, ⟨w130, w131, w132, hf_bto, hf_bin, hf_tra, w133, w134, w135, w136⟩, by rw [ht]; exact hP, hD⟩, hS.F ht⟩) hS.2.2 dX11_unifies_146
  · have kc26 := (not_congr (cv_eq (rfl : (z25).toInt = (z25).toInt) (by decide : ((-1) : Int32).toInt = -1))).mp c26
    refine lv_aload_n hx hb dX11_unifies_48 rfl (lv_at hl 4 rfl) ?_
    refine lv_iload hx hb dX11_unifies_49 (lv_at hl 3 rfl) ?_
    refine lv_iload hx hb dX11_unifies_51 (lv_at hl 2 rfl) ?_
    have hPc := hP.sub (ws' := [(h_mm, .inr (8, (mo52 v_mm (.ref h_nv) (.ref h_nn) (.ref h_na) (.ref h_nb) (.ref h_nc) (.ref h_bto) (.ref h_bin) (.ref h_tra) (.int x_mm_trailed) (.int z14) (.int z15)))), (h_nv, .inl (cy_nv, 8000, .inl f_nv))]) [2, 3] rfl
    have hDc := hD.sub (ws' := [(h_mm, .inr (8, (mo52 v_mm (.ref h_nv) (.ref h_nn) (.ref h_na) (.ref h_nb) (.ref h_nc) (.ref h_bto) (.ref h_bin) (.ref h_tra) (.int x_mm_trailed) (.int z14) (.int z15)))), (h_nv, .inl (cy_nv, 8000, .inl f_nv))]) [2, 3] (by decide) rfl
    have hKc := hK.sub (tys' := [(cy_nv, .int)]) [0] rfl
    have hFc := va_free (wc := [(h_mm, .inr (8, (mo52 v_mm (.ref h_nv) (.ref h_nn) (.ref h_na) (.ref h_nb) (.ref h_nc) (.ref h_bto) (.ref h_bin) (.ref h_tra) (.int x_mm_trailed) (.int z14) (.int z15)))), (h_nv, .inl (cy_nv, 8000, .inl f_nv))]) hD hS hA [2, 3] rfl
    refine va_calli (va_runV (As := [.int z2, .int z3]) (rest := []) ⟨hx, hb, hml, hown, hts⟩ (c_X11_slotOf l dC dI H.size h_mm h_nv (fun k => List.getD (mo52 v_mm (.ref h_nv) (.ref h_nn) (.ref h_na) (.ref h_nb) (.ref h_nc) (.ref h_bto) (.ref h_bin) (.ref h_tra) (.int x_mm_trailed) (.int z14) (.int z15)) k .null) cy_nv f_nv z2 z3 hf_nv (by omega) (by omega)) (cwV 2 hts (gv hT w_m_X11_270 w_instanceMethod_X11_slotOf ws_sel_X11_slotOf w_ini_X11 w_code_X11_slotOf) rfl rfl rfl (by decide +kernel) ⟨(by dsimp only [headSpec]; omega), (by dsimp only [headSpec]; omega)⟩) ⟨pre_blind, va_recv hK hP (ci := 8) (q0 := 2) rfl rfl, pre_of hPc hKc hDc hN⟩ rfl rfl hl.1 rfl (lv_room (Nat.le_of_ble_eq_true rfl)) dX11_unifies_53 ⟨(Nat.le_of_ble_eq_true rfl), (Nat.le_of_ble_eq_true rfl)⟩) hS (fun q _ h => hFc q h) hFc (fun r137 u t H locs ht hvm hq hB hz1 hk1 hS => ?_)
    obtain ⟨hP1, hD1⟩ := hB
    rw [ht] at hP1
    obtain ⟨hP, hD⟩ := va_join (wr := [(h_nn, .inl (cy_nn, 8000, .inr (.inl f_nn))), (h_tra, .inl (cy_tra, 256, .inl f_tra)), (h_na, .inl (cy_na, 8000, .inl f_na)), (h_nb, .inl (cy_nb, 8000, .inl f_nb)), (h_nc, .inl (cy_nc, 8000, .inl f_nc)), (h_bto, .inl (cy_bto, 256, .inl f_bto)), (h_bin, .inl (cy_bin, 256, .inl f_bin))]) (w1 := [(h_mm, .inr (8, (mo52 v_mm (.ref h_nv) (.ref h_nn) (.ref h_na) (.ref h_nb) (.ref h_nc) (.ref h_bto) (.ref h_bin) (.ref h_tra) (.int x_mm_trailed) (.int z14) (.int z15)))), (h_nv, .inl (cy_nv, 8000, .inl f_nv))]) hP hD [2, 3] [0, 1, 4, 5, 6, 7, 8] rfl rfl (by decide) (by decide) hk1 hFc hP1 hD1
    have hP : va_P (dC, dI) cls [(h_nn, .inl (cy_nn, 8000, .inr (.inl f_nn))), (h_tra, .inl (cy_tra, 256, .inl f_tra)), (h_na, .inl (cy_na, 8000, .inl f_na)), (h_nb, .inl (cy_nb, 8000, .inl f_nb)), (h_nc, .inl (cy_nc, 8000, .inl f_nc)), (h_bto, .inl (cy_bto, 256, .inl f_bto)), (h_bin, .inl (cy_bin, 256, .inl f_bin)), (h_mm, .inr (8, (mo52 v_mm (.ref h_nv) (.ref h_nn) (.ref h_na) (.ref h_nb) (.ref h_nc) (.ref h_bto) (.ref h_bin) (.ref h_tra) (.int x_mm_trailed) (.int z14) (.int z15)))), (h_nv, .inl (cy_nv, 8000, .inl f_nv))] H := hP
    have hD : va_D A [(h_nn, .inl (cy_nn, 8000, .inr (.inl f_nn))), (h_tra, .inl (cy_tra, 256, .inl f_tra)), (h_na, .inl (cy_na, 8000, .inl f_na)), (h_nb, .inl (cy_nb, 8000, .inl f_nb)), (h_nc, .inl (cy_nc, 8000, .inl f_nc)), (h_bto, .inl (cy_bto, 256, .inl f_bto)), (h_bin, .inl (cy_bin, 256, .inl f_bin)), (h_mm, .inr (8, (mo52 v_mm (.ref h_nv) (.ref h_nn) (.ref h_na) (.ref h_nb) (.ref h_nc) (.ref h_bto) (.ref h_bin) (.ref h_tra) (.int x_mm_trailed) (.int z14) (.int z15)))), (h_nv, .inl (cy_nv, 8000, .inl f_nv))] := hD
    obtain ⟨k138, k139⟩ := hq
    have k138 : -1 ≤ (r137).toInt ∧ (r137).toInt ≤ 255 := k138
    have k139 : ((r137)).toInt = 8 * ((z3)).toInt + (f_nv ((z2)).toInt.toNat).toInt := k139
    refine lv_istore (lv' := [(9, .int r137), (8, .int z15), (7, .int z14), (6, .int z3), (5, .int z2), (0, .ref h_mm), (1, .int p1), (2, .int p2), (3, .int p3), (4, .int p4)]) hx hb dX11_unifies_56 hl (by decide) rfl (fun ls hl => ?_)
    refine lv_aload_n hx hb dX11_unifies_58 rfl (lv_at hl 5 rfl) ?_
    refine va_get (D := (dC, dI)) (ci := 8) (v := .ref h_nv) (C := RX11) (T := TX11) (N := 71) hx hb hw iwX11 hown hK hP 7 rfl rfl 1 (by decide) (hw _ w_f_X11_17) (fun _ h9 => h9) rfl dX11_unifies_59 ?_
    refine lv_iload hx hb dX11_unifies_62 (lv_at hl 2 rfl) ?_
    refine va_iald hx hb hK hP 8 0 rfl rfl (i := z14) (vp_in_iff.mpr (by omega)) dX11_unifies_64 ?_
    refine lv_topi (fun z140 ez140 => ?_)
    have rz140 : -1 ≤ (z140).toInt ∧ (z140).toInt ≤ 7 := by rw [ez140]; exact hf_nv _
    refine lv_iconst (v := (-1)) hx hb dX11_unifies_65 (by decide) ?_
    refine lv_icmp_eq (tgt := 84) hx hb dX11_unifies_66 (by decide) (fun c141 => ?_) (fun c141 => ?_)
    · have kc141 := (cv_eq (rfl : (z140).toInt = (z140).toInt) (by decide : ((-1) : Int32).toInt = -1)).mp c141
      have hvz25 : (f_nv (z2).toInt.toNat).toInt = (z25).toInt := by rw [ez25, (clamp_nat (i := z2) (by omega))]
      have hb9 : (f_bto (r137).toInt.toNat).toInt = -1 := by have h9 := (k11).resolve_left (by omega); rwa [show (8 * (z3).toInt + (f_nv (z2).toInt.toNat).toInt).toNat = (r137).toInt.toNat by omega] at h9
      refine lv_aload_n hx hb dX11_unifies_84 rfl (lv_at hl 5 rfl) ?_
      refine lv_iload hx hb dX11_unifies_85 (lv_at hl 2 rfl) ?_
      refine lv_iload hx hb dX11_unifies_87 (lv_at hl 1 rfl) ?_
      refine lv_iload hx hb dX11_unifies_89 (lv_at hl 0 rfl) ?_
      have hPc := hP.sub (ws' := [(h_mm, .inr (8, (mo52 v_mm (.ref h_nv) (.ref h_nn) (.ref h_na) (.ref h_nb) (.ref h_nc) (.ref h_bto) (.ref h_bin) (.ref h_tra) (.int x_mm_trailed) (.int z14) (.int z15)))), (h_nv, .inl (cy_nv, 8000, .inl f_nv)), (h_na, .inl (cy_na, 8000, .inl f_na)), (h_nb, .inl (cy_nb, 8000, .inl f_nb)), (h_nc, .inl (cy_nc, 8000, .inl f_nc)), (h_bto, .inl (cy_bto, 256, .inl f_bto)), (h_bin, .inl (cy_bin, 256, .inl f_bin))]) [7, 8, 2, 3, 4, 5, 6] rfl
      have hDc := hD.sub (ws' := [(h_mm, .inr (8, (mo52 v_mm (.ref h_nv) (.ref h_nn) (.ref h_na) (.ref h_nb) (.ref h_nc) (.ref h_bto) (.ref h_bin) (.ref h_tra) (.int x_mm_trailed) (.int z14) (.int z15)))), (h_nv, .inl (cy_nv, 8000, .inl f_nv)), (h_na, .inl (cy_na, 8000, .inl f_na)), (h_nb, .inl (cy_nb, 8000, .inl f_nb)), (h_nc, .inl (cy_nc, 8000, .inl f_nc)), (h_bto, .inl (cy_bto, 256, .inl f_bto)), (h_bin, .inl (cy_bin, 256, .inl f_bin))]) [7, 8, 2, 3, 4, 5, 6] (by decide) rfl
      have hKc := hK.sub (tys' := [(cy_nv, .int), (cy_na, .int), (cy_nb, .int), (cy_nc, .int), (cy_bto, .int), (cy_bin, .int)]) [0, 1, 2, 3, 4, 5] rfl
      have hFc := va_free (wc := [(h_mm, .inr (8, (mo52 v_mm (.ref h_nv) (.ref h_nn) (.ref h_na) (.ref h_nb) (.ref h_nc) (.ref h_bto) (.ref h_bin) (.ref h_tra) (.int x_mm_trailed) (.int z14) (.int z15)))), (h_nv, .inl (cy_nv, 8000, .inl f_nv)), (h_na, .inl (cy_na, 8000, .inl f_na)), (h_nb, .inl (cy_nb, 8000, .inl f_nb)), (h_nc, .inl (cy_nc, 8000, .inl f_nc)), (h_bto, .inl (cy_bto, 256, .inl f_bto)), (h_bin, .inl (cy_bin, 256, .inl f_bin))]) hD hS hA [7, 8, 2, 3, 4, 5, 6] rfl
      refine va_calli (va_runV (As := [.int z14, .int z15, .int r137]) (rest := []) ⟨hx, hb, hml, hown, hts⟩ (c_X11_holds l (fu + 1) dC dI H.size h_mm h_nv h_na h_nb h_nc h_bto h_bin (fun k => List.getD (mo52 v_mm (.ref h_nv) (.ref h_nn) (.ref h_na) (.ref h_nb) (.ref h_nc) (.ref h_bto) (.ref h_bin) (.ref h_tra) (.int x_mm_trailed) (.int z14) (.int z15)) k .null) z14 z15 cy_nv f_nv cy_na f_na cy_nb f_nb cy_nc f_nc cy_bto f_bto cy_bin f_bin z14 z15 r137 i0 i1 N hz z16 (by omega) (by omega) hf_nv hf_na hf_nb hf_nc hf_bto hf_bin (by omega) (by omega) (by omega) (by omega) (by omega) (by omega) (by omega) hn_bi k22) (cwV 3 hts (gv hT w_m_X11_276 w_instanceMethod_X11_holds ws_sel_X11_holds w_ini_X11 w_code_X11_holds) rfl rfl rfl (by decide +kernel) ⟨(by dsimp only [headSpec]; omega), (by dsimp only [headSpec]; omega)⟩) ⟨pre_blind, va_recv hK hP (ci := 8) (q0 := 7) rfl rfl, pre_of hPc hKc hDc hN⟩ rfl rfl hl.1 rfl (lv_room (Nat.le_of_ble_eq_true rfl)) dX11_unifies_91 ⟨(Nat.le_of_ble_eq_true rfl), (Nat.le_of_ble_eq_true rfl)⟩) hS (fun q _ h => hFc q h) hFc (fun r142 u t H locs ht hvm hq hB hz1 hk1 hS => ?_)
      obtain ⟨z143, z144⟩ := u
      obtain ⟨hP1, hD1⟩ := hB
      rw [ht] at hP1
      obtain ⟨hP, hD⟩ := va_join (wr := [(h_nn, .inl (cy_nn, 8000, .inr (.inl f_nn))), (h_tra, .inl (cy_tra, 256, .inl f_tra))]) (w1 := [(h_mm, .inr (8, (mo52 v_mm (.ref h_nv) (.ref h_nn) (.ref h_na) (.ref h_nb) (.ref h_nc) (.ref h_bto) (.ref h_bin) (.ref h_tra) (.int x_mm_trailed) (.int z143) (.int z144)))), (h_nv, .inl (cy_nv, 8000, .inl f_nv)), (h_na, .inl (cy_na, 8000, .inl f_na)), (h_nb, .inl (cy_nb, 8000, .inl f_nb)), (h_nc, .inl (cy_nc, 8000, .inl f_nc)), (h_bto, .inl (cy_bto, 256, .inl f_bto)), (h_bin, .inl (cy_bin, 256, .inl f_bin))]) hP hD [7, 8, 2, 3, 4, 5, 6] [0, 1] rfl rfl (by decide) (by decide) hk1 hFc hP1 hD1
      have hP : va_P (dC, dI) cls [(h_nn, .inl (cy_nn, 8000, .inr (.inl f_nn))), (h_tra, .inl (cy_tra, 256, .inl f_tra)), (h_mm, .inr (8, (mo52 v_mm (.ref h_nv) (.ref h_nn) (.ref h_na) (.ref h_nb) (.ref h_nc) (.ref h_bto) (.ref h_bin) (.ref h_tra) (.int x_mm_trailed) (.int z143) (.int z144)))), (h_nv, .inl (cy_nv, 8000, .inl f_nv)), (h_na, .inl (cy_na, 8000, .inl f_na)), (h_nb, .inl (cy_nb, 8000, .inl f_nb)), (h_nc, .inl (cy_nc, 8000, .inl f_nc)), (h_bto, .inl (cy_bto, 256, .inl f_bto)), (h_bin, .inl (cy_bin, 256, .inl f_bin))] H := hP
      have hD : va_D A [(h_nn, .inl (cy_nn, 8000, .inr (.inl f_nn))), (h_tra, .inl (cy_tra, 256, .inl f_tra)), (h_mm, .inr (8, (mo52 v_mm (.ref h_nv) (.ref h_nn) (.ref h_na) (.ref h_nb) (.ref h_nc) (.ref h_bto) (.ref h_bin) (.ref h_tra) (.int x_mm_trailed) (.int z143) (.int z144)))), (h_nv, .inl (cy_nv, 8000, .inl f_nv)), (h_na, .inl (cy_na, 8000, .inl f_na)), (h_nb, .inl (cy_nb, 8000, .inl f_nb)), (h_nc, .inl (cy_nc, 8000, .inl f_nc)), (h_bto, .inl (cy_bto, 256, .inl f_bto)), (h_bin, .inl (cy_bin, 256, .inl f_bin))] := hD
      obtain ⟨k145, k146, k147, k148⟩ := hq
      have k145 : 0 ≤ ((z143)).toInt ∧ ((z143)).toInt ≤ 7999 := k145
      have k146 : 0 ≤ ((z144)).toInt ∧ ((z144)).toInt ≤ 31 := k146
      have k147 : 0 ≤ (r142).toInt ∧ (r142).toInt ≤ 1 := k147
      have k148 : ((r142)).toInt = 1 ∨ NR f_nv f_na f_nb f_nc f_bto f_bin ((z14)).toInt.toNat ((z15)).toInt ((r137)).toInt.toNat := k148
      refine lv_if_eq (tgt := 99) hx hb dX11_unifies_94 (by decide) (fun c149 => ?_) (fun c149 => ?_)
      · have kc149 := (cv_eq (rfl : (r142).toInt = (r142).toInt) (by decide : (0 : Int32).toInt = 0)).mp c149
        have tr9 := trl_room (s := (r137).toInt.toNat) hn_trl hf_tra (by omega) (by omega) hb9
        refine lv_aload_n hx hb dX11_unifies_99 rfl (lv_at hl 5 rfl) ?_
        refine lv_iload hx hb dX11_unifies_100 (lv_at hl 0 rfl) ?_
        refine lv_iload hx hb dX11_unifies_102 (lv_at hl 2 rfl) ?_
        refine lv_iload hx hb dX11_unifies_104 (lv_at hl 1 rfl) ?_
        have hPc := hP.sub (ws' := [(h_mm, .inr (8, (mo52 v_mm (.ref h_nv) (.ref h_nn) (.ref h_na) (.ref h_nb) (.ref h_nc) (.ref h_bto) (.ref h_bin) (.ref h_tra) (.int x_mm_trailed) (.int z143) (.int z144)))), (h_bto, .inl (cy_bto, 256, .inl f_bto)), (h_bin, .inl (cy_bin, 256, .inl f_bin)), (h_tra, .inl (cy_tra, 256, .inl f_tra))]) [2, 7, 8, 1] rfl
        have hDc := hD.sub (ws' := [(h_mm, .inr (8, (mo52 v_mm (.ref h_nv) (.ref h_nn) (.ref h_na) (.ref h_nb) (.ref h_nc) (.ref h_bto) (.ref h_bin) (.ref h_tra) (.int x_mm_trailed) (.int z143) (.int z144)))), (h_bto, .inl (cy_bto, 256, .inl f_bto)), (h_bin, .inl (cy_bin, 256, .inl f_bin)), (h_tra, .inl (cy_tra, 256, .inl f_tra))]) [2, 7, 8, 1] (by decide) rfl
        have hKc := hK.sub (tys' := [(cy_bto, .int), (cy_bin, .int), (cy_tra, .int)]) [4, 5, 7] rfl
        have hFc := va_free (wc := [(h_mm, .inr (8, (mo52 v_mm (.ref h_nv) (.ref h_nn) (.ref h_na) (.ref h_nb) (.ref h_nc) (.ref h_bto) (.ref h_bin) (.ref h_tra) (.int x_mm_trailed) (.int z143) (.int z144)))), (h_bto, .inl (cy_bto, 256, .inl f_bto)), (h_bin, .inl (cy_bin, 256, .inl f_bin)), (h_tra, .inl (cy_tra, 256, .inl f_tra))]) hD hS hA [2, 7, 8, 1] rfl
        refine va_callv (va_runV (As := [.int r137, .int z14, .int z15]) (rest := []) ⟨hx, hb, hml, hown, hts⟩ (c_X11_binds l dC dI H.size h_mm h_bto h_bin h_tra (fun k => List.getD (mo52 v_mm (.ref h_nv) (.ref h_nn) (.ref h_na) (.ref h_nb) (.ref h_nc) (.ref h_bto) (.ref h_bin) (.ref h_tra) (.int x_mm_trailed) (.int z143) (.int z144)) k .null) x_mm_trailed cy_bto f_bto cy_bin f_bin cy_tra f_tra r137 z14 z15 (by omega) hf_bto hf_bin hf_tra (by omega) (by omega) (by omega) (by omega)) (cwV 3 hts (gv hT w_m_X11_280 w_instanceMethod_X11_binds ws_sel_X11_binds w_ini_X11 w_code_X11_binds) rfl rfl rfl (by decide +kernel) ⟨(by dsimp only [headSpec]; omega), (by dsimp only [headSpec]; omega)⟩) ⟨pre_blind, va_recv hK hP (ci := 8) (q0 := 2) rfl rfl, pre_of hPc hKc hDc hN⟩ rfl rfl hl.1 rfl (lv_room (Nat.le_of_ble_eq_true rfl)) dX11_unifies_106 ⟨(Nat.le_of_ble_eq_true rfl), (Nat.le_of_ble_eq_true rfl)⟩) hS (fun q _ h => hFc q h) hFc (fun u t H locs ht hvm hq hB hz1 hk1 hS => ?_)
        obtain ⟨z151, f152, f153, f154⟩ := u
        obtain ⟨hP1, hD1⟩ := hB
        rw [ht] at hP1
        obtain ⟨hP, hD⟩ := va_join (wr := [(h_nn, .inl (cy_nn, 8000, .inr (.inl f_nn))), (h_nv, .inl (cy_nv, 8000, .inl f_nv)), (h_na, .inl (cy_na, 8000, .inl f_na)), (h_nb, .inl (cy_nb, 8000, .inl f_nb)), (h_nc, .inl (cy_nc, 8000, .inl f_nc))]) (w1 := [(h_mm, .inr (8, (mo52 v_mm (.ref h_nv) (.ref h_nn) (.ref h_na) (.ref h_nb) (.ref h_nc) (.ref h_bto) (.ref h_bin) (.ref h_tra) (.int z151) (.int z143) (.int z144)))), (h_bto, .inl (cy_bto, 256, .inl f152)), (h_bin, .inl (cy_bin, 256, .inl f153)), (h_tra, .inl (cy_tra, 256, .inl f154))]) hP hD [2, 7, 8, 1] [0, 3, 4, 5, 6] rfl rfl (by decide) (by decide) hk1 hFc hP1 hD1
        have hP : va_P (dC, dI) cls [(h_nn, .inl (cy_nn, 8000, .inr (.inl f_nn))), (h_nv, .inl (cy_nv, 8000, .inl f_nv)), (h_na, .inl (cy_na, 8000, .inl f_na)), (h_nb, .inl (cy_nb, 8000, .inl f_nb)), (h_nc, .inl (cy_nc, 8000, .inl f_nc)), (h_mm, .inr (8, (mo52 v_mm (.ref h_nv) (.ref h_nn) (.ref h_na) (.ref h_nb) (.ref h_nc) (.ref h_bto) (.ref h_bin) (.ref h_tra) (.int z151) (.int z143) (.int z144)))), (h_bto, .inl (cy_bto, 256, .inl f152)), (h_bin, .inl (cy_bin, 256, .inl f153)), (h_tra, .inl (cy_tra, 256, .inl f154))] H := hP
        have hD : va_D A [(h_nn, .inl (cy_nn, 8000, .inr (.inl f_nn))), (h_nv, .inl (cy_nv, 8000, .inl f_nv)), (h_na, .inl (cy_na, 8000, .inl f_na)), (h_nb, .inl (cy_nb, 8000, .inl f_nb)), (h_nc, .inl (cy_nc, 8000, .inl f_nc)), (h_mm, .inr (8, (mo52 v_mm (.ref h_nv) (.ref h_nn) (.ref h_na) (.ref h_nb) (.ref h_nc) (.ref h_bto) (.ref h_bin) (.ref h_tra) (.int z151) (.int z143) (.int z144)))), (h_bto, .inl (cy_bto, 256, .inl f152)), (h_bin, .inl (cy_bin, 256, .inl f153)), (h_tra, .inl (cy_tra, 256, .inl f154))] := hD
        obtain ⟨k155, hf152, hf153, hf154, k156, k157⟩ := hq
        have k155 : 0 ≤ ((z151)).toInt ∧ ((z151)).toInt ≤ 256 := k155
        have hf152 : Rg (-1) 7999 (f152) := hf152
        have hf153 : Rg 0 31 (f153) := hf153
        have hf154 : Rg 0 255 (f154) := hf154
        have k156 : ((z151)).toInt = ((x_mm_trailed)).toInt + 1 := k156
        have k157 : (f152) = upd f_bto (Int32.toNatClampNeg (r137)) (z14) ∧ (f153) = upd f_bin (Int32.toNatClampNeg (r137)) (z15) ∧ (f154) = upd f_tra (Int32.toNatClampNeg (x_mm_trailed)) (r137) := k157
        obtain ⟨eb9, ei9, et9⟩ := k157
        have cs9 := clamp_nat (i := r137) (by omega)
        have bi9 : BI i0 i1 N hz f_nv f_na f_nb f_nc f152 f153 := by rw [eb9, ei9, cs9]; exact bi_bind hn_bi hf_nv hb9 ((k148).resolve_left (by omega)) (by omega) (by omega) (by omega)
        have tl9 : TRL ((x_mm_trailed).toInt + 1) f154 f152 := by rw [et9, eb9]; exact trl_bind hn_trl rfl (by omega) (by omega) (by rw [cs9]; exact hb9) (by omega)
        have gr9 : GRW (x_mm_trailed).toInt ((x_mm_trailed).toInt + 1) f_bto f_bin f_tra f152 f153 f154 := by rw [et9, eb9, ei9]; exact gr_bind rfl (by omega) (by omega) (by rw [cs9]; exact hb9)
        refine lv_iconst (v := 1) hx hb dX11_unifies_109 (by decide) ?_
        have hP : va_P (dC, dI) cls [(h_mm, .inr (8, (mo52 v_mm (.ref h_nv) (.ref h_nn) (.ref h_na) (.ref h_nb) (.ref h_nc) (.ref h_bto) (.ref h_bin) (.ref h_tra) (.int z151) (.int z143) (.int z144)))), (h_nv, .inl (cy_nv, 8000, .inl f_nv)), (h_na, .inl (cy_na, 8000, .inl f_na)), (h_nb, .inl (cy_nb, 8000, .inl f_nb)), (h_nc, .inl (cy_nc, 8000, .inl f_nc)), (h_bto, .inl (cy_bto, 256, .inl f152)), (h_bin, .inl (cy_bin, 256, .inl f153)), (h_nn, .inl (cy_nn, 8000, .inr (.inl f_nn))), (h_tra, .inl (cy_tra, 256, .inl f154))] H := hP.sub [5, 1, 2, 3, 4, 6, 7, 0, 8] rfl
        have hD : va_D A [(h_mm, .inr (8, (mo52 v_mm (.ref h_nv) (.ref h_nn) (.ref h_na) (.ref h_nb) (.ref h_nc) (.ref h_bto) (.ref h_bin) (.ref h_tra) (.int z151) (.int z143) (.int z144)))), (h_nv, .inl (cy_nv, 8000, .inl f_nv)), (h_na, .inl (cy_na, 8000, .inl f_na)), (h_nb, .inl (cy_nb, 8000, .inl f_nb)), (h_nc, .inl (cy_nc, 8000, .inl f_nc)), (h_bto, .inl (cy_bto, 256, .inl f152)), (h_bin, .inl (cy_bin, 256, .inl f153)), (h_nn, .inl (cy_nn, 8000, .inr (.inl f_nn))), (h_tra, .inl (cy_tra, 256, .inl f154))] := hD.sub [5, 1, 2, 3, 4, 6, 7, 0, 8] (by decide) rfl
        refine W.widen (k := 0) (n := 0) (Nat.le_of_ble_eq_true rfl) (Nat.le_of_ble_eq_true rfl) ?_
        have cst1 : (1 : Int32).toInt = 1 := by decide
        have w158 : 0 ≤ ((z151)).toInt ∧ ((z151)).toInt ≤ 256 := by omega
        have w159 : 0 ≤ ((z143)).toInt ∧ ((z143)).toInt ≤ 7999 := by omega
        have w160 : 0 ≤ ((z144)).toInt ∧ ((z144)).toInt ≤ 31 := by omega
        have w161 : 0 ≤ (1 : Int32).toInt ∧ (1 : Int32).toInt ≤ 1 := by omega
        have w162 : BI i0 i1 N hz f_nv f_na f_nb f_nc (f152) (f153) := bi9
        have w163 : TRL ((z151)).toInt (f154) (f152) := (trl_cast tl9 (by omega))
        have w164 : GRW (x_mm_trailed).toInt ((z151)).toInt f_bto f_bin f_tra (f152) (f153) (f154) := (gr_cast gr9 (by omega) (by omega))
        exact W.zret (v := 1) (ty := .boolean) hx hb hr (by decide) (fun t ht hW => ⟨⟨1, (z151, z143, z144, f152, f153, f154), rfl, ⟨w158, w159, w160, hf152, hf153, hf154, w161, w162, w163, w164⟩, by rw [ht]; exact hP, hD⟩, hS.F ht⟩) hS.2.2 dX11_unifies_110
      · have kc149 := (not_congr (cv_eq (rfl : (r142).toInt = (r142).toInt) (by decide : (0 : Int32).toInt = 0))).mp c149
        refine lv_iconst (v := 0) hx hb dX11_unifies_97 (by decide) ?_
        have hP : va_P (dC, dI) cls [(h_mm, .inr (8, (mo52 v_mm (.ref h_nv) (.ref h_nn) (.ref h_na) (.ref h_nb) (.ref h_nc) (.ref h_bto) (.ref h_bin) (.ref h_tra) (.int x_mm_trailed) (.int z143) (.int z144)))), (h_nv, .inl (cy_nv, 8000, .inl f_nv)), (h_na, .inl (cy_na, 8000, .inl f_na)), (h_nb, .inl (cy_nb, 8000, .inl f_nb)), (h_nc, .inl (cy_nc, 8000, .inl f_nc)), (h_bto, .inl (cy_bto, 256, .inl f_bto)), (h_bin, .inl (cy_bin, 256, .inl f_bin)), (h_nn, .inl (cy_nn, 8000, .inr (.inl f_nn))), (h_tra, .inl (cy_tra, 256, .inl f_tra))] H := hP.sub [2, 3, 4, 5, 6, 7, 8, 0, 1] rfl
        have hD : va_D A [(h_mm, .inr (8, (mo52 v_mm (.ref h_nv) (.ref h_nn) (.ref h_na) (.ref h_nb) (.ref h_nc) (.ref h_bto) (.ref h_bin) (.ref h_tra) (.int x_mm_trailed) (.int z143) (.int z144)))), (h_nv, .inl (cy_nv, 8000, .inl f_nv)), (h_na, .inl (cy_na, 8000, .inl f_na)), (h_nb, .inl (cy_nb, 8000, .inl f_nb)), (h_nc, .inl (cy_nc, 8000, .inl f_nc)), (h_bto, .inl (cy_bto, 256, .inl f_bto)), (h_bin, .inl (cy_bin, 256, .inl f_bin)), (h_nn, .inl (cy_nn, 8000, .inr (.inl f_nn))), (h_tra, .inl (cy_tra, 256, .inl f_tra))] := hD.sub [2, 3, 4, 5, 6, 7, 8, 0, 1] (by decide) rfl
        refine W.widen (k := 0) (n := 0) (Nat.le_of_ble_eq_true rfl) (Nat.le_of_ble_eq_true rfl) ?_
        have cst0 : (0 : Int32).toInt = 0 := by decide
        have w165 : 0 ≤ ((x_mm_trailed)).toInt ∧ ((x_mm_trailed)).toInt ≤ 256 := by omega
        have w166 : 0 ≤ ((z143)).toInt ∧ ((z143)).toInt ≤ 7999 := by omega
        have w167 : 0 ≤ ((z144)).toInt ∧ ((z144)).toInt ≤ 31 := by omega
        have w168 : 0 ≤ (0 : Int32).toInt ∧ (0 : Int32).toInt ≤ 1 := by omega
        have w169 : BI i0 i1 N hz f_nv f_na f_nb f_nc (f_bto) (f_bin) := hn_bi
        have w170 : TRL ((x_mm_trailed)).toInt (f_tra) (f_bto) := (trl_cast hn_trl (by omega))
        have w171 : GRW (x_mm_trailed).toInt ((x_mm_trailed)).toInt f_bto f_bin f_tra (f_bto) (f_bin) (f_tra) := (gr_cast gr0 (by omega) (by omega))
        exact W.zret (v := 0) (ty := .boolean) hx hb hr (by decide) (fun t ht hW => ⟨⟨0, (x_mm_trailed, z143, z144, f_bto, f_bin, f_tra), rfl, ⟨w165, w166, w167, hf_bto, hf_bin, hf_tra, w168, w169, w170, w171⟩, by rw [ht]; exact hP, hD⟩, hS.F ht⟩) hS.2.2 dX11_unifies_98
    · have kc141 := (not_congr (cv_eq (rfl : (z140).toInt = (z140).toInt) (by decide : ((-1) : Int32).toInt = -1))).mp c141
      refine lv_aload_n hx hb dX11_unifies_69 rfl (lv_at hl 5 rfl) ?_
      refine lv_iload hx hb dX11_unifies_70 (lv_at hl 2 rfl) ?_
      refine lv_iload hx hb dX11_unifies_72 (lv_at hl 1 rfl) ?_
      have hPc := hP.sub (ws' := [(h_mm, .inr (8, (mo52 v_mm (.ref h_nv) (.ref h_nn) (.ref h_na) (.ref h_nb) (.ref h_nc) (.ref h_bto) (.ref h_bin) (.ref h_tra) (.int x_mm_trailed) (.int z14) (.int z15)))), (h_nv, .inl (cy_nv, 8000, .inl f_nv))]) [7, 8] rfl
      have hDc := hD.sub (ws' := [(h_mm, .inr (8, (mo52 v_mm (.ref h_nv) (.ref h_nn) (.ref h_na) (.ref h_nb) (.ref h_nc) (.ref h_bto) (.ref h_bin) (.ref h_tra) (.int x_mm_trailed) (.int z14) (.int z15)))), (h_nv, .inl (cy_nv, 8000, .inl f_nv))]) [7, 8] (by decide) rfl
      have hKc := hK.sub (tys' := [(cy_nv, .int)]) [0] rfl
      have hFc := va_free (wc := [(h_mm, .inr (8, (mo52 v_mm (.ref h_nv) (.ref h_nn) (.ref h_na) (.ref h_nb) (.ref h_nc) (.ref h_bto) (.ref h_bin) (.ref h_tra) (.int x_mm_trailed) (.int z14) (.int z15)))), (h_nv, .inl (cy_nv, 8000, .inl f_nv))]) hD hS hA [7, 8] rfl
      refine va_calli (va_runV (As := [.int z14, .int z15]) (rest := []) ⟨hx, hb, hml, hown, hts⟩ (c_X11_slotOf l dC dI H.size h_mm h_nv (fun k => List.getD (mo52 v_mm (.ref h_nv) (.ref h_nn) (.ref h_na) (.ref h_nb) (.ref h_nc) (.ref h_bto) (.ref h_bin) (.ref h_tra) (.int x_mm_trailed) (.int z14) (.int z15)) k .null) cy_nv f_nv z14 z15 hf_nv (by omega) (by omega)) (cwV 2 hts (gv hT w_m_X11_270 w_instanceMethod_X11_slotOf ws_sel_X11_slotOf w_ini_X11 w_code_X11_slotOf) rfl rfl rfl (by decide +kernel) ⟨(by dsimp only [headSpec]; omega), (by dsimp only [headSpec]; omega)⟩) ⟨pre_blind, va_recv hK hP (ci := 8) (q0 := 7) rfl rfl, pre_of hPc hKc hDc hN⟩ rfl rfl hl.1 rfl (lv_room (Nat.le_of_ble_eq_true rfl)) dX11_unifies_74 ⟨(Nat.le_of_ble_eq_true rfl), (Nat.le_of_ble_eq_true rfl)⟩) hS (fun q _ h => hFc q h) hFc (fun r172 u t H locs ht hvm hq hB hz1 hk1 hS => ?_)
      obtain ⟨hP1, hD1⟩ := hB
      rw [ht] at hP1
      obtain ⟨hP, hD⟩ := va_join (wr := [(h_nn, .inl (cy_nn, 8000, .inr (.inl f_nn))), (h_tra, .inl (cy_tra, 256, .inl f_tra)), (h_na, .inl (cy_na, 8000, .inl f_na)), (h_nb, .inl (cy_nb, 8000, .inl f_nb)), (h_nc, .inl (cy_nc, 8000, .inl f_nc)), (h_bto, .inl (cy_bto, 256, .inl f_bto)), (h_bin, .inl (cy_bin, 256, .inl f_bin))]) (w1 := [(h_mm, .inr (8, (mo52 v_mm (.ref h_nv) (.ref h_nn) (.ref h_na) (.ref h_nb) (.ref h_nc) (.ref h_bto) (.ref h_bin) (.ref h_tra) (.int x_mm_trailed) (.int z14) (.int z15)))), (h_nv, .inl (cy_nv, 8000, .inl f_nv))]) hP hD [7, 8] [0, 1, 2, 3, 4, 5, 6] rfl rfl (by decide) (by decide) hk1 hFc hP1 hD1
      have hP : va_P (dC, dI) cls [(h_nn, .inl (cy_nn, 8000, .inr (.inl f_nn))), (h_tra, .inl (cy_tra, 256, .inl f_tra)), (h_na, .inl (cy_na, 8000, .inl f_na)), (h_nb, .inl (cy_nb, 8000, .inl f_nb)), (h_nc, .inl (cy_nc, 8000, .inl f_nc)), (h_bto, .inl (cy_bto, 256, .inl f_bto)), (h_bin, .inl (cy_bin, 256, .inl f_bin)), (h_mm, .inr (8, (mo52 v_mm (.ref h_nv) (.ref h_nn) (.ref h_na) (.ref h_nb) (.ref h_nc) (.ref h_bto) (.ref h_bin) (.ref h_tra) (.int x_mm_trailed) (.int z14) (.int z15)))), (h_nv, .inl (cy_nv, 8000, .inl f_nv))] H := hP
      have hD : va_D A [(h_nn, .inl (cy_nn, 8000, .inr (.inl f_nn))), (h_tra, .inl (cy_tra, 256, .inl f_tra)), (h_na, .inl (cy_na, 8000, .inl f_na)), (h_nb, .inl (cy_nb, 8000, .inl f_nb)), (h_nc, .inl (cy_nc, 8000, .inl f_nc)), (h_bto, .inl (cy_bto, 256, .inl f_bto)), (h_bin, .inl (cy_bin, 256, .inl f_bin)), (h_mm, .inr (8, (mo52 v_mm (.ref h_nv) (.ref h_nn) (.ref h_na) (.ref h_nb) (.ref h_nc) (.ref h_bto) (.ref h_bin) (.ref h_tra) (.int x_mm_trailed) (.int z14) (.int z15)))), (h_nv, .inl (cy_nv, 8000, .inl f_nv))] := hD
      obtain ⟨k173, k174⟩ := hq
      have k173 : -1 ≤ (r172).toInt ∧ (r172).toInt ≤ 255 := k173
      have k174 : ((r172)).toInt = 8 * ((z15)).toInt + (f_nv ((z14)).toInt.toNat).toInt := k174
      refine lv_iload hx hb dX11_unifies_77 (lv_at hl 0 rfl) ?_
      refine lv_icmp_ne (tgt := 84) hx hb dX11_unifies_79 (by decide) (fun c175 => ?_) (fun c175 => ?_)
      · have kc175 := (not_congr (cv_eq (rfl : (r172).toInt = (r172).toInt) (rfl : (r137).toInt = (r137).toInt))).mp c175
        have hvz25 : (f_nv (z2).toInt.toNat).toInt = (z25).toInt := by rw [ez25, (clamp_nat (i := z2) (by omega))]
        have hb9 : (f_bto (r137).toInt.toNat).toInt = -1 := by have h9 := (k11).resolve_left (by omega); rwa [show (8 * (z3).toInt + (f_nv (z2).toInt.toNat).toInt).toNat = (r137).toInt.toNat by omega] at h9
        refine lv_aload_n hx hb dX11_unifies_84 rfl (lv_at hl 5 rfl) ?_
        refine lv_iload hx hb dX11_unifies_85 (lv_at hl 2 rfl) ?_
        refine lv_iload hx hb dX11_unifies_87 (lv_at hl 1 rfl) ?_
        refine lv_iload hx hb dX11_unifies_89 (lv_at hl 0 rfl) ?_
        have hPc := hP.sub (ws' := [(h_mm, .inr (8, (mo52 v_mm (.ref h_nv) (.ref h_nn) (.ref h_na) (.ref h_nb) (.ref h_nc) (.ref h_bto) (.ref h_bin) (.ref h_tra) (.int x_mm_trailed) (.int z14) (.int z15)))), (h_nv, .inl (cy_nv, 8000, .inl f_nv)), (h_na, .inl (cy_na, 8000, .inl f_na)), (h_nb, .inl (cy_nb, 8000, .inl f_nb)), (h_nc, .inl (cy_nc, 8000, .inl f_nc)), (h_bto, .inl (cy_bto, 256, .inl f_bto)), (h_bin, .inl (cy_bin, 256, .inl f_bin))]) [7, 8, 2, 3, 4, 5, 6] rfl
        have hDc := hD.sub (ws' := [(h_mm, .inr (8, (mo52 v_mm (.ref h_nv) (.ref h_nn) (.ref h_na) (.ref h_nb) (.ref h_nc) (.ref h_bto) (.ref h_bin) (.ref h_tra) (.int x_mm_trailed) (.int z14) (.int z15)))), (h_nv, .inl (cy_nv, 8000, .inl f_nv)), (h_na, .inl (cy_na, 8000, .inl f_na)), (h_nb, .inl (cy_nb, 8000, .inl f_nb)), (h_nc, .inl (cy_nc, 8000, .inl f_nc)), (h_bto, .inl (cy_bto, 256, .inl f_bto)), (h_bin, .inl (cy_bin, 256, .inl f_bin))]) [7, 8, 2, 3, 4, 5, 6] (by decide) rfl
        have hKc := hK.sub (tys' := [(cy_nv, .int), (cy_na, .int), (cy_nb, .int), (cy_nc, .int), (cy_bto, .int), (cy_bin, .int)]) [0, 1, 2, 3, 4, 5] rfl
        have hFc := va_free (wc := [(h_mm, .inr (8, (mo52 v_mm (.ref h_nv) (.ref h_nn) (.ref h_na) (.ref h_nb) (.ref h_nc) (.ref h_bto) (.ref h_bin) (.ref h_tra) (.int x_mm_trailed) (.int z14) (.int z15)))), (h_nv, .inl (cy_nv, 8000, .inl f_nv)), (h_na, .inl (cy_na, 8000, .inl f_na)), (h_nb, .inl (cy_nb, 8000, .inl f_nb)), (h_nc, .inl (cy_nc, 8000, .inl f_nc)), (h_bto, .inl (cy_bto, 256, .inl f_bto)), (h_bin, .inl (cy_bin, 256, .inl f_bin))]) hD hS hA [7, 8, 2, 3, 4, 5, 6] rfl
        refine va_calli (va_runV (As := [.int z14, .int z15, .int r137]) (rest := []) ⟨hx, hb, hml, hown, hts⟩ (c_X11_holds l (fu + 1) dC dI H.size h_mm h_nv h_na h_nb h_nc h_bto h_bin (fun k => List.getD (mo52 v_mm (.ref h_nv) (.ref h_nn) (.ref h_na) (.ref h_nb) (.ref h_nc) (.ref h_bto) (.ref h_bin) (.ref h_tra) (.int x_mm_trailed) (.int z14) (.int z15)) k .null) z14 z15 cy_nv f_nv cy_na f_na cy_nb f_nb cy_nc f_nc cy_bto f_bto cy_bin f_bin z14 z15 r137 i0 i1 N hz z16 (by omega) (by omega) hf_nv hf_na hf_nb hf_nc hf_bto hf_bin (by omega) (by omega) (by omega) (by omega) (by omega) (by omega) (by omega) hn_bi k22) (cwV 3 hts (gv hT w_m_X11_276 w_instanceMethod_X11_holds ws_sel_X11_holds w_ini_X11 w_code_X11_holds) rfl rfl rfl (by decide +kernel) ⟨(by dsimp only [headSpec]; omega), (by dsimp only [headSpec]; omega)⟩) ⟨pre_blind, va_recv hK hP (ci := 8) (q0 := 7) rfl rfl, pre_of hPc hKc hDc hN⟩ rfl rfl hl.1 rfl (lv_room (Nat.le_of_ble_eq_true rfl)) dX11_unifies_91 ⟨(Nat.le_of_ble_eq_true rfl), (Nat.le_of_ble_eq_true rfl)⟩) hS (fun q _ h => hFc q h) hFc (fun r176 u t H locs ht hvm hq hB hz1 hk1 hS => ?_)
        obtain ⟨z177, z178⟩ := u
        obtain ⟨hP1, hD1⟩ := hB
        rw [ht] at hP1
        obtain ⟨hP, hD⟩ := va_join (wr := [(h_nn, .inl (cy_nn, 8000, .inr (.inl f_nn))), (h_tra, .inl (cy_tra, 256, .inl f_tra))]) (w1 := [(h_mm, .inr (8, (mo52 v_mm (.ref h_nv) (.ref h_nn) (.ref h_na) (.ref h_nb) (.ref h_nc) (.ref h_bto) (.ref h_bin) (.ref h_tra) (.int x_mm_trailed) (.int z177) (.int z178)))), (h_nv, .inl (cy_nv, 8000, .inl f_nv)), (h_na, .inl (cy_na, 8000, .inl f_na)), (h_nb, .inl (cy_nb, 8000, .inl f_nb)), (h_nc, .inl (cy_nc, 8000, .inl f_nc)), (h_bto, .inl (cy_bto, 256, .inl f_bto)), (h_bin, .inl (cy_bin, 256, .inl f_bin))]) hP hD [7, 8, 2, 3, 4, 5, 6] [0, 1] rfl rfl (by decide) (by decide) hk1 hFc hP1 hD1
        have hP : va_P (dC, dI) cls [(h_nn, .inl (cy_nn, 8000, .inr (.inl f_nn))), (h_tra, .inl (cy_tra, 256, .inl f_tra)), (h_mm, .inr (8, (mo52 v_mm (.ref h_nv) (.ref h_nn) (.ref h_na) (.ref h_nb) (.ref h_nc) (.ref h_bto) (.ref h_bin) (.ref h_tra) (.int x_mm_trailed) (.int z177) (.int z178)))), (h_nv, .inl (cy_nv, 8000, .inl f_nv)), (h_na, .inl (cy_na, 8000, .inl f_na)), (h_nb, .inl (cy_nb, 8000, .inl f_nb)), (h_nc, .inl (cy_nc, 8000, .inl f_nc)), (h_bto, .inl (cy_bto, 256, .inl f_bto)), (h_bin, .inl (cy_bin, 256, .inl f_bin))] H := hP
        have hD : va_D A [(h_nn, .inl (cy_nn, 8000, .inr (.inl f_nn))), (h_tra, .inl (cy_tra, 256, .inl f_tra)), (h_mm, .inr (8, (mo52 v_mm (.ref h_nv) (.ref h_nn) (.ref h_na) (.ref h_nb) (.ref h_nc) (.ref h_bto) (.ref h_bin) (.ref h_tra) (.int x_mm_trailed) (.int z177) (.int z178)))), (h_nv, .inl (cy_nv, 8000, .inl f_nv)), (h_na, .inl (cy_na, 8000, .inl f_na)), (h_nb, .inl (cy_nb, 8000, .inl f_nb)), (h_nc, .inl (cy_nc, 8000, .inl f_nc)), (h_bto, .inl (cy_bto, 256, .inl f_bto)), (h_bin, .inl (cy_bin, 256, .inl f_bin))] := hD
        obtain ⟨k179, k180, k181, k182⟩ := hq
        have k179 : 0 ≤ ((z177)).toInt ∧ ((z177)).toInt ≤ 7999 := k179
        have k180 : 0 ≤ ((z178)).toInt ∧ ((z178)).toInt ≤ 31 := k180
        have k181 : 0 ≤ (r176).toInt ∧ (r176).toInt ≤ 1 := k181
        have k182 : ((r176)).toInt = 1 ∨ NR f_nv f_na f_nb f_nc f_bto f_bin ((z14)).toInt.toNat ((z15)).toInt ((r137)).toInt.toNat := k182
        refine lv_if_eq (tgt := 99) hx hb dX11_unifies_94 (by decide) (fun c183 => ?_) (fun c183 => ?_)
        · have kc183 := (cv_eq (rfl : (r176).toInt = (r176).toInt) (by decide : (0 : Int32).toInt = 0)).mp c183
          have tr9 := trl_room (s := (r137).toInt.toNat) hn_trl hf_tra (by omega) (by omega) hb9
          refine lv_aload_n hx hb dX11_unifies_99 rfl (lv_at hl 5 rfl) ?_
          refine lv_iload hx hb dX11_unifies_100 (lv_at hl 0 rfl) ?_
          refine lv_iload hx hb dX11_unifies_102 (lv_at hl 2 rfl) ?_
          refine lv_iload hx hb dX11_unifies_104 (lv_at hl 1 rfl) ?_
          have hPc := hP.sub (ws' := [(h_mm, .inr (8, (mo52 v_mm (.ref h_nv) (.ref h_nn) (.ref h_na) (.ref h_nb) (.ref h_nc) (.ref h_bto) (.ref h_bin) (.ref h_tra) (.int x_mm_trailed) (.int z177) (.int z178)))), (h_bto, .inl (cy_bto, 256, .inl f_bto)), (h_bin, .inl (cy_bin, 256, .inl f_bin)), (h_tra, .inl (cy_tra, 256, .inl f_tra))]) [2, 7, 8, 1] rfl
          have hDc := hD.sub (ws' := [(h_mm, .inr (8, (mo52 v_mm (.ref h_nv) (.ref h_nn) (.ref h_na) (.ref h_nb) (.ref h_nc) (.ref h_bto) (.ref h_bin) (.ref h_tra) (.int x_mm_trailed) (.int z177) (.int z178)))), (h_bto, .inl (cy_bto, 256, .inl f_bto)), (h_bin, .inl (cy_bin, 256, .inl f_bin)), (h_tra, .inl (cy_tra, 256, .inl f_tra))]) [2, 7, 8, 1] (by decide) rfl
          have hKc := hK.sub (tys' := [(cy_bto, .int), (cy_bin, .int), (cy_tra, .int)]) [4, 5, 7] rfl
          have hFc := va_free (wc := [(h_mm, .inr (8, (mo52 v_mm (.ref h_nv) (.ref h_nn) (.ref h_na) (.ref h_nb) (.ref h_nc) (.ref h_bto) (.ref h_bin) (.ref h_tra) (.int x_mm_trailed) (.int z177) (.int z178)))), (h_bto, .inl (cy_bto, 256, .inl f_bto)), (h_bin, .inl (cy_bin, 256, .inl f_bin)), (h_tra, .inl (cy_tra, 256, .inl f_tra))]) hD hS hA [2, 7, 8, 1] rfl
          refine va_callv (va_runV (As := [.int r137, .int z14, .int z15]) (rest := []) ⟨hx, hb, hml, hown, hts⟩ (c_X11_binds l dC dI H.size h_mm h_bto h_bin h_tra (fun k => List.getD (mo52 v_mm (.ref h_nv) (.ref h_nn) (.ref h_na) (.ref h_nb) (.ref h_nc) (.ref h_bto) (.ref h_bin) (.ref h_tra) (.int x_mm_trailed) (.int z177) (.int z178)) k .null) x_mm_trailed cy_bto f_bto cy_bin f_bin cy_tra f_tra r137 z14 z15 (by omega) hf_bto hf_bin hf_tra (by omega) (by omega) (by omega) (by omega)) (cwV 3 hts (gv hT w_m_X11_280 w_instanceMethod_X11_binds ws_sel_X11_binds w_ini_X11 w_code_X11_binds) rfl rfl rfl (by decide +kernel) ⟨(by dsimp only [headSpec]; omega), (by dsimp only [headSpec]; omega)⟩) ⟨pre_blind, va_recv hK hP (ci := 8) (q0 := 2) rfl rfl, pre_of hPc hKc hDc hN⟩ rfl rfl hl.1 rfl (lv_room (Nat.le_of_ble_eq_true rfl)) dX11_unifies_106 ⟨(Nat.le_of_ble_eq_true rfl), (Nat.le_of_ble_eq_true rfl)⟩) hS (fun q _ h => hFc q h) hFc (fun u t H locs ht hvm hq hB hz1 hk1 hS => ?_)
          obtain ⟨z185, f186, f187, f188⟩ := u
          obtain ⟨hP1, hD1⟩ := hB
          rw [ht] at hP1
          obtain ⟨hP, hD⟩ := va_join (wr := [(h_nn, .inl (cy_nn, 8000, .inr (.inl f_nn))), (h_nv, .inl (cy_nv, 8000, .inl f_nv)), (h_na, .inl (cy_na, 8000, .inl f_na)), (h_nb, .inl (cy_nb, 8000, .inl f_nb)), (h_nc, .inl (cy_nc, 8000, .inl f_nc))]) (w1 := [(h_mm, .inr (8, (mo52 v_mm (.ref h_nv) (.ref h_nn) (.ref h_na) (.ref h_nb) (.ref h_nc) (.ref h_bto) (.ref h_bin) (.ref h_tra) (.int z185) (.int z177) (.int z178)))), (h_bto, .inl (cy_bto, 256, .inl f186)), (h_bin, .inl (cy_bin, 256, .inl f187)), (h_tra, .inl (cy_tra, 256, .inl f188))]) hP hD [2, 7, 8, 1] [0, 3, 4, 5, 6] rfl rfl (by decide) (by decide) hk1 hFc hP1 hD1
          have hP : va_P (dC, dI) cls [(h_nn, .inl (cy_nn, 8000, .inr (.inl f_nn))), (h_nv, .inl (cy_nv, 8000, .inl f_nv)), (h_na, .inl (cy_na, 8000, .inl f_na)), (h_nb, .inl (cy_nb, 8000, .inl f_nb)), (h_nc, .inl (cy_nc, 8000, .inl f_nc)), (h_mm, .inr (8, (mo52 v_mm (.ref h_nv) (.ref h_nn) (.ref h_na) (.ref h_nb) (.ref h_nc) (.ref h_bto) (.ref h_bin) (.ref h_tra) (.int z185) (.int z177) (.int z178)))), (h_bto, .inl (cy_bto, 256, .inl f186)), (h_bin, .inl (cy_bin, 256, .inl f187)), (h_tra, .inl (cy_tra, 256, .inl f188))] H := hP
          have hD : va_D A [(h_nn, .inl (cy_nn, 8000, .inr (.inl f_nn))), (h_nv, .inl (cy_nv, 8000, .inl f_nv)), (h_na, .inl (cy_na, 8000, .inl f_na)), (h_nb, .inl (cy_nb, 8000, .inl f_nb)), (h_nc, .inl (cy_nc, 8000, .inl f_nc)), (h_mm, .inr (8, (mo52 v_mm (.ref h_nv) (.ref h_nn) (.ref h_na) (.ref h_nb) (.ref h_nc) (.ref h_bto) (.ref h_bin) (.ref h_tra) (.int z185) (.int z177) (.int z178)))), (h_bto, .inl (cy_bto, 256, .inl f186)), (h_bin, .inl (cy_bin, 256, .inl f187)), (h_tra, .inl (cy_tra, 256, .inl f188))] := hD
          obtain ⟨k189, hf186, hf187, hf188, k190, k191⟩ := hq
          have k189 : 0 ≤ ((z185)).toInt ∧ ((z185)).toInt ≤ 256 := k189
          have hf186 : Rg (-1) 7999 (f186) := hf186
          have hf187 : Rg 0 31 (f187) := hf187
          have hf188 : Rg 0 255 (f188) := hf188
          have k190 : ((z185)).toInt = ((x_mm_trailed)).toInt + 1 := k190
          have k191 : (f186) = upd f_bto (Int32.toNatClampNeg (r137)) (z14) ∧ (f187) = upd f_bin (Int32.toNatClampNeg (r137)) (z15) ∧ (f188) = upd f_tra (Int32.toNatClampNeg (x_mm_trailed)) (r137) := k191
          obtain ⟨eb9, ei9, et9⟩ := k191
          have cs9 := clamp_nat (i := r137) (by omega)
          have bi9 : BI i0 i1 N hz f_nv f_na f_nb f_nc f186 f187 := by rw [eb9, ei9, cs9]; exact bi_bind hn_bi hf_nv hb9 ((k182).resolve_left (by omega)) (by omega) (by omega) (by omega)
          have tl9 : TRL ((x_mm_trailed).toInt + 1) f188 f186 := by rw [et9, eb9]; exact trl_bind hn_trl rfl (by omega) (by omega) (by rw [cs9]; exact hb9) (by omega)
          have gr9 : GRW (x_mm_trailed).toInt ((x_mm_trailed).toInt + 1) f_bto f_bin f_tra f186 f187 f188 := by rw [et9, eb9, ei9]; exact gr_bind rfl (by omega) (by omega) (by rw [cs9]; exact hb9)
          refine lv_iconst (v := 1) hx hb dX11_unifies_109 (by decide) ?_
          have hP : va_P (dC, dI) cls [(h_mm, .inr (8, (mo52 v_mm (.ref h_nv) (.ref h_nn) (.ref h_na) (.ref h_nb) (.ref h_nc) (.ref h_bto) (.ref h_bin) (.ref h_tra) (.int z185) (.int z177) (.int z178)))), (h_nv, .inl (cy_nv, 8000, .inl f_nv)), (h_na, .inl (cy_na, 8000, .inl f_na)), (h_nb, .inl (cy_nb, 8000, .inl f_nb)), (h_nc, .inl (cy_nc, 8000, .inl f_nc)), (h_bto, .inl (cy_bto, 256, .inl f186)), (h_bin, .inl (cy_bin, 256, .inl f187)), (h_nn, .inl (cy_nn, 8000, .inr (.inl f_nn))), (h_tra, .inl (cy_tra, 256, .inl f188))] H := hP.sub [5, 1, 2, 3, 4, 6, 7, 0, 8] rfl
          have hD : va_D A [(h_mm, .inr (8, (mo52 v_mm (.ref h_nv) (.ref h_nn) (.ref h_na) (.ref h_nb) (.ref h_nc) (.ref h_bto) (.ref h_bin) (.ref h_tra) (.int z185) (.int z177) (.int z178)))), (h_nv, .inl (cy_nv, 8000, .inl f_nv)), (h_na, .inl (cy_na, 8000, .inl f_na)), (h_nb, .inl (cy_nb, 8000, .inl f_nb)), (h_nc, .inl (cy_nc, 8000, .inl f_nc)), (h_bto, .inl (cy_bto, 256, .inl f186)), (h_bin, .inl (cy_bin, 256, .inl f187)), (h_nn, .inl (cy_nn, 8000, .inr (.inl f_nn))), (h_tra, .inl (cy_tra, 256, .inl f188))] := hD.sub [5, 1, 2, 3, 4, 6, 7, 0, 8] (by decide) rfl
          refine W.widen (k := 0) (n := 0) (Nat.le_of_ble_eq_true rfl) (Nat.le_of_ble_eq_true rfl) ?_
          have cst1 : (1 : Int32).toInt = 1 := by decide
          have w192 : 0 ≤ ((z185)).toInt ∧ ((z185)).toInt ≤ 256 := by omega
          have w193 : 0 ≤ ((z177)).toInt ∧ ((z177)).toInt ≤ 7999 := by omega
          have w194 : 0 ≤ ((z178)).toInt ∧ ((z178)).toInt ≤ 31 := by omega
          have w195 : 0 ≤ (1 : Int32).toInt ∧ (1 : Int32).toInt ≤ 1 := by omega
          have w196 : BI i0 i1 N hz f_nv f_na f_nb f_nc (f186) (f187) := bi9
          have w197 : TRL ((z185)).toInt (f188) (f186) := (trl_cast tl9 (by omega))
          have w198 : GRW (x_mm_trailed).toInt ((z185)).toInt f_bto f_bin f_tra (f186) (f187) (f188) := (gr_cast gr9 (by omega) (by omega))
          exact W.zret (v := 1) (ty := .boolean) hx hb hr (by decide) (fun t ht hW => ⟨⟨1, (z185, z177, z178, f186, f187, f188), rfl, ⟨w192, w193, w194, hf186, hf187, hf188, w195, w196, w197, w198⟩, by rw [ht]; exact hP, hD⟩, hS.F ht⟩) hS.2.2 dX11_unifies_110
        · have kc183 := (not_congr (cv_eq (rfl : (r176).toInt = (r176).toInt) (by decide : (0 : Int32).toInt = 0))).mp c183
          refine lv_iconst (v := 0) hx hb dX11_unifies_97 (by decide) ?_
          have hP : va_P (dC, dI) cls [(h_mm, .inr (8, (mo52 v_mm (.ref h_nv) (.ref h_nn) (.ref h_na) (.ref h_nb) (.ref h_nc) (.ref h_bto) (.ref h_bin) (.ref h_tra) (.int x_mm_trailed) (.int z177) (.int z178)))), (h_nv, .inl (cy_nv, 8000, .inl f_nv)), (h_na, .inl (cy_na, 8000, .inl f_na)), (h_nb, .inl (cy_nb, 8000, .inl f_nb)), (h_nc, .inl (cy_nc, 8000, .inl f_nc)), (h_bto, .inl (cy_bto, 256, .inl f_bto)), (h_bin, .inl (cy_bin, 256, .inl f_bin)), (h_nn, .inl (cy_nn, 8000, .inr (.inl f_nn))), (h_tra, .inl (cy_tra, 256, .inl f_tra))] H := hP.sub [2, 3, 4, 5, 6, 7, 8, 0, 1] rfl
          have hD : va_D A [(h_mm, .inr (8, (mo52 v_mm (.ref h_nv) (.ref h_nn) (.ref h_na) (.ref h_nb) (.ref h_nc) (.ref h_bto) (.ref h_bin) (.ref h_tra) (.int x_mm_trailed) (.int z177) (.int z178)))), (h_nv, .inl (cy_nv, 8000, .inl f_nv)), (h_na, .inl (cy_na, 8000, .inl f_na)), (h_nb, .inl (cy_nb, 8000, .inl f_nb)), (h_nc, .inl (cy_nc, 8000, .inl f_nc)), (h_bto, .inl (cy_bto, 256, .inl f_bto)), (h_bin, .inl (cy_bin, 256, .inl f_bin)), (h_nn, .inl (cy_nn, 8000, .inr (.inl f_nn))), (h_tra, .inl (cy_tra, 256, .inl f_tra))] := hD.sub [2, 3, 4, 5, 6, 7, 8, 0, 1] (by decide) rfl
          refine W.widen (k := 0) (n := 0) (Nat.le_of_ble_eq_true rfl) (Nat.le_of_ble_eq_true rfl) ?_
          have cst0 : (0 : Int32).toInt = 0 := by decide
          have w199 : 0 ≤ ((x_mm_trailed)).toInt ∧ ((x_mm_trailed)).toInt ≤ 256 := by omega
          have w200 : 0 ≤ ((z177)).toInt ∧ ((z177)).toInt ≤ 7999 := by omega
          have w201 : 0 ≤ ((z178)).toInt ∧ ((z178)).toInt ≤ 31 := by omega
          have w202 : 0 ≤ (0 : Int32).toInt ∧ (0 : Int32).toInt ≤ 1 := by omega
          have w203 : BI i0 i1 N hz f_nv f_na f_nb f_nc (f_bto) (f_bin) := hn_bi
          have w204 : TRL ((x_mm_trailed)).toInt (f_tra) (f_bto) := (trl_cast hn_trl (by omega))
          have w205 : GRW (x_mm_trailed).toInt ((x_mm_trailed)).toInt f_bto f_bin f_tra (f_bto) (f_bin) (f_tra) := (gr_cast gr0 (by omega) (by omega))
          exact W.zret (v := 0) (ty := .boolean) hx hb hr (by decide) (fun t ht hW => ⟨⟨0, (x_mm_trailed, z177, z178, f_bto, f_bin, f_tra), rfl, ⟨w199, w200, w201, hf_bto, hf_bin, hf_tra, w202, w203, w204, w205⟩, by rw [ht]; exact hP, hD⟩, hS.F ht⟩) hS.2.2 dX11_unifies_98
      · have kc175 := (cv_eq (rfl : (r172).toInt = (r172).toInt) (rfl : (r137).toInt = (r137).toInt)).mp c175
        refine lv_iconst (v := 1) hx hb dX11_unifies_82 (by decide) ?_
        have hP : va_P (dC, dI) cls [(h_mm, .inr (8, (mo52 v_mm (.ref h_nv) (.ref h_nn) (.ref h_na) (.ref h_nb) (.ref h_nc) (.ref h_bto) (.ref h_bin) (.ref h_tra) (.int x_mm_trailed) (.int z14) (.int z15)))), (h_nv, .inl (cy_nv, 8000, .inl f_nv)), (h_na, .inl (cy_na, 8000, .inl f_na)), (h_nb, .inl (cy_nb, 8000, .inl f_nb)), (h_nc, .inl (cy_nc, 8000, .inl f_nc)), (h_bto, .inl (cy_bto, 256, .inl f_bto)), (h_bin, .inl (cy_bin, 256, .inl f_bin)), (h_nn, .inl (cy_nn, 8000, .inr (.inl f_nn))), (h_tra, .inl (cy_tra, 256, .inl f_tra))] H := hP.sub [7, 8, 2, 3, 4, 5, 6, 0, 1] rfl
        have hD : va_D A [(h_mm, .inr (8, (mo52 v_mm (.ref h_nv) (.ref h_nn) (.ref h_na) (.ref h_nb) (.ref h_nc) (.ref h_bto) (.ref h_bin) (.ref h_tra) (.int x_mm_trailed) (.int z14) (.int z15)))), (h_nv, .inl (cy_nv, 8000, .inl f_nv)), (h_na, .inl (cy_na, 8000, .inl f_na)), (h_nb, .inl (cy_nb, 8000, .inl f_nb)), (h_nc, .inl (cy_nc, 8000, .inl f_nc)), (h_bto, .inl (cy_bto, 256, .inl f_bto)), (h_bin, .inl (cy_bin, 256, .inl f_bin)), (h_nn, .inl (cy_nn, 8000, .inr (.inl f_nn))), (h_tra, .inl (cy_tra, 256, .inl f_tra))] := hD.sub [7, 8, 2, 3, 4, 5, 6, 0, 1] (by decide) rfl
        refine W.widen (k := 0) (n := 0) (Nat.le_of_ble_eq_true rfl) (Nat.le_of_ble_eq_true rfl) ?_
        have cst1 : (1 : Int32).toInt = 1 := by decide
        have w206 : 0 ≤ ((x_mm_trailed)).toInt ∧ ((x_mm_trailed)).toInt ≤ 256 := by omega
        have w207 : 0 ≤ ((z14)).toInt ∧ ((z14)).toInt ≤ 7999 := by omega
        have w208 : 0 ≤ ((z15)).toInt ∧ ((z15)).toInt ≤ 31 := by omega
        have w209 : 0 ≤ (1 : Int32).toInt ∧ (1 : Int32).toInt ≤ 1 := by omega
        have w210 : BI i0 i1 N hz f_nv f_na f_nb f_nc (f_bto) (f_bin) := hn_bi
        have w211 : TRL ((x_mm_trailed)).toInt (f_tra) (f_bto) := (trl_cast hn_trl (by omega))
        have w212 : GRW (x_mm_trailed).toInt ((x_mm_trailed)).toInt f_bto f_bin f_tra (f_bto) (f_bin) (f_tra) := (gr_cast gr0 (by omega) (by omega))
        exact W.zret (v := 1) (ty := .boolean) hx hb hr (by decide) (fun t ht hW => ⟨⟨1, (x_mm_trailed, z14, z15, f_bto, f_bin, f_tra), rfl, ⟨w206, w207, w208, hf_bto, hf_bin, hf_tra, w209, w210, w211, w212⟩, by rw [ht]; exact hP, hD⟩, hS.F ht⟩) hS.2.2 dX11_unifies_83

def K_X11_areAlike (l : Launch) (fu : Nat) : Prop := ∀ (dC : Nat → ClassId) (dI : Nat → Nat → Nat) (sz : Nat) (h_mm : Nat) (h_nv : Nat) (h_na : Nat) (h_nb : Nat) (h_nc : Nat) (h_bto : Nat) (h_bin : Nat) (h_nn : Nat) (v_mm : Nat → Value) (x_mm_goneTo : Int32) (x_mm_goneIn : Int32) (cy_nv : ClassId) (f_nv : Nat → Int32) (cy_na : ClassId) (f_na : Nat → Int32) (cy_nb : ClassId) (f_nb : Nat → Int32) (cy_nc : ClassId) (f_nc : Nat → Int32) (cy_bto : ClassId) (f_bto : Nat → Int32) (cy_bin : ClassId) (f_bin : Nat → Int32) (cy_nn : ClassId) (f_nn : Nat → Int64) (p1 : Int32) (p2 : Int32) (p3 : Int32) (p4 : Int32) (i0 : Int) (i1 : Int) (N : Int) (hz : Nat → Nat) (P : List Nat) (hx_mm_goneTo : 0 ≤ (x_mm_goneTo).toInt ∧ (x_mm_goneTo).toInt ≤ 7999) (hx_mm_goneIn : 0 ≤ (x_mm_goneIn).toInt ∧ (x_mm_goneIn).toInt ≤ 31) (hf_nv : Rg (-1) 7 f_nv) (hf_na : Rg (-1) 7999 f_na) (hf_nb : Rg (-1) 7999 f_nb) (hf_nc : Rg (-1) 7999 f_nc) (hf_bto : Rg (-1) 7999 f_bto) (hf_bin : Rg 0 31 f_bin) (q0 : 0 ≤ i0 ∧ i0 ≤ i1 ∧ i1 ≤ 31) (q1 : N ≤ 8000) (q2 : 0 ≤ (p1).toInt ∧ (p1).toInt < N) (q3 : i0 ≤ (p2).toInt ∧ (p2).toInt ≤ i1) (q4 : 0 ≤ (p3).toInt ∧ (p3).toInt < N) (q5 : i0 ≤ (p4).toInt ∧ (p4).toInt ≤ i1) (q6 : hz (p1).toInt.toNat + 6 * (256 - (P).length) + 1 ≤ fu) (hn_bi : BI i0 i1 N hz f_nv f_na f_nb f_nc f_bto f_bin) (hn_pa : PA i0 P f_nv f_na f_nb f_nc f_bto f_bin (p1).toInt.toNat (p2).toInt), Met l yX11_areAlike (Ws yX11_areAlike cX11_areAlike 10 (some .boolean)) (({ frames := fu + 2, cells := 0, slots := 0, locals := 29 * fu + 45 } : Room)) (PRE (dC, dI) cls [(cy_nv, .int), (cy_na, .int), (cy_nb, .int), (cy_nc, .int), (cy_bto, .int), (cy_bin, .int), (cy_nn, .long)] [(h_mm, .inr (8, (mo53 v_mm (.ref h_nv) (.ref h_nn) (.ref h_na) (.ref h_nb) (.ref h_nc) (.ref h_bto) (.ref h_bin) (.int x_mm_goneTo) (.int x_mm_goneIn)))), (h_nv, .inl (cy_nv, 8000, .inl f_nv)), (h_na, .inl (cy_na, 8000, .inl f_na)), (h_nb, .inl (cy_nb, 8000, .inl f_nb)), (h_nc, .inl (cy_nc, 8000, .inl f_nc)), (h_bto, .inl (cy_bto, 256, .inl f_bto)), (h_bin, .inl (cy_bin, 256, .inl f_bin)), (h_nn, .inl (cy_nn, 8000, .inr (.inl f_nn)))] sz [.ref h_mm, .int p1, .int p2, .int p3, .int p4]) (va_Qi (fun (r : Int32) (u : (Int32) × (Int32)) => (0 ≤ (u.1).toInt ∧ (u.1).toInt ≤ 7999) ∧ (0 ≤ (u.2).toInt ∧ (u.2).toInt ≤ 31) ∧ (0 ≤ r.toInt ∧ r.toInt ≤ 1)) (fun (u : (Int32) × (Int32)) (t : State) => va_P (dC, dI) cls [(h_mm, .inr (8, (mo53 v_mm (.ref h_nv) (.ref h_nn) (.ref h_na) (.ref h_nb) (.ref h_nc) (.ref h_bto) (.ref h_bin) (.int u.1) (.int u.2)))), (h_nv, .inl (cy_nv, 8000, .inl f_nv)), (h_na, .inl (cy_na, 8000, .inl f_na)), (h_nb, .inl (cy_nb, 8000, .inl f_nb)), (h_nc, .inl (cy_nc, 8000, .inl f_nc)), (h_bto, .inl (cy_bto, 256, .inl f_bto)), (h_bin, .inl (cy_bin, 256, .inl f_bin)), (h_nn, .inl (cy_nn, 8000, .inr (.inl f_nn)))] t.heap ∧ va_D (va_A [(h_mm, .inr (8, (mo53 v_mm (.ref h_nv) (.ref h_nn) (.ref h_na) (.ref h_nb) (.ref h_nc) (.ref h_bto) (.ref h_bin) (.int x_mm_goneTo) (.int x_mm_goneIn)))), (h_nv, .inl (cy_nv, 8000, .inl f_nv)), (h_na, .inl (cy_na, 8000, .inl f_na)), (h_nb, .inl (cy_nb, 8000, .inl f_nb)), (h_nc, .inl (cy_nc, 8000, .inl f_nc)), (h_bto, .inl (cy_bto, 256, .inl f_bto)), (h_bin, .inl (cy_bin, 256, .inl f_bin)), (h_nn, .inl (cy_nn, 8000, .inr (.inl f_nn)))] sz) [(h_mm, .inr (8, (mo53 v_mm (.ref h_nv) (.ref h_nn) (.ref h_na) (.ref h_nb) (.ref h_nc) (.ref h_bto) (.ref h_bin) (.int u.1) (.int u.2)))), (h_nv, .inl (cy_nv, 8000, .inl f_nv)), (h_na, .inl (cy_na, 8000, .inl f_na)), (h_nb, .inl (cy_nb, 8000, .inl f_nb)), (h_nc, .inl (cy_nc, 8000, .inl f_nc)), (h_bto, .inl (cy_bto, 256, .inl f_bto)), (h_bin, .inl (cy_bin, 256, .inl f_bin)), (h_nn, .inl (cy_nn, 8000, .inr (.inl f_nn)))]) (va_A [(h_mm, .inr (8, (mo53 v_mm (.ref h_nv) (.ref h_nn) (.ref h_na) (.ref h_nb) (.ref h_nc) (.ref h_bto) (.ref h_bin) (.int x_mm_goneTo) (.int x_mm_goneIn)))), (h_nv, .inl (cy_nv, 8000, .inl f_nv)), (h_na, .inl (cy_na, 8000, .inl f_na)), (h_nb, .inl (cy_nb, 8000, .inl f_nb)), (h_nc, .inl (cy_nc, 8000, .inl f_nc)), (h_bto, .inl (cy_bto, 256, .inl f_bto)), (h_bin, .inl (cy_bin, 256, .inl f_bin)), (h_nn, .inl (cy_nn, 8000, .inr (.inl f_nn)))] sz)) 0 0 (va_A [(h_mm, .inr (8, (mo53 v_mm (.ref h_nv) (.ref h_nn) (.ref h_na) (.ref h_nb) (.ref h_nc) (.ref h_bto) (.ref h_bin) (.int x_mm_goneTo) (.int x_mm_goneIn)))), (h_nv, .inl (cy_nv, 8000, .inl f_nv)), (h_na, .inl (cy_na, 8000, .inl f_na)), (h_nb, .inl (cy_nb, 8000, .inl f_nb)), (h_nc, .inl (cy_nc, 8000, .inl f_nc)), (h_bto, .inl (cy_bto, 256, .inl f_bto)), (h_bin, .inl (cy_bin, 256, .inl f_bin)), (h_nn, .inl (cy_nn, 8000, .inr (.inl f_nn)))] sz)
set_option maxHeartbeats 8000000 in
set_option maxRecDepth 100000 in
theorem c_X11_areAlike (l : Launch) (fu : Nat) : K_X11_areAlike l fu := by
  refine Nat.rec (motive := fun fu => K_X11_areAlike l fu) ?_ ?_ fu
  · intro dC dI sz h_mm h_nv h_na h_nb h_nc h_bto h_bin h_nn v_mm x_mm_goneTo x_mm_goneIn cy_nv f_nv cy_na f_na cy_nb f_nb cy_nc f_nc cy_bto f_bto cy_bin f_bin cy_nn f_nn p1 p2 p3 p4 i0 i1 N hz P hx_mm_goneTo hx_mm_goneIn hf_nv hf_na hf_nb hf_nc hf_bto hf_bin q0 q1 q2 q3 q4 q5 q6 hn_bi hn_pa
    have h09 : Nat.zero = 0 := rfl
    exact False.elim (by omega)
  intro fu ihf
  intro dC dI sz h_mm h_nv h_na h_nb h_nc h_bto h_bin h_nn v_mm x_mm_goneTo x_mm_goneIn cy_nv f_nv cy_na f_na cy_nb f_nb cy_nc f_nc cy_bto f_bto cy_bin f_bin cy_nn f_nn p1 p2 p3 p4 i0 i1 N hz P hx_mm_goneTo hx_mm_goneIn hf_nv hf_na hf_nb hf_nc hf_bto hf_bin q0 q1 q2 q3 q4 q5 q6 hn_bi hn_pa
  refine Met.ofW (cc := cX11_areAlike) (maxL := 10) (ret := (some .boolean)) (by decide) rfl ?_
  intro p e s m args below meth c s₁ B hml hv
  obtain ⟨rfl, hsz, hP, hK, hD0, hN⟩ := hv
  have hx := B.exec
  have hb := B.bytes
  have hr := B.returns
  have hts := atoms_spec (ws := Ws yX11_areAlike cX11_areAlike 10 (some .boolean)) B.pre
  have hT : ∀ w ∈ WALL, w ∈ Ws yX11_areAlike cX11_areAlike 10 (some .boolean) := fun w h => List.mem_cons_of_mem _ h
  have hw := fun w (h : w ∈ WALL) => hts w (hT w h)
  have hown : s.vm.findClass RX11 = some m.cls := findClass_of_methodNamed B.named
  have hlocks := B.notSynchronized
  subst hsz
  have hD := hD0.self (sz := s.heap.size)
  generalize hAe : va_A [(h_mm, .inr (8, (mo53 v_mm (.ref h_nv) (.ref h_nn) (.ref h_na) (.ref h_nb) (.ref h_nc) (.ref h_bto) (.ref h_bin) (.int x_mm_goneTo) (.int x_mm_goneIn)))), (h_nv, .inl (cy_nv, 8000, .inl f_nv)), (h_na, .inl (cy_na, 8000, .inl f_na)), (h_nb, .inl (cy_nb, 8000, .inl f_nb)), (h_nc, .inl (cy_nc, 8000, .inl f_nc)), (h_bto, .inl (cy_bto, 256, .inl f_bto)), (h_bin, .inl (cy_bin, 256, .inl f_bin)), (h_nn, .inl (cy_nn, 8000, .inr (.inl f_nn)))] s.heap.size = A at hD ⊢
  have hA : ∀ q : Nat, s.heap.size ≤ q → A q := fun q h => by rw [← hAe]; exact Or.inr h
  have hS : va_S A s.heap s.heap [] := va_S.rf
  have hl := lv_entry ([.ref h_mm, .int p1, .int p2, .int p3, .int p4]) (n := 10) (Nat.le_of_ble_eq_true rfl)
  rw [lg_entry_eq]
  generalize (lg_sl ([.ref h_mm, .int p1, .int p2, .int p3, .int p4]) ++ List.replicate (10 - (lg_sl ([.ref h_mm, .int p1, .int p2, .int p3, .int p4])).length) Slot.unset).toArray = ls at hl ⊢
  have hl : lv_has ls 10 [(0, .ref h_mm), (1, .int p1), (2, .int p2), (3, .int p3), (4, .int p4)] := hl
  refine lv_aload_n hx hb dX11_areAlike_0 rfl (lv_at hl 0 rfl) ?_
  refine lv_iload_n hx hb dX11_areAlike_1 rfl (lv_at hl 1 rfl) ?_
  refine lv_iload_n hx hb dX11_areAlike_2 rfl (lv_at hl 2 rfl) ?_
  have hPc := hP.sub (ws' := [(h_mm, .inr (8, (mo53 v_mm (.ref h_nv) (.ref h_nn) (.ref h_na) (.ref h_nb) (.ref h_nc) (.ref h_bto) (.ref h_bin) (.int x_mm_goneTo) (.int x_mm_goneIn)))), (h_nv, .inl (cy_nv, 8000, .inl f_nv)), (h_na, .inl (cy_na, 8000, .inl f_na)), (h_nb, .inl (cy_nb, 8000, .inl f_nb)), (h_nc, .inl (cy_nc, 8000, .inl f_nc)), (h_bto, .inl (cy_bto, 256, .inl f_bto)), (h_bin, .inl (cy_bin, 256, .inl f_bin))]) [0, 1, 2, 3, 4, 5, 6] rfl
  have hDc := hD.sub (ws' := [(h_mm, .inr (8, (mo53 v_mm (.ref h_nv) (.ref h_nn) (.ref h_na) (.ref h_nb) (.ref h_nc) (.ref h_bto) (.ref h_bin) (.int x_mm_goneTo) (.int x_mm_goneIn)))), (h_nv, .inl (cy_nv, 8000, .inl f_nv)), (h_na, .inl (cy_na, 8000, .inl f_na)), (h_nb, .inl (cy_nb, 8000, .inl f_nb)), (h_nc, .inl (cy_nc, 8000, .inl f_nc)), (h_bto, .inl (cy_bto, 256, .inl f_bto)), (h_bin, .inl (cy_bin, 256, .inl f_bin))]) [0, 1, 2, 3, 4, 5, 6] (by decide) rfl
  have hKc := hK.sub (tys' := [(cy_nv, .int), (cy_na, .int), (cy_nb, .int), (cy_nc, .int), (cy_bto, .int), (cy_bin, .int)]) [0, 1, 2, 3, 4, 5] rfl
  have hFc := va_free (wc := [(h_mm, .inr (8, (mo53 v_mm (.ref h_nv) (.ref h_nn) (.ref h_na) (.ref h_nb) (.ref h_nc) (.ref h_bto) (.ref h_bin) (.int x_mm_goneTo) (.int x_mm_goneIn)))), (h_nv, .inl (cy_nv, 8000, .inl f_nv)), (h_na, .inl (cy_na, 8000, .inl f_na)), (h_nb, .inl (cy_nb, 8000, .inl f_nb)), (h_nc, .inl (cy_nc, 8000, .inl f_nc)), (h_bto, .inl (cy_bto, 256, .inl f_bto)), (h_bin, .inl (cy_bin, 256, .inl f_bin))]) hD hS hA [0, 1, 2, 3, 4, 5, 6] rfl
  refine va_callv (va_runV (As := [.int p1, .int p2]) (rest := []) ⟨hx, hb, hml, hown, hts⟩ (c_X11_goesTo l dC dI s.heap.size h_mm h_nv h_na h_nb h_nc h_bto h_bin (fun k => List.getD (mo53 v_mm (.ref h_nv) (.ref h_nn) (.ref h_na) (.ref h_nb) (.ref h_nc) (.ref h_bto) (.ref h_bin) (.int x_mm_goneTo) (.int x_mm_goneIn)) k .null) x_mm_goneTo x_mm_goneIn cy_nv f_nv cy_na f_na cy_nb f_nb cy_nc f_nc cy_bto f_bto cy_bin f_bin p1 p2 i0 i1 N hz P (fu + 1) (by omega) (by omega) hf_nv hf_na hf_nb hf_nc hf_bto hf_bin (by omega) (by omega) (by omega) (by omega) (by omega) hn_bi hn_pa) (cwV 2 hts (gv hT w_m_X11_273 w_instanceMethod_X11_goesTo ws_sel_X11_goesTo w_ini_X11 w_code_X11_goesTo) rfl rfl rfl (by decide +kernel) ⟨(by dsimp only [headSpec]; omega), (by dsimp only [headSpec]; omega)⟩) ⟨pre_blind, va_recv hK hP (ci := 8) (q0 := 0) rfl rfl, pre_of hPc hKc hDc hN⟩ rfl rfl hl.1 rfl (lv_room (Nat.le_of_ble_eq_true rfl)) dX11_areAlike_3 ⟨(Nat.le_of_ble_eq_true rfl), (Nat.le_of_ble_eq_true rfl)⟩) hS (fun q _ h => hFc q h) hFc (fun u t H locs ht hvm hq hB hz1 hk1 hS => ?_)
  obtain ⟨z2, z3, z4⟩ := u
  obtain ⟨hP1, hD1⟩ := hB
  rw [ht] at hP1
  obtain ⟨hP, hD⟩ := va_join (wr := [(h_nn, .inl (cy_nn, 8000, .inr (.inl f_nn)))]) (w1 := [(h_mm, .inr (8, (mo53 v_mm (.ref h_nv) (.ref h_nn) (.ref h_na) (.ref h_nb) (.ref h_nc) (.ref h_bto) (.ref h_bin) (.int z2) (.int z3)))), (h_nv, .inl (cy_nv, 8000, .inl f_nv)), (h_na, .inl (cy_na, 8000, .inl f_na)), (h_nb, .inl (cy_nb, 8000, .inl f_nb)), (h_nc, .inl (cy_nc, 8000, .inl f_nc)), (h_bto, .inl (cy_bto, 256, .inl f_bto)), (h_bin, .inl (cy_bin, 256, .inl f_bin))]) hP hD [0, 1, 2, 3, 4, 5, 6] [7] rfl rfl (by decide) (by decide) hk1 hFc hP1 hD1
  have hP : va_P (dC, dI) cls [(h_nn, .inl (cy_nn, 8000, .inr (.inl f_nn))), (h_mm, .inr (8, (mo53 v_mm (.ref h_nv) (.ref h_nn) (.ref h_na) (.ref h_nb) (.ref h_nc) (.ref h_bto) (.ref h_bin) (.int z2) (.int z3)))), (h_nv, .inl (cy_nv, 8000, .inl f_nv)), (h_na, .inl (cy_na, 8000, .inl f_na)), (h_nb, .inl (cy_nb, 8000, .inl f_nb)), (h_nc, .inl (cy_nc, 8000, .inl f_nc)), (h_bto, .inl (cy_bto, 256, .inl f_bto)), (h_bin, .inl (cy_bin, 256, .inl f_bin))] H := hP
  have hD : va_D A [(h_nn, .inl (cy_nn, 8000, .inr (.inl f_nn))), (h_mm, .inr (8, (mo53 v_mm (.ref h_nv) (.ref h_nn) (.ref h_na) (.ref h_nb) (.ref h_nc) (.ref h_bto) (.ref h_bin) (.int z2) (.int z3)))), (h_nv, .inl (cy_nv, 8000, .inl f_nv)), (h_na, .inl (cy_na, 8000, .inl f_na)), (h_nb, .inl (cy_nb, 8000, .inl f_nb)), (h_nc, .inl (cy_nc, 8000, .inl f_nc)), (h_bto, .inl (cy_bto, 256, .inl f_bto)), (h_bin, .inl (cy_bin, 256, .inl f_bin))] := hD
  obtain ⟨k5, k6, k7, k8, k9, k10, k11, k12⟩ := hq
  have k5 : 0 ≤ ((z2)).toInt ∧ ((z2)).toInt ≤ 7999 := k5
  have k6 : 0 ≤ ((z3)).toInt ∧ ((z3)).toInt ≤ 31 := k6
  have k7 : 0 ≤ ((z2)).toInt ∧ ((z2)).toInt < (N) := k7
  have k8 : (i0) ≤ ((z3)).toInt ∧ ((z3)).toInt ≤ (i1) := k8
  have k9 : (hz) ((z2)).toInt.toNat + 6 * (256 - ((z4)).length) + 1 ≤ ((fu + 1)) := k9
  have k10 : PA (i0) (z4) f_nv f_na f_nb f_nc f_bto f_bin ((z2)).toInt.toNat ((z3)).toInt := k10
  have k11 : (f_nv ((z2)).toInt.toNat).toInt = -1 ∨ (f_bto (8 * ((z3)).toInt + (f_nv ((z2)).toInt.toNat).toInt).toNat).toInt = -1 := k11
  have k12 : ∀ tt : Nat, (f_bto tt).toInt = -1 → NR f_nv f_na f_nb f_nc f_bto f_bin ((z2)).toInt.toNat ((z3)).toInt tt → NR f_nv f_na f_nb f_nc f_bto f_bin ((p1)).toInt.toNat ((p2)).toInt tt := k12
  refine lv_aload_n hx hb dX11_areAlike_6 rfl (lv_at hl 0 rfl) ?_
  refine va_get (D := (dC, dI)) (ci := 8) (v := .int z2) (C := RX11) (T := TX11) (N := 71) hx hb hw iwX11 hown hK hP 1 rfl rfl 31 (by decide) (hw _ w_f_X11_264) (fun _ h9 => h9) rfl dX11_areAlike_7 ?_
  refine lv_istore (lv' := [(5, .int z2), (0, .ref h_mm), (1, .int p1), (2, .int p2), (3, .int p3), (4, .int p4)]) hx hb dX11_areAlike_10 hl (by decide) rfl (fun ls hl => ?_)
  refine lv_aload_n hx hb dX11_areAlike_12 rfl (lv_at hl 1 rfl) ?_
  refine va_get (D := (dC, dI)) (ci := 8) (v := .int z3) (C := RX11) (T := TX11) (N := 71) hx hb hw iwX11 hown hK hP 1 rfl rfl 32 (by decide) (hw _ w_f_X11_267) (fun _ h9 => h9) rfl dX11_areAlike_13 ?_
  refine lv_istore (lv' := [(6, .int z3), (5, .int z2), (0, .ref h_mm), (1, .int p1), (2, .int p2), (3, .int p3), (4, .int p4)]) hx hb dX11_areAlike_16 hl (by decide) rfl (fun ls hl => ?_)
  have l09 : ([] : List Nat).length = 0 := rfl
  have hh9 := (hn_bi.1 (p3).toInt.toNat (by omega) (by omega)).2.2.2
  refine lv_aload_n hx hb dX11_areAlike_18 rfl (lv_at hl 2 rfl) ?_
  refine lv_iload_n hx hb dX11_areAlike_19 rfl (lv_at hl 5 rfl) ?_
  refine lv_iload hx hb dX11_areAlike_20 (lv_at hl 6 rfl) ?_
  have hPc := hP.sub (ws' := [(h_mm, .inr (8, (mo53 v_mm (.ref h_nv) (.ref h_nn) (.ref h_na) (.ref h_nb) (.ref h_nc) (.ref h_bto) (.ref h_bin) (.int z2) (.int z3)))), (h_nv, .inl (cy_nv, 8000, .inl f_nv)), (h_na, .inl (cy_na, 8000, .inl f_na)), (h_nb, .inl (cy_nb, 8000, .inl f_nb)), (h_nc, .inl (cy_nc, 8000, .inl f_nc)), (h_bto, .inl (cy_bto, 256, .inl f_bto)), (h_bin, .inl (cy_bin, 256, .inl f_bin))]) [1, 2, 3, 4, 5, 6, 7] rfl
  have hDc := hD.sub (ws' := [(h_mm, .inr (8, (mo53 v_mm (.ref h_nv) (.ref h_nn) (.ref h_na) (.ref h_nb) (.ref h_nc) (.ref h_bto) (.ref h_bin) (.int z2) (.int z3)))), (h_nv, .inl (cy_nv, 8000, .inl f_nv)), (h_na, .inl (cy_na, 8000, .inl f_na)), (h_nb, .inl (cy_nb, 8000, .inl f_nb)), (h_nc, .inl (cy_nc, 8000, .inl f_nc)), (h_bto, .inl (cy_bto, 256, .inl f_bto)), (h_bin, .inl (cy_bin, 256, .inl f_bin))]) [1, 2, 3, 4, 5, 6, 7] (by decide) rfl
  have hKc := hK.sub (tys' := [(cy_nv, .int), (cy_na, .int), (cy_nb, .int), (cy_nc, .int), (cy_bto, .int), (cy_bin, .int)]) [0, 1, 2, 3, 4, 5] rfl
  have hFc := va_free (wc := [(h_mm, .inr (8, (mo53 v_mm (.ref h_nv) (.ref h_nn) (.ref h_na) (.ref h_nb) (.ref h_nc) (.ref h_bto) (.ref h_bin) (.int z2) (.int z3)))), (h_nv, .inl (cy_nv, 8000, .inl f_nv)), (h_na, .inl (cy_na, 8000, .inl f_na)), (h_nb, .inl (cy_nb, 8000, .inl f_nb)), (h_nc, .inl (cy_nc, 8000, .inl f_nc)), (h_bto, .inl (cy_bto, 256, .inl f_bto)), (h_bin, .inl (cy_bin, 256, .inl f_bin))]) hD hS hA [1, 2, 3, 4, 5, 6, 7] rfl
  refine va_callv (va_runV (As := [.int p3, .int p4]) (rest := []) ⟨hx, hb, hml, hown, hts⟩ (c_X11_goesTo l dC dI H.size h_mm h_nv h_na h_nb h_nc h_bto h_bin (fun k => List.getD (mo53 v_mm (.ref h_nv) (.ref h_nn) (.ref h_na) (.ref h_nb) (.ref h_nc) (.ref h_bto) (.ref h_bin) (.int z2) (.int z3)) k .null) z2 z3 cy_nv f_nv cy_na f_na cy_nb f_nb cy_nc f_nc cy_bto f_bto cy_bin f_bin p3 p4 i0 i1 N hz ([]) 1544 (by omega) (by omega) hf_nv hf_na hf_nb hf_nc hf_bto hf_bin (by omega) (by omega) (by omega) (by omega) (by omega) hn_bi pa_nil) (cwV 2 hts (gv hT w_m_X11_273 w_instanceMethod_X11_goesTo ws_sel_X11_goesTo w_ini_X11 w_code_X11_goesTo) rfl rfl rfl (by decide +kernel) ⟨(by dsimp only [headSpec]; omega), (by dsimp only [headSpec]; omega)⟩) ⟨pre_blind, va_recv hK hP (ci := 8) (q0 := 1) rfl rfl, pre_of hPc hKc hDc hN⟩ rfl rfl hl.1 rfl (lv_room (Nat.le_of_ble_eq_true rfl)) dX11_areAlike_22 ⟨(Nat.le_of_ble_eq_true rfl), (Nat.le_of_ble_eq_true rfl)⟩) hS (fun q _ h => hFc q h) hFc (fun u t H locs ht hvm hq hB hz1 hk1 hS => ?_)
  obtain ⟨z14, z15, z16⟩ := u
  obtain ⟨hP1, hD1⟩ := hB
  rw [ht] at hP1
  obtain ⟨hP, hD⟩ := va_join (wr := [(h_nn, .inl (cy_nn, 8000, .inr (.inl f_nn)))]) (w1 := [(h_mm, .inr (8, (mo53 v_mm (.ref h_nv) (.ref h_nn) (.ref h_na) (.ref h_nb) (.ref h_nc) (.ref h_bto) (.ref h_bin) (.int z14) (.int z15)))), (h_nv, .inl (cy_nv, 8000, .inl f_nv)), (h_na, .inl (cy_na, 8000, .inl f_na)), (h_nb, .inl (cy_nb, 8000, .inl f_nb)), (h_nc, .inl (cy_nc, 8000, .inl f_nc)), (h_bto, .inl (cy_bto, 256, .inl f_bto)), (h_bin, .inl (cy_bin, 256, .inl f_bin))]) hP hD [1, 2, 3, 4, 5, 6, 7] [0] rfl rfl (by decide) (by decide) hk1 hFc hP1 hD1
  have hP : va_P (dC, dI) cls [(h_nn, .inl (cy_nn, 8000, .inr (.inl f_nn))), (h_mm, .inr (8, (mo53 v_mm (.ref h_nv) (.ref h_nn) (.ref h_na) (.ref h_nb) (.ref h_nc) (.ref h_bto) (.ref h_bin) (.int z14) (.int z15)))), (h_nv, .inl (cy_nv, 8000, .inl f_nv)), (h_na, .inl (cy_na, 8000, .inl f_na)), (h_nb, .inl (cy_nb, 8000, .inl f_nb)), (h_nc, .inl (cy_nc, 8000, .inl f_nc)), (h_bto, .inl (cy_bto, 256, .inl f_bto)), (h_bin, .inl (cy_bin, 256, .inl f_bin))] H := hP
  have hD : va_D A [(h_nn, .inl (cy_nn, 8000, .inr (.inl f_nn))), (h_mm, .inr (8, (mo53 v_mm (.ref h_nv) (.ref h_nn) (.ref h_na) (.ref h_nb) (.ref h_nc) (.ref h_bto) (.ref h_bin) (.int z14) (.int z15)))), (h_nv, .inl (cy_nv, 8000, .inl f_nv)), (h_na, .inl (cy_na, 8000, .inl f_na)), (h_nb, .inl (cy_nb, 8000, .inl f_nb)), (h_nc, .inl (cy_nc, 8000, .inl f_nc)), (h_bto, .inl (cy_bto, 256, .inl f_bto)), (h_bin, .inl (cy_bin, 256, .inl f_bin))] := hD
  obtain ⟨k17, k18, k19, k20, k21, k22, k23, k24⟩ := hq
  have k17 : 0 ≤ ((z14)).toInt ∧ ((z14)).toInt ≤ 7999 := k17
  have k18 : 0 ≤ ((z15)).toInt ∧ ((z15)).toInt ≤ 31 := k18
  have k19 : 0 ≤ ((z14)).toInt ∧ ((z14)).toInt < (N) := k19
  have k20 : (i0) ≤ ((z15)).toInt ∧ ((z15)).toInt ≤ (i1) := k20
  have k21 : (hz) ((z14)).toInt.toNat + 6 * (256 - ((z16)).length) + 1 ≤ (1544 : Nat) := k21
  have k22 : PA (i0) (z16) f_nv f_na f_nb f_nc f_bto f_bin ((z14)).toInt.toNat ((z15)).toInt := k22
  have k23 : (f_nv ((z14)).toInt.toNat).toInt = -1 ∨ (f_bto (8 * ((z15)).toInt + (f_nv ((z14)).toInt.toNat).toInt).toNat).toInt = -1 := k23
  have k24 : ∀ tt : Nat, (f_bto tt).toInt = -1 → NR f_nv f_na f_nb f_nc f_bto f_bin ((z14)).toInt.toNat ((z15)).toInt tt → NR f_nv f_na f_nb f_nc f_bto f_bin ((p3)).toInt.toNat ((p4)).toInt tt := k24
  refine lv_aload_n hx hb dX11_areAlike_25 rfl (lv_at hl 2 rfl) ?_
  refine va_get (D := (dC, dI)) (ci := 8) (v := .int z14) (C := RX11) (T := TX11) (N := 71) hx hb hw iwX11 hown hK hP 1 rfl rfl 31 (by decide) (hw _ w_f_X11_264) (fun _ h9 => h9) rfl dX11_areAlike_26 ?_
  refine lv_istore (lv' := [(7, .int z14), (6, .int z3), (5, .int z2), (0, .ref h_mm), (1, .int p1), (2, .int p2), (3, .int p3), (4, .int p4)]) hx hb dX11_areAlike_29 hl (by decide) rfl (fun ls hl => ?_)
  refine lv_aload_n hx hb dX11_areAlike_31 rfl (lv_at hl 3 rfl) ?_
  refine va_get (D := (dC, dI)) (ci := 8) (v := .int z15) (C := RX11) (T := TX11) (N := 71) hx hb hw iwX11 hown hK hP 1 rfl rfl 32 (by decide) (hw _ w_f_X11_267) (fun _ h9 => h9) rfl dX11_areAlike_32 ?_
  refine lv_istore (lv' := [(8, .int z15), (7, .int z14), (6, .int z3), (5, .int z2), (0, .ref h_mm), (1, .int p1), (2, .int p2), (3, .int p3), (4, .int p4)]) hx hb dX11_areAlike_35 hl (by decide) rfl (fun ls hl => ?_)
  refine lv_aload_n hx hb dX11_areAlike_37 rfl (lv_at hl 4 rfl) ?_
  refine va_get (D := (dC, dI)) (ci := 8) (v := .ref h_nv) (C := RX11) (T := TX11) (N := 71) hx hb hw iwX11 hown hK hP 1 rfl rfl 1 (by decide) (hw _ w_f_X11_17) (fun _ h9 => h9) rfl dX11_areAlike_38 ?_
  refine lv_iload hx hb dX11_areAlike_41 (lv_at hl 3 rfl) ?_
  refine va_iald hx hb hK hP 2 0 rfl rfl (i := z2) (vp_in_iff.mpr (by omega)) dX11_areAlike_43 ?_
  refine lv_topi (fun z25 ez25 => ?_)
  have rz25 : -1 ≤ (z25).toInt ∧ (z25).toInt ≤ 7 := by rw [ez25]; exact hf_nv _
  refine lv_iconst (v := (-1)) hx hb dX11_areAlike_44 (by decide) ?_
  refine lv_icmp_ne (tgt := 59) hx hb dX11_areAlike_45 (by decide) (fun c26 => ?_) (fun c26 => ?_)
  · have kc26 := (not_congr (cv_eq (rfl : (z25).toInt = (z25).toInt) (by decide : ((-1) : Int32).toInt = -1))).mp c26
    refine lv_aload_n hx hb dX11_areAlike_59 rfl (lv_at hl 4 rfl) ?_
    refine va_get (D := (dC, dI)) (ci := 8) (v := .ref h_nv) (C := RX11) (T := TX11) (N := 71) hx hb hw iwX11 hown hK hP 1 rfl rfl 1 (by decide) (hw _ w_f_X11_17) (fun _ h9 => h9) rfl dX11_areAlike_60 ?_
    refine lv_iload hx hb dX11_areAlike_63 (lv_at hl 3 rfl) ?_
    refine va_iald hx hb hK hP 2 0 rfl rfl (i := z2) (vp_in_iff.mpr (by omega)) dX11_areAlike_65 ?_
    refine lv_topi (fun z27 ez27 => ?_)
    have qz27 : (z27).toInt = (z25).toInt := by rw [ez27, ez25]
    have rz27 : -1 ≤ (z27).toInt ∧ (z27).toInt ≤ 7 := by rw [ez27]; exact hf_nv _
    refine lv_iconst (v := (-1)) hx hb dX11_areAlike_66 (by decide) ?_
    refine lv_icmp_eq (tgt := 104) hx hb dX11_areAlike_67 (by decide) (fun c28 => False.elim (by have kc28 := (cv_eq (rfl : (z27).toInt = (z27).toInt) (by decide : ((-1) : Int32).toInt = -1)).mp c28; omega)) (fun _ => ?_)
    refine lv_aload_n hx hb dX11_areAlike_70 rfl (lv_at hl 4 rfl) ?_
    refine va_get (D := (dC, dI)) (ci := 8) (v := .ref h_nv) (C := RX11) (T := TX11) (N := 71) hx hb hw iwX11 hown hK hP 1 rfl rfl 1 (by decide) (hw _ w_f_X11_17) (fun _ h9 => h9) rfl dX11_areAlike_71 ?_
    refine lv_iload hx hb dX11_areAlike_74 (lv_at hl 1 rfl) ?_
    refine va_iald hx hb hK hP 2 0 rfl rfl (i := z14) (vp_in_iff.mpr (by omega)) dX11_areAlike_76 ?_
    refine lv_topi (fun z29 ez29 => ?_)
    have rz29 : -1 ≤ (z29).toInt ∧ (z29).toInt ≤ 7 := by rw [ez29]; exact hf_nv _
    refine lv_iconst (v := (-1)) hx hb dX11_areAlike_77 (by decide) ?_
    refine lv_icmp_eq (tgt := 104) hx hb dX11_areAlike_78 (by decide) (fun c30 => ?_) (fun c30 => ?_)
    · have kc30 := (cv_eq (rfl : (z29).toInt = (z29).toInt) (by decide : ((-1) : Int32).toInt = -1)).mp c30
      refine lv_iconst (v := 0) hx hb dX11_areAlike_104 (by decide) ?_
      have hP : va_P (dC, dI) cls [(h_mm, .inr (8, (mo53 v_mm (.ref h_nv) (.ref h_nn) (.ref h_na) (.ref h_nb) (.ref h_nc) (.ref h_bto) (.ref h_bin) (.int z14) (.int z15)))), (h_nv, .inl (cy_nv, 8000, .inl f_nv)), (h_na, .inl (cy_na, 8000, .inl f_na)), (h_nb, .inl (cy_nb, 8000, .inl f_nb)), (h_nc, .inl (cy_nc, 8000, .inl f_nc)), (h_bto, .inl (cy_bto, 256, .inl f_bto)), (h_bin, .inl (cy_bin, 256, .inl f_bin)), (h_nn, .inl (cy_nn, 8000, .inr (.inl f_nn)))] H := hP.sub [1, 2, 3, 4, 5, 6, 7, 0] rfl
      have hD : va_D A [(h_mm, .inr (8, (mo53 v_mm (.ref h_nv) (.ref h_nn) (.ref h_na) (.ref h_nb) (.ref h_nc) (.ref h_bto) (.ref h_bin) (.int z14) (.int z15)))), (h_nv, .inl (cy_nv, 8000, .inl f_nv)), (h_na, .inl (cy_na, 8000, .inl f_na)), (h_nb, .inl (cy_nb, 8000, .inl f_nb)), (h_nc, .inl (cy_nc, 8000, .inl f_nc)), (h_bto, .inl (cy_bto, 256, .inl f_bto)), (h_bin, .inl (cy_bin, 256, .inl f_bin)), (h_nn, .inl (cy_nn, 8000, .inr (.inl f_nn)))] := hD.sub [1, 2, 3, 4, 5, 6, 7, 0] (by decide) rfl
      refine W.widen (k := 0) (n := 0) (Nat.le_of_ble_eq_true rfl) (Nat.le_of_ble_eq_true rfl) ?_
      have cst0 : (0 : Int32).toInt = 0 := by decide
      have w31 : 0 ≤ ((z14)).toInt ∧ ((z14)).toInt ≤ 7999 := by omega
      have w32 : 0 ≤ ((z15)).toInt ∧ ((z15)).toInt ≤ 31 := by omega
      have w33 : 0 ≤ (0 : Int32).toInt ∧ (0 : Int32).toInt ≤ 1 := by omega
      exact W.zret (v := 0) (ty := .boolean) hx hb hr (by decide) (fun t ht hW => ⟨⟨0, (z14, z15), rfl, ⟨w31, w32, w33⟩, by rw [ht]; exact hP, hD⟩, hS.F ht⟩) hS.2.2 dX11_areAlike_105
    · have kc30 := (not_congr (cv_eq (rfl : (z29).toInt = (z29).toInt) (by decide : ((-1) : Int32).toInt = -1))).mp c30
      refine lv_aload_n hx hb dX11_areAlike_81 rfl (lv_at hl 4 rfl) ?_
      refine lv_iload hx hb dX11_areAlike_82 (lv_at hl 3 rfl) ?_
      refine lv_iload hx hb dX11_areAlike_84 (lv_at hl 2 rfl) ?_
      have hPc := hP.sub (ws' := [(h_mm, .inr (8, (mo53 v_mm (.ref h_nv) (.ref h_nn) (.ref h_na) (.ref h_nb) (.ref h_nc) (.ref h_bto) (.ref h_bin) (.int z14) (.int z15)))), (h_nv, .inl (cy_nv, 8000, .inl f_nv))]) [1, 2] rfl
      have hDc := hD.sub (ws' := [(h_mm, .inr (8, (mo53 v_mm (.ref h_nv) (.ref h_nn) (.ref h_na) (.ref h_nb) (.ref h_nc) (.ref h_bto) (.ref h_bin) (.int z14) (.int z15)))), (h_nv, .inl (cy_nv, 8000, .inl f_nv))]) [1, 2] (by decide) rfl
      have hKc := hK.sub (tys' := [(cy_nv, .int)]) [0] rfl
      have hFc := va_free (wc := [(h_mm, .inr (8, (mo53 v_mm (.ref h_nv) (.ref h_nn) (.ref h_na) (.ref h_nb) (.ref h_nc) (.ref h_bto) (.ref h_bin) (.int z14) (.int z15)))), (h_nv, .inl (cy_nv, 8000, .inl f_nv))]) hD hS hA [1, 2] rfl
      refine va_calli (va_runV (As := [.int z2, .int z3]) (rest := []) ⟨hx, hb, hml, hown, hts⟩ (c_X11_slotOf l dC dI H.size h_mm h_nv (fun k => List.getD (mo53 v_mm (.ref h_nv) (.ref h_nn) (.ref h_na) (.ref h_nb) (.ref h_nc) (.ref h_bto) (.ref h_bin) (.int z14) (.int z15)) k .null) cy_nv f_nv z2 z3 hf_nv (by omega) (by omega)) (cwV 2 hts (gv hT w_m_X11_270 w_instanceMethod_X11_slotOf ws_sel_X11_slotOf w_ini_X11 w_code_X11_slotOf) rfl rfl rfl (by decide +kernel) ⟨(by dsimp only [headSpec]; omega), (by dsimp only [headSpec]; omega)⟩) ⟨pre_blind, va_recv hK hP (ci := 8) (q0 := 1) rfl rfl, pre_of hPc hKc hDc hN⟩ rfl rfl hl.1 rfl (lv_room (Nat.le_of_ble_eq_true rfl)) dX11_areAlike_86 ⟨(Nat.le_of_ble_eq_true rfl), (Nat.le_of_ble_eq_true rfl)⟩) hS (fun q _ h => hFc q h) hFc (fun r34 u t H locs ht hvm hq hB hz1 hk1 hS => ?_)
      obtain ⟨hP1, hD1⟩ := hB
      rw [ht] at hP1
      obtain ⟨hP, hD⟩ := va_join (wr := [(h_nn, .inl (cy_nn, 8000, .inr (.inl f_nn))), (h_na, .inl (cy_na, 8000, .inl f_na)), (h_nb, .inl (cy_nb, 8000, .inl f_nb)), (h_nc, .inl (cy_nc, 8000, .inl f_nc)), (h_bto, .inl (cy_bto, 256, .inl f_bto)), (h_bin, .inl (cy_bin, 256, .inl f_bin))]) (w1 := [(h_mm, .inr (8, (mo53 v_mm (.ref h_nv) (.ref h_nn) (.ref h_na) (.ref h_nb) (.ref h_nc) (.ref h_bto) (.ref h_bin) (.int z14) (.int z15)))), (h_nv, .inl (cy_nv, 8000, .inl f_nv))]) hP hD [1, 2] [0, 3, 4, 5, 6, 7] rfl rfl (by decide) (by decide) hk1 hFc hP1 hD1
      have hP : va_P (dC, dI) cls [(h_nn, .inl (cy_nn, 8000, .inr (.inl f_nn))), (h_na, .inl (cy_na, 8000, .inl f_na)), (h_nb, .inl (cy_nb, 8000, .inl f_nb)), (h_nc, .inl (cy_nc, 8000, .inl f_nc)), (h_bto, .inl (cy_bto, 256, .inl f_bto)), (h_bin, .inl (cy_bin, 256, .inl f_bin)), (h_mm, .inr (8, (mo53 v_mm (.ref h_nv) (.ref h_nn) (.ref h_na) (.ref h_nb) (.ref h_nc) (.ref h_bto) (.ref h_bin) (.int z14) (.int z15)))), (h_nv, .inl (cy_nv, 8000, .inl f_nv))] H := hP
      have hD : va_D A [(h_nn, .inl (cy_nn, 8000, .inr (.inl f_nn))), (h_na, .inl (cy_na, 8000, .inl f_na)), (h_nb, .inl (cy_nb, 8000, .inl f_nb)), (h_nc, .inl (cy_nc, 8000, .inl f_nc)), (h_bto, .inl (cy_bto, 256, .inl f_bto)), (h_bin, .inl (cy_bin, 256, .inl f_bin)), (h_mm, .inr (8, (mo53 v_mm (.ref h_nv) (.ref h_nn) (.ref h_na) (.ref h_nb) (.ref h_nc) (.ref h_bto) (.ref h_bin) (.int z14) (.int z15)))), (h_nv, .inl (cy_nv, 8000, .inl f_nv))] := hD
      obtain ⟨k35, k36⟩ := hq
      have k35 : -1 ≤ (r34).toInt ∧ (r34).toInt ≤ 255 := k35
      have k36 : ((r34)).toInt = 8 * ((z3)).toInt + (f_nv ((z2)).toInt.toNat).toInt := k36
      refine lv_aload_n hx hb dX11_areAlike_89 rfl (lv_at hl 4 rfl) ?_
      refine lv_iload hx hb dX11_areAlike_90 (lv_at hl 1 rfl) ?_
      refine lv_iload hx hb dX11_areAlike_92 (lv_at hl 0 rfl) ?_
      have hPc := hP.sub (ws' := [(h_mm, .inr (8, (mo53 v_mm (.ref h_nv) (.ref h_nn) (.ref h_na) (.ref h_nb) (.ref h_nc) (.ref h_bto) (.ref h_bin) (.int z14) (.int z15)))), (h_nv, .inl (cy_nv, 8000, .inl f_nv))]) [6, 7] rfl
      have hDc := hD.sub (ws' := [(h_mm, .inr (8, (mo53 v_mm (.ref h_nv) (.ref h_nn) (.ref h_na) (.ref h_nb) (.ref h_nc) (.ref h_bto) (.ref h_bin) (.int z14) (.int z15)))), (h_nv, .inl (cy_nv, 8000, .inl f_nv))]) [6, 7] (by decide) rfl
      have hKc := hK.sub (tys' := [(cy_nv, .int)]) [0] rfl
      have hFc := va_free (wc := [(h_mm, .inr (8, (mo53 v_mm (.ref h_nv) (.ref h_nn) (.ref h_na) (.ref h_nb) (.ref h_nc) (.ref h_bto) (.ref h_bin) (.int z14) (.int z15)))), (h_nv, .inl (cy_nv, 8000, .inl f_nv))]) hD hS hA [6, 7] rfl
      refine va_calli (va_runV (As := [.int z14, .int z15]) (rest := [.int r34]) ⟨hx, hb, hml, hown, hts⟩ (c_X11_slotOf l dC dI H.size h_mm h_nv (fun k => List.getD (mo53 v_mm (.ref h_nv) (.ref h_nn) (.ref h_na) (.ref h_nb) (.ref h_nc) (.ref h_bto) (.ref h_bin) (.int z14) (.int z15)) k .null) cy_nv f_nv z14 z15 hf_nv (by omega) (by omega)) (cwV 2 hts (gv hT w_m_X11_270 w_instanceMethod_X11_slotOf ws_sel_X11_slotOf w_ini_X11 w_code_X11_slotOf) rfl rfl rfl (by decide +kernel) ⟨(by dsimp only [headSpec]; omega), (by dsimp only [headSpec]; omega)⟩) ⟨pre_blind, va_recv hK hP (ci := 8) (q0 := 6) rfl rfl, pre_of hPc hKc hDc hN⟩ rfl rfl hl.1 rfl (lv_room (Nat.le_of_ble_eq_true rfl)) dX11_areAlike_94 ⟨(Nat.le_of_ble_eq_true rfl), (Nat.le_of_ble_eq_true rfl)⟩) hS (fun q _ h => hFc q h) hFc (fun r37 u t H locs ht hvm hq hB hz1 hk1 hS => ?_)
      obtain ⟨hP1, hD1⟩ := hB
      rw [ht] at hP1
      obtain ⟨hP, hD⟩ := va_join (wr := [(h_nn, .inl (cy_nn, 8000, .inr (.inl f_nn))), (h_na, .inl (cy_na, 8000, .inl f_na)), (h_nb, .inl (cy_nb, 8000, .inl f_nb)), (h_nc, .inl (cy_nc, 8000, .inl f_nc)), (h_bto, .inl (cy_bto, 256, .inl f_bto)), (h_bin, .inl (cy_bin, 256, .inl f_bin))]) (w1 := [(h_mm, .inr (8, (mo53 v_mm (.ref h_nv) (.ref h_nn) (.ref h_na) (.ref h_nb) (.ref h_nc) (.ref h_bto) (.ref h_bin) (.int z14) (.int z15)))), (h_nv, .inl (cy_nv, 8000, .inl f_nv))]) hP hD [6, 7] [0, 1, 2, 3, 4, 5] rfl rfl (by decide) (by decide) hk1 hFc hP1 hD1
      have hP : va_P (dC, dI) cls [(h_nn, .inl (cy_nn, 8000, .inr (.inl f_nn))), (h_na, .inl (cy_na, 8000, .inl f_na)), (h_nb, .inl (cy_nb, 8000, .inl f_nb)), (h_nc, .inl (cy_nc, 8000, .inl f_nc)), (h_bto, .inl (cy_bto, 256, .inl f_bto)), (h_bin, .inl (cy_bin, 256, .inl f_bin)), (h_mm, .inr (8, (mo53 v_mm (.ref h_nv) (.ref h_nn) (.ref h_na) (.ref h_nb) (.ref h_nc) (.ref h_bto) (.ref h_bin) (.int z14) (.int z15)))), (h_nv, .inl (cy_nv, 8000, .inl f_nv))] H := hP
      have hD : va_D A [(h_nn, .inl (cy_nn, 8000, .inr (.inl f_nn))), (h_na, .inl (cy_na, 8000, .inl f_na)), (h_nb, .inl (cy_nb, 8000, .inl f_nb)), (h_nc, .inl (cy_nc, 8000, .inl f_nc)), (h_bto, .inl (cy_bto, 256, .inl f_bto)), (h_bin, .inl (cy_bin, 256, .inl f_bin)), (h_mm, .inr (8, (mo53 v_mm (.ref h_nv) (.ref h_nn) (.ref h_na) (.ref h_nb) (.ref h_nc) (.ref h_bto) (.ref h_bin) (.int z14) (.int z15)))), (h_nv, .inl (cy_nv, 8000, .inl f_nv))] := hD
      obtain ⟨k38, k39⟩ := hq
      have k38 : -1 ≤ (r37).toInt ∧ (r37).toInt ≤ 255 := k38
      have k39 : ((r37)).toInt = 8 * ((z15)).toInt + (f_nv ((z14)).toInt.toNat).toInt := k39
      refine lv_icmp_ne (tgt := 104) hx hb dX11_areAlike_97 (by decide) (fun c40 => ?_) (fun c40 => ?_)
      · have kc40 := (not_congr (cv_eq (rfl : (r34).toInt = (r34).toInt) (rfl : (r37).toInt = (r37).toInt))).mp c40
        refine lv_iconst (v := 0) hx hb dX11_areAlike_104 (by decide) ?_
        have hP : va_P (dC, dI) cls [(h_mm, .inr (8, (mo53 v_mm (.ref h_nv) (.ref h_nn) (.ref h_na) (.ref h_nb) (.ref h_nc) (.ref h_bto) (.ref h_bin) (.int z14) (.int z15)))), (h_nv, .inl (cy_nv, 8000, .inl f_nv)), (h_na, .inl (cy_na, 8000, .inl f_na)), (h_nb, .inl (cy_nb, 8000, .inl f_nb)), (h_nc, .inl (cy_nc, 8000, .inl f_nc)), (h_bto, .inl (cy_bto, 256, .inl f_bto)), (h_bin, .inl (cy_bin, 256, .inl f_bin)), (h_nn, .inl (cy_nn, 8000, .inr (.inl f_nn)))] H := hP.sub [6, 7, 1, 2, 3, 4, 5, 0] rfl
        have hD : va_D A [(h_mm, .inr (8, (mo53 v_mm (.ref h_nv) (.ref h_nn) (.ref h_na) (.ref h_nb) (.ref h_nc) (.ref h_bto) (.ref h_bin) (.int z14) (.int z15)))), (h_nv, .inl (cy_nv, 8000, .inl f_nv)), (h_na, .inl (cy_na, 8000, .inl f_na)), (h_nb, .inl (cy_nb, 8000, .inl f_nb)), (h_nc, .inl (cy_nc, 8000, .inl f_nc)), (h_bto, .inl (cy_bto, 256, .inl f_bto)), (h_bin, .inl (cy_bin, 256, .inl f_bin)), (h_nn, .inl (cy_nn, 8000, .inr (.inl f_nn)))] := hD.sub [6, 7, 1, 2, 3, 4, 5, 0] (by decide) rfl
        refine W.widen (k := 0) (n := 0) (Nat.le_of_ble_eq_true rfl) (Nat.le_of_ble_eq_true rfl) ?_
        have cst0 : (0 : Int32).toInt = 0 := by decide
        have w41 : 0 ≤ ((z14)).toInt ∧ ((z14)).toInt ≤ 7999 := by omega
        have w42 : 0 ≤ ((z15)).toInt ∧ ((z15)).toInt ≤ 31 := by omega
        have w43 : 0 ≤ (0 : Int32).toInt ∧ (0 : Int32).toInt ≤ 1 := by omega
        exact W.zret (v := 0) (ty := .boolean) hx hb hr (by decide) (fun t ht hW => ⟨⟨0, (z14, z15), rfl, ⟨w41, w42, w43⟩, by rw [ht]; exact hP, hD⟩, hS.F ht⟩) hS.2.2 dX11_areAlike_105
      · have kc40 := (cv_eq (rfl : (r34).toInt = (r34).toInt) (rfl : (r37).toInt = (r37).toInt)).mp c40
        refine lv_iconst (v := 1) hx hb dX11_areAlike_100 (by decide) ?_
        refine lv_goto (tgt := 105) hx hb dX11_areAlike_101 (by decide) ?_
        have hP : va_P (dC, dI) cls [(h_mm, .inr (8, (mo53 v_mm (.ref h_nv) (.ref h_nn) (.ref h_na) (.ref h_nb) (.ref h_nc) (.ref h_bto) (.ref h_bin) (.int z14) (.int z15)))), (h_nv, .inl (cy_nv, 8000, .inl f_nv)), (h_na, .inl (cy_na, 8000, .inl f_na)), (h_nb, .inl (cy_nb, 8000, .inl f_nb)), (h_nc, .inl (cy_nc, 8000, .inl f_nc)), (h_bto, .inl (cy_bto, 256, .inl f_bto)), (h_bin, .inl (cy_bin, 256, .inl f_bin)), (h_nn, .inl (cy_nn, 8000, .inr (.inl f_nn)))] H := hP.sub [6, 7, 1, 2, 3, 4, 5, 0] rfl
        have hD : va_D A [(h_mm, .inr (8, (mo53 v_mm (.ref h_nv) (.ref h_nn) (.ref h_na) (.ref h_nb) (.ref h_nc) (.ref h_bto) (.ref h_bin) (.int z14) (.int z15)))), (h_nv, .inl (cy_nv, 8000, .inl f_nv)), (h_na, .inl (cy_na, 8000, .inl f_na)), (h_nb, .inl (cy_nb, 8000, .inl f_nb)), (h_nc, .inl (cy_nc, 8000, .inl f_nc)), (h_bto, .inl (cy_bto, 256, .inl f_bto)), (h_bin, .inl (cy_bin, 256, .inl f_bin)), (h_nn, .inl (cy_nn, 8000, .inr (.inl f_nn)))] := hD.sub [6, 7, 1, 2, 3, 4, 5, 0] (by decide) rfl
        refine W.widen (k := 0) (n := 0) (Nat.le_of_ble_eq_true rfl) (Nat.le_of_ble_eq_true rfl) ?_
        have cst1 : (1 : Int32).toInt = 1 := by decide
        have w44 : 0 ≤ ((z14)).toInt ∧ ((z14)).toInt ≤ 7999 := by omega
        have w45 : 0 ≤ ((z15)).toInt ∧ ((z15)).toInt ≤ 31 := by omega
        have w46 : 0 ≤ (1 : Int32).toInt ∧ (1 : Int32).toInt ≤ 1 := by omega
        exact W.zret (v := 1) (ty := .boolean) hx hb hr (by decide) (fun t ht hW => ⟨⟨1, (z14, z15), rfl, ⟨w44, w45, w46⟩, by rw [ht]; exact hP, hD⟩, hS.F ht⟩) hS.2.2 dX11_areAlike_105
  · have kc26 := (cv_eq (rfl : (z25).toInt = (z25).toInt) (by decide : ((-1) : Int32).toInt = -1)).mp c26
    refine lv_aload_n hx hb dX11_areAlike_48 rfl (lv_at hl 4 rfl) ?_
    refine va_get (D := (dC, dI)) (ci := 8) (v := .ref h_nv) (C := RX11) (T := TX11) (N := 71) hx hb hw iwX11 hown hK hP 1 rfl rfl 1 (by decide) (hw _ w_f_X11_17) (fun _ h9 => h9) rfl dX11_areAlike_49 ?_
    refine lv_iload hx hb dX11_areAlike_52 (lv_at hl 1 rfl) ?_
    refine va_iald hx hb hK hP 2 0 rfl rfl (i := z14) (vp_in_iff.mpr (by omega)) dX11_areAlike_54 ?_
    refine lv_topi (fun z47 ez47 => ?_)
    have rz47 : -1 ≤ (z47).toInt ∧ (z47).toInt ≤ 7 := by rw [ez47]; exact hf_nv _
    refine lv_iconst (v := (-1)) hx hb dX11_areAlike_55 (by decide) ?_
    refine lv_icmp_eq (tgt := 106) hx hb dX11_areAlike_56 (by decide) (fun c48 => ?_) (fun c48 => ?_)
    · have kc48 := (cv_eq (rfl : (z47).toInt = (z47).toInt) (by decide : ((-1) : Int32).toInt = -1)).mp c48
      refine lv_aload_n hx hb dX11_areAlike_106 rfl (lv_at hl 4 rfl) ?_
      refine va_get (D := (dC, dI)) (ci := 8) (v := .ref h_nn) (C := RX11) (T := TX11) (N := 71) hx hb hw iwX11 hown hK hP 1 rfl rfl 2 (by decide) (hw _ w_f_X11_23) (fun _ h9 => h9) rfl dX11_areAlike_107 ?_
      refine lv_iload hx hb dX11_areAlike_110 (lv_at hl 3 rfl) ?_
      refine va_lald hx hb hK hP 0 6 rfl rfl (i := z2) (vp_in_iff.mpr (by omega)) dX11_areAlike_112 ?_
      refine lv_topl (fun z49 ez49 => ?_)
      refine lv_aload_n hx hb dX11_areAlike_113 rfl (lv_at hl 4 rfl) ?_
      refine va_get (D := (dC, dI)) (ci := 8) (v := .ref h_nn) (C := RX11) (T := TX11) (N := 71) hx hb hw iwX11 hown hK hP 1 rfl rfl 2 (by decide) (hw _ w_f_X11_23) (fun _ h9 => h9) rfl dX11_areAlike_114 ?_
      refine lv_iload hx hb dX11_areAlike_117 (lv_at hl 1 rfl) ?_
      refine va_lald hx hb hK hP 0 6 rfl rfl (i := z14) (vp_in_iff.mpr (by omega)) dX11_areAlike_119 ?_
      refine lv_topl (fun z50 ez50 => ?_)
      refine W.lcmp hx hb dX11_areAlike_120 ?_
      refine lv_topi (fun z51 ez51 => ?_)
      refine lv_if_ne (tgt := 139) hx hb dX11_areAlike_121 (by decide) (fun c52 => ?_) (fun c52 => ?_)
      · have kc52 := (not_congr (cv_eq (rfl : (z51).toInt = (z51).toInt) (by decide : (0 : Int32).toInt = 0))).mp c52
        refine lv_iconst (v := 0) hx hb dX11_areAlike_139 (by decide) ?_
        have hP : va_P (dC, dI) cls [(h_mm, .inr (8, (mo53 v_mm (.ref h_nv) (.ref h_nn) (.ref h_na) (.ref h_nb) (.ref h_nc) (.ref h_bto) (.ref h_bin) (.int z14) (.int z15)))), (h_nv, .inl (cy_nv, 8000, .inl f_nv)), (h_na, .inl (cy_na, 8000, .inl f_na)), (h_nb, .inl (cy_nb, 8000, .inl f_nb)), (h_nc, .inl (cy_nc, 8000, .inl f_nc)), (h_bto, .inl (cy_bto, 256, .inl f_bto)), (h_bin, .inl (cy_bin, 256, .inl f_bin)), (h_nn, .inl (cy_nn, 8000, .inr (.inl f_nn)))] H := hP.sub [1, 2, 3, 4, 5, 6, 7, 0] rfl
        have hD : va_D A [(h_mm, .inr (8, (mo53 v_mm (.ref h_nv) (.ref h_nn) (.ref h_na) (.ref h_nb) (.ref h_nc) (.ref h_bto) (.ref h_bin) (.int z14) (.int z15)))), (h_nv, .inl (cy_nv, 8000, .inl f_nv)), (h_na, .inl (cy_na, 8000, .inl f_na)), (h_nb, .inl (cy_nb, 8000, .inl f_nb)), (h_nc, .inl (cy_nc, 8000, .inl f_nc)), (h_bto, .inl (cy_bto, 256, .inl f_bto)), (h_bin, .inl (cy_bin, 256, .inl f_bin)), (h_nn, .inl (cy_nn, 8000, .inr (.inl f_nn)))] := hD.sub [1, 2, 3, 4, 5, 6, 7, 0] (by decide) rfl
        refine W.widen (k := 0) (n := 0) (Nat.le_of_ble_eq_true rfl) (Nat.le_of_ble_eq_true rfl) ?_
        have cst0 : (0 : Int32).toInt = 0 := by decide
        have w53 : 0 ≤ ((z14)).toInt ∧ ((z14)).toInt ≤ 7999 := by omega
        have w54 : 0 ≤ ((z15)).toInt ∧ ((z15)).toInt ≤ 31 := by omega
        have w55 : 0 ≤ (0 : Int32).toInt ∧ (0 : Int32).toInt ≤ 1 := by omega
        exact W.zret (v := 0) (ty := .boolean) hx hb hr (by decide) (fun t ht hW => ⟨⟨0, (z14, z15), rfl, ⟨w53, w54, w55⟩, by rw [ht]; exact hP, hD⟩, hS.F ht⟩) hS.2.2 dX11_areAlike_140
      · have kc52 := (cv_eq (rfl : (z51).toInt = (z51).toInt) (by decide : (0 : Int32).toInt = 0)).mp c52
        refine lv_aload_n hx hb dX11_areAlike_124 rfl (lv_at hl 4 rfl) ?_
        refine lv_iload hx hb dX11_areAlike_125 (lv_at hl 3 rfl) ?_
        have hPc := hP.sub (ws' := [(h_mm, .inr (8, (mo53 v_mm (.ref h_nv) (.ref h_nn) (.ref h_na) (.ref h_nb) (.ref h_nc) (.ref h_bto) (.ref h_bin) (.int z14) (.int z15)))), (h_nv, .inl (cy_nv, 8000, .inl f_nv)), (h_na, .inl (cy_na, 8000, .inl f_na)), (h_nb, .inl (cy_nb, 8000, .inl f_nb)), (h_nc, .inl (cy_nc, 8000, .inl f_nc))]) [1, 2, 3, 4, 5] rfl
        have hDc := hD.sub (ws' := [(h_mm, .inr (8, (mo53 v_mm (.ref h_nv) (.ref h_nn) (.ref h_na) (.ref h_nb) (.ref h_nc) (.ref h_bto) (.ref h_bin) (.int z14) (.int z15)))), (h_nv, .inl (cy_nv, 8000, .inl f_nv)), (h_na, .inl (cy_na, 8000, .inl f_na)), (h_nb, .inl (cy_nb, 8000, .inl f_nb)), (h_nc, .inl (cy_nc, 8000, .inl f_nc))]) [1, 2, 3, 4, 5] (by decide) rfl
        have hKc := hK.sub (tys' := [(cy_nv, .int), (cy_na, .int), (cy_nb, .int), (cy_nc, .int)]) [0, 1, 2, 3] rfl
        have hFc := va_free (wc := [(h_mm, .inr (8, (mo53 v_mm (.ref h_nv) (.ref h_nn) (.ref h_na) (.ref h_nb) (.ref h_nc) (.ref h_bto) (.ref h_bin) (.int z14) (.int z15)))), (h_nv, .inl (cy_nv, 8000, .inl f_nv)), (h_na, .inl (cy_na, 8000, .inl f_na)), (h_nb, .inl (cy_nb, 8000, .inl f_nb)), (h_nc, .inl (cy_nc, 8000, .inl f_nc))]) hD hS hA [1, 2, 3, 4, 5] rfl
        refine va_calli (va_runV (As := [.int z2]) (rest := []) ⟨hx, hb, hml, hown, hts⟩ (c_X11_partsAt_e l dC dI H.size h_mm h_nv h_na h_nb h_nc (fun k => List.getD (mo53 v_mm (.ref h_nv) (.ref h_nn) (.ref h_na) (.ref h_nb) (.ref h_nc) (.ref h_bto) (.ref h_bin) (.int z14) (.int z15)) k .null) cy_nv f_nv cy_na f_na cy_nb f_nb cy_nc f_nc z2 hf_nv hf_na hf_nb hf_nc (by omega)) (cwV 1 hts (gv hT w_m_X11_27 w_instanceMethod_X11_partsAt ws_sel_X11_partsAt w_ini_X11 w_code_X11_partsAt) rfl rfl rfl (by decide +kernel) ⟨(by dsimp only [headSpec]; omega), (by dsimp only [headSpec]; omega)⟩) ⟨pre_blind, va_recv hK hP (ci := 8) (q0 := 1) rfl rfl, pre_of hPc hKc hDc hN⟩ rfl rfl hl.1 rfl (lv_room (Nat.le_of_ble_eq_true rfl)) dX11_areAlike_127 ⟨(Nat.le_of_ble_eq_true rfl), (Nat.le_of_ble_eq_true rfl)⟩) hS (fun q _ h => hFc q h) hFc (fun r56 u t H locs ht hvm hq hB hz1 hk1 hS => ?_)
        obtain ⟨hP1, hD1⟩ := hB
        rw [ht] at hP1
        obtain ⟨hP, hD⟩ := va_join (wr := [(h_nn, .inl (cy_nn, 8000, .inr (.inl f_nn))), (h_bto, .inl (cy_bto, 256, .inl f_bto)), (h_bin, .inl (cy_bin, 256, .inl f_bin))]) (w1 := [(h_mm, .inr (8, (mo53 v_mm (.ref h_nv) (.ref h_nn) (.ref h_na) (.ref h_nb) (.ref h_nc) (.ref h_bto) (.ref h_bin) (.int z14) (.int z15)))), (h_nv, .inl (cy_nv, 8000, .inl f_nv)), (h_na, .inl (cy_na, 8000, .inl f_na)), (h_nb, .inl (cy_nb, 8000, .inl f_nb)), (h_nc, .inl (cy_nc, 8000, .inl f_nc))]) hP hD [1, 2, 3, 4, 5] [0, 6, 7] rfl rfl (by decide) (by decide) hk1 hFc hP1 hD1
        have hP : va_P (dC, dI) cls [(h_nn, .inl (cy_nn, 8000, .inr (.inl f_nn))), (h_bto, .inl (cy_bto, 256, .inl f_bto)), (h_bin, .inl (cy_bin, 256, .inl f_bin)), (h_mm, .inr (8, (mo53 v_mm (.ref h_nv) (.ref h_nn) (.ref h_na) (.ref h_nb) (.ref h_nc) (.ref h_bto) (.ref h_bin) (.int z14) (.int z15)))), (h_nv, .inl (cy_nv, 8000, .inl f_nv)), (h_na, .inl (cy_na, 8000, .inl f_na)), (h_nb, .inl (cy_nb, 8000, .inl f_nb)), (h_nc, .inl (cy_nc, 8000, .inl f_nc))] H := hP
        have hD : va_D A [(h_nn, .inl (cy_nn, 8000, .inr (.inl f_nn))), (h_bto, .inl (cy_bto, 256, .inl f_bto)), (h_bin, .inl (cy_bin, 256, .inl f_bin)), (h_mm, .inr (8, (mo53 v_mm (.ref h_nv) (.ref h_nn) (.ref h_na) (.ref h_nb) (.ref h_nc) (.ref h_bto) (.ref h_bin) (.int z14) (.int z15)))), (h_nv, .inl (cy_nv, 8000, .inl f_nv)), (h_na, .inl (cy_na, 8000, .inl f_na)), (h_nb, .inl (cy_nb, 8000, .inl f_nb)), (h_nc, .inl (cy_nc, 8000, .inl f_nc))] := hD
        obtain ⟨k57, k58⟩ := hq
        have k57 : 0 ≤ (r56).toInt ∧ (r56).toInt ≤ 3 := k57
        have k58 : ((r56)).toInt = (npx f_nv f_na f_nb f_nc ((z2)).toInt.toNat) := k58
        refine lv_aload_n hx hb dX11_areAlike_130 rfl (lv_at hl 4 rfl) ?_
        refine lv_iload hx hb dX11_areAlike_131 (lv_at hl 1 rfl) ?_
        have hPc := hP.sub (ws' := [(h_mm, .inr (8, (mo53 v_mm (.ref h_nv) (.ref h_nn) (.ref h_na) (.ref h_nb) (.ref h_nc) (.ref h_bto) (.ref h_bin) (.int z14) (.int z15)))), (h_nv, .inl (cy_nv, 8000, .inl f_nv)), (h_na, .inl (cy_na, 8000, .inl f_na)), (h_nb, .inl (cy_nb, 8000, .inl f_nb)), (h_nc, .inl (cy_nc, 8000, .inl f_nc))]) [3, 4, 5, 6, 7] rfl
        have hDc := hD.sub (ws' := [(h_mm, .inr (8, (mo53 v_mm (.ref h_nv) (.ref h_nn) (.ref h_na) (.ref h_nb) (.ref h_nc) (.ref h_bto) (.ref h_bin) (.int z14) (.int z15)))), (h_nv, .inl (cy_nv, 8000, .inl f_nv)), (h_na, .inl (cy_na, 8000, .inl f_na)), (h_nb, .inl (cy_nb, 8000, .inl f_nb)), (h_nc, .inl (cy_nc, 8000, .inl f_nc))]) [3, 4, 5, 6, 7] (by decide) rfl
        have hKc := hK.sub (tys' := [(cy_nv, .int), (cy_na, .int), (cy_nb, .int), (cy_nc, .int)]) [0, 1, 2, 3] rfl
        have hFc := va_free (wc := [(h_mm, .inr (8, (mo53 v_mm (.ref h_nv) (.ref h_nn) (.ref h_na) (.ref h_nb) (.ref h_nc) (.ref h_bto) (.ref h_bin) (.int z14) (.int z15)))), (h_nv, .inl (cy_nv, 8000, .inl f_nv)), (h_na, .inl (cy_na, 8000, .inl f_na)), (h_nb, .inl (cy_nb, 8000, .inl f_nb)), (h_nc, .inl (cy_nc, 8000, .inl f_nc))]) hD hS hA [3, 4, 5, 6, 7] rfl
        refine va_calli (va_runV (As := [.int z14]) (rest := [.int r56]) ⟨hx, hb, hml, hown, hts⟩ (c_X11_partsAt_e l dC dI H.size h_mm h_nv h_na h_nb h_nc (fun k => List.getD (mo53 v_mm (.ref h_nv) (.ref h_nn) (.ref h_na) (.ref h_nb) (.ref h_nc) (.ref h_bto) (.ref h_bin) (.int z14) (.int z15)) k .null) cy_nv f_nv cy_na f_na cy_nb f_nb cy_nc f_nc z14 hf_nv hf_na hf_nb hf_nc (by omega)) (cwV 1 hts (gv hT w_m_X11_27 w_instanceMethod_X11_partsAt ws_sel_X11_partsAt w_ini_X11 w_code_X11_partsAt) rfl rfl rfl (by decide +kernel) ⟨(by dsimp only [headSpec]; omega), (by dsimp only [headSpec]; omega)⟩) ⟨pre_blind, va_recv hK hP (ci := 8) (q0 := 3) rfl rfl, pre_of hPc hKc hDc hN⟩ rfl rfl hl.1 rfl (lv_room (Nat.le_of_ble_eq_true rfl)) dX11_areAlike_133 ⟨(Nat.le_of_ble_eq_true rfl), (Nat.le_of_ble_eq_true rfl)⟩) hS (fun q _ h => hFc q h) hFc (fun r59 u t H locs ht hvm hq hB hz1 hk1 hS => ?_)
        obtain ⟨hP1, hD1⟩ := hB
        rw [ht] at hP1
        obtain ⟨hP, hD⟩ := va_join (wr := [(h_nn, .inl (cy_nn, 8000, .inr (.inl f_nn))), (h_bto, .inl (cy_bto, 256, .inl f_bto)), (h_bin, .inl (cy_bin, 256, .inl f_bin))]) (w1 := [(h_mm, .inr (8, (mo53 v_mm (.ref h_nv) (.ref h_nn) (.ref h_na) (.ref h_nb) (.ref h_nc) (.ref h_bto) (.ref h_bin) (.int z14) (.int z15)))), (h_nv, .inl (cy_nv, 8000, .inl f_nv)), (h_na, .inl (cy_na, 8000, .inl f_na)), (h_nb, .inl (cy_nb, 8000, .inl f_nb)), (h_nc, .inl (cy_nc, 8000, .inl f_nc))]) hP hD [3, 4, 5, 6, 7] [0, 1, 2] rfl rfl (by decide) (by decide) hk1 hFc hP1 hD1
        have hP : va_P (dC, dI) cls [(h_nn, .inl (cy_nn, 8000, .inr (.inl f_nn))), (h_bto, .inl (cy_bto, 256, .inl f_bto)), (h_bin, .inl (cy_bin, 256, .inl f_bin)), (h_mm, .inr (8, (mo53 v_mm (.ref h_nv) (.ref h_nn) (.ref h_na) (.ref h_nb) (.ref h_nc) (.ref h_bto) (.ref h_bin) (.int z14) (.int z15)))), (h_nv, .inl (cy_nv, 8000, .inl f_nv)), (h_na, .inl (cy_na, 8000, .inl f_na)), (h_nb, .inl (cy_nb, 8000, .inl f_nb)), (h_nc, .inl (cy_nc, 8000, .inl f_nc))] H := hP
        have hD : va_D A [(h_nn, .inl (cy_nn, 8000, .inr (.inl f_nn))), (h_bto, .inl (cy_bto, 256, .inl f_bto)), (h_bin, .inl (cy_bin, 256, .inl f_bin)), (h_mm, .inr (8, (mo53 v_mm (.ref h_nv) (.ref h_nn) (.ref h_na) (.ref h_nb) (.ref h_nc) (.ref h_bto) (.ref h_bin) (.int z14) (.int z15)))), (h_nv, .inl (cy_nv, 8000, .inl f_nv)), (h_na, .inl (cy_na, 8000, .inl f_na)), (h_nb, .inl (cy_nb, 8000, .inl f_nb)), (h_nc, .inl (cy_nc, 8000, .inl f_nc))] := hD
        obtain ⟨k60, k61⟩ := hq
        have k60 : 0 ≤ (r59).toInt ∧ (r59).toInt ≤ 3 := k60
        have k61 : ((r59)).toInt = (npx f_nv f_na f_nb f_nc ((z14)).toInt.toNat) := k61
        refine lv_icmp_eq (tgt := 141) hx hb dX11_areAlike_136 (by decide) (fun c62 => ?_) (fun c62 => ?_)
        · have kc62 := (cv_eq (rfl : (r56).toInt = (r56).toInt) (rfl : (r59).toInt = (r59).toInt)).mp c62
          refine lv_iconst (v := 0) hx hb dX11_areAlike_141 (by decide) ?_
          refine lv_istore (lv' := [(9, .int 0), (8, .int z15), (7, .int z14), (6, .int z3), (5, .int z2), (0, .ref h_mm), (1, .int p1), (2, .int p2), (3, .int p3), (4, .int p4)]) hx hb dX11_areAlike_142 hl (by decide) rfl (fun ls hl => ?_)
          have lp66 : ∀ (n : Nat) (x63 : Int32) (x64 : Int32) (x65 : Int32) (H : Heap) (locs : List Loc) (ls : Array Slot), (0 ≤ (x63).toInt ∧ (x63).toInt ≤ 3) → (0 ≤ (x64).toInt ∧ (x64).toInt ≤ 7999) → (0 ≤ (x65).toInt ∧ (x65).toInt ≤ 31) → (3 - (x63).toInt).toNat + 1 ≤ n → va_P (dC, dI) cls [(h_nn, .inl (cy_nn, 8000, .inr (.inl f_nn))), (h_bto, .inl (cy_bto, 256, .inl f_bto)), (h_bin, .inl (cy_bin, 256, .inl f_bin)), (h_mm, .inr (8, (mo53 v_mm (.ref h_nv) (.ref h_nn) (.ref h_na) (.ref h_nb) (.ref h_nc) (.ref h_bto) (.ref h_bin) (.int x64) (.int x65)))), (h_nv, .inl (cy_nv, 8000, .inl f_nv)), (h_na, .inl (cy_na, 8000, .inl f_na)), (h_nb, .inl (cy_nb, 8000, .inl f_nb)), (h_nc, .inl (cy_nc, 8000, .inl f_nc))] H → va_D A [(h_nn, .inl (cy_nn, 8000, .inr (.inl f_nn))), (h_bto, .inl (cy_bto, 256, .inl f_bto)), (h_bin, .inl (cy_bin, 256, .inl f_bin)), (h_mm, .inr (8, (mo53 v_mm (.ref h_nv) (.ref h_nn) (.ref h_na) (.ref h_nb) (.ref h_nc) (.ref h_bto) (.ref h_bin) (.int x64) (.int x65)))), (h_nv, .inl (cy_nv, 8000, .inl f_nv)), (h_na, .inl (cy_na, 8000, .inl f_na)), (h_nb, .inl (cy_nb, 8000, .inl f_nb)), (h_nc, .inl (cy_nc, 8000, .inl f_nc))] → va_S A s.heap H locs → lv_has ls 10 [(0, .ref h_mm), (1, .int p1), (2, .int p2), (3, .int p3), (4, .int p4), (5, .int z2), (6, .int z3), (7, .int z14), (8, .int z15), (9, .int x63)] → W p l e ({ frames := (fu + 1) + 2, cells := 0, slots := 0, locals := 29 * (fu + 1) + 45 } : Room) s m ([.ref h_mm, .int p1, .int p2, .int p3, .int p4] : List Value).toArray below meth c H locs 0 0 (MQ below (va_Qi (fun (r : Int32) (u : (Int32) × (Int32)) => (0 ≤ (u.1).toInt ∧ (u.1).toInt ≤ 7999) ∧ (0 ≤ (u.2).toInt ∧ (u.2).toInt ≤ 31) ∧ (0 ≤ r.toInt ∧ r.toInt ≤ 1)) (fun (u : (Int32) × (Int32)) (t : State) => va_P (dC, dI) cls [(h_mm, .inr (8, (mo53 v_mm (.ref h_nv) (.ref h_nn) (.ref h_na) (.ref h_nb) (.ref h_nc) (.ref h_bto) (.ref h_bin) (.int u.1) (.int u.2)))), (h_nv, .inl (cy_nv, 8000, .inl f_nv)), (h_na, .inl (cy_na, 8000, .inl f_na)), (h_nb, .inl (cy_nb, 8000, .inl f_nb)), (h_nc, .inl (cy_nc, 8000, .inl f_nc)), (h_bto, .inl (cy_bto, 256, .inl f_bto)), (h_bin, .inl (cy_bin, 256, .inl f_bin)), (h_nn, .inl (cy_nn, 8000, .inr (.inl f_nn)))] t.heap ∧ va_D A [(h_mm, .inr (8, (mo53 v_mm (.ref h_nv) (.ref h_nn) (.ref h_na) (.ref h_nb) (.ref h_nc) (.ref h_bto) (.ref h_bin) (.int u.1) (.int u.2)))), (h_nv, .inl (cy_nv, 8000, .inl f_nv)), (h_na, .inl (cy_na, 8000, .inl f_na)), (h_nb, .inl (cy_nb, 8000, .inl f_nb)), (h_nc, .inl (cy_nc, 8000, .inl f_nc)), (h_bto, .inl (cy_bto, 256, .inl f_bto)), (h_bin, .inl (cy_bin, 256, .inl f_bin)), (h_nn, .inl (cy_nn, 8000, .inr (.inl f_nn)))]) A) ([.ref h_mm, .int p1, .int p2, .int p3, .int p4] : List Value).toArray s 0 0 A) (F0 m 144 ls []) := by
            intro n
            induction n with
            | zero => intro x63 x64 x65 H locs ls klp66_0 klp66_1 klp66_2 hm hP hD hS hl; exact False.elim (by omega)
            | succ n ih => 
              intro x63 x64 x65 H locs ls klp66_0 klp66_1 klp66_2 hm hP hD hS hl
              have ih67 := ih
              clear ih
              refine lv_iload hx hb dX11_areAlike_144 (lv_at hl 9 rfl) ?_
              refine lv_aload_n hx hb dX11_areAlike_146 rfl (lv_at hl 0 rfl) ?_
              refine lv_iload hx hb dX11_areAlike_147 (lv_at hl 5 rfl) ?_
              have hPc := hP.sub (ws' := [(h_mm, .inr (8, (mo53 v_mm (.ref h_nv) (.ref h_nn) (.ref h_na) (.ref h_nb) (.ref h_nc) (.ref h_bto) (.ref h_bin) (.int x64) (.int x65)))), (h_nv, .inl (cy_nv, 8000, .inl f_nv)), (h_na, .inl (cy_na, 8000, .inl f_na)), (h_nb, .inl (cy_nb, 8000, .inl f_nb)), (h_nc, .inl (cy_nc, 8000, .inl f_nc))]) [3, 4, 5, 6, 7] rfl
              have hDc := hD.sub (ws' := [(h_mm, .inr (8, (mo53 v_mm (.ref h_nv) (.ref h_nn) (.ref h_na) (.ref h_nb) (.ref h_nc) (.ref h_bto) (.ref h_bin) (.int x64) (.int x65)))), (h_nv, .inl (cy_nv, 8000, .inl f_nv)), (h_na, .inl (cy_na, 8000, .inl f_na)), (h_nb, .inl (cy_nb, 8000, .inl f_nb)), (h_nc, .inl (cy_nc, 8000, .inl f_nc))]) [3, 4, 5, 6, 7] (by decide) rfl
              have hKc := hK.sub (tys' := [(cy_nv, .int), (cy_na, .int), (cy_nb, .int), (cy_nc, .int)]) [0, 1, 2, 3] rfl
              have hFc := va_free (wc := [(h_mm, .inr (8, (mo53 v_mm (.ref h_nv) (.ref h_nn) (.ref h_na) (.ref h_nb) (.ref h_nc) (.ref h_bto) (.ref h_bin) (.int x64) (.int x65)))), (h_nv, .inl (cy_nv, 8000, .inl f_nv)), (h_na, .inl (cy_na, 8000, .inl f_na)), (h_nb, .inl (cy_nb, 8000, .inl f_nb)), (h_nc, .inl (cy_nc, 8000, .inl f_nc))]) hD hS hA [3, 4, 5, 6, 7] rfl
              refine va_calli (va_runV (As := [.int z2]) (rest := [.int x63]) ⟨hx, hb, hml, hown, hts⟩ (c_X11_partsAt_e l dC dI H.size h_mm h_nv h_na h_nb h_nc (fun k => List.getD (mo53 v_mm (.ref h_nv) (.ref h_nn) (.ref h_na) (.ref h_nb) (.ref h_nc) (.ref h_bto) (.ref h_bin) (.int x64) (.int x65)) k .null) cy_nv f_nv cy_na f_na cy_nb f_nb cy_nc f_nc z2 hf_nv hf_na hf_nb hf_nc (by omega)) (cwV 1 hts (gv hT w_m_X11_27 w_instanceMethod_X11_partsAt ws_sel_X11_partsAt w_ini_X11 w_code_X11_partsAt) rfl rfl rfl (by decide +kernel) ⟨(by dsimp only [headSpec]; omega), (by dsimp only [headSpec]; omega)⟩) ⟨pre_blind, va_recv hK hP (ci := 8) (q0 := 3) rfl rfl, pre_of hPc hKc hDc hN⟩ rfl rfl hl.1 rfl (lv_room (Nat.le_of_ble_eq_true rfl)) dX11_areAlike_149 ⟨(Nat.le_of_ble_eq_true rfl), (Nat.le_of_ble_eq_true rfl)⟩) hS (fun q _ h => hFc q h) hFc (fun r68 u t H locs ht hvm hq hB hz1 hk1 hS => ?_)
              obtain ⟨hP1, hD1⟩ := hB
              rw [ht] at hP1
              obtain ⟨hP, hD⟩ := va_join (wr := [(h_nn, .inl (cy_nn, 8000, .inr (.inl f_nn))), (h_bto, .inl (cy_bto, 256, .inl f_bto)), (h_bin, .inl (cy_bin, 256, .inl f_bin))]) (w1 := [(h_mm, .inr (8, (mo53 v_mm (.ref h_nv) (.ref h_nn) (.ref h_na) (.ref h_nb) (.ref h_nc) (.ref h_bto) (.ref h_bin) (.int x64) (.int x65)))), (h_nv, .inl (cy_nv, 8000, .inl f_nv)), (h_na, .inl (cy_na, 8000, .inl f_na)), (h_nb, .inl (cy_nb, 8000, .inl f_nb)), (h_nc, .inl (cy_nc, 8000, .inl f_nc))]) hP hD [3, 4, 5, 6, 7] [0, 1, 2] rfl rfl (by decide) (by decide) hk1 hFc hP1 hD1
              have hP : va_P (dC, dI) cls [(h_nn, .inl (cy_nn, 8000, .inr (.inl f_nn))), (h_bto, .inl (cy_bto, 256, .inl f_bto)), (h_bin, .inl (cy_bin, 256, .inl f_bin)), (h_mm, .inr (8, (mo53 v_mm (.ref h_nv) (.ref h_nn) (.ref h_na) (.ref h_nb) (.ref h_nc) (.ref h_bto) (.ref h_bin) (.int x64) (.int x65)))), (h_nv, .inl (cy_nv, 8000, .inl f_nv)), (h_na, .inl (cy_na, 8000, .inl f_na)), (h_nb, .inl (cy_nb, 8000, .inl f_nb)), (h_nc, .inl (cy_nc, 8000, .inl f_nc))] H := hP
              have hD : va_D A [(h_nn, .inl (cy_nn, 8000, .inr (.inl f_nn))), (h_bto, .inl (cy_bto, 256, .inl f_bto)), (h_bin, .inl (cy_bin, 256, .inl f_bin)), (h_mm, .inr (8, (mo53 v_mm (.ref h_nv) (.ref h_nn) (.ref h_na) (.ref h_nb) (.ref h_nc) (.ref h_bto) (.ref h_bin) (.int x64) (.int x65)))), (h_nv, .inl (cy_nv, 8000, .inl f_nv)), (h_na, .inl (cy_na, 8000, .inl f_na)), (h_nb, .inl (cy_nb, 8000, .inl f_nb)), (h_nc, .inl (cy_nc, 8000, .inl f_nc))] := hD
              obtain ⟨k69, k70⟩ := hq
              have k69 : 0 ≤ (r68).toInt ∧ (r68).toInt ≤ 3 := k69
              have k70 : ((r68)).toInt = (npx f_nv f_na f_nb f_nc ((z2)).toInt.toNat) := k70
              refine lv_icmp_ge (tgt := 190) hx hb dX11_areAlike_152 (by decide) (fun c71 => ?_) (fun c71 => ?_)
              · have kc71 := (cv_le (rfl : (r68).toInt = (r68).toInt) (rfl : (x63).toInt = (x63).toInt)).mp c71
                refine lv_iconst (v := 1) hx hb dX11_areAlike_190 (by decide) ?_
                have hP : va_P (dC, dI) cls [(h_mm, .inr (8, (mo53 v_mm (.ref h_nv) (.ref h_nn) (.ref h_na) (.ref h_nb) (.ref h_nc) (.ref h_bto) (.ref h_bin) (.int x64) (.int x65)))), (h_nv, .inl (cy_nv, 8000, .inl f_nv)), (h_na, .inl (cy_na, 8000, .inl f_na)), (h_nb, .inl (cy_nb, 8000, .inl f_nb)), (h_nc, .inl (cy_nc, 8000, .inl f_nc)), (h_bto, .inl (cy_bto, 256, .inl f_bto)), (h_bin, .inl (cy_bin, 256, .inl f_bin)), (h_nn, .inl (cy_nn, 8000, .inr (.inl f_nn)))] H := hP.sub [3, 4, 5, 6, 7, 1, 2, 0] rfl
                have hD : va_D A [(h_mm, .inr (8, (mo53 v_mm (.ref h_nv) (.ref h_nn) (.ref h_na) (.ref h_nb) (.ref h_nc) (.ref h_bto) (.ref h_bin) (.int x64) (.int x65)))), (h_nv, .inl (cy_nv, 8000, .inl f_nv)), (h_na, .inl (cy_na, 8000, .inl f_na)), (h_nb, .inl (cy_nb, 8000, .inl f_nb)), (h_nc, .inl (cy_nc, 8000, .inl f_nc)), (h_bto, .inl (cy_bto, 256, .inl f_bto)), (h_bin, .inl (cy_bin, 256, .inl f_bin)), (h_nn, .inl (cy_nn, 8000, .inr (.inl f_nn)))] := hD.sub [3, 4, 5, 6, 7, 1, 2, 0] (by decide) rfl
                refine W.widen (k := 0) (n := 0) (Nat.le_of_ble_eq_true rfl) (Nat.le_of_ble_eq_true rfl) ?_
                have cst1 : (1 : Int32).toInt = 1 := by decide
                have w72 : 0 ≤ ((x64)).toInt ∧ ((x64)).toInt ≤ 7999 := by omega
                have w73 : 0 ≤ ((x65)).toInt ∧ ((x65)).toInt ≤ 31 := by omega
                have w74 : 0 ≤ (1 : Int32).toInt ∧ (1 : Int32).toInt ≤ 1 := by omega
                exact W.zret (v := 1) (ty := .boolean) hx hb hr (by decide) (fun t ht hW => ⟨⟨1, (x64, x65), rfl, ⟨w72, w73, w74⟩, by rw [ht]; exact hP, hD⟩, hS.F ht⟩) hS.2.2 dX11_areAlike_191
              · have kc71 := (not_congr (cv_le (rfl : (r68).toInt = (r68).toInt) (rfl : (x63).toInt = (x63).toInt))).mp c71
                refine lv_aload_n hx hb dX11_areAlike_155 rfl (lv_at hl 0 rfl) ?_
                refine lv_aload_n hx hb dX11_areAlike_156 rfl (lv_at hl 0 rfl) ?_
                refine lv_iload hx hb dX11_areAlike_157 (lv_at hl 5 rfl) ?_
                refine lv_iload hx hb dX11_areAlike_159 (lv_at hl 9 rfl) ?_
                have hPc := hP.sub (ws' := [(h_mm, .inr (8, (mo53 v_mm (.ref h_nv) (.ref h_nn) (.ref h_na) (.ref h_nb) (.ref h_nc) (.ref h_bto) (.ref h_bin) (.int x64) (.int x65)))), (h_na, .inl (cy_na, 8000, .inl f_na)), (h_nb, .inl (cy_nb, 8000, .inl f_nb)), (h_nc, .inl (cy_nc, 8000, .inl f_nc))]) [3, 5, 6, 7] rfl
                have hDc := hD.sub (ws' := [(h_mm, .inr (8, (mo53 v_mm (.ref h_nv) (.ref h_nn) (.ref h_na) (.ref h_nb) (.ref h_nc) (.ref h_bto) (.ref h_bin) (.int x64) (.int x65)))), (h_na, .inl (cy_na, 8000, .inl f_na)), (h_nb, .inl (cy_nb, 8000, .inl f_nb)), (h_nc, .inl (cy_nc, 8000, .inl f_nc))]) [3, 5, 6, 7] (by decide) rfl
                have hKc := hK.sub (tys' := [(cy_na, .int), (cy_nb, .int), (cy_nc, .int)]) [1, 2, 3] rfl
                have hFc := va_free (wc := [(h_mm, .inr (8, (mo53 v_mm (.ref h_nv) (.ref h_nn) (.ref h_na) (.ref h_nb) (.ref h_nc) (.ref h_bto) (.ref h_bin) (.int x64) (.int x65)))), (h_na, .inl (cy_na, 8000, .inl f_na)), (h_nb, .inl (cy_nb, 8000, .inl f_nb)), (h_nc, .inl (cy_nc, 8000, .inl f_nc))]) hD hS hA [3, 5, 6, 7] rfl
                refine va_calli (va_runV (As := [.int z2, .int x63]) (rest := [.ref h_mm]) ⟨hx, hb, hml, hown, hts⟩ (c_X11_part_e l dC dI H.size h_mm h_na h_nb h_nc (fun k => List.getD (mo53 v_mm (.ref h_nv) (.ref h_nn) (.ref h_na) (.ref h_nb) (.ref h_nc) (.ref h_bto) (.ref h_bin) (.int x64) (.int x65)) k .null) cy_na f_na cy_nb f_nb cy_nc f_nc z2 x63 hf_na hf_nb hf_nc (by omega)) (cwV 2 hts (gv hT w_m_X11_31 w_instanceMethod_X11_part ws_sel_X11_part w_ini_X11 w_code_X11_part) rfl rfl rfl (by decide +kernel) ⟨(by dsimp only [headSpec]; omega), (by dsimp only [headSpec]; omega)⟩) ⟨pre_blind, va_recv hK hP (ci := 8) (q0 := 3) rfl rfl, pre_of hPc hKc hDc hN⟩ rfl rfl hl.1 rfl (lv_room (Nat.le_of_ble_eq_true rfl)) dX11_areAlike_161 ⟨(Nat.le_of_ble_eq_true rfl), (Nat.le_of_ble_eq_true rfl)⟩) hS (fun q _ h => hFc q h) hFc (fun r75 u t H locs ht hvm hq hB hz1 hk1 hS => ?_)
                obtain ⟨hP1, hD1⟩ := hB
                rw [ht] at hP1
                obtain ⟨hP, hD⟩ := va_join (wr := [(h_nn, .inl (cy_nn, 8000, .inr (.inl f_nn))), (h_bto, .inl (cy_bto, 256, .inl f_bto)), (h_bin, .inl (cy_bin, 256, .inl f_bin)), (h_nv, .inl (cy_nv, 8000, .inl f_nv))]) (w1 := [(h_mm, .inr (8, (mo53 v_mm (.ref h_nv) (.ref h_nn) (.ref h_na) (.ref h_nb) (.ref h_nc) (.ref h_bto) (.ref h_bin) (.int x64) (.int x65)))), (h_na, .inl (cy_na, 8000, .inl f_na)), (h_nb, .inl (cy_nb, 8000, .inl f_nb)), (h_nc, .inl (cy_nc, 8000, .inl f_nc))]) hP hD [3, 5, 6, 7] [0, 1, 2, 4] rfl rfl (by decide) (by decide) hk1 hFc hP1 hD1
                have hP : va_P (dC, dI) cls [(h_nn, .inl (cy_nn, 8000, .inr (.inl f_nn))), (h_bto, .inl (cy_bto, 256, .inl f_bto)), (h_bin, .inl (cy_bin, 256, .inl f_bin)), (h_nv, .inl (cy_nv, 8000, .inl f_nv)), (h_mm, .inr (8, (mo53 v_mm (.ref h_nv) (.ref h_nn) (.ref h_na) (.ref h_nb) (.ref h_nc) (.ref h_bto) (.ref h_bin) (.int x64) (.int x65)))), (h_na, .inl (cy_na, 8000, .inl f_na)), (h_nb, .inl (cy_nb, 8000, .inl f_nb)), (h_nc, .inl (cy_nc, 8000, .inl f_nc))] H := hP
                have hD : va_D A [(h_nn, .inl (cy_nn, 8000, .inr (.inl f_nn))), (h_bto, .inl (cy_bto, 256, .inl f_bto)), (h_bin, .inl (cy_bin, 256, .inl f_bin)), (h_nv, .inl (cy_nv, 8000, .inl f_nv)), (h_mm, .inr (8, (mo53 v_mm (.ref h_nv) (.ref h_nn) (.ref h_na) (.ref h_nb) (.ref h_nc) (.ref h_bto) (.ref h_bin) (.int x64) (.int x65)))), (h_na, .inl (cy_na, 8000, .inl f_na)), (h_nb, .inl (cy_nb, 8000, .inl f_nb)), (h_nc, .inl (cy_nc, 8000, .inl f_nc))] := hD
                obtain ⟨k76, k77⟩ := hq
                have k76 : -1 ≤ (r75).toInt ∧ (r75).toInt ≤ 7999 := k76
                have k77 : ((r75)).toInt = (ptx f_na f_nb f_nc ((z2)).toInt.toNat ((x63)).toInt).toInt := k77
                refine lv_iload hx hb dX11_areAlike_164 (lv_at hl 6 rfl) ?_
                refine lv_aload_n hx hb dX11_areAlike_166 rfl (lv_at hl 0 rfl) ?_
                refine lv_iload hx hb dX11_areAlike_167 (lv_at hl 7 rfl) ?_
                refine lv_iload hx hb dX11_areAlike_169 (lv_at hl 9 rfl) ?_
                have hPc := hP.sub (ws' := [(h_mm, .inr (8, (mo53 v_mm (.ref h_nv) (.ref h_nn) (.ref h_na) (.ref h_nb) (.ref h_nc) (.ref h_bto) (.ref h_bin) (.int x64) (.int x65)))), (h_na, .inl (cy_na, 8000, .inl f_na)), (h_nb, .inl (cy_nb, 8000, .inl f_nb)), (h_nc, .inl (cy_nc, 8000, .inl f_nc))]) [4, 5, 6, 7] rfl
                have hDc := hD.sub (ws' := [(h_mm, .inr (8, (mo53 v_mm (.ref h_nv) (.ref h_nn) (.ref h_na) (.ref h_nb) (.ref h_nc) (.ref h_bto) (.ref h_bin) (.int x64) (.int x65)))), (h_na, .inl (cy_na, 8000, .inl f_na)), (h_nb, .inl (cy_nb, 8000, .inl f_nb)), (h_nc, .inl (cy_nc, 8000, .inl f_nc))]) [4, 5, 6, 7] (by decide) rfl
                have hKc := hK.sub (tys' := [(cy_na, .int), (cy_nb, .int), (cy_nc, .int)]) [1, 2, 3] rfl
                have hFc := va_free (wc := [(h_mm, .inr (8, (mo53 v_mm (.ref h_nv) (.ref h_nn) (.ref h_na) (.ref h_nb) (.ref h_nc) (.ref h_bto) (.ref h_bin) (.int x64) (.int x65)))), (h_na, .inl (cy_na, 8000, .inl f_na)), (h_nb, .inl (cy_nb, 8000, .inl f_nb)), (h_nc, .inl (cy_nc, 8000, .inl f_nc))]) hD hS hA [4, 5, 6, 7] rfl
                refine va_calli (va_runV (As := [.int z14, .int x63]) (rest := [.int z3, .int r75, .ref h_mm]) ⟨hx, hb, hml, hown, hts⟩ (c_X11_part_e l dC dI H.size h_mm h_na h_nb h_nc (fun k => List.getD (mo53 v_mm (.ref h_nv) (.ref h_nn) (.ref h_na) (.ref h_nb) (.ref h_nc) (.ref h_bto) (.ref h_bin) (.int x64) (.int x65)) k .null) cy_na f_na cy_nb f_nb cy_nc f_nc z14 x63 hf_na hf_nb hf_nc (by omega)) (cwV 2 hts (gv hT w_m_X11_31 w_instanceMethod_X11_part ws_sel_X11_part w_ini_X11 w_code_X11_part) rfl rfl rfl (by decide +kernel) ⟨(by dsimp only [headSpec]; omega), (by dsimp only [headSpec]; omega)⟩) ⟨pre_blind, va_recv hK hP (ci := 8) (q0 := 4) rfl rfl, pre_of hPc hKc hDc hN⟩ rfl rfl hl.1 rfl (lv_room (Nat.le_of_ble_eq_true rfl)) dX11_areAlike_171 ⟨(Nat.le_of_ble_eq_true rfl), (Nat.le_of_ble_eq_true rfl)⟩) hS (fun q _ h => hFc q h) hFc (fun r78 u t H locs ht hvm hq hB hz1 hk1 hS => ?_)
                obtain ⟨hP1, hD1⟩ := hB
                rw [ht] at hP1
                obtain ⟨hP, hD⟩ := va_join (wr := [(h_nn, .inl (cy_nn, 8000, .inr (.inl f_nn))), (h_bto, .inl (cy_bto, 256, .inl f_bto)), (h_bin, .inl (cy_bin, 256, .inl f_bin)), (h_nv, .inl (cy_nv, 8000, .inl f_nv))]) (w1 := [(h_mm, .inr (8, (mo53 v_mm (.ref h_nv) (.ref h_nn) (.ref h_na) (.ref h_nb) (.ref h_nc) (.ref h_bto) (.ref h_bin) (.int x64) (.int x65)))), (h_na, .inl (cy_na, 8000, .inl f_na)), (h_nb, .inl (cy_nb, 8000, .inl f_nb)), (h_nc, .inl (cy_nc, 8000, .inl f_nc))]) hP hD [4, 5, 6, 7] [0, 1, 2, 3] rfl rfl (by decide) (by decide) hk1 hFc hP1 hD1
                have hP : va_P (dC, dI) cls [(h_nn, .inl (cy_nn, 8000, .inr (.inl f_nn))), (h_bto, .inl (cy_bto, 256, .inl f_bto)), (h_bin, .inl (cy_bin, 256, .inl f_bin)), (h_nv, .inl (cy_nv, 8000, .inl f_nv)), (h_mm, .inr (8, (mo53 v_mm (.ref h_nv) (.ref h_nn) (.ref h_na) (.ref h_nb) (.ref h_nc) (.ref h_bto) (.ref h_bin) (.int x64) (.int x65)))), (h_na, .inl (cy_na, 8000, .inl f_na)), (h_nb, .inl (cy_nb, 8000, .inl f_nb)), (h_nc, .inl (cy_nc, 8000, .inl f_nc))] H := hP
                have hD : va_D A [(h_nn, .inl (cy_nn, 8000, .inr (.inl f_nn))), (h_bto, .inl (cy_bto, 256, .inl f_bto)), (h_bin, .inl (cy_bin, 256, .inl f_bin)), (h_nv, .inl (cy_nv, 8000, .inl f_nv)), (h_mm, .inr (8, (mo53 v_mm (.ref h_nv) (.ref h_nn) (.ref h_na) (.ref h_nb) (.ref h_nc) (.ref h_bto) (.ref h_bin) (.int x64) (.int x65)))), (h_na, .inl (cy_na, 8000, .inl f_na)), (h_nb, .inl (cy_nb, 8000, .inl f_nb)), (h_nc, .inl (cy_nc, 8000, .inl f_nc))] := hD
                obtain ⟨k79, k80⟩ := hq
                have k79 : -1 ≤ (r78).toInt ∧ (r78).toInt ≤ 7999 := k79
                have k80 : ((r78)).toInt = (ptx f_na f_nb f_nc ((z14)).toInt.toNat ((x63)).toInt).toInt := k80
                have ca9e : ptx f_na f_nb f_nc (z2).toInt.toNat (x63).toInt = r75 := Int32.toInt_inj.mp (by omega)
                have ca9c := ch_ok (nv := f_nv) (k := (x63).toInt) (x := (z2).toInt.toNat) hn_bi.1 (by omega) (by omega)
                rw [ca9e] at ca9c
                have ca9p := pa_ch (k := (x63).toInt) (k10) (by omega)
                rw [ca9e] at ca9p
                have cb9e : ptx f_na f_nb f_nc (z14).toInt.toNat (x63).toInt = r78 := Int32.toInt_inj.mp (by omega)
                have cb9c := ch_ok (nv := f_nv) (k := (x63).toInt) (x := (z14).toInt.toNat) hn_bi.1 (by omega) (by omega)
                rw [cb9e] at cb9c
                refine lv_iload hx hb dX11_areAlike_174 (lv_at hl 8 rfl) ?_
                have hPc := hP.sub (ws' := [(h_mm, .inr (8, (mo53 v_mm (.ref h_nv) (.ref h_nn) (.ref h_na) (.ref h_nb) (.ref h_nc) (.ref h_bto) (.ref h_bin) (.int x64) (.int x65)))), (h_nv, .inl (cy_nv, 8000, .inl f_nv)), (h_na, .inl (cy_na, 8000, .inl f_na)), (h_nb, .inl (cy_nb, 8000, .inl f_nb)), (h_nc, .inl (cy_nc, 8000, .inl f_nc)), (h_bto, .inl (cy_bto, 256, .inl f_bto)), (h_bin, .inl (cy_bin, 256, .inl f_bin)), (h_nn, .inl (cy_nn, 8000, .inr (.inl f_nn)))]) [4, 3, 5, 6, 7, 1, 2, 0] rfl
                have hDc := hD.sub (ws' := [(h_mm, .inr (8, (mo53 v_mm (.ref h_nv) (.ref h_nn) (.ref h_na) (.ref h_nb) (.ref h_nc) (.ref h_bto) (.ref h_bin) (.int x64) (.int x65)))), (h_nv, .inl (cy_nv, 8000, .inl f_nv)), (h_na, .inl (cy_na, 8000, .inl f_na)), (h_nb, .inl (cy_nb, 8000, .inl f_nb)), (h_nc, .inl (cy_nc, 8000, .inl f_nc)), (h_bto, .inl (cy_bto, 256, .inl f_bto)), (h_bin, .inl (cy_bin, 256, .inl f_bin)), (h_nn, .inl (cy_nn, 8000, .inr (.inl f_nn)))]) [4, 3, 5, 6, 7, 1, 2, 0] (by decide) rfl
                have hKc := hK.sub (tys' := [(cy_nv, .int), (cy_na, .int), (cy_nb, .int), (cy_nc, .int), (cy_bto, .int), (cy_bin, .int), (cy_nn, .long)]) [0, 1, 2, 3, 4, 5, 6] rfl
                have hFc := va_free (wc := [(h_mm, .inr (8, (mo53 v_mm (.ref h_nv) (.ref h_nn) (.ref h_na) (.ref h_nb) (.ref h_nc) (.ref h_bto) (.ref h_bin) (.int x64) (.int x65)))), (h_nv, .inl (cy_nv, 8000, .inl f_nv)), (h_na, .inl (cy_na, 8000, .inl f_na)), (h_nb, .inl (cy_nb, 8000, .inl f_nb)), (h_nc, .inl (cy_nc, 8000, .inl f_nc)), (h_bto, .inl (cy_bto, 256, .inl f_bto)), (h_bin, .inl (cy_bin, 256, .inl f_bin)), (h_nn, .inl (cy_nn, 8000, .inr (.inl f_nn)))]) hD hS hA [4, 3, 5, 6, 7, 1, 2, 0] rfl
                refine va_calli (va_runV (As := [.int r75, .int z3, .int r78, .int z15]) (rest := []) ⟨hx, hb, hml, hown, hts⟩ (ihf dC dI H.size h_mm h_nv h_na h_nb h_nc h_bto h_bin h_nn v_mm x64 x65 cy_nv f_nv cy_na f_na cy_nb f_nb cy_nc f_nc cy_bto f_bto cy_bin f_bin cy_nn f_nn r75 z3 r78 z15 i0 i1 N hz z4 (by omega) (by omega) hf_nv hf_na hf_nb hf_nc hf_bto hf_bin (by omega) (by omega) (by omega) (by omega) (by omega) (by omega) (by omega) hn_bi ca9p) (cwV 4 hts (gv hT w_m_X11_288 w_instanceMethod_X11_areAlike ws_sel_X11_areAlike w_ini_X11 w_code_X11_areAlike) rfl rfl rfl (by decide +kernel) ⟨(by dsimp only [headSpec]; omega), (by dsimp only [headSpec]; omega)⟩) ⟨pre_blind, va_recv hK hP (ci := 8) (q0 := 4) rfl rfl, pre_of hPc hKc hDc hN⟩ rfl rfl hl.1 rfl (lv_room (Nat.le_of_ble_eq_true rfl)) dX11_areAlike_176 ⟨(Nat.le_of_ble_eq_true rfl), (Nat.le_of_ble_eq_true rfl)⟩) hS (fun q _ h => hFc q h) hFc (fun r81 u t H locs ht hvm hq hB hz1 hk1 hS => ?_)
                obtain ⟨z82, z83⟩ := u
                obtain ⟨hP1, hD1⟩ := hB
                rw [ht] at hP1
                obtain ⟨hP, hD⟩ := va_join (wr := []) (w1 := [(h_mm, .inr (8, (mo53 v_mm (.ref h_nv) (.ref h_nn) (.ref h_na) (.ref h_nb) (.ref h_nc) (.ref h_bto) (.ref h_bin) (.int z82) (.int z83)))), (h_nv, .inl (cy_nv, 8000, .inl f_nv)), (h_na, .inl (cy_na, 8000, .inl f_na)), (h_nb, .inl (cy_nb, 8000, .inl f_nb)), (h_nc, .inl (cy_nc, 8000, .inl f_nc)), (h_bto, .inl (cy_bto, 256, .inl f_bto)), (h_bin, .inl (cy_bin, 256, .inl f_bin)), (h_nn, .inl (cy_nn, 8000, .inr (.inl f_nn)))]) hP hD [4, 3, 5, 6, 7, 1, 2, 0] [] rfl rfl (by decide) (by decide) hk1 hFc hP1 hD1
                have hP : va_P (dC, dI) cls [(h_mm, .inr (8, (mo53 v_mm (.ref h_nv) (.ref h_nn) (.ref h_na) (.ref h_nb) (.ref h_nc) (.ref h_bto) (.ref h_bin) (.int z82) (.int z83)))), (h_nv, .inl (cy_nv, 8000, .inl f_nv)), (h_na, .inl (cy_na, 8000, .inl f_na)), (h_nb, .inl (cy_nb, 8000, .inl f_nb)), (h_nc, .inl (cy_nc, 8000, .inl f_nc)), (h_bto, .inl (cy_bto, 256, .inl f_bto)), (h_bin, .inl (cy_bin, 256, .inl f_bin)), (h_nn, .inl (cy_nn, 8000, .inr (.inl f_nn)))] H := hP
                have hD : va_D A [(h_mm, .inr (8, (mo53 v_mm (.ref h_nv) (.ref h_nn) (.ref h_na) (.ref h_nb) (.ref h_nc) (.ref h_bto) (.ref h_bin) (.int z82) (.int z83)))), (h_nv, .inl (cy_nv, 8000, .inl f_nv)), (h_na, .inl (cy_na, 8000, .inl f_na)), (h_nb, .inl (cy_nb, 8000, .inl f_nb)), (h_nc, .inl (cy_nc, 8000, .inl f_nc)), (h_bto, .inl (cy_bto, 256, .inl f_bto)), (h_bin, .inl (cy_bin, 256, .inl f_bin)), (h_nn, .inl (cy_nn, 8000, .inr (.inl f_nn)))] := hD
                obtain ⟨k84, k85, k86⟩ := hq
                have k84 : 0 ≤ ((z82)).toInt ∧ ((z82)).toInt ≤ 7999 := k84
                have k85 : 0 ≤ ((z83)).toInt ∧ ((z83)).toInt ≤ 31 := k85
                have k86 : 0 ≤ (r81).toInt ∧ (r81).toInt ≤ 1 := k86
                refine lv_if_ne (tgt := 184) hx hb dX11_areAlike_179 (by decide) (fun c87 => ?_) (fun c87 => ?_)
                · have kc87 := (not_congr (cv_eq (rfl : (r81).toInt = (r81).toInt) (by decide : (0 : Int32).toInt = 0))).mp c87
                  obtain ⟨z88, ez88⟩ : ∃ y : Int32, y = x63 + 1 := ⟨_, rfl⟩
                  have tz88 : (z88).toInt = (x63).toInt + 1 := by rw [ez88]; exact i_add rfl (by decide) (by omega)
                  refine lv_iinc (v := z88) (lv' := [(9, .int z88), (0, .ref h_mm), (1, .int p1), (2, .int p2), (3, .int p3), (4, .int p4), (5, .int z2), (6, .int z3), (7, .int z14), (8, .int z15)]) hx hb dX11_areAlike_184 hl (k := 9) rfl (by rw [ez88]; rfl) (by decide) rfl (fun ls hl => ?_)
                  refine lv_goto (tgt := 144) hx hb dX11_areAlike_187 (by decide) ?_
                  have hP : va_P (dC, dI) cls [(h_nn, .inl (cy_nn, 8000, .inr (.inl f_nn))), (h_bto, .inl (cy_bto, 256, .inl f_bto)), (h_bin, .inl (cy_bin, 256, .inl f_bin)), (h_mm, .inr (8, (mo53 v_mm (.ref h_nv) (.ref h_nn) (.ref h_na) (.ref h_nb) (.ref h_nc) (.ref h_bto) (.ref h_bin) (.int z82) (.int z83)))), (h_nv, .inl (cy_nv, 8000, .inl f_nv)), (h_na, .inl (cy_na, 8000, .inl f_na)), (h_nb, .inl (cy_nb, 8000, .inl f_nb)), (h_nc, .inl (cy_nc, 8000, .inl f_nc))] H := hP.sub [7, 5, 6, 0, 1, 2, 3, 4] rfl
                  have hD : va_D A [(h_nn, .inl (cy_nn, 8000, .inr (.inl f_nn))), (h_bto, .inl (cy_bto, 256, .inl f_bto)), (h_bin, .inl (cy_bin, 256, .inl f_bin)), (h_mm, .inr (8, (mo53 v_mm (.ref h_nv) (.ref h_nn) (.ref h_na) (.ref h_nb) (.ref h_nc) (.ref h_bto) (.ref h_bin) (.int z82) (.int z83)))), (h_nv, .inl (cy_nv, 8000, .inl f_nv)), (h_na, .inl (cy_na, 8000, .inl f_na)), (h_nb, .inl (cy_nb, 8000, .inl f_nb)), (h_nc, .inl (cy_nc, 8000, .inl f_nc))] := hD.sub [7, 5, 6, 0, 1, 2, 3, 4] (by decide) rfl
                  exact ih67 (z88) (z82) (z83) _ _ _ (by omega) (by omega) (by omega) (by omega) hP hD hS (lv_sub hl [1, 2, 3, 4, 5, 6, 7, 8, 9, 0] rfl)
                · have kc87 := (cv_eq (rfl : (r81).toInt = (r81).toInt) (by decide : (0 : Int32).toInt = 0)).mp c87
                  refine lv_iconst (v := 0) hx hb dX11_areAlike_182 (by decide) ?_
                  refine W.widen (k := 0) (n := 0) (Nat.le_of_ble_eq_true rfl) (Nat.le_of_ble_eq_true rfl) ?_
                  have cst0 : (0 : Int32).toInt = 0 := by decide
                  have w89 : 0 ≤ ((z82)).toInt ∧ ((z82)).toInt ≤ 7999 := by omega
                  have w90 : 0 ≤ ((z83)).toInt ∧ ((z83)).toInt ≤ 31 := by omega
                  have w91 : 0 ≤ (0 : Int32).toInt ∧ (0 : Int32).toInt ≤ 1 := by omega
                  exact W.zret (v := 0) (ty := .boolean) hx hb hr (by decide) (fun t ht hW => ⟨⟨0, (z82, z83), rfl, ⟨w89, w90, w91⟩, by rw [ht]; exact hP, hD⟩, hS.F ht⟩) hS.2.2 dX11_areAlike_183
          have cst0 : (0 : Int32).toInt = 0 := by decide
          exact lp66 _ (0) (z14) (z15) _ _ _ (by decide) (by omega) (by omega) (Nat.le_refl _) hP hD hS (lv_sub hl [5, 6, 7, 8, 9, 4, 3, 2, 1, 0] rfl)
        · have kc62 := (not_congr (cv_eq (rfl : (r56).toInt = (r56).toInt) (rfl : (r59).toInt = (r59).toInt))).mp c62
          refine lv_iconst (v := 0) hx hb dX11_areAlike_139 (by decide) ?_
          have hP : va_P (dC, dI) cls [(h_mm, .inr (8, (mo53 v_mm (.ref h_nv) (.ref h_nn) (.ref h_na) (.ref h_nb) (.ref h_nc) (.ref h_bto) (.ref h_bin) (.int z14) (.int z15)))), (h_nv, .inl (cy_nv, 8000, .inl f_nv)), (h_na, .inl (cy_na, 8000, .inl f_na)), (h_nb, .inl (cy_nb, 8000, .inl f_nb)), (h_nc, .inl (cy_nc, 8000, .inl f_nc)), (h_bto, .inl (cy_bto, 256, .inl f_bto)), (h_bin, .inl (cy_bin, 256, .inl f_bin)), (h_nn, .inl (cy_nn, 8000, .inr (.inl f_nn)))] H := hP.sub [3, 4, 5, 6, 7, 1, 2, 0] rfl
          have hD : va_D A [(h_mm, .inr (8, (mo53 v_mm (.ref h_nv) (.ref h_nn) (.ref h_na) (.ref h_nb) (.ref h_nc) (.ref h_bto) (.ref h_bin) (.int z14) (.int z15)))), (h_nv, .inl (cy_nv, 8000, .inl f_nv)), (h_na, .inl (cy_na, 8000, .inl f_na)), (h_nb, .inl (cy_nb, 8000, .inl f_nb)), (h_nc, .inl (cy_nc, 8000, .inl f_nc)), (h_bto, .inl (cy_bto, 256, .inl f_bto)), (h_bin, .inl (cy_bin, 256, .inl f_bin)), (h_nn, .inl (cy_nn, 8000, .inr (.inl f_nn)))] := hD.sub [3, 4, 5, 6, 7, 1, 2, 0] (by decide) rfl
          refine W.widen (k := 0) (n := 0) (Nat.le_of_ble_eq_true rfl) (Nat.le_of_ble_eq_true rfl) ?_
          have cst0 : (0 : Int32).toInt = 0 := by decide
          have w92 : 0 ≤ ((z14)).toInt ∧ ((z14)).toInt ≤ 7999 := by omega
          have w93 : 0 ≤ ((z15)).toInt ∧ ((z15)).toInt ≤ 31 := by omega
          have w94 : 0 ≤ (0 : Int32).toInt ∧ (0 : Int32).toInt ≤ 1 := by omega
          exact W.zret (v := 0) (ty := .boolean) hx hb hr (by decide) (fun t ht hW => ⟨⟨0, (z14, z15), rfl, ⟨w92, w93, w94⟩, by rw [ht]; exact hP, hD⟩, hS.F ht⟩) hS.2.2 dX11_areAlike_140
    · have kc48 := (not_congr (cv_eq (rfl : (z47).toInt = (z47).toInt) (by decide : ((-1) : Int32).toInt = -1))).mp c48
      refine lv_aload_n hx hb dX11_areAlike_59 rfl (lv_at hl 4 rfl) ?_
      refine va_get (D := (dC, dI)) (ci := 8) (v := .ref h_nv) (C := RX11) (T := TX11) (N := 71) hx hb hw iwX11 hown hK hP 1 rfl rfl 1 (by decide) (hw _ w_f_X11_17) (fun _ h9 => h9) rfl dX11_areAlike_60 ?_
      refine lv_iload hx hb dX11_areAlike_63 (lv_at hl 3 rfl) ?_
      refine va_iald hx hb hK hP 2 0 rfl rfl (i := z2) (vp_in_iff.mpr (by omega)) dX11_areAlike_65 ?_
      refine lv_topi (fun z95 ez95 => ?_)
      have qz95 : (z95).toInt = (z25).toInt := by rw [ez95, ez25]
      have rz95 : -1 ≤ (z95).toInt ∧ (z95).toInt ≤ 7 := by rw [ez95]; exact hf_nv _
      refine lv_iconst (v := (-1)) hx hb dX11_areAlike_66 (by decide) ?_
      refine lv_icmp_eq (tgt := 104) hx hb dX11_areAlike_67 (by decide) (fun _ => ?_) (fun c96 => False.elim (by have kc96 := (not_congr (cv_eq (rfl : (z95).toInt = (z95).toInt) (by decide : ((-1) : Int32).toInt = -1))).mp c96; omega))
      refine lv_iconst (v := 0) hx hb dX11_areAlike_104 (by decide) ?_
      have hP : va_P (dC, dI) cls [(h_mm, .inr (8, (mo53 v_mm (.ref h_nv) (.ref h_nn) (.ref h_na) (.ref h_nb) (.ref h_nc) (.ref h_bto) (.ref h_bin) (.int z14) (.int z15)))), (h_nv, .inl (cy_nv, 8000, .inl f_nv)), (h_na, .inl (cy_na, 8000, .inl f_na)), (h_nb, .inl (cy_nb, 8000, .inl f_nb)), (h_nc, .inl (cy_nc, 8000, .inl f_nc)), (h_bto, .inl (cy_bto, 256, .inl f_bto)), (h_bin, .inl (cy_bin, 256, .inl f_bin)), (h_nn, .inl (cy_nn, 8000, .inr (.inl f_nn)))] H := hP.sub [1, 2, 3, 4, 5, 6, 7, 0] rfl
      have hD : va_D A [(h_mm, .inr (8, (mo53 v_mm (.ref h_nv) (.ref h_nn) (.ref h_na) (.ref h_nb) (.ref h_nc) (.ref h_bto) (.ref h_bin) (.int z14) (.int z15)))), (h_nv, .inl (cy_nv, 8000, .inl f_nv)), (h_na, .inl (cy_na, 8000, .inl f_na)), (h_nb, .inl (cy_nb, 8000, .inl f_nb)), (h_nc, .inl (cy_nc, 8000, .inl f_nc)), (h_bto, .inl (cy_bto, 256, .inl f_bto)), (h_bin, .inl (cy_bin, 256, .inl f_bin)), (h_nn, .inl (cy_nn, 8000, .inr (.inl f_nn)))] := hD.sub [1, 2, 3, 4, 5, 6, 7, 0] (by decide) rfl
      refine W.widen (k := 0) (n := 0) (Nat.le_of_ble_eq_true rfl) (Nat.le_of_ble_eq_true rfl) ?_
      have cst0 : (0 : Int32).toInt = 0 := by decide
      have w97 : 0 ≤ ((z14)).toInt ∧ ((z14)).toInt ≤ 7999 := by omega
      have w98 : 0 ≤ ((z15)).toInt ∧ ((z15)).toInt ≤ 31 := by omega
      have w99 : 0 ≤ (0 : Int32).toInt ∧ (0 : Int32).toInt ≤ 1 := by omega
      exact W.zret (v := 0) (ty := .boolean) hx hb hr (by decide) (fun t ht hW => ⟨⟨0, (z14, z15), rfl, ⟨w97, w98, w99⟩, by rw [ht]; exact hP, hD⟩, hS.F ht⟩) hS.2.2 dX11_areAlike_105

def K_X11_counts (l : Launch) (fu : Nat) : Prop := ∀ (dC : Nat → ClassId) (dI : Nat → Nat → Nat) (sz : Nat) (h_mm : Nat) (h_nv : Nat) (h_na : Nat) (h_nb : Nat) (h_nc : Nat) (h_bto : Nat) (h_bin : Nat) (v_mm : Nat → Value) (x_mm_goneTo : Int32) (x_mm_goneIn : Int32) (x_mm_counted : Int32) (cy_nv : ClassId) (f_nv : Nat → Int32) (cy_na : ClassId) (f_na : Nat → Int32) (cy_nb : ClassId) (f_nb : Nat → Int32) (cy_nc : ClassId) (f_nc : Nat → Int32) (cy_bto : ClassId) (f_bto : Nat → Int32) (cy_bin : ClassId) (f_bin : Nat → Int32) (p1 : Int32) (p2 : Int32) (p3 : Int32) (i0 : Int) (i1 : Int) (N : Int) (hz : Nat → Nat) (P : List Nat) (hx_mm_goneTo : 0 ≤ (x_mm_goneTo).toInt ∧ (x_mm_goneTo).toInt ≤ 7999) (hx_mm_goneIn : 0 ≤ (x_mm_goneIn).toInt ∧ (x_mm_goneIn).toInt ≤ 31) (hx_mm_counted : 0 ≤ (x_mm_counted).toInt ∧ (x_mm_counted).toInt ≤ 2001) (hf_nv : Rg (-1) 7 f_nv) (hf_na : Rg (-1) 7999 f_na) (hf_nb : Rg (-1) 7999 f_nb) (hf_nc : Rg (-1) 7999 f_nc) (hf_bto : Rg (-1) 7999 f_bto) (hf_bin : Rg 0 31 f_bin) (q0 : 0 ≤ i0 ∧ i0 ≤ i1 ∧ i1 ≤ 31) (q1 : N ≤ 8000) (q2 : 0 ≤ (p1).toInt ∧ (p1).toInt < N) (q3 : i0 ≤ (p2).toInt ∧ (p2).toInt ≤ i1) (q4 : 0 ≤ (p3).toInt ∧ (p3).toInt ≤ 2000) (q5 : hz (p1).toInt.toNat + 6 * (256 - (P).length) + 1 ≤ fu) (hn_bi : BI i0 i1 N hz f_nv f_na f_nb f_nc f_bto f_bin) (hn_pa : PA i0 P f_nv f_na f_nb f_nc f_bto f_bin (p1).toInt.toNat (p2).toInt), Met l yX11_counts (Ws yX11_counts cX11_counts 7 none) (({ frames := fu + 2, cells := 0, slots := 0, locals := 26 * fu + 45 } : Room)) (PRE (dC, dI) cls [(cy_nv, .int), (cy_na, .int), (cy_nb, .int), (cy_nc, .int), (cy_bto, .int), (cy_bin, .int)] [(h_mm, .inr (8, (mo54 v_mm (.ref h_nv) (.ref h_na) (.ref h_nb) (.ref h_nc) (.ref h_bto) (.ref h_bin) (.int x_mm_goneTo) (.int x_mm_goneIn) (.int x_mm_counted)))), (h_nv, .inl (cy_nv, 8000, .inl f_nv)), (h_na, .inl (cy_na, 8000, .inl f_na)), (h_nb, .inl (cy_nb, 8000, .inl f_nb)), (h_nc, .inl (cy_nc, 8000, .inl f_nc)), (h_bto, .inl (cy_bto, 256, .inl f_bto)), (h_bin, .inl (cy_bin, 256, .inl f_bin))] sz [.ref h_mm, .int p1, .int p2, .int p3]) (va_Qv (fun (u : (Int32) × (Int32) × (Int32)) => (0 ≤ (u.1).toInt ∧ (u.1).toInt ≤ 7999) ∧ (0 ≤ (u.2.1).toInt ∧ (u.2.1).toInt ≤ 31) ∧ (0 ≤ (u.2.2).toInt ∧ (u.2.2).toInt ≤ 2001)) (fun (u : (Int32) × (Int32) × (Int32)) (t : State) => va_P (dC, dI) cls [(h_mm, .inr (8, (mo54 v_mm (.ref h_nv) (.ref h_na) (.ref h_nb) (.ref h_nc) (.ref h_bto) (.ref h_bin) (.int u.1) (.int u.2.1) (.int u.2.2)))), (h_nv, .inl (cy_nv, 8000, .inl f_nv)), (h_na, .inl (cy_na, 8000, .inl f_na)), (h_nb, .inl (cy_nb, 8000, .inl f_nb)), (h_nc, .inl (cy_nc, 8000, .inl f_nc)), (h_bto, .inl (cy_bto, 256, .inl f_bto)), (h_bin, .inl (cy_bin, 256, .inl f_bin))] t.heap ∧ va_D (va_A [(h_mm, .inr (8, (mo54 v_mm (.ref h_nv) (.ref h_na) (.ref h_nb) (.ref h_nc) (.ref h_bto) (.ref h_bin) (.int x_mm_goneTo) (.int x_mm_goneIn) (.int x_mm_counted)))), (h_nv, .inl (cy_nv, 8000, .inl f_nv)), (h_na, .inl (cy_na, 8000, .inl f_na)), (h_nb, .inl (cy_nb, 8000, .inl f_nb)), (h_nc, .inl (cy_nc, 8000, .inl f_nc)), (h_bto, .inl (cy_bto, 256, .inl f_bto)), (h_bin, .inl (cy_bin, 256, .inl f_bin))] sz) [(h_mm, .inr (8, (mo54 v_mm (.ref h_nv) (.ref h_na) (.ref h_nb) (.ref h_nc) (.ref h_bto) (.ref h_bin) (.int u.1) (.int u.2.1) (.int u.2.2)))), (h_nv, .inl (cy_nv, 8000, .inl f_nv)), (h_na, .inl (cy_na, 8000, .inl f_na)), (h_nb, .inl (cy_nb, 8000, .inl f_nb)), (h_nc, .inl (cy_nc, 8000, .inl f_nc)), (h_bto, .inl (cy_bto, 256, .inl f_bto)), (h_bin, .inl (cy_bin, 256, .inl f_bin))]) (va_A [(h_mm, .inr (8, (mo54 v_mm (.ref h_nv) (.ref h_na) (.ref h_nb) (.ref h_nc) (.ref h_bto) (.ref h_bin) (.int x_mm_goneTo) (.int x_mm_goneIn) (.int x_mm_counted)))), (h_nv, .inl (cy_nv, 8000, .inl f_nv)), (h_na, .inl (cy_na, 8000, .inl f_na)), (h_nb, .inl (cy_nb, 8000, .inl f_nb)), (h_nc, .inl (cy_nc, 8000, .inl f_nc)), (h_bto, .inl (cy_bto, 256, .inl f_bto)), (h_bin, .inl (cy_bin, 256, .inl f_bin))] sz)) 0 0 (va_A [(h_mm, .inr (8, (mo54 v_mm (.ref h_nv) (.ref h_na) (.ref h_nb) (.ref h_nc) (.ref h_bto) (.ref h_bin) (.int x_mm_goneTo) (.int x_mm_goneIn) (.int x_mm_counted)))), (h_nv, .inl (cy_nv, 8000, .inl f_nv)), (h_na, .inl (cy_na, 8000, .inl f_na)), (h_nb, .inl (cy_nb, 8000, .inl f_nb)), (h_nc, .inl (cy_nc, 8000, .inl f_nc)), (h_bto, .inl (cy_bto, 256, .inl f_bto)), (h_bin, .inl (cy_bin, 256, .inl f_bin))] sz)
set_option maxHeartbeats 8000000 in
set_option maxRecDepth 100000 in
theorem c_X11_counts (l : Launch) (fu : Nat) : K_X11_counts l fu := by
  refine Nat.rec (motive := fun fu => K_X11_counts l fu) ?_ ?_ fu
  · intro dC dI sz h_mm h_nv h_na h_nb h_nc h_bto h_bin v_mm x_mm_goneTo x_mm_goneIn x_mm_counted cy_nv f_nv cy_na f_na cy_nb f_nb cy_nc f_nc cy_bto f_bto cy_bin f_bin p1 p2 p3 i0 i1 N hz P hx_mm_goneTo hx_mm_goneIn hx_mm_counted hf_nv hf_na hf_nb hf_nc hf_bto hf_bin q0 q1 q2 q3 q4 q5 hn_bi hn_pa
    have h09 : Nat.zero = 0 := rfl
    exact False.elim (by omega)
  intro fu ihf
  intro dC dI sz h_mm h_nv h_na h_nb h_nc h_bto h_bin v_mm x_mm_goneTo x_mm_goneIn x_mm_counted cy_nv f_nv cy_na f_na cy_nb f_nb cy_nc f_nc cy_bto f_bto cy_bin f_bin p1 p2 p3 i0 i1 N hz P hx_mm_goneTo hx_mm_goneIn hx_mm_counted hf_nv hf_na hf_nb hf_nc hf_bto hf_bin q0 q1 q2 q3 q4 q5 hn_bi hn_pa
  refine Met.ofW (cc := cX11_counts) (maxL := 7) (ret := none) (by decide) rfl ?_
  intro p e s m args below meth c s₁ B hml hv
  obtain ⟨rfl, hsz, hP, hK, hD0, hN⟩ := hv
  have hx := B.exec
  have hb := B.bytes
  have hr := B.returns
  have hts := atoms_spec (ws := Ws yX11_counts cX11_counts 7 none) B.pre
  have hT : ∀ w ∈ WALL, w ∈ Ws yX11_counts cX11_counts 7 none := fun w h => List.mem_cons_of_mem _ h
  have hw := fun w (h : w ∈ WALL) => hts w (hT w h)
  have hown : s.vm.findClass RX11 = some m.cls := findClass_of_methodNamed B.named
  have hlocks := B.notSynchronized
  subst hsz
  have hD := hD0.self (sz := s.heap.size)
  generalize hAe : va_A [(h_mm, .inr (8, (mo54 v_mm (.ref h_nv) (.ref h_na) (.ref h_nb) (.ref h_nc) (.ref h_bto) (.ref h_bin) (.int x_mm_goneTo) (.int x_mm_goneIn) (.int x_mm_counted)))), (h_nv, .inl (cy_nv, 8000, .inl f_nv)), (h_na, .inl (cy_na, 8000, .inl f_na)), (h_nb, .inl (cy_nb, 8000, .inl f_nb)), (h_nc, .inl (cy_nc, 8000, .inl f_nc)), (h_bto, .inl (cy_bto, 256, .inl f_bto)), (h_bin, .inl (cy_bin, 256, .inl f_bin))] s.heap.size = A at hD ⊢
  have hA : ∀ q : Nat, s.heap.size ≤ q → A q := fun q h => by rw [← hAe]; exact Or.inr h
  have hS : va_S A s.heap s.heap [] := va_S.rf
  have hl := lv_entry ([.ref h_mm, .int p1, .int p2, .int p3]) (n := 7) (Nat.le_of_ble_eq_true rfl)
  rw [lg_entry_eq]
  generalize (lg_sl ([.ref h_mm, .int p1, .int p2, .int p3]) ++ List.replicate (7 - (lg_sl ([.ref h_mm, .int p1, .int p2, .int p3])).length) Slot.unset).toArray = ls at hl ⊢
  have hl : lv_has ls 7 [(0, .ref h_mm), (1, .int p1), (2, .int p2), (3, .int p3)] := hl
  refine lv_aload_n hx hb dX11_counts_0 rfl (lv_at hl 0 rfl) ?_
  refine va_get (D := (dC, dI)) (ci := 8) (v := .int x_mm_counted) (C := RX11) (T := TX11) (N := 71) hx hb hw iwX11 hown hK hP 0 rfl rfl 33 (by decide) (hw _ w_f_X11_291) (fun _ h9 => h9) rfl dX11_counts_1 ?_
  refine lv_iload_n hx hb dX11_counts_4 rfl (lv_at hl 3 rfl) ?_
  refine lv_icmp_le (tgt := 9) hx hb dX11_counts_5 (by decide) (fun c1 => ?_) (fun c1 => ?_)
  · have kc1 := (cv_le (rfl : (x_mm_counted).toInt = (x_mm_counted).toInt) (rfl : (p3).toInt = (p3).toInt)).mp c1
    refine lv_aload_n hx hb dX11_counts_9 rfl (lv_at hl 0 rfl) ?_
    refine lv_aload_n hx hb dX11_counts_10 rfl (lv_at hl 0 rfl) ?_
    refine va_get (D := (dC, dI)) (ci := 8) (v := .int x_mm_counted) (C := RX11) (T := TX11) (N := 71) hx hb hw iwX11 hown hK hP 0 rfl rfl 33 (by decide) (hw _ w_f_X11_291) (fun _ h9 => h9) rfl dX11_counts_11 ?_
    refine lv_iconst (v := 1) hx hb dX11_counts_14 (by decide) ?_
    refine lv_iadd hx hb dX11_counts_15 ?_
    refine lv_topi (fun z2 ez2 => ?_)
    have tz2 : (z2).toInt = (x_mm_counted).toInt + 1 := by rw [ez2]; exact i_add rfl (by decide) (by omega)
    refine va_put (D := (dC, dI)) (ci := 8) (v := .int z2) (ty := tyX11 33) (C := RX11) (T := TX11) (N := 71) hx hb hw iwX11 tyX11 tyX11_ok nmX11 hown hK hP hD hS 0 rfl rfl 33 (by decide) (hw _ w_f_X11_291) (fun _ h9 => h9) rfl (tyX11_ok 33 (by decide)) rfl rfl (Nat.le_of_ble_eq_true rfl) dX11_counts_16 (fun H locs hP hD hS => ?_)
    have hP : va_P (dC, dI) cls [(h_mm, .inr (8, (mo54 v_mm (.ref h_nv) (.ref h_na) (.ref h_nb) (.ref h_nc) (.ref h_bto) (.ref h_bin) (.int x_mm_goneTo) (.int x_mm_goneIn) (.int z2)))), (h_nv, .inl (cy_nv, 8000, .inl f_nv)), (h_na, .inl (cy_na, 8000, .inl f_na)), (h_nb, .inl (cy_nb, 8000, .inl f_nb)), (h_nc, .inl (cy_nc, 8000, .inl f_nc)), (h_bto, .inl (cy_bto, 256, .inl f_bto)), (h_bin, .inl (cy_bin, 256, .inl f_bin))] H := hP
    have hD : va_D A [(h_mm, .inr (8, (mo54 v_mm (.ref h_nv) (.ref h_na) (.ref h_nb) (.ref h_nc) (.ref h_bto) (.ref h_bin) (.int x_mm_goneTo) (.int x_mm_goneIn) (.int z2)))), (h_nv, .inl (cy_nv, 8000, .inl f_nv)), (h_na, .inl (cy_na, 8000, .inl f_na)), (h_nb, .inl (cy_nb, 8000, .inl f_nb)), (h_nc, .inl (cy_nc, 8000, .inl f_nc)), (h_bto, .inl (cy_bto, 256, .inl f_bto)), (h_bin, .inl (cy_bin, 256, .inl f_bin))] := hD
    refine lv_aload_n hx hb dX11_counts_19 rfl (lv_at hl 0 rfl) ?_
    refine lv_iload_n hx hb dX11_counts_20 rfl (lv_at hl 1 rfl) ?_
    refine lv_iload_n hx hb dX11_counts_21 rfl (lv_at hl 2 rfl) ?_
    have hPc := hP.sub (ws' := [(h_mm, .inr (8, (mo54 v_mm (.ref h_nv) (.ref h_na) (.ref h_nb) (.ref h_nc) (.ref h_bto) (.ref h_bin) (.int x_mm_goneTo) (.int x_mm_goneIn) (.int z2)))), (h_nv, .inl (cy_nv, 8000, .inl f_nv)), (h_na, .inl (cy_na, 8000, .inl f_na)), (h_nb, .inl (cy_nb, 8000, .inl f_nb)), (h_nc, .inl (cy_nc, 8000, .inl f_nc)), (h_bto, .inl (cy_bto, 256, .inl f_bto)), (h_bin, .inl (cy_bin, 256, .inl f_bin))]) [0, 1, 2, 3, 4, 5, 6] rfl
    have hDc := hD.sub (ws' := [(h_mm, .inr (8, (mo54 v_mm (.ref h_nv) (.ref h_na) (.ref h_nb) (.ref h_nc) (.ref h_bto) (.ref h_bin) (.int x_mm_goneTo) (.int x_mm_goneIn) (.int z2)))), (h_nv, .inl (cy_nv, 8000, .inl f_nv)), (h_na, .inl (cy_na, 8000, .inl f_na)), (h_nb, .inl (cy_nb, 8000, .inl f_nb)), (h_nc, .inl (cy_nc, 8000, .inl f_nc)), (h_bto, .inl (cy_bto, 256, .inl f_bto)), (h_bin, .inl (cy_bin, 256, .inl f_bin))]) [0, 1, 2, 3, 4, 5, 6] (by decide) rfl
    have hKc := hK.sub (tys' := [(cy_nv, .int), (cy_na, .int), (cy_nb, .int), (cy_nc, .int), (cy_bto, .int), (cy_bin, .int)]) [0, 1, 2, 3, 4, 5] rfl
    have hFc := va_free (wc := [(h_mm, .inr (8, (mo54 v_mm (.ref h_nv) (.ref h_na) (.ref h_nb) (.ref h_nc) (.ref h_bto) (.ref h_bin) (.int x_mm_goneTo) (.int x_mm_goneIn) (.int z2)))), (h_nv, .inl (cy_nv, 8000, .inl f_nv)), (h_na, .inl (cy_na, 8000, .inl f_na)), (h_nb, .inl (cy_nb, 8000, .inl f_nb)), (h_nc, .inl (cy_nc, 8000, .inl f_nc)), (h_bto, .inl (cy_bto, 256, .inl f_bto)), (h_bin, .inl (cy_bin, 256, .inl f_bin))]) hD hS hA [0, 1, 2, 3, 4, 5, 6] rfl
    refine va_callv (va_runV (As := [.int p1, .int p2]) (rest := []) ⟨hx, hb, hml, hown, hts⟩ (c_X11_goesTo l dC dI H.size h_mm h_nv h_na h_nb h_nc h_bto h_bin (fun k => List.getD (mo54 v_mm (.ref h_nv) (.ref h_na) (.ref h_nb) (.ref h_nc) (.ref h_bto) (.ref h_bin) (.int x_mm_goneTo) (.int x_mm_goneIn) (.int z2)) k .null) x_mm_goneTo x_mm_goneIn cy_nv f_nv cy_na f_na cy_nb f_nb cy_nc f_nc cy_bto f_bto cy_bin f_bin p1 p2 i0 i1 N hz P (fu + 1) (by omega) (by omega) hf_nv hf_na hf_nb hf_nc hf_bto hf_bin (by omega) (by omega) (by omega) (by omega) (by omega) hn_bi hn_pa) (cwV 2 hts (gv hT w_m_X11_273 w_instanceMethod_X11_goesTo ws_sel_X11_goesTo w_ini_X11 w_code_X11_goesTo) rfl rfl rfl (by decide +kernel) ⟨(by dsimp only [headSpec]; omega), (by dsimp only [headSpec]; omega)⟩) ⟨pre_blind, va_recv hK hP (ci := 8) (q0 := 0) rfl rfl, pre_of hPc hKc hDc hN⟩ rfl rfl hl.1 rfl (lv_room (Nat.le_of_ble_eq_true rfl)) dX11_counts_22 ⟨(Nat.le_of_ble_eq_true rfl), (Nat.le_of_ble_eq_true rfl)⟩) hS (fun q _ h => hFc q h) hFc (fun u t H locs ht hvm hq hB hz1 hk1 hS => ?_)
    obtain ⟨z4, z5, z6⟩ := u
    obtain ⟨hP1, hD1⟩ := hB
    rw [ht] at hP1
    obtain ⟨hP, hD⟩ := va_join (wr := []) (w1 := [(h_mm, .inr (8, (mo54 v_mm (.ref h_nv) (.ref h_na) (.ref h_nb) (.ref h_nc) (.ref h_bto) (.ref h_bin) (.int z4) (.int z5) (.int z2)))), (h_nv, .inl (cy_nv, 8000, .inl f_nv)), (h_na, .inl (cy_na, 8000, .inl f_na)), (h_nb, .inl (cy_nb, 8000, .inl f_nb)), (h_nc, .inl (cy_nc, 8000, .inl f_nc)), (h_bto, .inl (cy_bto, 256, .inl f_bto)), (h_bin, .inl (cy_bin, 256, .inl f_bin))]) hP hD [0, 1, 2, 3, 4, 5, 6] [] rfl rfl (by decide) (by decide) hk1 hFc hP1 hD1
    have hP : va_P (dC, dI) cls [(h_mm, .inr (8, (mo54 v_mm (.ref h_nv) (.ref h_na) (.ref h_nb) (.ref h_nc) (.ref h_bto) (.ref h_bin) (.int z4) (.int z5) (.int z2)))), (h_nv, .inl (cy_nv, 8000, .inl f_nv)), (h_na, .inl (cy_na, 8000, .inl f_na)), (h_nb, .inl (cy_nb, 8000, .inl f_nb)), (h_nc, .inl (cy_nc, 8000, .inl f_nc)), (h_bto, .inl (cy_bto, 256, .inl f_bto)), (h_bin, .inl (cy_bin, 256, .inl f_bin))] H := hP
    have hD : va_D A [(h_mm, .inr (8, (mo54 v_mm (.ref h_nv) (.ref h_na) (.ref h_nb) (.ref h_nc) (.ref h_bto) (.ref h_bin) (.int z4) (.int z5) (.int z2)))), (h_nv, .inl (cy_nv, 8000, .inl f_nv)), (h_na, .inl (cy_na, 8000, .inl f_na)), (h_nb, .inl (cy_nb, 8000, .inl f_nb)), (h_nc, .inl (cy_nc, 8000, .inl f_nc)), (h_bto, .inl (cy_bto, 256, .inl f_bto)), (h_bin, .inl (cy_bin, 256, .inl f_bin))] := hD
    obtain ⟨k7, k8, k9, k10, k11, k12, k13, k14⟩ := hq
    have k7 : 0 ≤ ((z4)).toInt ∧ ((z4)).toInt ≤ 7999 := k7
    have k8 : 0 ≤ ((z5)).toInt ∧ ((z5)).toInt ≤ 31 := k8
    have k9 : 0 ≤ ((z4)).toInt ∧ ((z4)).toInt < (N) := k9
    have k10 : (i0) ≤ ((z5)).toInt ∧ ((z5)).toInt ≤ (i1) := k10
    have k11 : (hz) ((z4)).toInt.toNat + 6 * (256 - ((z6)).length) + 1 ≤ ((fu + 1)) := k11
    have k12 : PA (i0) (z6) f_nv f_na f_nb f_nc f_bto f_bin ((z4)).toInt.toNat ((z5)).toInt := k12
    have k13 : (f_nv ((z4)).toInt.toNat).toInt = -1 ∨ (f_bto (8 * ((z5)).toInt + (f_nv ((z4)).toInt.toNat).toInt).toNat).toInt = -1 := k13
    have k14 : ∀ tt : Nat, (f_bto tt).toInt = -1 → NR f_nv f_na f_nb f_nc f_bto f_bin ((z4)).toInt.toNat ((z5)).toInt tt → NR f_nv f_na f_nb f_nc f_bto f_bin ((p1)).toInt.toNat ((p2)).toInt tt := k14
    refine lv_aload_n hx hb dX11_counts_25 rfl (lv_at hl 0 rfl) ?_
    refine va_get (D := (dC, dI)) (ci := 8) (v := .int z4) (C := RX11) (T := TX11) (N := 71) hx hb hw iwX11 hown hK hP 0 rfl rfl 31 (by decide) (hw _ w_f_X11_264) (fun _ h9 => h9) rfl dX11_counts_26 ?_
    refine lv_istore (lv' := [(4, .int z4), (0, .ref h_mm), (1, .int p1), (2, .int p2), (3, .int p3)]) hx hb dX11_counts_29 hl (by decide) rfl (fun ls hl => ?_)
    refine lv_aload_n hx hb dX11_counts_31 rfl (lv_at hl 1 rfl) ?_
    refine va_get (D := (dC, dI)) (ci := 8) (v := .int z5) (C := RX11) (T := TX11) (N := 71) hx hb hw iwX11 hown hK hP 0 rfl rfl 32 (by decide) (hw _ w_f_X11_267) (fun _ h9 => h9) rfl dX11_counts_32 ?_
    refine lv_istore (lv' := [(5, .int z5), (4, .int z4), (0, .ref h_mm), (1, .int p1), (2, .int p2), (3, .int p3)]) hx hb dX11_counts_35 hl (by decide) rfl (fun ls hl => ?_)
    refine lv_iconst (v := 0) hx hb dX11_counts_37 (by decide) ?_
    refine lv_istore (lv' := [(6, .int 0), (5, .int z5), (4, .int z4), (0, .ref h_mm), (1, .int p1), (2, .int p2), (3, .int p3)]) hx hb dX11_counts_38 hl (by decide) rfl (fun ls hl => ?_)
    have lp19 : ∀ (n : Nat) (x15 : Int32) (x16 : Int32) (x17 : Int32) (x18 : Int32) (H : Heap) (locs : List Loc) (ls : Array Slot), (0 ≤ (x15).toInt ∧ (x15).toInt ≤ 3) → (0 ≤ (x16).toInt ∧ (x16).toInt ≤ 7999) → (0 ≤ (x17).toInt ∧ (x17).toInt ≤ 31) → (0 ≤ (x18).toInt ∧ (x18).toInt ≤ 2001) → (3 - (x15).toInt).toNat + 1 ≤ n → va_P (dC, dI) cls [(h_mm, .inr (8, (mo54 v_mm (.ref h_nv) (.ref h_na) (.ref h_nb) (.ref h_nc) (.ref h_bto) (.ref h_bin) (.int x16) (.int x17) (.int x18)))), (h_nv, .inl (cy_nv, 8000, .inl f_nv)), (h_na, .inl (cy_na, 8000, .inl f_na)), (h_nb, .inl (cy_nb, 8000, .inl f_nb)), (h_nc, .inl (cy_nc, 8000, .inl f_nc)), (h_bto, .inl (cy_bto, 256, .inl f_bto)), (h_bin, .inl (cy_bin, 256, .inl f_bin))] H → va_D A [(h_mm, .inr (8, (mo54 v_mm (.ref h_nv) (.ref h_na) (.ref h_nb) (.ref h_nc) (.ref h_bto) (.ref h_bin) (.int x16) (.int x17) (.int x18)))), (h_nv, .inl (cy_nv, 8000, .inl f_nv)), (h_na, .inl (cy_na, 8000, .inl f_na)), (h_nb, .inl (cy_nb, 8000, .inl f_nb)), (h_nc, .inl (cy_nc, 8000, .inl f_nc)), (h_bto, .inl (cy_bto, 256, .inl f_bto)), (h_bin, .inl (cy_bin, 256, .inl f_bin))] → va_S A s.heap H locs → lv_has ls 7 [(0, .ref h_mm), (1, .int p1), (2, .int p2), (3, .int p3), (4, .int z4), (5, .int z5), (6, .int x15)] → W p l e ({ frames := (fu + 1) + 2, cells := 0, slots := 0, locals := 26 * (fu + 1) + 45 } : Room) s m ([.ref h_mm, .int p1, .int p2, .int p3] : List Value).toArray below meth c H locs 0 0 (MQ below (va_Qv (fun (u : (Int32) × (Int32) × (Int32)) => (0 ≤ (u.1).toInt ∧ (u.1).toInt ≤ 7999) ∧ (0 ≤ (u.2.1).toInt ∧ (u.2.1).toInt ≤ 31) ∧ (0 ≤ (u.2.2).toInt ∧ (u.2.2).toInt ≤ 2001)) (fun (u : (Int32) × (Int32) × (Int32)) (t : State) => va_P (dC, dI) cls [(h_mm, .inr (8, (mo54 v_mm (.ref h_nv) (.ref h_na) (.ref h_nb) (.ref h_nc) (.ref h_bto) (.ref h_bin) (.int u.1) (.int u.2.1) (.int u.2.2)))), (h_nv, .inl (cy_nv, 8000, .inl f_nv)), (h_na, .inl (cy_na, 8000, .inl f_na)), (h_nb, .inl (cy_nb, 8000, .inl f_nb)), (h_nc, .inl (cy_nc, 8000, .inl f_nc)), (h_bto, .inl (cy_bto, 256, .inl f_bto)), (h_bin, .inl (cy_bin, 256, .inl f_bin))] t.heap ∧ va_D A [(h_mm, .inr (8, (mo54 v_mm (.ref h_nv) (.ref h_na) (.ref h_nb) (.ref h_nc) (.ref h_bto) (.ref h_bin) (.int u.1) (.int u.2.1) (.int u.2.2)))), (h_nv, .inl (cy_nv, 8000, .inl f_nv)), (h_na, .inl (cy_na, 8000, .inl f_na)), (h_nb, .inl (cy_nb, 8000, .inl f_nb)), (h_nc, .inl (cy_nc, 8000, .inl f_nc)), (h_bto, .inl (cy_bto, 256, .inl f_bto)), (h_bin, .inl (cy_bin, 256, .inl f_bin))]) A) ([.ref h_mm, .int p1, .int p2, .int p3] : List Value).toArray s 0 0 A) (F0 m 40 ls []) := by
      intro n
      induction n with
      | zero => intro x15 x16 x17 x18 H locs ls klp19_0 klp19_1 klp19_2 klp19_3 hm hP hD hS hl; exact False.elim (by omega)
      | succ n ih => 
        intro x15 x16 x17 x18 H locs ls klp19_0 klp19_1 klp19_2 klp19_3 hm hP hD hS hl
        have ih20 := ih
        clear ih
        refine lv_iload hx hb dX11_counts_40 (lv_at hl 6 rfl) ?_
        refine lv_aload_n hx hb dX11_counts_42 rfl (lv_at hl 0 rfl) ?_
        refine lv_iload hx hb dX11_counts_43 (lv_at hl 4 rfl) ?_
        have hPc := hP.sub (ws' := [(h_mm, .inr (8, (mo54 v_mm (.ref h_nv) (.ref h_na) (.ref h_nb) (.ref h_nc) (.ref h_bto) (.ref h_bin) (.int x16) (.int x17) (.int x18)))), (h_nv, .inl (cy_nv, 8000, .inl f_nv)), (h_na, .inl (cy_na, 8000, .inl f_na)), (h_nb, .inl (cy_nb, 8000, .inl f_nb)), (h_nc, .inl (cy_nc, 8000, .inl f_nc))]) [0, 1, 2, 3, 4] rfl
        have hDc := hD.sub (ws' := [(h_mm, .inr (8, (mo54 v_mm (.ref h_nv) (.ref h_na) (.ref h_nb) (.ref h_nc) (.ref h_bto) (.ref h_bin) (.int x16) (.int x17) (.int x18)))), (h_nv, .inl (cy_nv, 8000, .inl f_nv)), (h_na, .inl (cy_na, 8000, .inl f_na)), (h_nb, .inl (cy_nb, 8000, .inl f_nb)), (h_nc, .inl (cy_nc, 8000, .inl f_nc))]) [0, 1, 2, 3, 4] (by decide) rfl
        have hKc := hK.sub (tys' := [(cy_nv, .int), (cy_na, .int), (cy_nb, .int), (cy_nc, .int)]) [0, 1, 2, 3] rfl
        have hFc := va_free (wc := [(h_mm, .inr (8, (mo54 v_mm (.ref h_nv) (.ref h_na) (.ref h_nb) (.ref h_nc) (.ref h_bto) (.ref h_bin) (.int x16) (.int x17) (.int x18)))), (h_nv, .inl (cy_nv, 8000, .inl f_nv)), (h_na, .inl (cy_na, 8000, .inl f_na)), (h_nb, .inl (cy_nb, 8000, .inl f_nb)), (h_nc, .inl (cy_nc, 8000, .inl f_nc))]) hD hS hA [0, 1, 2, 3, 4] rfl
        refine va_calli (va_runV (As := [.int z4]) (rest := [.int x15]) ⟨hx, hb, hml, hown, hts⟩ (c_X11_partsAt_e l dC dI H.size h_mm h_nv h_na h_nb h_nc (fun k => List.getD (mo54 v_mm (.ref h_nv) (.ref h_na) (.ref h_nb) (.ref h_nc) (.ref h_bto) (.ref h_bin) (.int x16) (.int x17) (.int x18)) k .null) cy_nv f_nv cy_na f_na cy_nb f_nb cy_nc f_nc z4 hf_nv hf_na hf_nb hf_nc (by omega)) (cwV 1 hts (gv hT w_m_X11_27 w_instanceMethod_X11_partsAt ws_sel_X11_partsAt w_ini_X11 w_code_X11_partsAt) rfl rfl rfl (by decide +kernel) ⟨(by dsimp only [headSpec]; omega), (by dsimp only [headSpec]; omega)⟩) ⟨pre_blind, va_recv hK hP (ci := 8) (q0 := 0) rfl rfl, pre_of hPc hKc hDc hN⟩ rfl rfl hl.1 rfl (lv_room (Nat.le_of_ble_eq_true rfl)) dX11_counts_45 ⟨(Nat.le_of_ble_eq_true rfl), (Nat.le_of_ble_eq_true rfl)⟩) hS (fun q _ h => hFc q h) hFc (fun r21 u t H locs ht hvm hq hB hz1 hk1 hS => ?_)
        obtain ⟨hP1, hD1⟩ := hB
        rw [ht] at hP1
        obtain ⟨hP, hD⟩ := va_join (wr := [(h_bto, .inl (cy_bto, 256, .inl f_bto)), (h_bin, .inl (cy_bin, 256, .inl f_bin))]) (w1 := [(h_mm, .inr (8, (mo54 v_mm (.ref h_nv) (.ref h_na) (.ref h_nb) (.ref h_nc) (.ref h_bto) (.ref h_bin) (.int x16) (.int x17) (.int x18)))), (h_nv, .inl (cy_nv, 8000, .inl f_nv)), (h_na, .inl (cy_na, 8000, .inl f_na)), (h_nb, .inl (cy_nb, 8000, .inl f_nb)), (h_nc, .inl (cy_nc, 8000, .inl f_nc))]) hP hD [0, 1, 2, 3, 4] [5, 6] rfl rfl (by decide) (by decide) hk1 hFc hP1 hD1
        have hP : va_P (dC, dI) cls [(h_bto, .inl (cy_bto, 256, .inl f_bto)), (h_bin, .inl (cy_bin, 256, .inl f_bin)), (h_mm, .inr (8, (mo54 v_mm (.ref h_nv) (.ref h_na) (.ref h_nb) (.ref h_nc) (.ref h_bto) (.ref h_bin) (.int x16) (.int x17) (.int x18)))), (h_nv, .inl (cy_nv, 8000, .inl f_nv)), (h_na, .inl (cy_na, 8000, .inl f_na)), (h_nb, .inl (cy_nb, 8000, .inl f_nb)), (h_nc, .inl (cy_nc, 8000, .inl f_nc))] H := hP
        have hD : va_D A [(h_bto, .inl (cy_bto, 256, .inl f_bto)), (h_bin, .inl (cy_bin, 256, .inl f_bin)), (h_mm, .inr (8, (mo54 v_mm (.ref h_nv) (.ref h_na) (.ref h_nb) (.ref h_nc) (.ref h_bto) (.ref h_bin) (.int x16) (.int x17) (.int x18)))), (h_nv, .inl (cy_nv, 8000, .inl f_nv)), (h_na, .inl (cy_na, 8000, .inl f_na)), (h_nb, .inl (cy_nb, 8000, .inl f_nb)), (h_nc, .inl (cy_nc, 8000, .inl f_nc))] := hD
        obtain ⟨k22, k23⟩ := hq
        have k22 : 0 ≤ (r21).toInt ∧ (r21).toInt ≤ 3 := k22
        have k23 : ((r21)).toInt = (npx f_nv f_na f_nb f_nc ((z4)).toInt.toNat) := k23
        refine lv_icmp_ge (tgt := 80) hx hb dX11_counts_48 (by decide) (fun c24 => ?_) (fun c24 => ?_)
        · have kc24 := (cv_le (rfl : (r21).toInt = (r21).toInt) (rfl : (x15).toInt = (x15).toInt)).mp c24
          have hP : va_P (dC, dI) cls [(h_mm, .inr (8, (mo54 v_mm (.ref h_nv) (.ref h_na) (.ref h_nb) (.ref h_nc) (.ref h_bto) (.ref h_bin) (.int x16) (.int x17) (.int x18)))), (h_nv, .inl (cy_nv, 8000, .inl f_nv)), (h_na, .inl (cy_na, 8000, .inl f_na)), (h_nb, .inl (cy_nb, 8000, .inl f_nb)), (h_nc, .inl (cy_nc, 8000, .inl f_nc)), (h_bto, .inl (cy_bto, 256, .inl f_bto)), (h_bin, .inl (cy_bin, 256, .inl f_bin))] H := hP.sub [2, 3, 4, 5, 6, 0, 1] rfl
          have hD : va_D A [(h_mm, .inr (8, (mo54 v_mm (.ref h_nv) (.ref h_na) (.ref h_nb) (.ref h_nc) (.ref h_bto) (.ref h_bin) (.int x16) (.int x17) (.int x18)))), (h_nv, .inl (cy_nv, 8000, .inl f_nv)), (h_na, .inl (cy_na, 8000, .inl f_na)), (h_nb, .inl (cy_nb, 8000, .inl f_nb)), (h_nc, .inl (cy_nc, 8000, .inl f_nc)), (h_bto, .inl (cy_bto, 256, .inl f_bto)), (h_bin, .inl (cy_bin, 256, .inl f_bin))] := hD.sub [2, 3, 4, 5, 6, 0, 1] (by decide) rfl
          refine W.widen (k := 0) (n := 0) (Nat.le_of_ble_eq_true rfl) (Nat.le_of_ble_eq_true rfl) ?_
          have w25 : 0 ≤ ((x16)).toInt ∧ ((x16)).toInt ≤ 7999 := by omega
          have w26 : 0 ≤ ((x17)).toInt ∧ ((x17)).toInt ≤ 31 := by omega
          have w27 : 0 ≤ ((x18)).toInt ∧ ((x18)).toInt ≤ 2001 := by omega
          exact W.vret hx hb hr (fun t ht hW => ⟨⟨(x16, x17, x18), rfl, ⟨w25, w26, w27⟩, by rw [ht]; exact hP, hD⟩, hS.F ht⟩) hS.2.2 dX11_counts_80
        · have kc24 := (not_congr (cv_le (rfl : (r21).toInt = (r21).toInt) (rfl : (x15).toInt = (x15).toInt))).mp c24
          refine lv_aload_n hx hb dX11_counts_51 rfl (lv_at hl 0 rfl) ?_
          refine va_get (D := (dC, dI)) (ci := 8) (v := .int x18) (C := RX11) (T := TX11) (N := 71) hx hb hw iwX11 hown hK hP 2 rfl rfl 33 (by decide) (hw _ w_f_X11_291) (fun _ h9 => h9) rfl dX11_counts_52 ?_
          refine lv_iload_n hx hb dX11_counts_55 rfl (lv_at hl 3 rfl) ?_
          refine lv_icmp_gt (tgt := 80) hx hb dX11_counts_56 (by decide) (fun c28 => ?_) (fun c28 => ?_)
          · have kc28 := (cv_lt (rfl : (p3).toInt = (p3).toInt) (rfl : (x18).toInt = (x18).toInt)).mp c28
            have hP : va_P (dC, dI) cls [(h_mm, .inr (8, (mo54 v_mm (.ref h_nv) (.ref h_na) (.ref h_nb) (.ref h_nc) (.ref h_bto) (.ref h_bin) (.int x16) (.int x17) (.int x18)))), (h_nv, .inl (cy_nv, 8000, .inl f_nv)), (h_na, .inl (cy_na, 8000, .inl f_na)), (h_nb, .inl (cy_nb, 8000, .inl f_nb)), (h_nc, .inl (cy_nc, 8000, .inl f_nc)), (h_bto, .inl (cy_bto, 256, .inl f_bto)), (h_bin, .inl (cy_bin, 256, .inl f_bin))] H := hP.sub [2, 3, 4, 5, 6, 0, 1] rfl
            have hD : va_D A [(h_mm, .inr (8, (mo54 v_mm (.ref h_nv) (.ref h_na) (.ref h_nb) (.ref h_nc) (.ref h_bto) (.ref h_bin) (.int x16) (.int x17) (.int x18)))), (h_nv, .inl (cy_nv, 8000, .inl f_nv)), (h_na, .inl (cy_na, 8000, .inl f_na)), (h_nb, .inl (cy_nb, 8000, .inl f_nb)), (h_nc, .inl (cy_nc, 8000, .inl f_nc)), (h_bto, .inl (cy_bto, 256, .inl f_bto)), (h_bin, .inl (cy_bin, 256, .inl f_bin))] := hD.sub [2, 3, 4, 5, 6, 0, 1] (by decide) rfl
            refine W.widen (k := 0) (n := 0) (Nat.le_of_ble_eq_true rfl) (Nat.le_of_ble_eq_true rfl) ?_
            have w29 : 0 ≤ ((x16)).toInt ∧ ((x16)).toInt ≤ 7999 := by omega
            have w30 : 0 ≤ ((x17)).toInt ∧ ((x17)).toInt ≤ 31 := by omega
            have w31 : 0 ≤ ((x18)).toInt ∧ ((x18)).toInt ≤ 2001 := by omega
            exact W.vret hx hb hr (fun t ht hW => ⟨⟨(x16, x17, x18), rfl, ⟨w29, w30, w31⟩, by rw [ht]; exact hP, hD⟩, hS.F ht⟩) hS.2.2 dX11_counts_80
          · have kc28 := (not_congr (cv_lt (rfl : (p3).toInt = (p3).toInt) (rfl : (x18).toInt = (x18).toInt))).mp c28
            refine lv_aload_n hx hb dX11_counts_59 rfl (lv_at hl 0 rfl) ?_
            refine lv_aload_n hx hb dX11_counts_60 rfl (lv_at hl 0 rfl) ?_
            refine lv_iload hx hb dX11_counts_61 (lv_at hl 4 rfl) ?_
            refine lv_iload hx hb dX11_counts_63 (lv_at hl 6 rfl) ?_
            have hPc := hP.sub (ws' := [(h_mm, .inr (8, (mo54 v_mm (.ref h_nv) (.ref h_na) (.ref h_nb) (.ref h_nc) (.ref h_bto) (.ref h_bin) (.int x16) (.int x17) (.int x18)))), (h_na, .inl (cy_na, 8000, .inl f_na)), (h_nb, .inl (cy_nb, 8000, .inl f_nb)), (h_nc, .inl (cy_nc, 8000, .inl f_nc))]) [2, 4, 5, 6] rfl
            have hDc := hD.sub (ws' := [(h_mm, .inr (8, (mo54 v_mm (.ref h_nv) (.ref h_na) (.ref h_nb) (.ref h_nc) (.ref h_bto) (.ref h_bin) (.int x16) (.int x17) (.int x18)))), (h_na, .inl (cy_na, 8000, .inl f_na)), (h_nb, .inl (cy_nb, 8000, .inl f_nb)), (h_nc, .inl (cy_nc, 8000, .inl f_nc))]) [2, 4, 5, 6] (by decide) rfl
            have hKc := hK.sub (tys' := [(cy_na, .int), (cy_nb, .int), (cy_nc, .int)]) [1, 2, 3] rfl
            have hFc := va_free (wc := [(h_mm, .inr (8, (mo54 v_mm (.ref h_nv) (.ref h_na) (.ref h_nb) (.ref h_nc) (.ref h_bto) (.ref h_bin) (.int x16) (.int x17) (.int x18)))), (h_na, .inl (cy_na, 8000, .inl f_na)), (h_nb, .inl (cy_nb, 8000, .inl f_nb)), (h_nc, .inl (cy_nc, 8000, .inl f_nc))]) hD hS hA [2, 4, 5, 6] rfl
            refine va_calli (va_runV (As := [.int z4, .int x15]) (rest := [.ref h_mm]) ⟨hx, hb, hml, hown, hts⟩ (c_X11_part_e l dC dI H.size h_mm h_na h_nb h_nc (fun k => List.getD (mo54 v_mm (.ref h_nv) (.ref h_na) (.ref h_nb) (.ref h_nc) (.ref h_bto) (.ref h_bin) (.int x16) (.int x17) (.int x18)) k .null) cy_na f_na cy_nb f_nb cy_nc f_nc z4 x15 hf_na hf_nb hf_nc (by omega)) (cwV 2 hts (gv hT w_m_X11_31 w_instanceMethod_X11_part ws_sel_X11_part w_ini_X11 w_code_X11_part) rfl rfl rfl (by decide +kernel) ⟨(by dsimp only [headSpec]; omega), (by dsimp only [headSpec]; omega)⟩) ⟨pre_blind, va_recv hK hP (ci := 8) (q0 := 2) rfl rfl, pre_of hPc hKc hDc hN⟩ rfl rfl hl.1 rfl (lv_room (Nat.le_of_ble_eq_true rfl)) dX11_counts_65 ⟨(Nat.le_of_ble_eq_true rfl), (Nat.le_of_ble_eq_true rfl)⟩) hS (fun q _ h => hFc q h) hFc (fun r32 u t H locs ht hvm hq hB hz1 hk1 hS => ?_)
            obtain ⟨hP1, hD1⟩ := hB
            rw [ht] at hP1
            obtain ⟨hP, hD⟩ := va_join (wr := [(h_bto, .inl (cy_bto, 256, .inl f_bto)), (h_bin, .inl (cy_bin, 256, .inl f_bin)), (h_nv, .inl (cy_nv, 8000, .inl f_nv))]) (w1 := [(h_mm, .inr (8, (mo54 v_mm (.ref h_nv) (.ref h_na) (.ref h_nb) (.ref h_nc) (.ref h_bto) (.ref h_bin) (.int x16) (.int x17) (.int x18)))), (h_na, .inl (cy_na, 8000, .inl f_na)), (h_nb, .inl (cy_nb, 8000, .inl f_nb)), (h_nc, .inl (cy_nc, 8000, .inl f_nc))]) hP hD [2, 4, 5, 6] [0, 1, 3] rfl rfl (by decide) (by decide) hk1 hFc hP1 hD1
            have hP : va_P (dC, dI) cls [(h_bto, .inl (cy_bto, 256, .inl f_bto)), (h_bin, .inl (cy_bin, 256, .inl f_bin)), (h_nv, .inl (cy_nv, 8000, .inl f_nv)), (h_mm, .inr (8, (mo54 v_mm (.ref h_nv) (.ref h_na) (.ref h_nb) (.ref h_nc) (.ref h_bto) (.ref h_bin) (.int x16) (.int x17) (.int x18)))), (h_na, .inl (cy_na, 8000, .inl f_na)), (h_nb, .inl (cy_nb, 8000, .inl f_nb)), (h_nc, .inl (cy_nc, 8000, .inl f_nc))] H := hP
            have hD : va_D A [(h_bto, .inl (cy_bto, 256, .inl f_bto)), (h_bin, .inl (cy_bin, 256, .inl f_bin)), (h_nv, .inl (cy_nv, 8000, .inl f_nv)), (h_mm, .inr (8, (mo54 v_mm (.ref h_nv) (.ref h_na) (.ref h_nb) (.ref h_nc) (.ref h_bto) (.ref h_bin) (.int x16) (.int x17) (.int x18)))), (h_na, .inl (cy_na, 8000, .inl f_na)), (h_nb, .inl (cy_nb, 8000, .inl f_nb)), (h_nc, .inl (cy_nc, 8000, .inl f_nc))] := hD
            obtain ⟨k33, k34⟩ := hq
            have k33 : -1 ≤ (r32).toInt ∧ (r32).toInt ≤ 7999 := k33
            have k34 : ((r32)).toInt = (ptx f_na f_nb f_nc ((z4)).toInt.toNat ((x15)).toInt).toInt := k34
            have cc9e : ptx f_na f_nb f_nc (z4).toInt.toNat (x15).toInt = r32 := Int32.toInt_inj.mp (by omega)
            have cc9c := ch_ok (nv := f_nv) (k := (x15).toInt) (x := (z4).toInt.toNat) hn_bi.1 (by omega) (by omega)
            rw [cc9e] at cc9c
            have cc9p := pa_ch (k := (x15).toInt) (k12) (by omega)
            rw [cc9e] at cc9p
            refine lv_iload hx hb dX11_counts_68 (lv_at hl 5 rfl) ?_
            refine lv_iload_n hx hb dX11_counts_70 rfl (lv_at hl 3 rfl) ?_
            have hPc := hP.sub (ws' := [(h_mm, .inr (8, (mo54 v_mm (.ref h_nv) (.ref h_na) (.ref h_nb) (.ref h_nc) (.ref h_bto) (.ref h_bin) (.int x16) (.int x17) (.int x18)))), (h_nv, .inl (cy_nv, 8000, .inl f_nv)), (h_na, .inl (cy_na, 8000, .inl f_na)), (h_nb, .inl (cy_nb, 8000, .inl f_nb)), (h_nc, .inl (cy_nc, 8000, .inl f_nc)), (h_bto, .inl (cy_bto, 256, .inl f_bto)), (h_bin, .inl (cy_bin, 256, .inl f_bin))]) [3, 2, 4, 5, 6, 0, 1] rfl
            have hDc := hD.sub (ws' := [(h_mm, .inr (8, (mo54 v_mm (.ref h_nv) (.ref h_na) (.ref h_nb) (.ref h_nc) (.ref h_bto) (.ref h_bin) (.int x16) (.int x17) (.int x18)))), (h_nv, .inl (cy_nv, 8000, .inl f_nv)), (h_na, .inl (cy_na, 8000, .inl f_na)), (h_nb, .inl (cy_nb, 8000, .inl f_nb)), (h_nc, .inl (cy_nc, 8000, .inl f_nc)), (h_bto, .inl (cy_bto, 256, .inl f_bto)), (h_bin, .inl (cy_bin, 256, .inl f_bin))]) [3, 2, 4, 5, 6, 0, 1] (by decide) rfl
            have hKc := hK.sub (tys' := [(cy_nv, .int), (cy_na, .int), (cy_nb, .int), (cy_nc, .int), (cy_bto, .int), (cy_bin, .int)]) [0, 1, 2, 3, 4, 5] rfl
            have hFc := va_free (wc := [(h_mm, .inr (8, (mo54 v_mm (.ref h_nv) (.ref h_na) (.ref h_nb) (.ref h_nc) (.ref h_bto) (.ref h_bin) (.int x16) (.int x17) (.int x18)))), (h_nv, .inl (cy_nv, 8000, .inl f_nv)), (h_na, .inl (cy_na, 8000, .inl f_na)), (h_nb, .inl (cy_nb, 8000, .inl f_nb)), (h_nc, .inl (cy_nc, 8000, .inl f_nc)), (h_bto, .inl (cy_bto, 256, .inl f_bto)), (h_bin, .inl (cy_bin, 256, .inl f_bin))]) hD hS hA [3, 2, 4, 5, 6, 0, 1] rfl
            refine va_callv (va_runV (As := [.int r32, .int z5, .int p3]) (rest := []) ⟨hx, hb, hml, hown, hts⟩ (ihf dC dI H.size h_mm h_nv h_na h_nb h_nc h_bto h_bin v_mm x16 x17 x18 cy_nv f_nv cy_na f_na cy_nb f_nb cy_nc f_nc cy_bto f_bto cy_bin f_bin r32 z5 p3 i0 i1 N hz z6 (by omega) (by omega) (by omega) hf_nv hf_na hf_nb hf_nc hf_bto hf_bin (by omega) (by omega) (by omega) (by omega) (by omega) (by omega) hn_bi cc9p) (cwV 3 hts (gv hT w_m_X11_294 w_instanceMethod_X11_counts ws_sel_X11_counts w_ini_X11 w_code_X11_counts) rfl rfl rfl (by decide +kernel) ⟨(by dsimp only [headSpec]; omega), (by dsimp only [headSpec]; omega)⟩) ⟨pre_blind, va_recv hK hP (ci := 8) (q0 := 3) rfl rfl, pre_of hPc hKc hDc hN⟩ rfl rfl hl.1 rfl (lv_room (Nat.le_of_ble_eq_true rfl)) dX11_counts_71 ⟨(Nat.le_of_ble_eq_true rfl), (Nat.le_of_ble_eq_true rfl)⟩) hS (fun q _ h => hFc q h) hFc (fun u t H locs ht hvm hq hB hz1 hk1 hS => ?_)
            obtain ⟨z36, z37, z38⟩ := u
            obtain ⟨hP1, hD1⟩ := hB
            rw [ht] at hP1
            obtain ⟨hP, hD⟩ := va_join (wr := []) (w1 := [(h_mm, .inr (8, (mo54 v_mm (.ref h_nv) (.ref h_na) (.ref h_nb) (.ref h_nc) (.ref h_bto) (.ref h_bin) (.int z36) (.int z37) (.int z38)))), (h_nv, .inl (cy_nv, 8000, .inl f_nv)), (h_na, .inl (cy_na, 8000, .inl f_na)), (h_nb, .inl (cy_nb, 8000, .inl f_nb)), (h_nc, .inl (cy_nc, 8000, .inl f_nc)), (h_bto, .inl (cy_bto, 256, .inl f_bto)), (h_bin, .inl (cy_bin, 256, .inl f_bin))]) hP hD [3, 2, 4, 5, 6, 0, 1] [] rfl rfl (by decide) (by decide) hk1 hFc hP1 hD1
            have hP : va_P (dC, dI) cls [(h_mm, .inr (8, (mo54 v_mm (.ref h_nv) (.ref h_na) (.ref h_nb) (.ref h_nc) (.ref h_bto) (.ref h_bin) (.int z36) (.int z37) (.int z38)))), (h_nv, .inl (cy_nv, 8000, .inl f_nv)), (h_na, .inl (cy_na, 8000, .inl f_na)), (h_nb, .inl (cy_nb, 8000, .inl f_nb)), (h_nc, .inl (cy_nc, 8000, .inl f_nc)), (h_bto, .inl (cy_bto, 256, .inl f_bto)), (h_bin, .inl (cy_bin, 256, .inl f_bin))] H := hP
            have hD : va_D A [(h_mm, .inr (8, (mo54 v_mm (.ref h_nv) (.ref h_na) (.ref h_nb) (.ref h_nc) (.ref h_bto) (.ref h_bin) (.int z36) (.int z37) (.int z38)))), (h_nv, .inl (cy_nv, 8000, .inl f_nv)), (h_na, .inl (cy_na, 8000, .inl f_na)), (h_nb, .inl (cy_nb, 8000, .inl f_nb)), (h_nc, .inl (cy_nc, 8000, .inl f_nc)), (h_bto, .inl (cy_bto, 256, .inl f_bto)), (h_bin, .inl (cy_bin, 256, .inl f_bin))] := hD
            obtain ⟨k39, k40, k41⟩ := hq
            have k39 : 0 ≤ ((z36)).toInt ∧ ((z36)).toInt ≤ 7999 := k39
            have k40 : 0 ≤ ((z37)).toInt ∧ ((z37)).toInt ≤ 31 := k40
            have k41 : 0 ≤ ((z38)).toInt ∧ ((z38)).toInt ≤ 2001 := k41
            obtain ⟨z42, ez42⟩ : ∃ y : Int32, y = x15 + 1 := ⟨_, rfl⟩
            have tz42 : (z42).toInt = (x15).toInt + 1 := by rw [ez42]; exact i_add rfl (by decide) (by omega)
            refine lv_iinc (v := z42) (lv' := [(6, .int z42), (0, .ref h_mm), (1, .int p1), (2, .int p2), (3, .int p3), (4, .int z4), (5, .int z5)]) hx hb dX11_counts_74 hl (k := 6) rfl (by rw [ez42]; rfl) (by decide) rfl (fun ls hl => ?_)
            refine lv_goto (tgt := 40) hx hb dX11_counts_77 (by decide) ?_
            exact ih20 (z42) (z36) (z37) (z38) _ _ _ (by omega) (by omega) (by omega) (by omega) (by omega) hP hD hS (lv_sub hl [1, 2, 3, 4, 5, 6, 0] rfl)
    have cst0 : (0 : Int32).toInt = 0 := by decide
    exact lp19 _ (0) (z4) (z5) (z2) _ _ _ (by decide) (by omega) (by omega) (by omega) (Nat.le_refl _) hP hD hS (lv_sub hl [3, 4, 5, 6, 2, 1, 0] rfl)
  · have kc1 := (not_congr (cv_le (rfl : (x_mm_counted).toInt = (x_mm_counted).toInt) (rfl : (p3).toInt = (p3).toInt))).mp c1
    refine W.widen (k := 0) (n := 0) (Nat.le_of_ble_eq_true rfl) (Nat.le_of_ble_eq_true rfl) ?_
    have w43 : 0 ≤ ((x_mm_goneTo)).toInt ∧ ((x_mm_goneTo)).toInt ≤ 7999 := by omega
    have w44 : 0 ≤ ((x_mm_goneIn)).toInt ∧ ((x_mm_goneIn)).toInt ≤ 31 := by omega
    have w45 : 0 ≤ ((x_mm_counted)).toInt ∧ ((x_mm_counted)).toInt ≤ 2001 := by omega
    exact W.vret hx hb hr (fun t ht hW => ⟨⟨(x_mm_goneTo, x_mm_goneIn, x_mm_counted), rfl, ⟨w43, w44, w45⟩, by rw [ht]; exact hP, hD⟩, hS.F ht⟩) hS.2.2 dX11_counts_8

set_option maxHeartbeats 8000000 in
set_option maxRecDepth 100000 in
theorem c_X11_isShort (l : Launch) (dC : Nat → ClassId) (dI : Nat → Nat → Nat) (sz : Nat) (h_mm : Nat) (h_nv : Nat) (h_na : Nat) (h_nb : Nat) (h_nc : Nat) (h_bto : Nat) (h_bin : Nat) (v_mm : Nat → Value) (x_mm_goneTo : Int32) (x_mm_goneIn : Int32) (x_mm_counted : Int32) (cy_nv : ClassId) (f_nv : Nat → Int32) (cy_na : ClassId) (f_na : Nat → Int32) (cy_nb : ClassId) (f_nb : Nat → Int32) (cy_nc : ClassId) (f_nc : Nat → Int32) (cy_bto : ClassId) (f_bto : Nat → Int32) (cy_bin : ClassId) (f_bin : Nat → Int32) (p1 : Int32) (p2 : Int32) (p3 : Int32) (i0 : Int) (i1 : Int) (N : Int) (hz : Nat → Nat) (hx_mm_goneTo : 0 ≤ (x_mm_goneTo).toInt ∧ (x_mm_goneTo).toInt ≤ 7999) (hx_mm_goneIn : 0 ≤ (x_mm_goneIn).toInt ∧ (x_mm_goneIn).toInt ≤ 31) (hx_mm_counted : 0 ≤ (x_mm_counted).toInt ∧ (x_mm_counted).toInt ≤ 2001) (hf_nv : Rg (-1) 7 f_nv) (hf_na : Rg (-1) 7999 f_na) (hf_nb : Rg (-1) 7999 f_nb) (hf_nc : Rg (-1) 7999 f_nc) (hf_bto : Rg (-1) 7999 f_bto) (hf_bin : Rg 0 31 f_bin) (q0 : 0 ≤ i0 ∧ i0 ≤ i1 ∧ i1 ≤ 31) (q1 : N ≤ 8000) (q2 : 0 ≤ (p1).toInt ∧ (p1).toInt < N) (q3 : i0 ≤ (p2).toInt ∧ (p2).toInt ≤ i1) (q4 : 0 ≤ (p3).toInt ∧ (p3).toInt ≤ 2000) (hn_bi : BI i0 i1 N hz f_nv f_na f_nb f_nc f_bto f_bin) : Met l yX11_isShort (Ws yX11_isShort cX11_isShort 4 (some .boolean)) (({ frames := 1547, cells := 0, slots := 0, locals := 40215 } : Room)) (PRE (dC, dI) cls [(cy_nv, .int), (cy_na, .int), (cy_nb, .int), (cy_nc, .int), (cy_bto, .int), (cy_bin, .int)] [(h_mm, .inr (8, (mo54 v_mm (.ref h_nv) (.ref h_na) (.ref h_nb) (.ref h_nc) (.ref h_bto) (.ref h_bin) (.int x_mm_goneTo) (.int x_mm_goneIn) (.int x_mm_counted)))), (h_nv, .inl (cy_nv, 8000, .inl f_nv)), (h_na, .inl (cy_na, 8000, .inl f_na)), (h_nb, .inl (cy_nb, 8000, .inl f_nb)), (h_nc, .inl (cy_nc, 8000, .inl f_nc)), (h_bto, .inl (cy_bto, 256, .inl f_bto)), (h_bin, .inl (cy_bin, 256, .inl f_bin))] sz [.ref h_mm, .int p1, .int p2, .int p3]) (va_Qi (fun (r : Int32) (u : (Int32) × (Int32) × (Int32)) => (0 ≤ (u.1).toInt ∧ (u.1).toInt ≤ 7999) ∧ (0 ≤ (u.2.1).toInt ∧ (u.2.1).toInt ≤ 31) ∧ (0 ≤ (u.2.2).toInt ∧ (u.2.2).toInt ≤ 2001) ∧ (0 ≤ r.toInt ∧ r.toInt ≤ 1)) (fun (u : (Int32) × (Int32) × (Int32)) (t : State) => va_P (dC, dI) cls [(h_mm, .inr (8, (mo54 v_mm (.ref h_nv) (.ref h_na) (.ref h_nb) (.ref h_nc) (.ref h_bto) (.ref h_bin) (.int u.1) (.int u.2.1) (.int u.2.2)))), (h_nv, .inl (cy_nv, 8000, .inl f_nv)), (h_na, .inl (cy_na, 8000, .inl f_na)), (h_nb, .inl (cy_nb, 8000, .inl f_nb)), (h_nc, .inl (cy_nc, 8000, .inl f_nc)), (h_bto, .inl (cy_bto, 256, .inl f_bto)), (h_bin, .inl (cy_bin, 256, .inl f_bin))] t.heap ∧ va_D (va_A [(h_mm, .inr (8, (mo54 v_mm (.ref h_nv) (.ref h_na) (.ref h_nb) (.ref h_nc) (.ref h_bto) (.ref h_bin) (.int x_mm_goneTo) (.int x_mm_goneIn) (.int x_mm_counted)))), (h_nv, .inl (cy_nv, 8000, .inl f_nv)), (h_na, .inl (cy_na, 8000, .inl f_na)), (h_nb, .inl (cy_nb, 8000, .inl f_nb)), (h_nc, .inl (cy_nc, 8000, .inl f_nc)), (h_bto, .inl (cy_bto, 256, .inl f_bto)), (h_bin, .inl (cy_bin, 256, .inl f_bin))] sz) [(h_mm, .inr (8, (mo54 v_mm (.ref h_nv) (.ref h_na) (.ref h_nb) (.ref h_nc) (.ref h_bto) (.ref h_bin) (.int u.1) (.int u.2.1) (.int u.2.2)))), (h_nv, .inl (cy_nv, 8000, .inl f_nv)), (h_na, .inl (cy_na, 8000, .inl f_na)), (h_nb, .inl (cy_nb, 8000, .inl f_nb)), (h_nc, .inl (cy_nc, 8000, .inl f_nc)), (h_bto, .inl (cy_bto, 256, .inl f_bto)), (h_bin, .inl (cy_bin, 256, .inl f_bin))]) (va_A [(h_mm, .inr (8, (mo54 v_mm (.ref h_nv) (.ref h_na) (.ref h_nb) (.ref h_nc) (.ref h_bto) (.ref h_bin) (.int x_mm_goneTo) (.int x_mm_goneIn) (.int x_mm_counted)))), (h_nv, .inl (cy_nv, 8000, .inl f_nv)), (h_na, .inl (cy_na, 8000, .inl f_na)), (h_nb, .inl (cy_nb, 8000, .inl f_nb)), (h_nc, .inl (cy_nc, 8000, .inl f_nc)), (h_bto, .inl (cy_bto, 256, .inl f_bto)), (h_bin, .inl (cy_bin, 256, .inl f_bin))] sz)) 0 0 (va_A [(h_mm, .inr (8, (mo54 v_mm (.ref h_nv) (.ref h_na) (.ref h_nb) (.ref h_nc) (.ref h_bto) (.ref h_bin) (.int x_mm_goneTo) (.int x_mm_goneIn) (.int x_mm_counted)))), (h_nv, .inl (cy_nv, 8000, .inl f_nv)), (h_na, .inl (cy_na, 8000, .inl f_na)), (h_nb, .inl (cy_nb, 8000, .inl f_nb)), (h_nc, .inl (cy_nc, 8000, .inl f_nc)), (h_bto, .inl (cy_bto, 256, .inl f_bto)), (h_bin, .inl (cy_bin, 256, .inl f_bin))] sz) := by
  refine Met.ofW (cc := cX11_isShort) (maxL := 4) (ret := (some .boolean)) (by decide) rfl ?_
  intro p e s m args below meth c s₁ B hml hv
  obtain ⟨rfl, hsz, hP, hK, hD0, hN⟩ := hv
  have hx := B.exec
  have hb := B.bytes
  have hr := B.returns
  have hts := atoms_spec (ws := Ws yX11_isShort cX11_isShort 4 (some .boolean)) B.pre
  have hT : ∀ w ∈ WALL, w ∈ Ws yX11_isShort cX11_isShort 4 (some .boolean) := fun w h => List.mem_cons_of_mem _ h
  have hw := fun w (h : w ∈ WALL) => hts w (hT w h)
  have hown : s.vm.findClass RX11 = some m.cls := findClass_of_methodNamed B.named
  have hlocks := B.notSynchronized
  subst hsz
  have hD := hD0.self (sz := s.heap.size)
  generalize hAe : va_A [(h_mm, .inr (8, (mo54 v_mm (.ref h_nv) (.ref h_na) (.ref h_nb) (.ref h_nc) (.ref h_bto) (.ref h_bin) (.int x_mm_goneTo) (.int x_mm_goneIn) (.int x_mm_counted)))), (h_nv, .inl (cy_nv, 8000, .inl f_nv)), (h_na, .inl (cy_na, 8000, .inl f_na)), (h_nb, .inl (cy_nb, 8000, .inl f_nb)), (h_nc, .inl (cy_nc, 8000, .inl f_nc)), (h_bto, .inl (cy_bto, 256, .inl f_bto)), (h_bin, .inl (cy_bin, 256, .inl f_bin))] s.heap.size = A at hD ⊢
  have hA : ∀ q : Nat, s.heap.size ≤ q → A q := fun q h => by rw [← hAe]; exact Or.inr h
  have hS : va_S A s.heap s.heap [] := va_S.rf
  have hl := lv_entry ([.ref h_mm, .int p1, .int p2, .int p3]) (n := 4) (Nat.le_of_ble_eq_true rfl)
  rw [lg_entry_eq]
  generalize (lg_sl ([.ref h_mm, .int p1, .int p2, .int p3]) ++ List.replicate (4 - (lg_sl ([.ref h_mm, .int p1, .int p2, .int p3])).length) Slot.unset).toArray = ls at hl ⊢
  have hl : lv_has ls 4 [(0, .ref h_mm), (1, .int p1), (2, .int p2), (3, .int p3)] := hl
  refine lv_aload_n hx hb dX11_isShort_0 rfl (lv_at hl 0 rfl) ?_
  refine lv_iconst (v := 0) hx hb dX11_isShort_1 (by decide) ?_
  refine va_put (D := (dC, dI)) (ci := 8) (v := .int 0) (ty := tyX11 33) (C := RX11) (T := TX11) (N := 71) hx hb hw iwX11 tyX11 tyX11_ok nmX11 hown hK hP hD hS 0 rfl rfl 33 (by decide) (hw _ w_f_X11_291) (fun _ h9 => h9) rfl (tyX11_ok 33 (by decide)) rfl rfl (Nat.le_of_ble_eq_true rfl) dX11_isShort_2 (fun H locs hP hD hS => ?_)
  have hP : va_P (dC, dI) cls [(h_mm, .inr (8, (mo54 v_mm (.ref h_nv) (.ref h_na) (.ref h_nb) (.ref h_nc) (.ref h_bto) (.ref h_bin) (.int x_mm_goneTo) (.int x_mm_goneIn) (.int 0)))), (h_nv, .inl (cy_nv, 8000, .inl f_nv)), (h_na, .inl (cy_na, 8000, .inl f_na)), (h_nb, .inl (cy_nb, 8000, .inl f_nb)), (h_nc, .inl (cy_nc, 8000, .inl f_nc)), (h_bto, .inl (cy_bto, 256, .inl f_bto)), (h_bin, .inl (cy_bin, 256, .inl f_bin))] H := hP
  have hD : va_D A [(h_mm, .inr (8, (mo54 v_mm (.ref h_nv) (.ref h_na) (.ref h_nb) (.ref h_nc) (.ref h_bto) (.ref h_bin) (.int x_mm_goneTo) (.int x_mm_goneIn) (.int 0)))), (h_nv, .inl (cy_nv, 8000, .inl f_nv)), (h_na, .inl (cy_na, 8000, .inl f_na)), (h_nb, .inl (cy_nb, 8000, .inl f_nb)), (h_nc, .inl (cy_nc, 8000, .inl f_nc)), (h_bto, .inl (cy_bto, 256, .inl f_bto)), (h_bin, .inl (cy_bin, 256, .inl f_bin))] := hD
  refine lv_aload_n hx hb dX11_isShort_5 rfl (lv_at hl 0 rfl) ?_
  refine lv_iload_n hx hb dX11_isShort_6 rfl (lv_at hl 1 rfl) ?_
  refine lv_iload_n hx hb dX11_isShort_7 rfl (lv_at hl 2 rfl) ?_
  have l09 : ([] : List Nat).length = 0 := rfl
  have hh9 := (hn_bi.1 (p1).toInt.toNat (by omega) (by omega)).2.2.2
  refine lv_iload_n hx hb dX11_isShort_8 rfl (lv_at hl 3 rfl) ?_
  have hPc := hP.sub (ws' := [(h_mm, .inr (8, (mo54 v_mm (.ref h_nv) (.ref h_na) (.ref h_nb) (.ref h_nc) (.ref h_bto) (.ref h_bin) (.int x_mm_goneTo) (.int x_mm_goneIn) (.int 0)))), (h_nv, .inl (cy_nv, 8000, .inl f_nv)), (h_na, .inl (cy_na, 8000, .inl f_na)), (h_nb, .inl (cy_nb, 8000, .inl f_nb)), (h_nc, .inl (cy_nc, 8000, .inl f_nc)), (h_bto, .inl (cy_bto, 256, .inl f_bto)), (h_bin, .inl (cy_bin, 256, .inl f_bin))]) [0, 1, 2, 3, 4, 5, 6] rfl
  have hDc := hD.sub (ws' := [(h_mm, .inr (8, (mo54 v_mm (.ref h_nv) (.ref h_na) (.ref h_nb) (.ref h_nc) (.ref h_bto) (.ref h_bin) (.int x_mm_goneTo) (.int x_mm_goneIn) (.int 0)))), (h_nv, .inl (cy_nv, 8000, .inl f_nv)), (h_na, .inl (cy_na, 8000, .inl f_na)), (h_nb, .inl (cy_nb, 8000, .inl f_nb)), (h_nc, .inl (cy_nc, 8000, .inl f_nc)), (h_bto, .inl (cy_bto, 256, .inl f_bto)), (h_bin, .inl (cy_bin, 256, .inl f_bin))]) [0, 1, 2, 3, 4, 5, 6] (by decide) rfl
  have hKc := hK.sub (tys' := [(cy_nv, .int), (cy_na, .int), (cy_nb, .int), (cy_nc, .int), (cy_bto, .int), (cy_bin, .int)]) [0, 1, 2, 3, 4, 5] rfl
  have hFc := va_free (wc := [(h_mm, .inr (8, (mo54 v_mm (.ref h_nv) (.ref h_na) (.ref h_nb) (.ref h_nc) (.ref h_bto) (.ref h_bin) (.int x_mm_goneTo) (.int x_mm_goneIn) (.int 0)))), (h_nv, .inl (cy_nv, 8000, .inl f_nv)), (h_na, .inl (cy_na, 8000, .inl f_na)), (h_nb, .inl (cy_nb, 8000, .inl f_nb)), (h_nc, .inl (cy_nc, 8000, .inl f_nc)), (h_bto, .inl (cy_bto, 256, .inl f_bto)), (h_bin, .inl (cy_bin, 256, .inl f_bin))]) hD hS hA [0, 1, 2, 3, 4, 5, 6] rfl
  refine va_callv (va_runV (As := [.int p1, .int p2, .int p3]) (rest := []) ⟨hx, hb, hml, hown, hts⟩ (c_X11_counts l 1544 dC dI H.size h_mm h_nv h_na h_nb h_nc h_bto h_bin v_mm x_mm_goneTo x_mm_goneIn 0 cy_nv f_nv cy_na f_na cy_nb f_nb cy_nc f_nc cy_bto f_bto cy_bin f_bin p1 p2 p3 i0 i1 N hz ([]) (by omega) (by omega) (by decide) hf_nv hf_na hf_nb hf_nc hf_bto hf_bin (by omega) (by omega) (by omega) (by omega) (by omega) (by omega) hn_bi pa_nil) (cwV 3 hts (gv hT w_m_X11_294 w_instanceMethod_X11_counts ws_sel_X11_counts w_ini_X11 w_code_X11_counts) rfl rfl rfl (by decide +kernel) ⟨(Nat.le_of_ble_eq_true rfl), (Nat.le_of_ble_eq_true rfl)⟩) ⟨pre_blind, va_recv hK hP (ci := 8) (q0 := 0) rfl rfl, pre_of hPc hKc hDc hN⟩ rfl rfl hl.1 rfl (lv_room (Nat.le_of_ble_eq_true rfl)) dX11_isShort_9 ⟨(Nat.le_of_ble_eq_true rfl), (Nat.le_of_ble_eq_true rfl)⟩) hS (fun q _ h => hFc q h) hFc (fun u t H locs ht hvm hq hB hz1 hk1 hS => ?_)
  obtain ⟨z2, z3, z4⟩ := u
  obtain ⟨hP1, hD1⟩ := hB
  rw [ht] at hP1
  obtain ⟨hP, hD⟩ := va_join (wr := []) (w1 := [(h_mm, .inr (8, (mo54 v_mm (.ref h_nv) (.ref h_na) (.ref h_nb) (.ref h_nc) (.ref h_bto) (.ref h_bin) (.int z2) (.int z3) (.int z4)))), (h_nv, .inl (cy_nv, 8000, .inl f_nv)), (h_na, .inl (cy_na, 8000, .inl f_na)), (h_nb, .inl (cy_nb, 8000, .inl f_nb)), (h_nc, .inl (cy_nc, 8000, .inl f_nc)), (h_bto, .inl (cy_bto, 256, .inl f_bto)), (h_bin, .inl (cy_bin, 256, .inl f_bin))]) hP hD [0, 1, 2, 3, 4, 5, 6] [] rfl rfl (by decide) (by decide) hk1 hFc hP1 hD1
  have hP : va_P (dC, dI) cls [(h_mm, .inr (8, (mo54 v_mm (.ref h_nv) (.ref h_na) (.ref h_nb) (.ref h_nc) (.ref h_bto) (.ref h_bin) (.int z2) (.int z3) (.int z4)))), (h_nv, .inl (cy_nv, 8000, .inl f_nv)), (h_na, .inl (cy_na, 8000, .inl f_na)), (h_nb, .inl (cy_nb, 8000, .inl f_nb)), (h_nc, .inl (cy_nc, 8000, .inl f_nc)), (h_bto, .inl (cy_bto, 256, .inl f_bto)), (h_bin, .inl (cy_bin, 256, .inl f_bin))] H := hP
  have hD : va_D A [(h_mm, .inr (8, (mo54 v_mm (.ref h_nv) (.ref h_na) (.ref h_nb) (.ref h_nc) (.ref h_bto) (.ref h_bin) (.int z2) (.int z3) (.int z4)))), (h_nv, .inl (cy_nv, 8000, .inl f_nv)), (h_na, .inl (cy_na, 8000, .inl f_na)), (h_nb, .inl (cy_nb, 8000, .inl f_nb)), (h_nc, .inl (cy_nc, 8000, .inl f_nc)), (h_bto, .inl (cy_bto, 256, .inl f_bto)), (h_bin, .inl (cy_bin, 256, .inl f_bin))] := hD
  obtain ⟨k5, k6, k7⟩ := hq
  have k5 : 0 ≤ ((z2)).toInt ∧ ((z2)).toInt ≤ 7999 := k5
  have k6 : 0 ≤ ((z3)).toInt ∧ ((z3)).toInt ≤ 31 := k6
  have k7 : 0 ≤ ((z4)).toInt ∧ ((z4)).toInt ≤ 2001 := k7
  refine lv_aload_n hx hb dX11_isShort_12 rfl (lv_at hl 0 rfl) ?_
  refine va_get (D := (dC, dI)) (ci := 8) (v := .int z4) (C := RX11) (T := TX11) (N := 71) hx hb hw iwX11 hown hK hP 0 rfl rfl 33 (by decide) (hw _ w_f_X11_291) (fun _ h9 => h9) rfl dX11_isShort_13 ?_
  refine lv_iload_n hx hb dX11_isShort_16 rfl (lv_at hl 3 rfl) ?_
  refine lv_icmp_gt (tgt := 24) hx hb dX11_isShort_17 (by decide) (fun c8 => ?_) (fun c8 => ?_)
  · have kc8 := (cv_lt (rfl : (p3).toInt = (p3).toInt) (rfl : (z4).toInt = (z4).toInt)).mp c8
    refine lv_iconst (v := 0) hx hb dX11_isShort_24 (by decide) ?_
    refine W.widen (k := 0) (n := 0) (Nat.le_of_ble_eq_true rfl) (Nat.le_of_ble_eq_true rfl) ?_
    have cst0 : (0 : Int32).toInt = 0 := by decide
    have w9 : 0 ≤ ((z2)).toInt ∧ ((z2)).toInt ≤ 7999 := by omega
    have w10 : 0 ≤ ((z3)).toInt ∧ ((z3)).toInt ≤ 31 := by omega
    have w11 : 0 ≤ ((z4)).toInt ∧ ((z4)).toInt ≤ 2001 := by omega
    have w12 : 0 ≤ (0 : Int32).toInt ∧ (0 : Int32).toInt ≤ 1 := by omega
    exact W.zret (v := 0) (ty := .boolean) hx hb hr (by decide) (fun t ht hW => ⟨⟨0, (z2, z3, z4), rfl, ⟨w9, w10, w11, w12⟩, by rw [ht]; exact hP, hD⟩, hS.F ht⟩) hS.2.2 dX11_isShort_25
  · have kc8 := (not_congr (cv_lt (rfl : (p3).toInt = (p3).toInt) (rfl : (z4).toInt = (z4).toInt))).mp c8
    refine lv_iconst (v := 1) hx hb dX11_isShort_20 (by decide) ?_
    refine lv_goto (tgt := 25) hx hb dX11_isShort_21 (by decide) ?_
    refine W.widen (k := 0) (n := 0) (Nat.le_of_ble_eq_true rfl) (Nat.le_of_ble_eq_true rfl) ?_
    have cst1 : (1 : Int32).toInt = 1 := by decide
    have w13 : 0 ≤ ((z2)).toInt ∧ ((z2)).toInt ≤ 7999 := by omega
    have w14 : 0 ≤ ((z3)).toInt ∧ ((z3)).toInt ≤ 31 := by omega
    have w15 : 0 ≤ ((z4)).toInt ∧ ((z4)).toInt ≤ 2001 := by omega
    have w16 : 0 ≤ (1 : Int32).toInt ∧ (1 : Int32).toInt ≤ 1 := by omega
    exact W.zret (v := 1) (ty := .boolean) hx hb hr (by decide) (fun t ht hW => ⟨⟨1, (z2, z3, z4), rfl, ⟨w13, w14, w15, w16⟩, by rw [ht]; exact hP, hD⟩, hS.F ht⟩) hS.2.2 dX11_isShort_25

set_option maxHeartbeats 8000000 in
set_option maxRecDepth 100000 in
theorem c_X11_takesBack_e (l : Launch) (dC : Nat → ClassId) (dI : Nat → Nat → Nat) (sz : Nat) (h_mm : Nat) (h_bto : Nat) (h_tra : Nat) (v_mm : Nat → Value) (x_mm_trailed : Int32) (cy_bto : ClassId) (f_bto : Nat → Int32) (cy_tra : ClassId) (f_tra : Nat → Int32) (p1 : Int32) (hx_mm_trailed : 0 ≤ (x_mm_trailed).toInt ∧ (x_mm_trailed).toInt ≤ 256) (hf_bto : Rg (-1) 7999 f_bto) (hf_tra : Rg 0 255 f_tra) (q0 : 0 ≤ (p1).toInt) (hn_trl : TRL (x_mm_trailed).toInt f_tra f_bto) : Met l yX11_takesBack (Ws yX11_takesBack cX11_takesBack 2 none) (({ frames := 0, cells := 0, slots := 0, locals := 0 } : Room)) (PRE (dC, dI) cls [(cy_bto, .int), (cy_tra, .int)] [(h_mm, .inr (8, (mo22 v_mm (.ref h_bto) (.ref h_tra) (.int x_mm_trailed)))), (h_bto, .inl (cy_bto, 256, .inl f_bto)), (h_tra, .inl (cy_tra, 256, .inl f_tra))] sz [.ref h_mm, .int p1]) (va_Qv (fun (u : (Int32) × (Nat → Int32)) => (0 ≤ (u.1).toInt ∧ (u.1).toInt ≤ 256) ∧ (Rg (-1) 7999 u.2) ∧ (((u.1).toInt = (p1).toInt ∧ (p1).toInt ≤ (x_mm_trailed).toInt) ∨ ((u.1).toInt = (x_mm_trailed).toInt ∧ (x_mm_trailed).toInt ≤ (p1).toInt)) ∧ (TRL (u.1).toInt f_tra u.2) ∧ (TBK (u.1).toInt (x_mm_trailed).toInt f_bto f_tra u.2)) (fun (u : (Int32) × (Nat → Int32)) (t : State) => va_P (dC, dI) cls [(h_mm, .inr (8, (mo22 v_mm (.ref h_bto) (.ref h_tra) (.int u.1)))), (h_bto, .inl (cy_bto, 256, .inl u.2)), (h_tra, .inl (cy_tra, 256, .inl f_tra))] t.heap ∧ va_D (va_A [(h_mm, .inr (8, (mo22 v_mm (.ref h_bto) (.ref h_tra) (.int x_mm_trailed)))), (h_bto, .inl (cy_bto, 256, .inl f_bto)), (h_tra, .inl (cy_tra, 256, .inl f_tra))] sz) [(h_mm, .inr (8, (mo22 v_mm (.ref h_bto) (.ref h_tra) (.int u.1)))), (h_bto, .inl (cy_bto, 256, .inl u.2)), (h_tra, .inl (cy_tra, 256, .inl f_tra))]) (va_A [(h_mm, .inr (8, (mo22 v_mm (.ref h_bto) (.ref h_tra) (.int x_mm_trailed)))), (h_bto, .inl (cy_bto, 256, .inl f_bto)), (h_tra, .inl (cy_tra, 256, .inl f_tra))] sz)) 0 0 (va_A [(h_mm, .inr (8, (mo22 v_mm (.ref h_bto) (.ref h_tra) (.int x_mm_trailed)))), (h_bto, .inl (cy_bto, 256, .inl f_bto)), (h_tra, .inl (cy_tra, 256, .inl f_tra))] sz) := by
  refine Met.ofW (cc := cX11_takesBack) (maxL := 2) (ret := none) (by decide) rfl ?_
  intro p e s m args below meth c s₁ B hml hv
  obtain ⟨rfl, hsz, hP, hK, hD0, hN⟩ := hv
  have hx := B.exec
  have hb := B.bytes
  have hr := B.returns
  have hts := atoms_spec (ws := Ws yX11_takesBack cX11_takesBack 2 none) B.pre
  have hT : ∀ w ∈ WALL, w ∈ Ws yX11_takesBack cX11_takesBack 2 none := fun w h => List.mem_cons_of_mem _ h
  have hw := fun w (h : w ∈ WALL) => hts w (hT w h)
  have hown : s.vm.findClass RX11 = some m.cls := findClass_of_methodNamed B.named
  have hlocks := B.notSynchronized
  subst hsz
  have hD := hD0.self (sz := s.heap.size)
  generalize hAe : va_A [(h_mm, .inr (8, (mo22 v_mm (.ref h_bto) (.ref h_tra) (.int x_mm_trailed)))), (h_bto, .inl (cy_bto, 256, .inl f_bto)), (h_tra, .inl (cy_tra, 256, .inl f_tra))] s.heap.size = A at hD ⊢
  have hA : ∀ q : Nat, s.heap.size ≤ q → A q := fun q h => by rw [← hAe]; exact Or.inr h
  have hS : va_S A s.heap s.heap [] := va_S.rf
  have hl := lv_entry ([.ref h_mm, .int p1]) (n := 2) (Nat.le_of_ble_eq_true rfl)
  rw [lg_entry_eq]
  generalize (lg_sl ([.ref h_mm, .int p1]) ++ List.replicate (2 - (lg_sl ([.ref h_mm, .int p1])).length) Slot.unset).toArray = ls at hl ⊢
  have hl : lv_has ls 2 [(0, .ref h_mm), (1, .int p1)] := hl
  have tb0 : TBK (x_mm_trailed).toInt (x_mm_trailed).toInt f_bto f_tra f_bto := tb_refl
  have lp3 : ∀ (n : Nat) (x1 : Int32) (f2 : Nat → Int32) (H : Heap) (locs : List Loc) (ls : Array Slot), (0 ≤ (x1).toInt ∧ (x1).toInt ≤ 256) → (Rg (-1) 7999 f2) → ((x1).toInt ≤ (x_mm_trailed).toInt) → ((p1).toInt ≤ (x1).toInt ∨ (x1).toInt = (x_mm_trailed).toInt) → (TRL (x1).toInt f_tra f2) → (TBK (x1).toInt (x_mm_trailed).toInt f_bto f_tra f2) → ((x1).toInt).toNat + 1 ≤ n → va_P (dC, dI) cls [(h_mm, .inr (8, (mo22 v_mm (.ref h_bto) (.ref h_tra) (.int x1)))), (h_bto, .inl (cy_bto, 256, .inl f2)), (h_tra, .inl (cy_tra, 256, .inl f_tra))] H → va_D A [(h_mm, .inr (8, (mo22 v_mm (.ref h_bto) (.ref h_tra) (.int x1)))), (h_bto, .inl (cy_bto, 256, .inl f2)), (h_tra, .inl (cy_tra, 256, .inl f_tra))] → va_S A s.heap H locs → lv_has ls 2 [(0, .ref h_mm), (1, .int p1)] → W p l e ({ frames := 0, cells := 0, slots := 0, locals := 0 } : Room) s m ([.ref h_mm, .int p1] : List Value).toArray below meth c H locs 0 0 (MQ below (va_Qv (fun (u : (Int32) × (Nat → Int32)) => (0 ≤ (u.1).toInt ∧ (u.1).toInt ≤ 256) ∧ (Rg (-1) 7999 u.2) ∧ (((u.1).toInt = (p1).toInt ∧ (p1).toInt ≤ (x_mm_trailed).toInt) ∨ ((u.1).toInt = (x_mm_trailed).toInt ∧ (x_mm_trailed).toInt ≤ (p1).toInt)) ∧ (TRL (u.1).toInt f_tra u.2) ∧ (TBK (u.1).toInt (x_mm_trailed).toInt f_bto f_tra u.2)) (fun (u : (Int32) × (Nat → Int32)) (t : State) => va_P (dC, dI) cls [(h_mm, .inr (8, (mo22 v_mm (.ref h_bto) (.ref h_tra) (.int u.1)))), (h_bto, .inl (cy_bto, 256, .inl u.2)), (h_tra, .inl (cy_tra, 256, .inl f_tra))] t.heap ∧ va_D A [(h_mm, .inr (8, (mo22 v_mm (.ref h_bto) (.ref h_tra) (.int u.1)))), (h_bto, .inl (cy_bto, 256, .inl u.2)), (h_tra, .inl (cy_tra, 256, .inl f_tra))]) A) ([.ref h_mm, .int p1] : List Value).toArray s 0 0 A) (F0 m 0 ls []) := by
    intro n
    induction n with
    | zero => intro x1 f2 H locs ls klp3_0 hf2 klp3_2 klp3_3 klp3_4 klp3_5 hm hP hD hS hl; exact False.elim (by omega)
    | succ n ih => 
      intro x1 f2 H locs ls klp3_0 hf2 klp3_2 klp3_3 klp3_4 klp3_5 hm hP hD hS hl
      have ih4 := ih
      clear ih
      refine lv_aload_n hx hb dX11_takesBack_0 rfl (lv_at hl 0 rfl) ?_
      refine va_get (D := (dC, dI)) (ci := 8) (v := .int x1) (C := RX11) (T := TX11) (N := 71) hx hb hw iwX11 hown hK hP 0 rfl rfl 30 (by decide) (hw _ w_f_X11_261) (fun _ h9 => h9) rfl dX11_takesBack_1 ?_
      refine lv_iload_n hx hb dX11_takesBack_4 rfl (lv_at hl 1 rfl) ?_
      refine lv_icmp_le (tgt := 36) hx hb dX11_takesBack_5 (by decide) (fun c5 => ?_) (fun c5 => ?_)
      · have kc5 := (cv_le (rfl : (x1).toInt = (x1).toInt) (rfl : (p1).toInt = (p1).toInt)).mp c5
        refine W.widen (k := 0) (n := 0) (Nat.le_of_ble_eq_true rfl) (Nat.le_of_ble_eq_true rfl) ?_
        have w6 : 0 ≤ ((x1)).toInt ∧ ((x1)).toInt ≤ 256 := by omega
        have w7 : (((x1)).toInt = (p1).toInt ∧ (p1).toInt ≤ (x_mm_trailed).toInt) ∨ (((x1)).toInt = (x_mm_trailed).toInt ∧ (x_mm_trailed).toInt ≤ (p1).toInt) := by omega
        have w8 : TRL ((x1)).toInt f_tra (f2) := (trl_cast klp3_4 (by omega))
        have w9 : TBK ((x1)).toInt (x_mm_trailed).toInt f_bto f_tra (f2) := (tb_cast klp3_5 (by omega) (by omega))
        exact W.vret hx hb hr (fun t ht hW => ⟨⟨(x1, f2), rfl, ⟨w6, hf2, w7, w8, w9⟩, by rw [ht]; exact hP, hD⟩, hS.F ht⟩) hS.2.2 dX11_takesBack_36
      · have kc5 := (not_congr (cv_le (rfl : (x1).toInt = (x1).toInt) (rfl : (p1).toInt = (p1).toInt))).mp c5
        refine lv_aload_n hx hb dX11_takesBack_8 rfl (lv_at hl 0 rfl) ?_
        refine lv_aload_n hx hb dX11_takesBack_9 rfl (lv_at hl 0 rfl) ?_
        refine va_get (D := (dC, dI)) (ci := 8) (v := .int x1) (C := RX11) (T := TX11) (N := 71) hx hb hw iwX11 hown hK hP 0 rfl rfl 30 (by decide) (hw _ w_f_X11_261) (fun _ h9 => h9) rfl dX11_takesBack_10 ?_
        refine lv_iconst (v := 1) hx hb dX11_takesBack_13 (by decide) ?_
        refine lv_isub hx hb dX11_takesBack_14 ?_
        refine lv_topi (fun z10 ez10 => ?_)
        have tz10 : (z10).toInt = (x1).toInt - 1 := by rw [ez10]; exact i_sub rfl (by decide) (by omega)
        refine va_put (D := (dC, dI)) (ci := 8) (v := .int z10) (ty := tyX11 30) (C := RX11) (T := TX11) (N := 71) hx hb hw iwX11 tyX11 tyX11_ok nmX11 hown hK hP hD hS 0 rfl rfl 30 (by decide) (hw _ w_f_X11_261) (fun _ h9 => h9) rfl (tyX11_ok 30 (by decide)) rfl rfl (Nat.le_of_ble_eq_true rfl) dX11_takesBack_15 (fun H locs hP hD hS => ?_)
        have hP : va_P (dC, dI) cls [(h_mm, .inr (8, (mo22 v_mm (.ref h_bto) (.ref h_tra) (.int z10)))), (h_bto, .inl (cy_bto, 256, .inl f2)), (h_tra, .inl (cy_tra, 256, .inl f_tra))] H := hP
        have hD : va_D A [(h_mm, .inr (8, (mo22 v_mm (.ref h_bto) (.ref h_tra) (.int z10)))), (h_bto, .inl (cy_bto, 256, .inl f2)), (h_tra, .inl (cy_tra, 256, .inl f_tra))] := hD
        refine lv_aload_n hx hb dX11_takesBack_18 rfl (lv_at hl 0 rfl) ?_
        refine va_get (D := (dC, dI)) (ci := 8) (v := .ref h_bto) (C := RX11) (T := TX11) (N := 71) hx hb hw iwX11 hown hK hP 0 rfl rfl 27 (by decide) (hw _ w_f_X11_195) (fun _ h9 => h9) rfl dX11_takesBack_19 ?_
        refine lv_aload_n hx hb dX11_takesBack_22 rfl (lv_at hl 0 rfl) ?_
        refine va_get (D := (dC, dI)) (ci := 8) (v := .ref h_tra) (C := RX11) (T := TX11) (N := 71) hx hb hw iwX11 hown hK hP 0 rfl rfl 29 (by decide) (hw _ w_f_X11_201) (fun _ h9 => h9) rfl dX11_takesBack_23 ?_
        refine lv_aload_n hx hb dX11_takesBack_26 rfl (lv_at hl 0 rfl) ?_
        refine va_get (D := (dC, dI)) (ci := 8) (v := .int z10) (C := RX11) (T := TX11) (N := 71) hx hb hw iwX11 hown hK hP 0 rfl rfl 30 (by decide) (hw _ w_f_X11_261) (fun _ h9 => h9) rfl dX11_takesBack_27 ?_
        refine va_iald hx hb hK hP 2 1 rfl rfl (i := z10) (vp_in_iff.mpr (by omega)) dX11_takesBack_30 ?_
        refine lv_topi (fun z11 ez11 => ?_)
        have rz11 : 0 ≤ (z11).toInt ∧ (z11).toInt ≤ 255 := by rw [ez11]; exact hf_tra _
        refine lv_iconst (v := (-1)) hx hb dX11_takesBack_31 (by decide) ?_
        refine va_iast hx hb hK hP hD hS 1 0 rfl rfl (i := z11) (x := (-1)) (vp_in_iff.mpr (by omega)) dX11_takesBack_32 (fun H locs hP hD hS => ?_)
        obtain ⟨f12, ef12⟩ : ∃ g : Nat → Int32, g = upd f2 (Int32.toNatClampNeg z11) (-1) := ⟨_, rfl⟩
        have hP : va_P (dC, dI) cls [(h_mm, .inr (8, (mo22 v_mm (.ref h_bto) (.ref h_tra) (.int z10)))), (h_bto, .inl (cy_bto, 256, .inl f12)), (h_tra, .inl (cy_tra, 256, .inl f_tra))] H := by rw [ef12]; exact hP
        have hD : va_D A [(h_mm, .inr (8, (mo22 v_mm (.ref h_bto) (.ref h_tra) (.int z10)))), (h_bto, .inl (cy_bto, 256, .inl f12)), (h_tra, .inl (cy_tra, 256, .inl f_tra))] := by rw [ef12]; exact hD
        have hf12 : Rg (-1) 7999 f12 := by rw [ef12]; exact rg_upd hf2 (by decide)
        have tl13 : TRL (z10).toInt f_tra f12 := by rw [ef12]; exact trl_cast (trl_step (k := z10) klp3_4 (by omega) (by omega) hf_tra ez11) (by omega)
        have tb14 : TBK (z10).toInt (x_mm_trailed).toInt f_bto f_tra f12 := by rw [ef12]; exact tb_cast (tb_step (k := z10) klp3_5 (by omega) (by omega) hf_tra ez11) (by omega) rfl
        clear ef12
        refine lv_goto (tgt := 0) hx hb dX11_takesBack_33 (by decide) ?_
        exact ih4 (z10) (f12) _ _ _ (by omega) hf12 (by omega) (by omega) (trl_cast tl13 (by omega)) (tb_cast tb14 (by omega) (by omega)) (by omega) hP hD hS (lv_sub hl [0, 1] rfl)
  exact lp3 _ (x_mm_trailed) (f_bto) _ _ _ (by omega) hf_bto (by omega) (by omega) (trl_cast hn_trl (by omega)) (tb_cast tb0 (by omega) (by omega)) (Nat.le_refl _) hP hD hS (lv_sub hl [0, 1] rfl)

