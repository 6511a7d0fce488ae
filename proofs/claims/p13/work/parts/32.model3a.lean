theorem w_code_X11_faulty : Cond.code yX11_faulty prog_13_method_12_code 2 none ∈ WALL := wall_t (tb_5 39 (by decide +kernel)) rfl
theorem w_code_X11_isTermHere : Cond.code yX11_isTermHere prog_13_method_16_code 1 (some .boolean) ∈ WALL := wall_t (tb_5 63 (by decide +kernel)) rfl
theorem w_code_X11_newNode : Cond.code yX11_newNode prog_13_method_6_code 4 (some .int) ∈ WALL := wall_t (tb_5 51 (by decide +kernel)) rfl
theorem w_code_X11_passes : Cond.code yX11_passes prog_13_method_15_code 2 (some .boolean) ∈ WALL := wall_t (tb_5 47 (by decide +kernel)) rfl
theorem w_code_X11_readsParts : Cond.code yX11_readsParts prog_13_method_19_code 2 none ∈ WALL := wall_t (tb_5 55 (by decide +kernel)) rfl
theorem w_code_X11_readsTerm : Cond.code yX11_readsTerm prog_13_method_18_code 2 (some .int) ∈ WALL := wall_t (tb_5 59 (by decide +kernel)) rfl
theorem w_code_X11_variableHere : Cond.code yX11_variableHere prog_13_method_17_code 2 (some .int) ∈ WALL := wall_t (tb_5 67 (by decide +kernel)) rfl
theorem w_f_X11_105 : Cond.fieldLink "OppositePairsModel" 105 "OppositePairsModel" "reading" "I" ∈ WALL := wall_t (tb_5 163 (by decide +kernel)) rfl
theorem w_f_X11_130 : Cond.fieldLink "OppositePairsModel" 130 "OppositePairsModel" "opened" "I" ∈ WALL := wall_t (tb_5 162 (by decide +kernel)) rfl
theorem w_f_X11_20 : Cond.fieldLink "OppositePairsModel" 20 "OppositePairsModel" "nodes" "I" ∈ WALL := wall_t (tb_5 145 (by decide +kernel)) rfl
theorem w_f_X11_23 : Cond.fieldLink "OppositePairsModel" 23 "OppositePairsModel" "nodeName" "[J" ∈ WALL := wall_t (tb_5 141 (by decide +kernel)) rfl
theorem w_instanceMethod_X11_faulty : Cond.instanceMethod yX11_faulty ∈ WALL := wall_t (tb_5 38 (by decide +kernel)) rfl
theorem w_instanceMethod_X11_isTermHere : Cond.instanceMethod yX11_isTermHere ∈ WALL := wall_t (tb_5 62 (by decide +kernel)) rfl
theorem w_instanceMethod_X11_newNode : Cond.instanceMethod yX11_newNode ∈ WALL := wall_t (tb_5 50 (by decide +kernel)) rfl
theorem w_instanceMethod_X11_passes : Cond.instanceMethod yX11_passes ∈ WALL := wall_t (tb_5 46 (by decide +kernel)) rfl
theorem w_instanceMethod_X11_readsParts : Cond.instanceMethod yX11_readsParts ∈ WALL := wall_t (tb_5 54 (by decide +kernel)) rfl
theorem w_instanceMethod_X11_readsTerm : Cond.instanceMethod yX11_readsTerm ∈ WALL := wall_t (tb_5 58 (by decide +kernel)) rfl
theorem w_instanceMethod_X11_variableHere : Cond.instanceMethod yX11_variableHere ∈ WALL := wall_t (tb_5 66 (by decide +kernel)) rfl
theorem w_m_X11_111 : Cond.methodLink "OppositePairsModel" 111 yX11_faulty ∈ WALL := wall_t (tb_5 36 (by decide +kernel)) rfl
theorem w_m_X11_115 : Cond.methodLink "OppositePairsModel" 115 yX11_isTermHere ∈ WALL := wall_t (tb_5 60 (by decide +kernel)) rfl
theorem w_m_X11_119 : Cond.methodLink "OppositePairsModel" 119 yX11_variableHere ∈ WALL := wall_t (tb_5 64 (by decide +kernel)) rfl
theorem w_m_X11_123 : Cond.methodLink "OppositePairsModel" 123 yX11_newNode ∈ WALL := wall_t (tb_5 48 (by decide +kernel)) rfl
theorem w_m_X11_127 : Cond.methodLink "OppositePairsModel" 127 yX11_readsParts ∈ WALL := wall_t (tb_5 52 (by decide +kernel)) rfl
theorem w_m_X11_133 : Cond.methodLink "OppositePairsModel" 133 yX11_readsTerm ∈ WALL := wall_t (tb_5 56 (by decide +kernel)) rfl
theorem w_m_X11_136 : Cond.methodLink "OppositePairsModel" 136 yX11_passes ∈ WALL := wall_t (tb_5 44 (by decide +kernel)) rfl
theorem ws_sel_X11_faulty : Cond.selects "OppositePairsModel" yX11_faulty yX11_faulty ∈ WALL := wall_s 91 (by decide +kernel) rfl
theorem ws_sel_X11_isTermHere : Cond.selects "OppositePairsModel" yX11_isTermHere yX11_isTermHere ∈ WALL := wall_s 97 (by decide +kernel) rfl
theorem ws_sel_X11_newNode : Cond.selects "OppositePairsModel" yX11_newNode yX11_newNode ∈ WALL := wall_s 94 (by decide +kernel) rfl
theorem ws_sel_X11_passes : Cond.selects "OppositePairsModel" yX11_passes yX11_passes ∈ WALL := wall_s 93 (by decide +kernel) rfl
theorem ws_sel_X11_readsParts : Cond.selects "OppositePairsModel" yX11_readsParts yX11_readsParts ∈ WALL := wall_s 95 (by decide +kernel) rfl
theorem ws_sel_X11_readsTerm : Cond.selects "OppositePairsModel" yX11_readsTerm yX11_readsTerm ∈ WALL := wall_s 96 (by decide +kernel) rfl
theorem ws_sel_X11_variableHere : Cond.selects "OppositePairsModel" yX11_variableHere yX11_variableHere ∈ WALL := wall_s 98 (by decide +kernel) rfl
theorem dX11_newNode_0 : decode cX11_newNode 0 = .ok (.aload_n 0, 1) := by decide +kernel
theorem dX11_newNode_1 : decode cX11_newNode 1 = .ok (.getfield 17, 3) := by decide +kernel
theorem dX11_newNode_10 : decode cX11_newNode 10 = .ok (.aload_n 0, 1) := by decide +kernel
theorem dX11_newNode_11 : decode cX11_newNode 11 = .ok (.getfield 23, 3) := by decide +kernel
theorem dX11_newNode_14 : decode cX11_newNode 14 = .ok (.aload_n 0, 1) := by decide +kernel
theorem dX11_newNode_15 : decode cX11_newNode 15 = .ok (.getfield 20, 3) := by decide +kernel
theorem dX11_newNode_18 : decode cX11_newNode 18 = .ok (.lload_n 2, 1) := by decide +kernel
theorem dX11_newNode_19 : decode cX11_newNode 19 = .ok (.lastore, 1) := by decide +kernel
theorem dX11_newNode_20 : decode cX11_newNode 20 = .ok (.aload_n 0, 1) := by decide +kernel
theorem dX11_newNode_21 : decode cX11_newNode 21 = .ok (.getfield 7, 3) := by decide +kernel
theorem dX11_newNode_24 : decode cX11_newNode 24 = .ok (.aload_n 0, 1) := by decide +kernel
theorem dX11_newNode_25 : decode cX11_newNode 25 = .ok (.getfield 20, 3) := by decide +kernel
theorem dX11_newNode_28 : decode cX11_newNode 28 = .ok (.iconst (-1), 1) := by decide +kernel
theorem dX11_newNode_29 : decode cX11_newNode 29 = .ok (.iastore, 1) := by decide +kernel
theorem dX11_newNode_30 : decode cX11_newNode 30 = .ok (.aload_n 0, 1) := by decide +kernel
theorem dX11_newNode_31 : decode cX11_newNode 31 = .ok (.getfield 11, 3) := by decide +kernel
theorem dX11_newNode_34 : decode cX11_newNode 34 = .ok (.aload_n 0, 1) := by decide +kernel
theorem dX11_newNode_35 : decode cX11_newNode 35 = .ok (.getfield 20, 3) := by decide +kernel
theorem dX11_newNode_38 : decode cX11_newNode 38 = .ok (.iconst (-1), 1) := by decide +kernel
theorem dX11_newNode_39 : decode cX11_newNode 39 = .ok (.iastore, 1) := by decide +kernel
theorem dX11_newNode_4 : decode cX11_newNode 4 = .ok (.aload_n 0, 1) := by decide +kernel
theorem dX11_newNode_40 : decode cX11_newNode 40 = .ok (.aload_n 0, 1) := by decide +kernel
theorem dX11_newNode_41 : decode cX11_newNode 41 = .ok (.getfield 14, 3) := by decide +kernel
theorem dX11_newNode_44 : decode cX11_newNode 44 = .ok (.aload_n 0, 1) := by decide +kernel
theorem dX11_newNode_45 : decode cX11_newNode 45 = .ok (.getfield 20, 3) := by decide +kernel
theorem dX11_newNode_48 : decode cX11_newNode 48 = .ok (.iconst (-1), 1) := by decide +kernel
theorem dX11_newNode_49 : decode cX11_newNode 49 = .ok (.iastore, 1) := by decide +kernel
theorem dX11_newNode_5 : decode cX11_newNode 5 = .ok (.getfield 20, 3) := by decide +kernel
theorem dX11_newNode_50 : decode cX11_newNode 50 = .ok (.aload_n 0, 1) := by decide +kernel
theorem dX11_newNode_51 : decode cX11_newNode 51 = .ok (.aload_n 0, 1) := by decide +kernel
theorem dX11_newNode_52 : decode cX11_newNode 52 = .ok (.getfield 20, 3) := by decide +kernel
theorem dX11_newNode_55 : decode cX11_newNode 55 = .ok (.iconst 1, 1) := by decide +kernel
theorem dX11_newNode_56 : decode cX11_newNode 56 = .ok (.iadd, 1) := by decide +kernel
theorem dX11_newNode_57 : decode cX11_newNode 57 = .ok (.putfield 20, 3) := by decide +kernel
theorem dX11_newNode_60 : decode cX11_newNode 60 = .ok (.aload_n 0, 1) := by decide +kernel
theorem dX11_newNode_61 : decode cX11_newNode 61 = .ok (.getfield 20, 3) := by decide +kernel
theorem dX11_newNode_64 : decode cX11_newNode 64 = .ok (.iconst 1, 1) := by decide +kernel
theorem dX11_newNode_65 : decode cX11_newNode 65 = .ok (.isub, 1) := by decide +kernel
theorem dX11_newNode_66 : decode cX11_newNode 66 = .ok (.ireturn, 1) := by decide +kernel
theorem dX11_newNode_8 : decode cX11_newNode 8 = .ok (.iload_n 1, 1) := by decide +kernel
theorem dX11_newNode_9 : decode cX11_newNode 9 = .ok (.iastore, 1) := by decide +kernel
theorem dX11_readsParts_0 : decode cX11_readsParts 0 = .ok (.aload_n 0, 1) := by decide +kernel
theorem dX11_readsParts_1 : decode cX11_readsParts 1 = .ok (.bipush 40, 2) := by decide +kernel
theorem dX11_readsParts_10 : decode cX11_readsParts 10 = .ok (.aload_n 0, 1) := by decide +kernel
theorem dX11_readsParts_100 : decode cX11_readsParts 100 = .ok (.ifCond .eq 19, 3) := by decide +kernel
theorem dX11_readsParts_103 : decode cX11_readsParts 103 = .ok (.aload_n 0, 1) := by decide +kernel
theorem dX11_readsParts_104 : decode cX11_readsParts 104 = .ok (.aload_n 0, 1) := by decide +kernel
theorem dX11_readsParts_105 : decode cX11_readsParts 105 = .ok (.invokevirtual 115, 3) := by decide +kernel
theorem dX11_readsParts_108 : decode cX11_readsParts 108 = .ok (.ifCond .eq 7, 3) := by decide +kernel
theorem dX11_readsParts_11 : decode cX11_readsParts 11 = .ok (.getfield 130, 3) := by decide +kernel
theorem dX11_readsParts_111 : decode cX11_readsParts 111 = .ok (.iconst 2, 1) := by decide +kernel
theorem dX11_readsParts_112 : decode cX11_readsParts 112 = .ok (.goto 4, 3) := by decide +kernel
theorem dX11_readsParts_115 : decode cX11_readsParts 115 = .ok (.iconst 1, 1) := by decide +kernel
theorem dX11_readsParts_116 : decode cX11_readsParts 116 = .ok (.invokevirtual 111, 3) := by decide +kernel
theorem dX11_readsParts_119 : decode cX11_readsParts 119 = .ok (.aload_n 0, 1) := by decide +kernel
theorem dX11_readsParts_120 : decode cX11_readsParts 120 = .ok (.bipush 41, 2) := by decide +kernel
theorem dX11_readsParts_122 : decode cX11_readsParts 122 = .ok (.invokevirtual 136, 3) := by decide +kernel
theorem dX11_readsParts_125 : decode cX11_readsParts 125 = .ok (.ifCond .ne 8, 3) := by decide +kernel
theorem dX11_readsParts_128 : decode cX11_readsParts 128 = .ok (.aload_n 0, 1) := by decide +kernel
theorem dX11_readsParts_129 : decode cX11_readsParts 129 = .ok (.iconst 1, 1) := by decide +kernel
theorem dX11_readsParts_130 : decode cX11_readsParts 130 = .ok (.invokevirtual 111, 3) := by decide +kernel
theorem dX11_readsParts_133 : decode cX11_readsParts 133 = .ok (.aload_n 0, 1) := by decide +kernel
theorem dX11_readsParts_134 : decode cX11_readsParts 134 = .ok (.aload_n 0, 1) := by decide +kernel
theorem dX11_readsParts_135 : decode cX11_readsParts 135 = .ok (.getfield 130, 3) := by decide +kernel
theorem dX11_readsParts_138 : decode cX11_readsParts 138 = .ok (.iconst 1, 1) := by decide +kernel
theorem dX11_readsParts_139 : decode cX11_readsParts 139 = .ok (.isub, 1) := by decide +kernel
theorem dX11_readsParts_14 : decode cX11_readsParts 14 = .ok (.bipush 6, 2) := by decide +kernel
theorem dX11_readsParts_140 : decode cX11_readsParts 140 = .ok (.putfield 130, 3) := by decide +kernel
theorem dX11_readsParts_143 : decode cX11_readsParts 143 = .ok (.return_, 1) := by decide +kernel
theorem dX11_readsParts_16 : decode cX11_readsParts 16 = .ok (.if_icmp .ne 8, 3) := by decide +kernel
theorem dX11_readsParts_19 : decode cX11_readsParts 19 = .ok (.aload_n 0, 1) := by decide +kernel
theorem dX11_readsParts_20 : decode cX11_readsParts 20 = .ok (.iconst 2, 1) := by decide +kernel
theorem dX11_readsParts_21 : decode cX11_readsParts 21 = .ok (.invokevirtual 111, 3) := by decide +kernel
theorem dX11_readsParts_24 : decode cX11_readsParts 24 = .ok (.aload_n 0, 1) := by decide +kernel
theorem dX11_readsParts_25 : decode cX11_readsParts 25 = .ok (.getfield 61, 3) := by decide +kernel
theorem dX11_readsParts_28 : decode cX11_readsParts 28 = .ok (.ifCond .eq 4, 3) := by decide +kernel
theorem dX11_readsParts_3 : decode cX11_readsParts 3 = .ok (.invokevirtual 95, 3) := by decide +kernel
theorem dX11_readsParts_31 : decode cX11_readsParts 31 = .ok (.return_, 1) := by decide +kernel
theorem dX11_readsParts_32 : decode cX11_readsParts 32 = .ok (.aload_n 0, 1) := by decide +kernel
theorem dX11_readsParts_33 : decode cX11_readsParts 33 = .ok (.aload_n 0, 1) := by decide +kernel
theorem dX11_readsParts_34 : decode cX11_readsParts 34 = .ok (.getfield 130, 3) := by decide +kernel
theorem dX11_readsParts_37 : decode cX11_readsParts 37 = .ok (.iconst 1, 1) := by decide +kernel
theorem dX11_readsParts_38 : decode cX11_readsParts 38 = .ok (.iadd, 1) := by decide +kernel
theorem dX11_readsParts_39 : decode cX11_readsParts 39 = .ok (.putfield 130, 3) := by decide +kernel
theorem dX11_readsParts_42 : decode cX11_readsParts 42 = .ok (.aload_n 0, 1) := by decide +kernel
theorem dX11_readsParts_43 : decode cX11_readsParts 43 = .ok (.invokevirtual 98, 3) := by decide +kernel
theorem dX11_readsParts_46 : decode cX11_readsParts 46 = .ok (.aload_n 0, 1) := by decide +kernel
theorem dX11_readsParts_47 : decode cX11_readsParts 47 = .ok (.getfield 7, 3) := by decide +kernel
theorem dX11_readsParts_50 : decode cX11_readsParts 50 = .ok (.iload_n 1, 1) := by decide +kernel
theorem dX11_readsParts_51 : decode cX11_readsParts 51 = .ok (.aload_n 0, 1) := by decide +kernel
theorem dX11_readsParts_52 : decode cX11_readsParts 52 = .ok (.invokevirtual 133, 3) := by decide +kernel
theorem dX11_readsParts_55 : decode cX11_readsParts 55 = .ok (.iastore, 1) := by decide +kernel
theorem dX11_readsParts_56 : decode cX11_readsParts 56 = .ok (.aload_n 0, 1) := by decide +kernel
theorem dX11_readsParts_57 : decode cX11_readsParts 57 = .ok (.bipush 44, 2) := by decide +kernel
theorem dX11_readsParts_59 : decode cX11_readsParts 59 = .ok (.invokevirtual 136, 3) := by decide +kernel
theorem dX11_readsParts_6 : decode cX11_readsParts 6 = .ok (.ifCond .ne 4, 3) := by decide +kernel
theorem dX11_readsParts_62 : decode cX11_readsParts 62 = .ok (.ifCond .eq 57, 3) := by decide +kernel
theorem dX11_readsParts_65 : decode cX11_readsParts 65 = .ok (.aload_n 0, 1) := by decide +kernel
theorem dX11_readsParts_66 : decode cX11_readsParts 66 = .ok (.getfield 11, 3) := by decide +kernel
theorem dX11_readsParts_69 : decode cX11_readsParts 69 = .ok (.iload_n 1, 1) := by decide +kernel
theorem dX11_readsParts_70 : decode cX11_readsParts 70 = .ok (.aload_n 0, 1) := by decide +kernel
theorem dX11_readsParts_71 : decode cX11_readsParts 71 = .ok (.invokevirtual 133, 3) := by decide +kernel
theorem dX11_readsParts_74 : decode cX11_readsParts 74 = .ok (.iastore, 1) := by decide +kernel
theorem dX11_readsParts_75 : decode cX11_readsParts 75 = .ok (.aload_n 0, 1) := by decide +kernel
theorem dX11_readsParts_76 : decode cX11_readsParts 76 = .ok (.bipush 44, 2) := by decide +kernel
theorem dX11_readsParts_78 : decode cX11_readsParts 78 = .ok (.invokevirtual 136, 3) := by decide +kernel
theorem dX11_readsParts_81 : decode cX11_readsParts 81 = .ok (.ifCond .eq 38, 3) := by decide +kernel
theorem dX11_readsParts_84 : decode cX11_readsParts 84 = .ok (.aload_n 0, 1) := by decide +kernel
theorem dX11_readsParts_85 : decode cX11_readsParts 85 = .ok (.getfield 14, 3) := by decide +kernel
theorem dX11_readsParts_88 : decode cX11_readsParts 88 = .ok (.iload_n 1, 1) := by decide +kernel
theorem dX11_readsParts_89 : decode cX11_readsParts 89 = .ok (.aload_n 0, 1) := by decide +kernel
theorem dX11_readsParts_9 : decode cX11_readsParts 9 = .ok (.return_, 1) := by decide +kernel
theorem dX11_readsParts_90 : decode cX11_readsParts 90 = .ok (.invokevirtual 133, 3) := by decide +kernel
theorem dX11_readsParts_93 : decode cX11_readsParts 93 = .ok (.iastore, 1) := by decide +kernel
theorem dX11_readsParts_94 : decode cX11_readsParts 94 = .ok (.aload_n 0, 1) := by decide +kernel
theorem dX11_readsParts_95 : decode cX11_readsParts 95 = .ok (.bipush 44, 2) := by decide +kernel
theorem dX11_readsParts_97 : decode cX11_readsParts 97 = .ok (.invokevirtual 136, 3) := by decide +kernel
theorem dX11_readsTerm_0 : decode cX11_readsTerm 0 = .ok (.aload_n 0, 1) := by decide +kernel
theorem dX11_readsTerm_1 : decode cX11_readsTerm 1 = .ok (.invokevirtual 115, 3) := by decide +kernel
theorem dX11_readsTerm_12 : decode cX11_readsTerm 12 = .ok (.iconst (-1), 1) := by decide +kernel
theorem dX11_readsTerm_13 : decode cX11_readsTerm 13 = .ok (.ireturn, 1) := by decide +kernel
theorem dX11_readsTerm_14 : decode cX11_readsTerm 14 = .ok (.aload_n 0, 1) := by decide +kernel
theorem dX11_readsTerm_15 : decode cX11_readsTerm 15 = .ok (.getfield 87, 3) := by decide +kernel
theorem dX11_readsTerm_18 : decode cX11_readsTerm 18 = .ok (.iconst 2, 1) := by decide +kernel
theorem dX11_readsTerm_19 : decode cX11_readsTerm 19 = .ok (.if_icmp .ne 26, 3) := by decide +kernel
theorem dX11_readsTerm_22 : decode cX11_readsTerm 22 = .ok (.aload_n 0, 1) := by decide +kernel
theorem dX11_readsTerm_23 : decode cX11_readsTerm 23 = .ok (.aload_n 0, 1) := by decide +kernel
theorem dX11_readsTerm_24 : decode cX11_readsTerm 24 = .ok (.invokevirtual 119, 3) := by decide +kernel
theorem dX11_readsTerm_27 : decode cX11_readsTerm 27 = .ok (.lconst 0, 1) := by decide +kernel
theorem dX11_readsTerm_28 : decode cX11_readsTerm 28 = .ok (.invokevirtual 123, 3) := by decide +kernel
theorem dX11_readsTerm_31 : decode cX11_readsTerm 31 = .ok (.istore_n 1, 1) := by decide +kernel
theorem dX11_readsTerm_32 : decode cX11_readsTerm 32 = .ok (.aload_n 0, 1) := by decide +kernel
theorem dX11_readsTerm_33 : decode cX11_readsTerm 33 = .ok (.getfield 61, 3) := by decide +kernel
theorem dX11_readsTerm_36 : decode cX11_readsTerm 36 = .ok (.ifCond .ne 7, 3) := by decide +kernel
theorem dX11_readsTerm_39 : decode cX11_readsTerm 39 = .ok (.aload_n 0, 1) := by decide +kernel
theorem dX11_readsTerm_4 : decode cX11_readsTerm 4 = .ok (.ifCond .ne 10, 3) := by decide +kernel
theorem dX11_readsTerm_40 : decode cX11_readsTerm 40 = .ok (.invokevirtual 98, 3) := by decide +kernel
theorem dX11_readsTerm_43 : decode cX11_readsTerm 43 = .ok (.iload_n 1, 1) := by decide +kernel
theorem dX11_readsTerm_44 : decode cX11_readsTerm 44 = .ok (.ireturn, 1) := by decide +kernel
theorem dX11_readsTerm_45 : decode cX11_readsTerm 45 = .ok (.aload_n 0, 1) := by decide +kernel
theorem dX11_readsTerm_46 : decode cX11_readsTerm 46 = .ok (.iconst (-1), 1) := by decide +kernel
theorem dX11_readsTerm_47 : decode cX11_readsTerm 47 = .ok (.aload_n 0, 1) := by decide +kernel
theorem dX11_readsTerm_48 : decode cX11_readsTerm 48 = .ok (.getfield 83, 3) := by decide +kernel
theorem dX11_readsTerm_51 : decode cX11_readsTerm 51 = .ok (.invokevirtual 123, 3) := by decide +kernel
theorem dX11_readsTerm_54 : decode cX11_readsTerm 54 = .ok (.istore_n 1, 1) := by decide +kernel
theorem dX11_readsTerm_55 : decode cX11_readsTerm 55 = .ok (.aload_n 0, 1) := by decide +kernel
theorem dX11_readsTerm_56 : decode cX11_readsTerm 56 = .ok (.invokevirtual 98, 3) := by decide +kernel
theorem dX11_readsTerm_59 : decode cX11_readsTerm 59 = .ok (.aload_n 0, 1) := by decide +kernel
theorem dX11_readsTerm_60 : decode cX11_readsTerm 60 = .ok (.iload_n 1, 1) := by decide +kernel
theorem dX11_readsTerm_61 : decode cX11_readsTerm 61 = .ok (.invokevirtual 127, 3) := by decide +kernel
theorem dX11_readsTerm_64 : decode cX11_readsTerm 64 = .ok (.iload_n 1, 1) := by decide +kernel
theorem dX11_readsTerm_65 : decode cX11_readsTerm 65 = .ok (.ireturn, 1) := by decide +kernel
theorem dX11_readsTerm_7 : decode cX11_readsTerm 7 = .ok (.aload_n 0, 1) := by decide +kernel
theorem dX11_readsTerm_8 : decode cX11_readsTerm 8 = .ok (.iconst 1, 1) := by decide +kernel
theorem dX11_readsTerm_9 : decode cX11_readsTerm 9 = .ok (.invokevirtual 111, 3) := by decide +kernel
theorem dX11_variableHere_0 : decode cX11_variableHere 0 = .ok (.iconst 0, 1) := by decide +kernel
theorem dX11_variableHere_1 : decode cX11_variableHere 1 = .ok (.istore_n 1, 1) := by decide +kernel
theorem dX11_variableHere_100 : decode cX11_variableHere 100 = .ok (.getfield 102, 3) := by decide +kernel
theorem dX11_variableHere_103 : decode cX11_variableHere 103 = .ok (.aload_n 0, 1) := by decide +kernel
theorem dX11_variableHere_104 : decode cX11_variableHere 104 = .ok (.getfield 105, 3) := by decide +kernel
theorem dX11_variableHere_107 : decode cX11_variableHere 107 = .ok (.iaload, 1) := by decide +kernel
theorem dX11_variableHere_108 : decode cX11_variableHere 108 = .ok (.iconst 1, 1) := by decide +kernel
theorem dX11_variableHere_109 : decode cX11_variableHere 109 = .ok (.iadd, 1) := by decide +kernel
theorem dX11_variableHere_11 : decode cX11_variableHere 11 = .ok (.iaload, 1) := by decide +kernel
theorem dX11_variableHere_110 : decode cX11_variableHere 110 = .ok (.iastore, 1) := by decide +kernel
theorem dX11_variableHere_111 : decode cX11_variableHere 111 = .ok (.aload_n 0, 1) := by decide +kernel
theorem dX11_variableHere_112 : decode cX11_variableHere 112 = .ok (.getfield 102, 3) := by decide +kernel
theorem dX11_variableHere_115 : decode cX11_variableHere 115 = .ok (.aload_n 0, 1) := by decide +kernel
theorem dX11_variableHere_116 : decode cX11_variableHere 116 = .ok (.getfield 105, 3) := by decide +kernel
theorem dX11_variableHere_119 : decode cX11_variableHere 119 = .ok (.iaload, 1) := by decide +kernel
theorem dX11_variableHere_12 : decode cX11_variableHere 12 = .ok (.if_icmp .ge 32, 3) := by decide +kernel
theorem dX11_variableHere_120 : decode cX11_variableHere 120 = .ok (.iconst 1, 1) := by decide +kernel
theorem dX11_variableHere_121 : decode cX11_variableHere 121 = .ok (.isub, 1) := by decide +kernel
theorem dX11_variableHere_122 : decode cX11_variableHere 122 = .ok (.ireturn, 1) := by decide +kernel
theorem dX11_variableHere_15 : decode cX11_variableHere 15 = .ok (.aload_n 0, 1) := by decide +kernel
theorem dX11_variableHere_16 : decode cX11_variableHere 16 = .ok (.getfield 108, 3) := by decide +kernel
theorem dX11_variableHere_19 : decode cX11_variableHere 19 = .ok (.bipush 8, 2) := by decide +kernel
theorem dX11_variableHere_2 : decode cX11_variableHere 2 = .ok (.iload_n 1, 1) := by decide +kernel
theorem dX11_variableHere_21 : decode cX11_variableHere 21 = .ok (.aload_n 0, 1) := by decide +kernel
theorem dX11_variableHere_22 : decode cX11_variableHere 22 = .ok (.getfield 105, 3) := by decide +kernel
theorem dX11_variableHere_25 : decode cX11_variableHere 25 = .ok (.imul, 1) := by decide +kernel
theorem dX11_variableHere_26 : decode cX11_variableHere 26 = .ok (.iload_n 1, 1) := by decide +kernel
theorem dX11_variableHere_27 : decode cX11_variableHere 27 = .ok (.iadd, 1) := by decide +kernel
theorem dX11_variableHere_28 : decode cX11_variableHere 28 = .ok (.iaload, 1) := by decide +kernel
theorem dX11_variableHere_29 : decode cX11_variableHere 29 = .ok (.aload_n 0, 1) := by decide +kernel
theorem dX11_variableHere_3 : decode cX11_variableHere 3 = .ok (.aload_n 0, 1) := by decide +kernel
theorem dX11_variableHere_30 : decode cX11_variableHere 30 = .ok (.getfield 80, 3) := by decide +kernel
theorem dX11_variableHere_33 : decode cX11_variableHere 33 = .ok (.if_icmp .ne 5, 3) := by decide +kernel
theorem dX11_variableHere_36 : decode cX11_variableHere 36 = .ok (.iload_n 1, 1) := by decide +kernel
theorem dX11_variableHere_37 : decode cX11_variableHere 37 = .ok (.ireturn, 1) := by decide +kernel
theorem dX11_variableHere_38 : decode cX11_variableHere 38 = .ok (.iinc 1 1, 3) := by decide +kernel
theorem dX11_variableHere_4 : decode cX11_variableHere 4 = .ok (.getfield 102, 3) := by decide +kernel
theorem dX11_variableHere_41 : decode cX11_variableHere 41 = .ok (.goto (-39), 3) := by decide +kernel
theorem dX11_variableHere_44 : decode cX11_variableHere 44 = .ok (.aload_n 0, 1) := by decide +kernel
theorem dX11_variableHere_45 : decode cX11_variableHere 45 = .ok (.getfield 102, 3) := by decide +kernel
theorem dX11_variableHere_48 : decode cX11_variableHere 48 = .ok (.aload_n 0, 1) := by decide +kernel
theorem dX11_variableHere_49 : decode cX11_variableHere 49 = .ok (.getfield 105, 3) := by decide +kernel
theorem dX11_variableHere_52 : decode cX11_variableHere 52 = .ok (.iaload, 1) := by decide +kernel
theorem dX11_variableHere_53 : decode cX11_variableHere 53 = .ok (.bipush 8, 2) := by decide +kernel
theorem dX11_variableHere_55 : decode cX11_variableHere 55 = .ok (.if_icmp .ne 10, 3) := by decide +kernel
theorem dX11_variableHere_58 : decode cX11_variableHere 58 = .ok (.aload_n 0, 1) := by decide +kernel
theorem dX11_variableHere_59 : decode cX11_variableHere 59 = .ok (.iconst 2, 1) := by decide +kernel
theorem dX11_variableHere_60 : decode cX11_variableHere 60 = .ok (.invokevirtual 111, 3) := by decide +kernel
theorem dX11_variableHere_63 : decode cX11_variableHere 63 = .ok (.iconst 0, 1) := by decide +kernel
theorem dX11_variableHere_64 : decode cX11_variableHere 64 = .ok (.ireturn, 1) := by decide +kernel
theorem dX11_variableHere_65 : decode cX11_variableHere 65 = .ok (.aload_n 0, 1) := by decide +kernel
theorem dX11_variableHere_66 : decode cX11_variableHere 66 = .ok (.getfield 108, 3) := by decide +kernel
theorem dX11_variableHere_69 : decode cX11_variableHere 69 = .ok (.bipush 8, 2) := by decide +kernel
theorem dX11_variableHere_7 : decode cX11_variableHere 7 = .ok (.aload_n 0, 1) := by decide +kernel
theorem dX11_variableHere_71 : decode cX11_variableHere 71 = .ok (.aload_n 0, 1) := by decide +kernel
theorem dX11_variableHere_72 : decode cX11_variableHere 72 = .ok (.getfield 105, 3) := by decide +kernel
theorem dX11_variableHere_75 : decode cX11_variableHere 75 = .ok (.imul, 1) := by decide +kernel
theorem dX11_variableHere_76 : decode cX11_variableHere 76 = .ok (.aload_n 0, 1) := by decide +kernel
theorem dX11_variableHere_77 : decode cX11_variableHere 77 = .ok (.getfield 102, 3) := by decide +kernel
theorem dX11_variableHere_8 : decode cX11_variableHere 8 = .ok (.getfield 105, 3) := by decide +kernel
theorem dX11_variableHere_80 : decode cX11_variableHere 80 = .ok (.aload_n 0, 1) := by decide +kernel
theorem dX11_variableHere_81 : decode cX11_variableHere 81 = .ok (.getfield 105, 3) := by decide +kernel
theorem dX11_variableHere_84 : decode cX11_variableHere 84 = .ok (.iaload, 1) := by decide +kernel
theorem dX11_variableHere_85 : decode cX11_variableHere 85 = .ok (.iadd, 1) := by decide +kernel
theorem dX11_variableHere_86 : decode cX11_variableHere 86 = .ok (.aload_n 0, 1) := by decide +kernel
theorem dX11_variableHere_87 : decode cX11_variableHere 87 = .ok (.getfield 80, 3) := by decide +kernel
theorem dX11_variableHere_90 : decode cX11_variableHere 90 = .ok (.iastore, 1) := by decide +kernel
theorem dX11_variableHere_91 : decode cX11_variableHere 91 = .ok (.aload_n 0, 1) := by decide +kernel
theorem dX11_variableHere_92 : decode cX11_variableHere 92 = .ok (.getfield 102, 3) := by decide +kernel
theorem dX11_variableHere_95 : decode cX11_variableHere 95 = .ok (.aload_n 0, 1) := by decide +kernel
theorem dX11_variableHere_96 : decode cX11_variableHere 96 = .ok (.getfield 105, 3) := by decide +kernel
theorem dX11_variableHere_99 : decode cX11_variableHere 99 = .ok (.aload_n 0, 1) := by decide +kernel
abbrev mo124 (v : Nat → Value) (a1 a2 a3 a4 a5 a6 : Value) : List Value := ((v 0) :: a1 :: a2 :: a3 :: a4 :: a5 :: a6 :: (v 7) :: (v 8) :: (v 9) :: (v 10) :: (v 11) :: (v 12) :: (v 13) :: (v 14) :: (v 15) :: (v 16) :: (v 17) :: (v 18) :: (v 19) :: (v 20) :: (v 21) :: (v 22) :: (v 23) :: (v 24) :: (v 25) :: (v 26) :: (v 27) :: (v 28) :: (v 29) :: (v 30) :: (v 31) :: (v 32) :: (v 33) :: (v 34) :: (v 35) :: (v 36) :: (v 37) :: (v 38) :: (v 39) :: (v 40) :: (v 41) :: (v 42) :: [(v 43), (v 44), (v 45), (v 46), (v 47), (v 48), (v 49), (v 50), (v 51), (v 52), (v 53), (v 54), (v 55), (v 56), (v 57), (v 58), (v 59), (v 60), (v 61), (v 62), (v 63), (v 64), (v 65), (v 66), (v 67), (v 68), (v 69), (v 70)])
abbrev mo125 (v : Nat → Value) (a9 a10 a14 a16 a18 a20 a21 a22 a24 : Value) : List Value := ((v 0) :: (v 1) :: (v 2) :: (v 3) :: (v 4) :: (v 5) :: (v 6) :: (v 7) :: (v 8) :: a9 :: a10 :: (v 11) :: (v 12) :: (v 13) :: a14 :: (v 15) :: a16 :: (v 17) :: a18 :: (v 19) :: a20 :: a21 :: a22 :: (v 23) :: a24 :: (v 25) :: (v 26) :: (v 27) :: (v 28) :: (v 29) :: (v 30) :: (v 31) :: (v 32) :: (v 33) :: (v 34) :: (v 35) :: (v 36) :: (v 37) :: (v 38) :: (v 39) :: (v 40) :: (v 41) :: (v 42) :: [(v 43), (v 44), (v 45), (v 46), (v 47), (v 48), (v 49), (v 50), (v 51), (v 52), (v 53), (v 54), (v 55), (v 56), (v 57), (v 58), (v 59), (v 60), (v 61), (v 62), (v 63), (v 64), (v 65), (v 66), (v 67), (v 68), (v 69), (v 70)])
abbrev mo126 (v : Nat → Value) (a1 a2 a3 a4 a5 a6 a9 a10 a13 a14 a15 a16 a17 a18 a19 a20 a21 a22 a23 a24 : Value) : List Value := ((v 0) :: a1 :: a2 :: a3 :: a4 :: a5 :: a6 :: (v 7) :: (v 8) :: a9 :: a10 :: (v 11) :: (v 12) :: a13 :: a14 :: a15 :: a16 :: a17 :: a18 :: a19 :: a20 :: a21 :: a22 :: a23 :: a24 :: (v 25) :: (v 26) :: (v 27) :: (v 28) :: (v 29) :: (v 30) :: (v 31) :: (v 32) :: (v 33) :: (v 34) :: (v 35) :: (v 36) :: (v 37) :: (v 38) :: (v 39) :: (v 40) :: (v 41) :: (v 42) :: [(v 43), (v 44), (v 45), (v 46), (v 47), (v 48), (v 49), (v 50), (v 51), (v 52), (v 53), (v 54), (v 55), (v 56), (v 57), (v 58), (v 59), (v 60), (v 61), (v 62), (v 63), (v 64), (v 65), (v 66), (v 67), (v 68), (v 69), (v 70)])
set_option maxRecDepth 100000 in
theorem mq125_90 (v : Nat → Value) (b9 b10 b14 b18 b24 : Value) : ∃ w : Nat → Value, ∀ (a16 a20 a21 a22 : Value), mo90 w a16 a20 a21 a22 = (mo125 v b9 b10 b14 a16 b18 a20 a21 a22 b24) := ⟨fun k => List.getD (mo125 v b9 b10 b14 .null b18 .null .null .null b24) k .null, fun _ _ _ _ => rfl⟩
set_option maxRecDepth 100000 in
theorem mq126_93 (v : Nat → Value) (b1 b2 b3 b4 b5 b6 b9 b10 b13 b15 b18 b19 b21 b22 b23 b24 : Value) : ∃ w : Nat → Value, ∀ (a14 a16 a17 a20 : Value), mo93 w a14 a16 a17 a20 = (mo126 v b1 b2 b3 b4 b5 b6 b9 b10 b13 a14 b15 a16 a17 b18 b19 a20 b21 b22 b23 b24) := ⟨fun k => List.getD (mo126 v b1 b2 b3 b4 b5 b6 b9 b10 b13 .null b15 .null .null b18 b19 .null b21 b22 b23 b24) k .null, fun _ _ _ _ => rfl⟩
set_option maxRecDepth 100000 in
theorem mq126_124 (v : Nat → Value) (b9 b10 b13 b14 b15 b16 b17 b18 b19 b20 b21 b22 b23 b24 : Value) : ∃ w : Nat → Value, ∀ (a1 a2 a3 a4 a5 a6 : Value), mo124 w a1 a2 a3 a4 a5 a6 = (mo126 v a1 a2 a3 a4 a5 a6 b9 b10 b13 b14 b15 b16 b17 b18 b19 b20 b21 b22 b23 b24) := ⟨fun k => List.getD (mo126 v .null .null .null .null .null .null b9 b10 b13 b14 b15 b16 b17 b18 b19 b20 b21 b22 b23 b24) k .null, fun _ _ _ _ _ _ => rfl⟩
set_option maxRecDepth 100000 in
theorem mq126_89 (v : Nat → Value) (b1 b2 b3 b4 b5 b6 b9 b10 b20 b21 b22 b23 b24 : Value) : ∃ w : Nat → Value, ∀ (a13 a14 a15 a16 a17 a18 a19 : Value), mo89 w a13 a14 a15 a16 a17 a18 a19 = (mo126 v b1 b2 b3 b4 b5 b6 b9 b10 a13 a14 a15 a16 a17 a18 a19 b20 b21 b22 b23 b24) := ⟨fun k => List.getD (mo126 v b1 b2 b3 b4 b5 b6 b9 b10 .null .null .null .null .null .null .null b20 b21 b22 b23 b24) k .null, fun _ _ _ _ _ _ _ => rfl⟩
set_option maxRecDepth 100000 in
theorem mq126_125 (v : Nat → Value) (b1 b2 b3 b4 b5 b6 b13 b15 b17 b19 b23 : Value) : ∃ w : Nat → Value, ∀ (a9 a10 a14 a16 a18 a20 a21 a22 a24 : Value), mo125 w a9 a10 a14 a16 a18 a20 a21 a22 a24 = (mo126 v b1 b2 b3 b4 b5 b6 a9 a10 b13 a14 b15 a16 b17 a18 b19 a20 a21 a22 b23 a24) := ⟨fun k => List.getD (mo126 v b1 b2 b3 b4 b5 b6 .null .null b13 .null b15 .null b17 .null b19 .null .null .null b23 .null) k .null, fun _ _ _ _ _ _ _ _ _ => rfl⟩
set_option maxRecDepth 100000 in
theorem mq126_90 (v : Nat → Value) (b1 b2 b3 b4 b5 b6 b9 b10 b13 b14 b15 b17 b18 b19 b23 b24 : Value) : ∃ w : Nat → Value, ∀ (a16 a20 a21 a22 : Value), mo90 w a16 a20 a21 a22 = (mo126 v b1 b2 b3 b4 b5 b6 b9 b10 b13 b14 b15 a16 b17 b18 b19 a20 a21 a22 b23 b24) := ⟨fun k => List.getD (mo126 v b1 b2 b3 b4 b5 b6 b9 b10 b13 b14 b15 .null b17 b18 b19 .null .null .null b23 b24) k .null, fun _ _ _ _ => rfl⟩
set_option maxRecDepth 100000 in
theorem mq126_91 (v : Nat → Value) (b1 b2 b3 b4 b5 b6 b9 b10 b13 b14 b15 b16 b19 b21 b22 b23 b24 : Value) : ∃ w : Nat → Value, ∀ (a17 a18 a20 : Value), mo91 w a17 a18 a20 = (mo126 v b1 b2 b3 b4 b5 b6 b9 b10 b13 b14 b15 b16 a17 a18 b19 a20 b21 b22 b23 b24) := ⟨fun k => List.getD (mo126 v b1 b2 b3 b4 b5 b6 b9 b10 b13 b14 b15 b16 .null .null b19 .null b21 b22 b23 b24) k .null, fun _ _ _ => rfl⟩
set_option maxRecDepth 100000 in
theorem mq126_92 (v : Nat → Value) (b1 b2 b3 b4 b5 b6 b9 b10 b21 b22 b23 b24 : Value) : ∃ w : Nat → Value, ∀ (a13 a14 a15 a16 a17 a18 a19 a20 : Value), mo92 w a13 a14 a15 a16 a17 a18 a19 a20 = (mo126 v b1 b2 b3 b4 b5 b6 b9 b10 a13 a14 a15 a16 a17 a18 a19 a20 b21 b22 b23 b24) := ⟨fun k => List.getD (mo126 v b1 b2 b3 b4 b5 b6 b9 b10 .null .null .null .null .null .null .null .null b21 b22 b23 b24) k .null, fun _ _ _ _ _ _ _ _ => rfl⟩
set_option maxHeartbeats 8000000 in
set_option maxRecDepth 100000 in
theorem c_X11_newNode (l : Launch) (dC : Nat → ClassId) (dI : Nat → Nat → Nat) (sz : Nat) (h_mm : Nat) (h_nv : Nat) (h_nn : Nat) (h_na : Nat) (h_nb : Nat) (h_nc : Nat) (v_mm : Nat → Value) (x_mm_nodes : Int32) (cy_nv : ClassId) (f_nv : Nat → Int32) (cy_nn : ClassId) (f_nn : Nat → Int64) (cy_na : ClassId) (f_na : Nat → Int32) (cy_nb : ClassId) (f_nb : Nat → Int32) (cy_nc : ClassId) (f_nc : Nat → Int32) (p1 : Int32) (p2 : Int64) (lo : Int) (hh : Nat → Nat) (za : Nat → Int32) (zb : Nat → Int32) (zc : Nat → Int32) (zv : Nat → Int32) (H0 : Nat) (hx_mm_nodes : 0 ≤ (x_mm_nodes).toInt ∧ (x_mm_nodes).toInt ≤ 1200) (hf_nv : Rg (-1) 7 f_nv) (hf_na : Rg (-1) 7999 f_na) (hf_nb : Rg (-1) 7999 f_nb) (hf_nc : Rg (-1) 7999 f_nc) (q0 : -1 ≤ (p1).toInt ∧ (p1).toInt ≤ 7) (q1 : 0 ≤ lo ∧ lo ≤ (x_mm_nodes).toInt) (q2 : (x_mm_nodes).toInt ≤ 1199) (q3 : 1 ≤ H0 ∧ H0 ≤ 7) (hn_nd0 : EQ0 lo za zb zc zv f_na f_nb f_nc f_nv) (hn_nd : ND lo (x_mm_nodes).toInt hh f_na f_nb f_nc) : Met l yX11_newNode (Ws yX11_newNode cX11_newNode 4 (some .int)) (({ frames := 0, cells := 0, slots := 0, locals := 0 } : Room)) (PRE (dC, dI) cls [(cy_nv, .int), (cy_nn, .long), (cy_na, .int), (cy_nb, .int), (cy_nc, .int)] [(h_mm, .inr (8, (mo124 v_mm (.ref h_nv) (.ref h_nn) (.ref h_na) (.ref h_nb) (.ref h_nc) (.int x_mm_nodes)))), (h_nv, .inl (cy_nv, 8000, .inl f_nv)), (h_nn, .inl (cy_nn, 8000, .inr (.inl f_nn))), (h_na, .inl (cy_na, 8000, .inl f_na)), (h_nb, .inl (cy_nb, 8000, .inl f_nb)), (h_nc, .inl (cy_nc, 8000, .inl f_nc))] sz [.ref h_mm, .int p1, .long p2]) (va_Qi (fun (r : Int32) (u : (Int32) × (Nat → Int32) × (Nat → Int64) × (Nat → Int32) × (Nat → Int32) × (Nat → Int32) × (Nat → Nat)) => (0 ≤ (u.1).toInt ∧ (u.1).toInt ≤ 1200) ∧ (Rg (-1) 7 u.2.1) ∧ (Rg (-1) 7999 u.2.2.2.1) ∧ (Rg (-1) 7999 u.2.2.2.2.1) ∧ (Rg (-1) 7999 u.2.2.2.2.2.1) ∧ (0 ≤ r.toInt ∧ r.toInt ≤ 1199) ∧ ((r).toInt = (x_mm_nodes).toInt) ∧ ((u.1).toInt = (x_mm_nodes).toInt + 1) ∧ (u.2.2.2.2.2.2 (r).toInt.toNat = H0) ∧ (EQ0 lo za zb zc zv u.2.2.2.1 u.2.2.2.2.1 u.2.2.2.2.2.1 u.2.1) ∧ (ND lo (u.1).toInt u.2.2.2.2.2.2 u.2.2.2.1 u.2.2.2.2.1 u.2.2.2.2.2.1) ∧ (∀ y : Nat, (y : Int) < (x_mm_nodes).toInt → u.2.2.2.2.2.2 y = hh y) ∧ (NWQ x_mm_nodes p1 p2 f_nv u.2.1 f_nn u.2.2.1 f_na u.2.2.2.1 f_nb u.2.2.2.2.1 f_nc u.2.2.2.2.2.1)) (fun (u : (Int32) × (Nat → Int32) × (Nat → Int64) × (Nat → Int32) × (Nat → Int32) × (Nat → Int32) × (Nat → Nat)) (t : State) => va_P (dC, dI) cls [(h_mm, .inr (8, (mo124 v_mm (.ref h_nv) (.ref h_nn) (.ref h_na) (.ref h_nb) (.ref h_nc) (.int u.1)))), (h_nv, .inl (cy_nv, 8000, .inl u.2.1)), (h_nn, .inl (cy_nn, 8000, .inr (.inl u.2.2.1))), (h_na, .inl (cy_na, 8000, .inl u.2.2.2.1)), (h_nb, .inl (cy_nb, 8000, .inl u.2.2.2.2.1)), (h_nc, .inl (cy_nc, 8000, .inl u.2.2.2.2.2.1))] t.heap ∧ va_D (va_A [(h_mm, .inr (8, (mo124 v_mm (.ref h_nv) (.ref h_nn) (.ref h_na) (.ref h_nb) (.ref h_nc) (.int x_mm_nodes)))), (h_nv, .inl (cy_nv, 8000, .inl f_nv)), (h_nn, .inl (cy_nn, 8000, .inr (.inl f_nn))), (h_na, .inl (cy_na, 8000, .inl f_na)), (h_nb, .inl (cy_nb, 8000, .inl f_nb)), (h_nc, .inl (cy_nc, 8000, .inl f_nc))] sz) [(h_mm, .inr (8, (mo124 v_mm (.ref h_nv) (.ref h_nn) (.ref h_na) (.ref h_nb) (.ref h_nc) (.int u.1)))), (h_nv, .inl (cy_nv, 8000, .inl u.2.1)), (h_nn, .inl (cy_nn, 8000, .inr (.inl u.2.2.1))), (h_na, .inl (cy_na, 8000, .inl u.2.2.2.1)), (h_nb, .inl (cy_nb, 8000, .inl u.2.2.2.2.1)), (h_nc, .inl (cy_nc, 8000, .inl u.2.2.2.2.2.1))]) (va_A [(h_mm, .inr (8, (mo124 v_mm (.ref h_nv) (.ref h_nn) (.ref h_na) (.ref h_nb) (.ref h_nc) (.int x_mm_nodes)))), (h_nv, .inl (cy_nv, 8000, .inl f_nv)), (h_nn, .inl (cy_nn, 8000, .inr (.inl f_nn))), (h_na, .inl (cy_na, 8000, .inl f_na)), (h_nb, .inl (cy_nb, 8000, .inl f_nb)), (h_nc, .inl (cy_nc, 8000, .inl f_nc))] sz)) 0 0 (va_A [(h_mm, .inr (8, (mo124 v_mm (.ref h_nv) (.ref h_nn) (.ref h_na) (.ref h_nb) (.ref h_nc) (.int x_mm_nodes)))), (h_nv, .inl (cy_nv, 8000, .inl f_nv)), (h_nn, .inl (cy_nn, 8000, .inr (.inl f_nn))), (h_na, .inl (cy_na, 8000, .inl f_na)), (h_nb, .inl (cy_nb, 8000, .inl f_nb)), (h_nc, .inl (cy_nc, 8000, .inl f_nc))] sz) := by
  refine Met.ofW (cc := cX11_newNode) (maxL := 4) (ret := (some .int)) (by decide) rfl ?_
  intro p e s m args below meth c s₁ B hml hv
  obtain ⟨rfl, hsz, hP, hK, hD0, hN⟩ := hv
  have hx := B.exec
  have hb := B.bytes
  have hr := B.returns
  have hts := atoms_spec (ws := Ws yX11_newNode cX11_newNode 4 (some .int)) B.pre
  have hT : ∀ w ∈ WALL, w ∈ Ws yX11_newNode cX11_newNode 4 (some .int) := fun w h => List.mem_cons_of_mem _ h
  have hw := fun w (h : w ∈ WALL) => hts w (hT w h)
  have hown : s.vm.findClass RX11 = some m.cls := findClass_of_methodNamed B.named
  have hlocks := B.notSynchronized
  subst hsz
  have hD := hD0.self (sz := s.heap.size)
  generalize hAe : va_A [(h_mm, .inr (8, (mo124 v_mm (.ref h_nv) (.ref h_nn) (.ref h_na) (.ref h_nb) (.ref h_nc) (.int x_mm_nodes)))), (h_nv, .inl (cy_nv, 8000, .inl f_nv)), (h_nn, .inl (cy_nn, 8000, .inr (.inl f_nn))), (h_na, .inl (cy_na, 8000, .inl f_na)), (h_nb, .inl (cy_nb, 8000, .inl f_nb)), (h_nc, .inl (cy_nc, 8000, .inl f_nc))] s.heap.size = A at hD ⊢
  have hA : ∀ q : Nat, s.heap.size ≤ q → A q := fun q h => by rw [← hAe]; exact Or.inr h
  have hS : va_S A s.heap s.heap [] := va_S.rf
  have hl := lv_entry ([.ref h_mm, .int p1, .long p2]) (n := 4) (Nat.le_of_ble_eq_true rfl)
  rw [lg_entry_eq]
  generalize (lg_sl ([.ref h_mm, .int p1, .long p2]) ++ List.replicate (4 - (lg_sl ([.ref h_mm, .int p1, .long p2])).length) Slot.unset).toArray = ls at hl ⊢
  have hl : lv_has ls 4 [(0, .ref h_mm), (1, .int p1), (2, .long p2)] := hl
  refine lv_aload_n hx hb dX11_newNode_0 rfl (lv_at hl 0 rfl) ?_
  refine va_get (D := (dC, dI)) (ci := 8) (v := .ref h_nv) (C := RX11) (T := TX11) (N := 71) hx hb hw iwX11 hown hK hP 0 rfl rfl 1 (by decide) (hw _ w_f_X11_17) (fun _ h9 => h9) rfl dX11_newNode_1 ?_
  refine lv_aload_n hx hb dX11_newNode_4 rfl (lv_at hl 0 rfl) ?_
  refine va_get (D := (dC, dI)) (ci := 8) (v := .int x_mm_nodes) (C := RX11) (T := TX11) (N := 71) hx hb hw iwX11 hown hK hP 0 rfl rfl 6 (by decide) (hw _ w_f_X11_20) (fun _ h9 => h9) rfl dX11_newNode_5 ?_
  refine lv_iload_n hx hb dX11_newNode_8 rfl (lv_at hl 1 rfl) ?_
  refine va_iast hx hb hK hP hD hS 1 0 rfl rfl (i := x_mm_nodes) (x := p1) (vp_in_iff.mpr (by omega)) dX11_newNode_9 (fun H locs hP9 hD9 hS9 => ?_)
  obtain ⟨f1, ef1⟩ : ∃ g : Nat → Int32, g = upd f_nv (Int32.toNatClampNeg x_mm_nodes) p1 := ⟨_, rfl⟩
  clear hP hD hS
  have hP : va_P (dC, dI) cls [(h_mm, .inr (8, (mo124 v_mm (.ref h_nv) (.ref h_nn) (.ref h_na) (.ref h_nb) (.ref h_nc) (.int x_mm_nodes)))), (h_nv, .inl (cy_nv, 8000, .inl f1)), (h_nn, .inl (cy_nn, 8000, .inr (.inl f_nn))), (h_na, .inl (cy_na, 8000, .inl f_na)), (h_nb, .inl (cy_nb, 8000, .inl f_nb)), (h_nc, .inl (cy_nc, 8000, .inl f_nc))] H := by rw [ef1]; exact hP9
  have hD : va_D A [(h_mm, .inr (8, (mo124 v_mm (.ref h_nv) (.ref h_nn) (.ref h_na) (.ref h_nb) (.ref h_nc) (.int x_mm_nodes)))), (h_nv, .inl (cy_nv, 8000, .inl f1)), (h_nn, .inl (cy_nn, 8000, .inr (.inl f_nn))), (h_na, .inl (cy_na, 8000, .inl f_na)), (h_nb, .inl (cy_nb, 8000, .inl f_nb)), (h_nc, .inl (cy_nc, 8000, .inl f_nc))] := by rw [ef1]; exact hD9
  have hS := hS9
  clear hP9 hD9 hS9
  have hf1 : Rg (-1) 7 f1 := by rw [ef1]; exact rg_upd hf_nv (by omega)
  refine lv_aload_n hx hb dX11_newNode_10 rfl (lv_at hl 0 rfl) ?_
  refine va_get (D := (dC, dI)) (ci := 8) (v := .ref h_nn) (C := RX11) (T := TX11) (N := 71) hx hb hw iwX11 hown hK hP 0 rfl rfl 2 (by decide) (hw _ w_f_X11_23) (fun _ h9 => h9) rfl dX11_newNode_11 ?_
  refine lv_aload_n hx hb dX11_newNode_14 rfl (lv_at hl 0 rfl) ?_
  refine va_get (D := (dC, dI)) (ci := 8) (v := .int x_mm_nodes) (C := RX11) (T := TX11) (N := 71) hx hb hw iwX11 hown hK hP 0 rfl rfl 6 (by decide) (hw _ w_f_X11_20) (fun _ h9 => h9) rfl dX11_newNode_15 ?_
  refine lv_lload_n hx hb dX11_newNode_18 rfl (lv_at hl 2 rfl) ?_
  refine va_last hx hb hK hP hD hS 2 1 rfl rfl (i := x_mm_nodes) (x := p2) (vp_in_iff.mpr (by omega)) dX11_newNode_19 (fun H locs hP9 hD9 hS9 => ?_)
  obtain ⟨f2, ef2⟩ : ∃ g : Nat → Int64, g = vp_updL f_nn (Int32.toNatClampNeg x_mm_nodes) p2 := ⟨_, rfl⟩
  clear hP hD hS
  have hP : va_P (dC, dI) cls [(h_mm, .inr (8, (mo124 v_mm (.ref h_nv) (.ref h_nn) (.ref h_na) (.ref h_nb) (.ref h_nc) (.int x_mm_nodes)))), (h_nv, .inl (cy_nv, 8000, .inl f1)), (h_nn, .inl (cy_nn, 8000, .inr (.inl f2))), (h_na, .inl (cy_na, 8000, .inl f_na)), (h_nb, .inl (cy_nb, 8000, .inl f_nb)), (h_nc, .inl (cy_nc, 8000, .inl f_nc))] H := by rw [ef2]; exact hP9
  have hD : va_D A [(h_mm, .inr (8, (mo124 v_mm (.ref h_nv) (.ref h_nn) (.ref h_na) (.ref h_nb) (.ref h_nc) (.int x_mm_nodes)))), (h_nv, .inl (cy_nv, 8000, .inl f1)), (h_nn, .inl (cy_nn, 8000, .inr (.inl f2))), (h_na, .inl (cy_na, 8000, .inl f_na)), (h_nb, .inl (cy_nb, 8000, .inl f_nb)), (h_nc, .inl (cy_nc, 8000, .inl f_nc))] := by rw [ef2]; exact hD9
  have hS := hS9
  clear hP9 hD9 hS9
  refine lv_aload_n hx hb dX11_newNode_20 rfl (lv_at hl 0 rfl) ?_
  refine va_get (D := (dC, dI)) (ci := 8) (v := .ref h_na) (C := RX11) (T := TX11) (N := 71) hx hb hw iwX11 hown hK hP 0 rfl rfl 3 (by decide) (hw _ w_f_X11_7) (fun _ h9 => h9) rfl dX11_newNode_21 ?_
  refine lv_aload_n hx hb dX11_newNode_24 rfl (lv_at hl 0 rfl) ?_
  refine va_get (D := (dC, dI)) (ci := 8) (v := .int x_mm_nodes) (C := RX11) (T := TX11) (N := 71) hx hb hw iwX11 hown hK hP 0 rfl rfl 6 (by decide) (hw _ w_f_X11_20) (fun _ h9 => h9) rfl dX11_newNode_25 ?_
  refine lv_iconst (v := (-1)) hx hb dX11_newNode_28 (by decide) ?_
  refine va_iast hx hb hK hP hD hS 3 2 rfl rfl (i := x_mm_nodes) (x := (-1)) (vp_in_iff.mpr (by omega)) dX11_newNode_29 (fun H locs hP9 hD9 hS9 => ?_)
  obtain ⟨f3, ef3⟩ : ∃ g : Nat → Int32, g = upd f_na (Int32.toNatClampNeg x_mm_nodes) (-1) := ⟨_, rfl⟩
  clear hP hD hS
  have hP : va_P (dC, dI) cls [(h_mm, .inr (8, (mo124 v_mm (.ref h_nv) (.ref h_nn) (.ref h_na) (.ref h_nb) (.ref h_nc) (.int x_mm_nodes)))), (h_nv, .inl (cy_nv, 8000, .inl f1)), (h_nn, .inl (cy_nn, 8000, .inr (.inl f2))), (h_na, .inl (cy_na, 8000, .inl f3)), (h_nb, .inl (cy_nb, 8000, .inl f_nb)), (h_nc, .inl (cy_nc, 8000, .inl f_nc))] H := by rw [ef3]; exact hP9
  have hD : va_D A [(h_mm, .inr (8, (mo124 v_mm (.ref h_nv) (.ref h_nn) (.ref h_na) (.ref h_nb) (.ref h_nc) (.int x_mm_nodes)))), (h_nv, .inl (cy_nv, 8000, .inl f1)), (h_nn, .inl (cy_nn, 8000, .inr (.inl f2))), (h_na, .inl (cy_na, 8000, .inl f3)), (h_nb, .inl (cy_nb, 8000, .inl f_nb)), (h_nc, .inl (cy_nc, 8000, .inl f_nc))] := by rw [ef3]; exact hD9
  have hS := hS9
  clear hP9 hD9 hS9
  have hf3 : Rg (-1) 7999 f3 := by rw [ef3]; exact rg_upd hf_na (by decide)
  refine lv_aload_n hx hb dX11_newNode_30 rfl (lv_at hl 0 rfl) ?_
  refine va_get (D := (dC, dI)) (ci := 8) (v := .ref h_nb) (C := RX11) (T := TX11) (N := 71) hx hb hw iwX11 hown hK hP 0 rfl rfl 4 (by decide) (hw _ w_f_X11_11) (fun _ h9 => h9) rfl dX11_newNode_31 ?_
  refine lv_aload_n hx hb dX11_newNode_34 rfl (lv_at hl 0 rfl) ?_
  refine va_get (D := (dC, dI)) (ci := 8) (v := .int x_mm_nodes) (C := RX11) (T := TX11) (N := 71) hx hb hw iwX11 hown hK hP 0 rfl rfl 6 (by decide) (hw _ w_f_X11_20) (fun _ h9 => h9) rfl dX11_newNode_35 ?_
  refine lv_iconst (v := (-1)) hx hb dX11_newNode_38 (by decide) ?_
  refine va_iast hx hb hK hP hD hS 4 3 rfl rfl (i := x_mm_nodes) (x := (-1)) (vp_in_iff.mpr (by omega)) dX11_newNode_39 (fun H locs hP9 hD9 hS9 => ?_)
  obtain ⟨f4, ef4⟩ : ∃ g : Nat → Int32, g = upd f_nb (Int32.toNatClampNeg x_mm_nodes) (-1) := ⟨_, rfl⟩
  clear hP hD hS
  have hP : va_P (dC, dI) cls [(h_mm, .inr (8, (mo124 v_mm (.ref h_nv) (.ref h_nn) (.ref h_na) (.ref h_nb) (.ref h_nc) (.int x_mm_nodes)))), (h_nv, .inl (cy_nv, 8000, .inl f1)), (h_nn, .inl (cy_nn, 8000, .inr (.inl f2))), (h_na, .inl (cy_na, 8000, .inl f3)), (h_nb, .inl (cy_nb, 8000, .inl f4)), (h_nc, .inl (cy_nc, 8000, .inl f_nc))] H := by rw [ef4]; exact hP9
  have hD : va_D A [(h_mm, .inr (8, (mo124 v_mm (.ref h_nv) (.ref h_nn) (.ref h_na) (.ref h_nb) (.ref h_nc) (.int x_mm_nodes)))), (h_nv, .inl (cy_nv, 8000, .inl f1)), (h_nn, .inl (cy_nn, 8000, .inr (.inl f2))), (h_na, .inl (cy_na, 8000, .inl f3)), (h_nb, .inl (cy_nb, 8000, .inl f4)), (h_nc, .inl (cy_nc, 8000, .inl f_nc))] := by rw [ef4]; exact hD9
  have hS := hS9
  clear hP9 hD9 hS9
  have hf4 : Rg (-1) 7999 f4 := by rw [ef4]; exact rg_upd hf_nb (by decide)
  refine lv_aload_n hx hb dX11_newNode_40 rfl (lv_at hl 0 rfl) ?_
  refine va_get (D := (dC, dI)) (ci := 8) (v := .ref h_nc) (C := RX11) (T := TX11) (N := 71) hx hb hw iwX11 hown hK hP 0 rfl rfl 5 (by decide) (hw _ w_f_X11_14) (fun _ h9 => h9) rfl dX11_newNode_41 ?_
  refine lv_aload_n hx hb dX11_newNode_44 rfl (lv_at hl 0 rfl) ?_
  refine va_get (D := (dC, dI)) (ci := 8) (v := .int x_mm_nodes) (C := RX11) (T := TX11) (N := 71) hx hb hw iwX11 hown hK hP 0 rfl rfl 6 (by decide) (hw _ w_f_X11_20) (fun _ h9 => h9) rfl dX11_newNode_45 ?_
  refine lv_iconst (v := (-1)) hx hb dX11_newNode_48 (by decide) ?_
  refine va_iast hx hb hK hP hD hS 5 4 rfl rfl (i := x_mm_nodes) (x := (-1)) (vp_in_iff.mpr (by omega)) dX11_newNode_49 (fun H locs hP9 hD9 hS9 => ?_)
  obtain ⟨f5, ef5⟩ : ∃ g : Nat → Int32, g = upd f_nc (Int32.toNatClampNeg x_mm_nodes) (-1) := ⟨_, rfl⟩
  clear hP hD hS
  have hP : va_P (dC, dI) cls [(h_mm, .inr (8, (mo124 v_mm (.ref h_nv) (.ref h_nn) (.ref h_na) (.ref h_nb) (.ref h_nc) (.int x_mm_nodes)))), (h_nv, .inl (cy_nv, 8000, .inl f1)), (h_nn, .inl (cy_nn, 8000, .inr (.inl f2))), (h_na, .inl (cy_na, 8000, .inl f3)), (h_nb, .inl (cy_nb, 8000, .inl f4)), (h_nc, .inl (cy_nc, 8000, .inl f5))] H := by rw [ef5]; exact hP9
  have hD : va_D A [(h_mm, .inr (8, (mo124 v_mm (.ref h_nv) (.ref h_nn) (.ref h_na) (.ref h_nb) (.ref h_nc) (.int x_mm_nodes)))), (h_nv, .inl (cy_nv, 8000, .inl f1)), (h_nn, .inl (cy_nn, 8000, .inr (.inl f2))), (h_na, .inl (cy_na, 8000, .inl f3)), (h_nb, .inl (cy_nb, 8000, .inl f4)), (h_nc, .inl (cy_nc, 8000, .inl f5))] := by rw [ef5]; exact hD9
  have hS := hS9
  clear hP9 hD9 hS9
  have hf5 : Rg (-1) 7999 f5 := by rw [ef5]; exact rg_upd hf_nc (by decide)
  have nd6 : ND lo ((x_mm_nodes).toInt + 1) (hup hh (x_mm_nodes).toInt.toNat H0) f3 f4 f5 := by rw [ef3, ef4, ef5]; exact nd_new hn_nd (by omega) (by omega)
  have nd7 : EQ0 lo za zb zc zv f3 f4 f5 f1 := by rw [ef3, ef4, ef5, ef1]; exact eq0_C (eq0_B (eq0_A (eq0_V hn_nd0 (by omega) (by omega)) (by omega) (by omega)) (by omega) (by omega)) (by omega) (by omega)
  have ag8 : ∀ y : Nat, (y : Int) < (x_mm_nodes).toInt → (hup hh (x_mm_nodes).toInt.toNat H0) y = hh y := fun y hy => hup_ne (by omega)
  refine lv_aload_n hx hb dX11_newNode_50 rfl (lv_at hl 0 rfl) ?_
  refine lv_aload_n hx hb dX11_newNode_51 rfl (lv_at hl 0 rfl) ?_
  refine va_get (D := (dC, dI)) (ci := 8) (v := .int x_mm_nodes) (C := RX11) (T := TX11) (N := 71) hx hb hw iwX11 hown hK hP 0 rfl rfl 6 (by decide) (hw _ w_f_X11_20) (fun _ h9 => h9) rfl dX11_newNode_52 ?_
  refine lv_iconst (v := 1) hx hb dX11_newNode_55 (by decide) ?_
  refine lv_iadd hx hb dX11_newNode_56 ?_
  refine lv_topi (fun z9 ez9 => ?_)
  have tz9 : (z9).toInt = (x_mm_nodes).toInt + 1 := by rw [ez9]; exact i_add rfl (by decide) (by omega)
  refine va_put (D := (dC, dI)) (ci := 8) (v := .int z9) (ty := tyX11 6) (C := RX11) (T := TX11) (N := 71) hx hb hw iwX11 tyX11 tyX11_ok nmX11 hown hK hP hD hS 0 rfl rfl 6 (by decide) (hw _ w_f_X11_20) (fun _ h9 => h9) rfl (tyX11_ok 6 (by decide)) rfl rfl (Nat.le_of_ble_eq_true rfl) dX11_newNode_57 (fun H locs hP9 hD9 hS9 => ?_)
  clear hP hD hS
  have hP : va_P (dC, dI) cls [(h_mm, .inr (8, (mo124 v_mm (.ref h_nv) (.ref h_nn) (.ref h_na) (.ref h_nb) (.ref h_nc) (.int z9)))), (h_nv, .inl (cy_nv, 8000, .inl f1)), (h_nn, .inl (cy_nn, 8000, .inr (.inl f2))), (h_na, .inl (cy_na, 8000, .inl f3)), (h_nb, .inl (cy_nb, 8000, .inl f4)), (h_nc, .inl (cy_nc, 8000, .inl f5))] H := hP9
  have hD : va_D A [(h_mm, .inr (8, (mo124 v_mm (.ref h_nv) (.ref h_nn) (.ref h_na) (.ref h_nb) (.ref h_nc) (.int z9)))), (h_nv, .inl (cy_nv, 8000, .inl f1)), (h_nn, .inl (cy_nn, 8000, .inr (.inl f2))), (h_na, .inl (cy_na, 8000, .inl f3)), (h_nb, .inl (cy_nb, 8000, .inl f4)), (h_nc, .inl (cy_nc, 8000, .inl f5))] := hD9
  have hS := hS9
  clear hP9 hD9 hS9
  refine lv_aload_n hx hb dX11_newNode_60 rfl (lv_at hl 0 rfl) ?_
  refine va_get (D := (dC, dI)) (ci := 8) (v := .int z9) (C := RX11) (T := TX11) (N := 71) hx hb hw iwX11 hown hK hP 0 rfl rfl 6 (by decide) (hw _ w_f_X11_20) (fun _ h9 => h9) rfl dX11_newNode_61 ?_
  refine lv_iconst (v := 1) hx hb dX11_newNode_64 (by decide) ?_
  refine lv_isub hx hb dX11_newNode_65 ?_
  refine lv_topi (fun z10 ez10 => ?_)
  have tz10 : (z10).toInt = (z9).toInt - 1 := by rw [ez10]; exact i_sub rfl (by decide) (by omega)
  refine W.widen (k := 0) (n := 0) (Nat.le_of_ble_eq_true rfl) (Nat.le_of_ble_eq_true rfl) ?_
  have w11 : 0 ≤ ((z9)).toInt ∧ ((z9)).toInt ≤ 1200 := by omega
  have w12 : 0 ≤ (z10 : Int32).toInt ∧ (z10 : Int32).toInt ≤ 1199 := by omega
  have w13 : ((z10 : Int32)).toInt = (x_mm_nodes).toInt := by omega
  have w14 : ((z9)).toInt = (x_mm_nodes).toInt + 1 := by omega
  have w15 : ((hup hh (x_mm_nodes).toInt.toNat H0)) ((z10 : Int32)).toInt.toNat = H0 := by have e9 : (z10).toInt.toNat = (x_mm_nodes).toInt.toNat := (by omega); rw [e9]; exact hup_self _ _ _
  have w16 : EQ0 lo za zb zc zv (f3) (f4) (f5) (f1) := nd7
  have w17 : ND lo ((z9)).toInt ((hup hh (x_mm_nodes).toInt.toNat H0)) (f3) (f4) (f5) := (nd_cast nd6 (by omega))
  have w18 : ∀ y : Nat, (y : Int) < (x_mm_nodes).toInt → ((hup hh (x_mm_nodes).toInt.toNat H0)) y = hh y := (fun y hy => (ag8 y (by omega)).trans (rfl))
  have w19 : NWQ x_mm_nodes p1 p2 f_nv (f1) f_nn (f2) f_na (f3) f_nb (f4) f_nc (f5) := ⟨ef1, ef2, ef3, ef4, ef5⟩
  exact W.iret (v := z10) hx hb hr (fun t ht hW => ⟨⟨z10, (z9, f1, f2, f3, f4, f5, (hup hh (x_mm_nodes).toInt.toNat H0)), rfl, ⟨w11, hf1, hf3, hf4, hf5, w12, w13, w14, w15, w16, w17, w18, w19⟩, by rw [ht]; exact hP, hD⟩, hS.F ht⟩) hS.2.2 dX11_newNode_66

set_option maxHeartbeats 8000000 in
set_option maxRecDepth 100000 in
theorem c_X11_variableHere (l : Launch) (dC : Nat → ClassId) (dI : Nat → Nat → Nat) (sz : Nat) (h_mm : Nat) (h_vrs : Nat) (h_let : Nat) (v_mm : Nat → Value) (x_mm_taped : Int32) (x_mm_place : Int32) (x_mm_sign : Int32) (x_mm_isFaulty : Int32) (x_mm_fault : Int32) (x_mm_faultPlace : Int32) (x_mm_reading : Int32) (cy_vrs : ClassId) (f_vrs : Nat → Int32) (cy_let : ClassId) (f_let : Nat → Int32) (G : Int → Int) (nv : Int) (vf : Int → Int) (hx_mm_taped : 0 ≤ (x_mm_taped).toInt ∧ (x_mm_taped).toInt ≤ 600) (hx_mm_place : 0 ≤ (x_mm_place).toInt ∧ (x_mm_place).toInt ≤ 600) (hx_mm_isFaulty : 0 ≤ (x_mm_isFaulty).toInt ∧ (x_mm_isFaulty).toInt ≤ 1) (hx_mm_reading : 16 ≤ (x_mm_reading).toInt ∧ (x_mm_reading).toInt ≤ 31) (hf_vrs : Rg 0 8 f_vrs) (q0 : (x_mm_sign).toInt = G (x_mm_place).toInt) (q1 : 0 ≤ nv ∧ nv ≤ 8) (q2 : 0 ≤ (x_mm_isFaulty).toInt ∧ (x_mm_isFaulty).toInt ≤ 0) (hn_nvq : (f_vrs (Int32.toNatClampNeg x_mm_reading)).toInt = nv) (hn_vfm : VFM nv vf f_let (x_mm_reading).toInt) : Met l yX11_variableHere (Ws yX11_variableHere cX11_variableHere 2 (some .int)) (({ frames := 1, cells := 0, slots := 0, locals := 21 } : Room)) (PRE (dC, dI) cls [(cy_vrs, .int), (cy_let, .int)] [(h_mm, .inr (8, (mo125 v_mm (.ref h_vrs) (.ref h_let) (.int x_mm_taped) (.int x_mm_place) (.int x_mm_sign) (.int x_mm_isFaulty) (.int x_mm_fault) (.int x_mm_faultPlace) (.int x_mm_reading)))), (h_vrs, .inl (cy_vrs, 32, .inl f_vrs)), (h_let, .inl (cy_let, 256, .inl f_let))] sz [.ref h_mm]) (va_Qi (fun (r : Int32) (u : (Int32) × (Int32) × (Int32) × (Nat → Int32) × (Nat → Int32)) => (0 ≤ (u.1).toInt ∧ (u.1).toInt ≤ 1) ∧ (Rg 0 8 u.2.2.2.1) ∧ (0 ≤ r.toInt ∧ r.toInt ≤ 7) ∧ ((x_mm_isFaulty).toInt ≤ (u.1).toInt) ∧ (((u.1).toInt = 0 ∧ ((pVar G (x_mm_taped).toInt (x_mm_place).toInt nv vf)).1 = 0 ∧ ((pVar G (x_mm_taped).toInt (x_mm_place).toInt nv vf)).2.1 = tkN G (x_mm_taped).toInt (x_mm_place).toInt ∧ (u.2.1).toInt = (x_mm_fault).toInt ∧ (u.2.2.1).toInt = (x_mm_faultPlace).toInt) ∨ ((u.1).toInt = 1 ∧ ((pVar G (x_mm_taped).toInt (x_mm_place).toInt nv vf)).1 = 2 ∧ ((pVar G (x_mm_taped).toInt (x_mm_place).toInt nv vf)).2.1 = (x_mm_place).toInt ∧ (u.2.1).toInt = 2 ∧ (u.2.2.1).toInt = (x_mm_place).toInt)) ∧ (0 ≤ ((pVar G (x_mm_taped).toInt (x_mm_place).toInt nv vf)).2.2.1 ∧ ((pVar G (x_mm_taped).toInt (x_mm_place).toInt nv vf)).2.2.1 ≤ 8) ∧ (VRF (x_mm_reading).toInt f_vrs u.2.2.2.1) ∧ ((u.2.2.2.1 (Int32.toNatClampNeg x_mm_reading)).toInt = ((pVar G (x_mm_taped).toInt (x_mm_place).toInt nv vf)).2.2.1) ∧ (VFM ((pVar G (x_mm_taped).toInt (x_mm_place).toInt nv vf)).2.2.1 ((pVar G (x_mm_taped).toInt (x_mm_place).toInt nv vf)).2.2.2 u.2.2.2.2 (x_mm_reading).toInt) ∧ (IFZ (u.1).toInt (0 ≤ (r).toInt ∧ (r).toInt < ((pVar G (x_mm_taped).toInt (x_mm_place).toInt nv vf)).2.2.1 ∧ ((pVar G (x_mm_taped).toInt (x_mm_place).toInt nv vf)).2.2.2 (r).toInt = G (x_mm_place).toInt))) (fun (u : (Int32) × (Int32) × (Int32) × (Nat → Int32) × (Nat → Int32)) (t : State) => va_P (dC, dI) cls [(h_mm, .inr (8, (mo125 v_mm (.ref h_vrs) (.ref h_let) (.int x_mm_taped) (.int x_mm_place) (.int x_mm_sign) (.int u.1) (.int u.2.1) (.int u.2.2.1) (.int x_mm_reading)))), (h_vrs, .inl (cy_vrs, 32, .inl u.2.2.2.1)), (h_let, .inl (cy_let, 256, .inl u.2.2.2.2))] t.heap ∧ va_D (va_A [(h_mm, .inr (8, (mo125 v_mm (.ref h_vrs) (.ref h_let) (.int x_mm_taped) (.int x_mm_place) (.int x_mm_sign) (.int x_mm_isFaulty) (.int x_mm_fault) (.int x_mm_faultPlace) (.int x_mm_reading)))), (h_vrs, .inl (cy_vrs, 32, .inl f_vrs)), (h_let, .inl (cy_let, 256, .inl f_let))] sz) [(h_mm, .inr (8, (mo125 v_mm (.ref h_vrs) (.ref h_let) (.int x_mm_taped) (.int x_mm_place) (.int x_mm_sign) (.int u.1) (.int u.2.1) (.int u.2.2.1) (.int x_mm_reading)))), (h_vrs, .inl (cy_vrs, 32, .inl u.2.2.2.1)), (h_let, .inl (cy_let, 256, .inl u.2.2.2.2))]) (va_A [(h_mm, .inr (8, (mo125 v_mm (.ref h_vrs) (.ref h_let) (.int x_mm_taped) (.int x_mm_place) (.int x_mm_sign) (.int x_mm_isFaulty) (.int x_mm_fault) (.int x_mm_faultPlace) (.int x_mm_reading)))), (h_vrs, .inl (cy_vrs, 32, .inl f_vrs)), (h_let, .inl (cy_let, 256, .inl f_let))] sz)) 0 0 (va_A [(h_mm, .inr (8, (mo125 v_mm (.ref h_vrs) (.ref h_let) (.int x_mm_taped) (.int x_mm_place) (.int x_mm_sign) (.int x_mm_isFaulty) (.int x_mm_fault) (.int x_mm_faultPlace) (.int x_mm_reading)))), (h_vrs, .inl (cy_vrs, 32, .inl f_vrs)), (h_let, .inl (cy_let, 256, .inl f_let))] sz) := by
  refine Met.ofW (cc := cX11_variableHere) (maxL := 2) (ret := (some .int)) (by decide) rfl ?_
  intro p e s m args below meth c s₁ B hml hv
  obtain ⟨rfl, hsz, hP, hK, hD0, hN⟩ := hv
  have hx := B.exec
  have hb := B.bytes
  have hr := B.returns
  have hts := atoms_spec (ws := Ws yX11_variableHere cX11_variableHere 2 (some .int)) B.pre
  have hT : ∀ w ∈ WALL, w ∈ Ws yX11_variableHere cX11_variableHere 2 (some .int) := fun w h => List.mem_cons_of_mem _ h
  have hw := fun w (h : w ∈ WALL) => hts w (hT w h)
  have hown : s.vm.findClass RX11 = some m.cls := findClass_of_methodNamed B.named
  have hlocks := B.notSynchronized
  subst hsz
  have hD := hD0.self (sz := s.heap.size)
  generalize hAe : va_A [(h_mm, .inr (8, (mo125 v_mm (.ref h_vrs) (.ref h_let) (.int x_mm_taped) (.int x_mm_place) (.int x_mm_sign) (.int x_mm_isFaulty) (.int x_mm_fault) (.int x_mm_faultPlace) (.int x_mm_reading)))), (h_vrs, .inl (cy_vrs, 32, .inl f_vrs)), (h_let, .inl (cy_let, 256, .inl f_let))] s.heap.size = A at hD ⊢
  have hA : ∀ q : Nat, s.heap.size ≤ q → A q := fun q h => by rw [← hAe]; exact Or.inr h
  have hS : va_S A s.heap s.heap [] := va_S.rf
  have hl := lv_entry ([.ref h_mm]) (n := 2) (Nat.le_of_ble_eq_true rfl)
  rw [lg_entry_eq]
  generalize (lg_sl ([.ref h_mm]) ++ List.replicate (2 - (lg_sl ([.ref h_mm])).length) Slot.unset).toArray = ls at hl ⊢
  have hl : lv_has ls 2 [(0, .ref h_mm)] := hl
  refine lv_iconst (v := 0) hx hb dX11_variableHere_0 (by decide) ?_
  refine lv_istore_n (lv' := [(1, .int 0), (0, .ref h_mm)]) hx hb dX11_variableHere_1 rfl hl (by decide) rfl (fun ls hl => ?_)
  have lp2 : ∀ (n : Nat) (x1 : Int32) (H : Heap) (locs : List Loc) (ls : Array Slot), (0 ≤ (x1).toInt ∧ (x1).toInt ≤ 8) → (∀ j : Int, 0 ≤ j → j < (x1).toInt → ¬ vf j = G (x_mm_place).toInt) → (8 - (x1).toInt).toNat + 1 ≤ n → va_P (dC, dI) cls [(h_mm, .inr (8, (mo125 v_mm (.ref h_vrs) (.ref h_let) (.int x_mm_taped) (.int x_mm_place) (.int x_mm_sign) (.int x_mm_isFaulty) (.int x_mm_fault) (.int x_mm_faultPlace) (.int x_mm_reading)))), (h_vrs, .inl (cy_vrs, 32, .inl f_vrs)), (h_let, .inl (cy_let, 256, .inl f_let))] H → va_D A [(h_mm, .inr (8, (mo125 v_mm (.ref h_vrs) (.ref h_let) (.int x_mm_taped) (.int x_mm_place) (.int x_mm_sign) (.int x_mm_isFaulty) (.int x_mm_fault) (.int x_mm_faultPlace) (.int x_mm_reading)))), (h_vrs, .inl (cy_vrs, 32, .inl f_vrs)), (h_let, .inl (cy_let, 256, .inl f_let))] → va_S A s.heap H locs → lv_has ls 2 [(0, .ref h_mm), (1, .int x1)] → W p l e ({ frames := 1, cells := 0, slots := 0, locals := 21 } : Room) s m ([.ref h_mm] : List Value).toArray below meth c H locs 0 0 (MQ below (va_Qi (fun (r : Int32) (u : (Int32) × (Int32) × (Int32) × (Nat → Int32) × (Nat → Int32)) => (0 ≤ (u.1).toInt ∧ (u.1).toInt ≤ 1) ∧ (Rg 0 8 u.2.2.2.1) ∧ (0 ≤ r.toInt ∧ r.toInt ≤ 7) ∧ ((x_mm_isFaulty).toInt ≤ (u.1).toInt) ∧ (((u.1).toInt = 0 ∧ ((pVar G (x_mm_taped).toInt (x_mm_place).toInt nv vf)).1 = 0 ∧ ((pVar G (x_mm_taped).toInt (x_mm_place).toInt nv vf)).2.1 = tkN G (x_mm_taped).toInt (x_mm_place).toInt ∧ (u.2.1).toInt = (x_mm_fault).toInt ∧ (u.2.2.1).toInt = (x_mm_faultPlace).toInt) ∨ ((u.1).toInt = 1 ∧ ((pVar G (x_mm_taped).toInt (x_mm_place).toInt nv vf)).1 = 2 ∧ ((pVar G (x_mm_taped).toInt (x_mm_place).toInt nv vf)).2.1 = (x_mm_place).toInt ∧ (u.2.1).toInt = 2 ∧ (u.2.2.1).toInt = (x_mm_place).toInt)) ∧ (0 ≤ ((pVar G (x_mm_taped).toInt (x_mm_place).toInt nv vf)).2.2.1 ∧ ((pVar G (x_mm_taped).toInt (x_mm_place).toInt nv vf)).2.2.1 ≤ 8) ∧ (VRF (x_mm_reading).toInt f_vrs u.2.2.2.1) ∧ ((u.2.2.2.1 (Int32.toNatClampNeg x_mm_reading)).toInt = ((pVar G (x_mm_taped).toInt (x_mm_place).toInt nv vf)).2.2.1) ∧ (VFM ((pVar G (x_mm_taped).toInt (x_mm_place).toInt nv vf)).2.2.1 ((pVar G (x_mm_taped).toInt (x_mm_place).toInt nv vf)).2.2.2 u.2.2.2.2 (x_mm_reading).toInt) ∧ (IFZ (u.1).toInt (0 ≤ (r).toInt ∧ (r).toInt < ((pVar G (x_mm_taped).toInt (x_mm_place).toInt nv vf)).2.2.1 ∧ ((pVar G (x_mm_taped).toInt (x_mm_place).toInt nv vf)).2.2.2 (r).toInt = G (x_mm_place).toInt))) (fun (u : (Int32) × (Int32) × (Int32) × (Nat → Int32) × (Nat → Int32)) (t : State) => va_P (dC, dI) cls [(h_mm, .inr (8, (mo125 v_mm (.ref h_vrs) (.ref h_let) (.int x_mm_taped) (.int x_mm_place) (.int x_mm_sign) (.int u.1) (.int u.2.1) (.int u.2.2.1) (.int x_mm_reading)))), (h_vrs, .inl (cy_vrs, 32, .inl u.2.2.2.1)), (h_let, .inl (cy_let, 256, .inl u.2.2.2.2))] t.heap ∧ va_D A [(h_mm, .inr (8, (mo125 v_mm (.ref h_vrs) (.ref h_let) (.int x_mm_taped) (.int x_mm_place) (.int x_mm_sign) (.int u.1) (.int u.2.1) (.int u.2.2.1) (.int x_mm_reading)))), (h_vrs, .inl (cy_vrs, 32, .inl u.2.2.2.1)), (h_let, .inl (cy_let, 256, .inl u.2.2.2.2))]) A) ([.ref h_mm] : List Value).toArray s 0 0 A) (F0 m 2 ls []) := by
    clear hP hD hS hl
    intro n
    induction n with
    | zero => intro x1 H locs ls klp2_0 klp2_1 hm hP hD hS hl; exact False.elim (by omega)
    | succ n ih => 
      intro x1 H locs ls klp2_0 klp2_1 hm hP hD hS hl
      have ih3 := ih
      clear ih
      refine lv_iload_n hx hb dX11_variableHere_2 rfl (lv_at hl 1 rfl) ?_
      refine lv_aload_n hx hb dX11_variableHere_3 rfl (lv_at hl 0 rfl) ?_
      refine va_get (D := (dC, dI)) (ci := 8) (v := .ref h_vrs) (C := RX11) (T := TX11) (N := 71) hx hb hw iwX11 hown hK hP 0 rfl rfl 9 (by decide) (hw _ w_f_X11_102) (fun _ h9 => h9) rfl dX11_variableHere_4 ?_
      refine lv_aload_n hx hb dX11_variableHere_7 rfl (lv_at hl 0 rfl) ?_
      refine va_get (D := (dC, dI)) (ci := 8) (v := .int x_mm_reading) (C := RX11) (T := TX11) (N := 71) hx hb hw iwX11 hown hK hP 0 rfl rfl 24 (by decide) (hw _ w_f_X11_105) (fun _ h9 => h9) rfl dX11_variableHere_8 ?_
      refine va_iald hx hb hK hP 1 0 rfl rfl (i := x_mm_reading) (vp_in_iff.mpr (by omega)) dX11_variableHere_11 ?_
      refine lv_topi (fun z4 ez4 => ?_)
      have rz4 : 0 ≤ (z4).toInt ∧ (z4).toInt ≤ 8 := by rw [ez4]; exact hf_vrs _
      have nzz4 : (z4).toInt = nv := by rw [ez4]; exact hn_nvq
      refine lv_icmp_ge (tgt := 44) hx hb dX11_variableHere_12 (by decide) (fun c5 => ?_) (fun c5 => ?_)
      · have kc5 := (cv_le (rfl : (z4).toInt = (z4).toInt) (rfl : (x1).toInt = (x1).toInt)).mp c5
        have ne9 : ¬ ∃ j : Int, 0 ≤ j ∧ j < nv ∧ vf j = G (x_mm_place).toInt := fun q9 => by obtain ⟨j, h1, h2, h3⟩ := q9; exact klp2_1 j h1 (by omega) h3
        refine lv_aload_n hx hb dX11_variableHere_44 rfl (lv_at hl 0 rfl) ?_
        refine va_get (D := (dC, dI)) (ci := 8) (v := .ref h_vrs) (C := RX11) (T := TX11) (N := 71) hx hb hw iwX11 hown hK hP 0 rfl rfl 9 (by decide) (hw _ w_f_X11_102) (fun _ h9 => h9) rfl dX11_variableHere_45 ?_
        refine lv_aload_n hx hb dX11_variableHere_48 rfl (lv_at hl 0 rfl) ?_
        refine va_get (D := (dC, dI)) (ci := 8) (v := .int x_mm_reading) (C := RX11) (T := TX11) (N := 71) hx hb hw iwX11 hown hK hP 0 rfl rfl 24 (by decide) (hw _ w_f_X11_105) (fun _ h9 => h9) rfl dX11_variableHere_49 ?_
        refine va_iald hx hb hK hP 1 0 rfl rfl (i := x_mm_reading) (vp_in_iff.mpr (by omega)) dX11_variableHere_52 ?_
        refine lv_topi (fun z6 ez6 => ?_)
        have qz6 : (z6).toInt = (z4).toInt := by rw [ez6, ez4]
        have rz6 : 0 ≤ (z6).toInt ∧ (z6).toInt ≤ 8 := by rw [ez6]; exact hf_vrs _
        have nzz6 : (z6).toInt = nv := by rw [ez6]; exact hn_nvq
        refine lv_bipush (v := 8) hx hb dX11_variableHere_53 (by decide) ?_
        refine lv_icmp_ne (tgt := 65) hx hb dX11_variableHere_55 (by decide) (fun c7 => ?_) (fun c7 => ?_)
        · have kc7 := (not_congr (cv_eq (rfl : (z6).toInt = (z6).toInt) (by decide : (8 : Int32).toInt = 8))).mp c7
          have pv9 : (pVar G (x_mm_taped).toInt (x_mm_place).toInt nv vf) = (0, tkN G (x_mm_taped).toInt (x_mm_place).toInt, nv + 1, (fun j => if j = nv then G (x_mm_place).toInt else vf j)) := pVar_new ne9 (by omega)
          have pq81 : ((pVar G (x_mm_taped).toInt (x_mm_place).toInt nv vf)).1 = 0 := by rw [pv9]
          have pq82 : ((pVar G (x_mm_taped).toInt (x_mm_place).toInt nv vf)).2.1 = tkN G (x_mm_taped).toInt (x_mm_place).toInt := by rw [pv9]
          have pq83 : ((pVar G (x_mm_taped).toInt (x_mm_place).toInt nv vf)).2.2.1 = nv + 1 := by rw [pv9]
          have pq84 : ((pVar G (x_mm_taped).toInt (x_mm_place).toInt nv vf)).2.2.2 = (fun j => if j = nv then G (x_mm_place).toInt else vf j) := by rw [pv9]
          refine lv_aload_n hx hb dX11_variableHere_65 rfl (lv_at hl 0 rfl) ?_
          refine va_get (D := (dC, dI)) (ci := 8) (v := .ref h_let) (C := RX11) (T := TX11) (N := 71) hx hb hw iwX11 hown hK hP 0 rfl rfl 10 (by decide) (hw _ w_f_X11_108) (fun _ h9 => h9) rfl dX11_variableHere_66 ?_
          refine lv_bipush (v := 8) hx hb dX11_variableHere_69 (by decide) ?_
          refine lv_aload_n hx hb dX11_variableHere_71 rfl (lv_at hl 0 rfl) ?_
          refine va_get (D := (dC, dI)) (ci := 8) (v := .int x_mm_reading) (C := RX11) (T := TX11) (N := 71) hx hb hw iwX11 hown hK hP 0 rfl rfl 24 (by decide) (hw _ w_f_X11_105) (fun _ h9 => h9) rfl dX11_variableHere_72 ?_
          refine lv_imul hx hb dX11_variableHere_75 ?_
          refine lv_topi (fun z9 ez9 => ?_)
          have tz9 : (z9).toInt = 8 * (x_mm_reading).toInt := by rw [ez9]; exact i_mul (by decide) rfl (by omega)
          refine lv_aload_n hx hb dX11_variableHere_76 rfl (lv_at hl 0 rfl) ?_
          refine va_get (D := (dC, dI)) (ci := 8) (v := .ref h_vrs) (C := RX11) (T := TX11) (N := 71) hx hb hw iwX11 hown hK hP 0 rfl rfl 9 (by decide) (hw _ w_f_X11_102) (fun _ h9 => h9) rfl dX11_variableHere_77 ?_
          refine lv_aload_n hx hb dX11_variableHere_80 rfl (lv_at hl 0 rfl) ?_
          refine va_get (D := (dC, dI)) (ci := 8) (v := .int x_mm_reading) (C := RX11) (T := TX11) (N := 71) hx hb hw iwX11 hown hK hP 0 rfl rfl 24 (by decide) (hw _ w_f_X11_105) (fun _ h9 => h9) rfl dX11_variableHere_81 ?_
          refine va_iald hx hb hK hP 1 0 rfl rfl (i := x_mm_reading) (vp_in_iff.mpr (by omega)) dX11_variableHere_84 ?_
          refine lv_topi (fun z10 ez10 => ?_)
          have qz10 : (z10).toInt = (z4).toInt := by rw [ez10, ez4]
          have rz10 : 0 ≤ (z10).toInt ∧ (z10).toInt ≤ 8 := by rw [ez10]; exact hf_vrs _
          have nzz10 : (z10).toInt = nv := by rw [ez10]; exact hn_nvq
          refine lv_iadd hx hb dX11_variableHere_85 ?_
          refine lv_topi (fun z11 ez11 => ?_)
          have tz11 : (z11).toInt = (z9).toInt + (z10).toInt := by rw [ez11]; exact i_add rfl rfl (by omega)
          refine lv_aload_n hx hb dX11_variableHere_86 rfl (lv_at hl 0 rfl) ?_
          refine va_get (D := (dC, dI)) (ci := 8) (v := .int x_mm_sign) (C := RX11) (T := TX11) (N := 71) hx hb hw iwX11 hown hK hP 0 rfl rfl 18 (by decide) (hw _ w_f_X11_80) (fun _ h9 => h9) rfl dX11_variableHere_87 ?_
          refine va_iast hx hb hK hP hD hS 2 1 rfl rfl (i := z11) (x := x_mm_sign) (vp_in_iff.mpr (by omega)) dX11_variableHere_90 (fun H locs hP9 hD9 hS9 => ?_)
          obtain ⟨f12, ef12⟩ : ∃ g : Nat → Int32, g = upd f_let (Int32.toNatClampNeg z11) x_mm_sign := ⟨_, rfl⟩
          clear hP hD hS
          have hP : va_P (dC, dI) cls [(h_mm, .inr (8, (mo125 v_mm (.ref h_vrs) (.ref h_let) (.int x_mm_taped) (.int x_mm_place) (.int x_mm_sign) (.int x_mm_isFaulty) (.int x_mm_fault) (.int x_mm_faultPlace) (.int x_mm_reading)))), (h_vrs, .inl (cy_vrs, 32, .inl f_vrs)), (h_let, .inl (cy_let, 256, .inl f12))] H := by rw [ef12]; exact hP9
          have hD : va_D A [(h_mm, .inr (8, (mo125 v_mm (.ref h_vrs) (.ref h_let) (.int x_mm_taped) (.int x_mm_place) (.int x_mm_sign) (.int x_mm_isFaulty) (.int x_mm_fault) (.int x_mm_faultPlace) (.int x_mm_reading)))), (h_vrs, .inl (cy_vrs, 32, .inl f_vrs)), (h_let, .inl (cy_let, 256, .inl f12))] := by rw [ef12]; exact hD9
          have hS := hS9
          clear hP9 hD9 hS9
          have vm13 : VFM ((pVar G (x_mm_taped).toInt (x_mm_place).toInt nv vf)).2.2.1 ((pVar G (x_mm_taped).toInt (x_mm_place).toInt nv vf)).2.2.2 f12 (x_mm_reading).toInt := by rw [pq84]; exact vfm_add hn_vfm (by omega) (by omega) (by omega) (by omega) ef12 (by omega)
          refine lv_aload_n hx hb dX11_variableHere_91 rfl (lv_at hl 0 rfl) ?_
          refine va_get (D := (dC, dI)) (ci := 8) (v := .ref h_vrs) (C := RX11) (T := TX11) (N := 71) hx hb hw iwX11 hown hK hP 0 rfl rfl 9 (by decide) (hw _ w_f_X11_102) (fun _ h9 => h9) rfl dX11_variableHere_92 ?_
          refine lv_aload_n hx hb dX11_variableHere_95 rfl (lv_at hl 0 rfl) ?_
          refine va_get (D := (dC, dI)) (ci := 8) (v := .int x_mm_reading) (C := RX11) (T := TX11) (N := 71) hx hb hw iwX11 hown hK hP 0 rfl rfl 24 (by decide) (hw _ w_f_X11_105) (fun _ h9 => h9) rfl dX11_variableHere_96 ?_
          refine lv_aload_n hx hb dX11_variableHere_99 rfl (lv_at hl 0 rfl) ?_
          refine va_get (D := (dC, dI)) (ci := 8) (v := .ref h_vrs) (C := RX11) (T := TX11) (N := 71) hx hb hw iwX11 hown hK hP 0 rfl rfl 9 (by decide) (hw _ w_f_X11_102) (fun _ h9 => h9) rfl dX11_variableHere_100 ?_
          refine lv_aload_n hx hb dX11_variableHere_103 rfl (lv_at hl 0 rfl) ?_
          refine va_get (D := (dC, dI)) (ci := 8) (v := .int x_mm_reading) (C := RX11) (T := TX11) (N := 71) hx hb hw iwX11 hown hK hP 0 rfl rfl 24 (by decide) (hw _ w_f_X11_105) (fun _ h9 => h9) rfl dX11_variableHere_104 ?_
          refine va_iald hx hb hK hP 1 0 rfl rfl (i := x_mm_reading) (vp_in_iff.mpr (by omega)) dX11_variableHere_107 ?_
          refine lv_topi (fun z14 ez14 => ?_)
          have qz14 : (z14).toInt = (z4).toInt := by rw [ez14, ez4]
          have rz14 : 0 ≤ (z14).toInt ∧ (z14).toInt ≤ 8 := by rw [ez14]; exact hf_vrs _
          have nzz14 : (z14).toInt = nv := by rw [ez14]; exact hn_nvq
          refine lv_iconst (v := 1) hx hb dX11_variableHere_108 (by decide) ?_
          refine lv_iadd hx hb dX11_variableHere_109 ?_
          refine lv_topi (fun z15 ez15 => ?_)
          have tz15 : (z15).toInt = (z14).toInt + 1 := by rw [ez15]; exact i_add rfl (by decide) (by omega)
          refine va_iast hx hb hK hP hD hS 1 0 rfl rfl (i := x_mm_reading) (x := z15) (vp_in_iff.mpr (by omega)) dX11_variableHere_110 (fun H locs hP9 hD9 hS9 => ?_)
          obtain ⟨f16, ef16⟩ : ∃ g : Nat → Int32, g = upd f_vrs (Int32.toNatClampNeg x_mm_reading) z15 := ⟨_, rfl⟩
          clear hP hD hS
          have hP : va_P (dC, dI) cls [(h_mm, .inr (8, (mo125 v_mm (.ref h_vrs) (.ref h_let) (.int x_mm_taped) (.int x_mm_place) (.int x_mm_sign) (.int x_mm_isFaulty) (.int x_mm_fault) (.int x_mm_faultPlace) (.int x_mm_reading)))), (h_vrs, .inl (cy_vrs, 32, .inl f16)), (h_let, .inl (cy_let, 256, .inl f12))] H := by rw [ef16]; exact hP9
          have hD : va_D A [(h_mm, .inr (8, (mo125 v_mm (.ref h_vrs) (.ref h_let) (.int x_mm_taped) (.int x_mm_place) (.int x_mm_sign) (.int x_mm_isFaulty) (.int x_mm_fault) (.int x_mm_faultPlace) (.int x_mm_reading)))), (h_vrs, .inl (cy_vrs, 32, .inl f16)), (h_let, .inl (cy_let, 256, .inl f12))] := by rw [ef16]; exact hD9
          have hS := hS9
          clear hP9 hD9 hS9
          have hf16 : Rg 0 8 f16 := by rw [ef16]; exact rg_upd hf_vrs (by omega)
          have svf16 : f16 (Int32.toNatClampNeg x_mm_reading) = z15 := by rw [ef16]; exact pk_us
          have nq17 : (f16 (Int32.toNatClampNeg x_mm_reading)).toInt = ((pVar G (x_mm_taped).toInt (x_mm_place).toInt nv vf)).2.2.1 := by rw [ef16, pk_us]; omega
          refine lv_aload_n hx hb dX11_variableHere_111 rfl (lv_at hl 0 rfl) ?_
          refine va_get (D := (dC, dI)) (ci := 8) (v := .ref h_vrs) (C := RX11) (T := TX11) (N := 71) hx hb hw iwX11 hown hK hP 0 rfl rfl 9 (by decide) (hw _ w_f_X11_102) (fun _ h9 => h9) rfl dX11_variableHere_112 ?_
          refine lv_aload_n hx hb dX11_variableHere_115 rfl (lv_at hl 0 rfl) ?_
          refine va_get (D := (dC, dI)) (ci := 8) (v := .int x_mm_reading) (C := RX11) (T := TX11) (N := 71) hx hb hw iwX11 hown hK hP 0 rfl rfl 24 (by decide) (hw _ w_f_X11_105) (fun _ h9 => h9) rfl dX11_variableHere_116 ?_
          refine va_iald hx hb hK hP 1 0 rfl rfl (i := x_mm_reading) (vp_in_iff.mpr (by omega)) dX11_variableHere_119 ?_
          refine lv_topi (fun z18 ez18 => ?_)
          have qz18 : (z18).toInt = (z15).toInt := by rw [ez18, svf16]
          have rz18 : 0 ≤ (z18).toInt ∧ (z18).toInt ≤ 8 := by rw [ez18]; exact hf16 _
          refine lv_iconst (v := 1) hx hb dX11_variableHere_120 (by decide) ?_
          refine lv_isub hx hb dX11_variableHere_121 ?_
          refine lv_topi (fun z19 ez19 => ?_)
          have tz19 : (z19).toInt = (z18).toInt - 1 := by rw [ez19]; exact i_sub rfl (by decide) (by omega)
          refine W.widen (k := 0) (n := 0) (Nat.le_of_ble_eq_true rfl) (Nat.le_of_ble_eq_true rfl) ?_
          have w20 : 0 ≤ ((x_mm_isFaulty)).toInt ∧ ((x_mm_isFaulty)).toInt ≤ 1 := by first | exact hx_mm_isFaulty | omega
          have w21 : 0 ≤ (z19 : Int32).toInt ∧ (z19 : Int32).toInt ≤ 7 := by omega
          have w22 : (x_mm_isFaulty).toInt ≤ ((x_mm_isFaulty)).toInt := by omega
          have w23 : (((x_mm_isFaulty)).toInt = 0 ∧ ((pVar G (x_mm_taped).toInt (x_mm_place).toInt nv vf)).1 = 0 ∧ ((pVar G (x_mm_taped).toInt (x_mm_place).toInt nv vf)).2.1 = tkN G (x_mm_taped).toInt (x_mm_place).toInt ∧ ((x_mm_fault)).toInt = (x_mm_fault).toInt ∧ ((x_mm_faultPlace)).toInt = (x_mm_faultPlace).toInt) ∨ (((x_mm_isFaulty)).toInt = 1 ∧ ((pVar G (x_mm_taped).toInt (x_mm_place).toInt nv vf)).1 = 2 ∧ ((pVar G (x_mm_taped).toInt (x_mm_place).toInt nv vf)).2.1 = (x_mm_place).toInt ∧ ((x_mm_fault)).toInt = 2 ∧ ((x_mm_faultPlace)).toInt = (x_mm_place).toInt) := by omega
          have w24 : 0 ≤ ((pVar G (x_mm_taped).toInt (x_mm_place).toInt nv vf)).2.2.1 ∧ ((pVar G (x_mm_taped).toInt (x_mm_place).toInt nv vf)).2.2.1 ≤ 8 := by omega
          have w25 : VRF (x_mm_reading).toInt f_vrs (f16) := (vrf_set vrf_rf ef16 (by omega))
          have w26 : ((f16) (Int32.toNatClampNeg x_mm_reading)).toInt = ((pVar G (x_mm_taped).toInt (x_mm_place).toInt nv vf)).2.2.1 := nq17
          have w27 : VFM ((pVar G (x_mm_taped).toInt (x_mm_place).toInt nv vf)).2.2.1 ((pVar G (x_mm_taped).toInt (x_mm_place).toInt nv vf)).2.2.2 (f12) (x_mm_reading).toInt := vm13
          have w28 : IFZ ((x_mm_isFaulty)).toInt (0 ≤ ((z19 : Int32)).toInt ∧ ((z19 : Int32)).toInt < ((pVar G (x_mm_taped).toInt (x_mm_place).toInt nv vf)).2.2.1 ∧ ((pVar G (x_mm_taped).toInt (x_mm_place).toInt nv vf)).2.2.2 ((z19 : Int32)).toInt = G (x_mm_place).toInt) := (ifz_yes (by rw [pq83, pq84]; exact ⟨by omega, by omega, if_pos (by omega)⟩))
          exact W.iret (v := z19) hx hb hr (fun t ht hW => ⟨⟨z19, (x_mm_isFaulty, x_mm_fault, x_mm_faultPlace, f16, f12), rfl, ⟨w20, hf16, w21, w22, w23, w24, w25, w26, w27, w28⟩, by rw [ht]; exact hP, hD⟩, hS.F ht⟩) hS.2.2 dX11_variableHere_122
        · have kc7 := (cv_eq (rfl : (z6).toInt = (z6).toInt) (by decide : (8 : Int32).toInt = 8)).mp c7
          have pv9 : (pVar G (x_mm_taped).toInt (x_mm_place).toInt nv vf) = (2, (x_mm_place).toInt, nv, vf) := pVar_full ne9 (by omega)
          have pq291 : ((pVar G (x_mm_taped).toInt (x_mm_place).toInt nv vf)).1 = 2 := by rw [pv9]
          have pq292 : ((pVar G (x_mm_taped).toInt (x_mm_place).toInt nv vf)).2.1 = (x_mm_place).toInt := by rw [pv9]
          have pq293 : ((pVar G (x_mm_taped).toInt (x_mm_place).toInt nv vf)).2.2.1 = nv := by rw [pv9]
          have pq294 : ((pVar G (x_mm_taped).toInt (x_mm_place).toInt nv vf)).2.2.2 = vf := by rw [pv9]
          refine lv_aload_n hx hb dX11_variableHere_58 rfl (lv_at hl 0 rfl) ?_
          refine lv_iconst (v := 2) hx hb dX11_variableHere_59 (by decide) ?_
          obtain ⟨vq30, evq30⟩ := mq125_90 v_mm (.ref h_vrs) (.ref h_let) (.int x_mm_taped) (.int x_mm_sign) (.int x_mm_reading)
          replace hP : va_P (dC, dI) cls [(h_mm, .inr (8, (mo90 vq30 (.int x_mm_place) (.int x_mm_isFaulty) (.int x_mm_fault) (.int x_mm_faultPlace)))), (h_vrs, .inl (cy_vrs, 32, .inl f_vrs)), (h_let, .inl (cy_let, 256, .inl f_let))] H := by rw [evq30]; exact hP
          replace hD : va_D A [(h_mm, .inr (8, (mo90 vq30 (.int x_mm_place) (.int x_mm_isFaulty) (.int x_mm_fault) (.int x_mm_faultPlace)))), (h_vrs, .inl (cy_vrs, 32, .inl f_vrs)), (h_let, .inl (cy_let, 256, .inl f_let))] := by rw [evq30]; exact hD
          have cst2 : (2 : Int32).toInt = 2 := by decide
          have hPc := hP.sub (ws' := [(h_mm, .inr (8, (mo90 vq30 (.int x_mm_place) (.int x_mm_isFaulty) (.int x_mm_fault) (.int x_mm_faultPlace))))]) [0] rfl
          have hDc := hD.sub (ws' := [(h_mm, .inr (8, (mo90 vq30 (.int x_mm_place) (.int x_mm_isFaulty) (.int x_mm_fault) (.int x_mm_faultPlace))))]) [0] (by decide) rfl
          have hKc := hK.sub (tys' := []) [] rfl
          have hFc := va_free (wc := [(h_mm, .inr (8, (mo90 vq30 (.int x_mm_place) (.int x_mm_isFaulty) (.int x_mm_fault) (.int x_mm_faultPlace))))]) hD hS hA [0] rfl
          refine va_callv (va_runV (As := [.int 2]) (rest := []) ⟨hx, hb, hml, hown, hts⟩ (c_X11_faulty l dC dI H.size h_mm vq30 x_mm_place x_mm_isFaulty x_mm_fault x_mm_faultPlace 2 (by first | exact hx_mm_place | omega) (by first | exact hx_mm_isFaulty | omega)) (cwV 1 hts (gv hT w_m_X11_111 w_instanceMethod_X11_faulty ws_sel_X11_faulty w_ini_X11 w_code_X11_faulty) rfl rfl rfl (by decide +kernel) ⟨(Nat.le_of_ble_eq_true rfl), (Nat.le_of_ble_eq_true rfl)⟩) ⟨pre_blind, va_recv hK hP (ci := 8) (q0 := 0) rfl rfl, pre_of hPc hKc hDc hN⟩ rfl rfl hl.1 rfl (lv_room (Nat.le_of_ble_eq_true rfl)) dX11_variableHere_60 ⟨(Nat.le_of_ble_eq_true rfl), (Nat.le_of_ble_eq_true rfl)⟩) hS (fun q _ h => hFc q h) hFc (fun u t H locs ht hvm hq hB hz1 hk1 hS9 => ?_)
          obtain ⟨z32, z33, z34⟩ := u
          obtain ⟨hP1, hD1⟩ := hB
          rw [ht] at hP1
          obtain ⟨hP9, hD9⟩ := va_join (wr := [(h_vrs, .inl (cy_vrs, 32, .inl f_vrs)), (h_let, .inl (cy_let, 256, .inl f_let))]) (w1 := [(h_mm, .inr (8, (mo90 vq30 (.int x_mm_place) (.int z32) (.int z33) (.int z34))))]) hP hD [0] [1, 2] rfl rfl (by decide) (by decide) hk1 hFc hP1 hD1
          clear hP hD hS hPc hDc hKc hFc hP1 hD1 hk1 hz1 ht hvm
          have hP : va_P (dC, dI) cls [(h_vrs, .inl (cy_vrs, 32, .inl f_vrs)), (h_let, .inl (cy_let, 256, .inl f_let)), (h_mm, .inr (8, (mo90 vq30 (.int x_mm_place) (.int z32) (.int z33) (.int z34))))] H := hP9
          have hD : va_D A [(h_vrs, .inl (cy_vrs, 32, .inl f_vrs)), (h_let, .inl (cy_let, 256, .inl f_let)), (h_mm, .inr (8, (mo90 vq30 (.int x_mm_place) (.int z32) (.int z33) (.int z34))))] := hD9
          have hS := hS9
          clear hP9 hD9 hS9
          rw [evq30] at hP hD
          replace hP : va_P (dC, dI) cls [(h_vrs, .inl (cy_vrs, 32, .inl f_vrs)), (h_let, .inl (cy_let, 256, .inl f_let)), (h_mm, .inr (8, (mo125 v_mm (.ref h_vrs) (.ref h_let) (.int x_mm_taped) (.int x_mm_place) (.int x_mm_sign) (.int z32) (.int z33) (.int z34) (.int x_mm_reading))))] H := hP
          replace hD : va_D A [(h_vrs, .inl (cy_vrs, 32, .inl f_vrs)), (h_let, .inl (cy_let, 256, .inl f_let)), (h_mm, .inr (8, (mo125 v_mm (.ref h_vrs) (.ref h_let) (.int x_mm_taped) (.int x_mm_place) (.int x_mm_sign) (.int z32) (.int z33) (.int z34) (.int x_mm_reading))))] := hD
          clear evq30 
          obtain ⟨k35, k36, k37⟩ := hq
          replace k35 : 0 ≤ ((z32)).toInt ∧ ((z32)).toInt ≤ 1 := k35
          replace k36 : ((z32)).toInt = 1 := k36
          replace k37 : (((x_mm_isFaulty)).toInt = 1 ∧ ((z33)).toInt = ((x_mm_fault)).toInt ∧ ((z34)).toInt = ((x_mm_faultPlace)).toInt) ∨ (((x_mm_isFaulty)).toInt = 0 ∧ ((z33)).toInt = ((2 : Int32)).toInt ∧ ((z34)).toInt = ((x_mm_place)).toInt) := k37
          refine lv_iconst (v := 0) hx hb dX11_variableHere_63 (by decide) ?_
          replace hP : va_P (dC, dI) cls [(h_mm, .inr (8, (mo125 v_mm (.ref h_vrs) (.ref h_let) (.int x_mm_taped) (.int x_mm_place) (.int x_mm_sign) (.int z32) (.int z33) (.int z34) (.int x_mm_reading)))), (h_vrs, .inl (cy_vrs, 32, .inl f_vrs)), (h_let, .inl (cy_let, 256, .inl f_let))] H := hP.sub [2, 0, 1] rfl
          replace hD : va_D A [(h_mm, .inr (8, (mo125 v_mm (.ref h_vrs) (.ref h_let) (.int x_mm_taped) (.int x_mm_place) (.int x_mm_sign) (.int z32) (.int z33) (.int z34) (.int x_mm_reading)))), (h_vrs, .inl (cy_vrs, 32, .inl f_vrs)), (h_let, .inl (cy_let, 256, .inl f_let))] := hD.sub [2, 0, 1] (by decide) rfl
          refine W.widen (k := 0) (n := 0) (Nat.le_of_ble_eq_true rfl) (Nat.le_of_ble_eq_true rfl) ?_
          have cst0 : (0 : Int32).toInt = 0 := by decide
          have w38 : 0 ≤ ((z32)).toInt ∧ ((z32)).toInt ≤ 1 := by first | exact k35 | omega
          have w39 : 0 ≤ (0 : Int32).toInt ∧ (0 : Int32).toInt ≤ 7 := by omega
          have w40 : (x_mm_isFaulty).toInt ≤ ((z32)).toInt := by omega
          have w41 : (((z32)).toInt = 0 ∧ ((pVar G (x_mm_taped).toInt (x_mm_place).toInt nv vf)).1 = 0 ∧ ((pVar G (x_mm_taped).toInt (x_mm_place).toInt nv vf)).2.1 = tkN G (x_mm_taped).toInt (x_mm_place).toInt ∧ ((z33)).toInt = (x_mm_fault).toInt ∧ ((z34)).toInt = (x_mm_faultPlace).toInt) ∨ (((z32)).toInt = 1 ∧ ((pVar G (x_mm_taped).toInt (x_mm_place).toInt nv vf)).1 = 2 ∧ ((pVar G (x_mm_taped).toInt (x_mm_place).toInt nv vf)).2.1 = (x_mm_place).toInt ∧ ((z33)).toInt = 2 ∧ ((z34)).toInt = (x_mm_place).toInt) := by omega
          have w42 : 0 ≤ ((pVar G (x_mm_taped).toInt (x_mm_place).toInt nv vf)).2.2.1 ∧ ((pVar G (x_mm_taped).toInt (x_mm_place).toInt nv vf)).2.2.1 ≤ 8 := by omega
          have w43 : VRF (x_mm_reading).toInt f_vrs (f_vrs) := vrf_rf
          have w44 : ((f_vrs) (Int32.toNatClampNeg x_mm_reading)).toInt = ((pVar G (x_mm_taped).toInt (x_mm_place).toInt nv vf)).2.2.1 := (hn_nvq.trans pq293.symm)
          have w45 : VFM ((pVar G (x_mm_taped).toInt (x_mm_place).toInt nv vf)).2.2.1 ((pVar G (x_mm_taped).toInt (x_mm_place).toInt nv vf)).2.2.2 (f_let) (x_mm_reading).toInt := (by rw [pq293, pq294]; exact hn_vfm)
          have w46 : IFZ ((z32)).toInt (0 ≤ ((0 : Int32)).toInt ∧ ((0 : Int32)).toInt < ((pVar G (x_mm_taped).toInt (x_mm_place).toInt nv vf)).2.2.1 ∧ ((pVar G (x_mm_taped).toInt (x_mm_place).toInt nv vf)).2.2.2 ((0 : Int32)).toInt = G (x_mm_place).toInt) := (ifz_no (by omega))
          exact W.iret (v := 0) hx hb hr (fun t ht hW => ⟨⟨0, (z32, z33, z34, f_vrs, f_let), rfl, ⟨w38, hf_vrs, w39, w40, w41, w42, w43, w44, w45, w46⟩, by rw [ht]; exact hP, hD⟩, hS.F ht⟩) hS.2.2 dX11_variableHere_64
      · have kc5 := (not_congr (cv_le (rfl : (z4).toInt = (z4).toInt) (rfl : (x1).toInt = (x1).toInt))).mp c5
        refine lv_aload_n hx hb dX11_variableHere_15 rfl (lv_at hl 0 rfl) ?_
        refine va_get (D := (dC, dI)) (ci := 8) (v := .ref h_let) (C := RX11) (T := TX11) (N := 71) hx hb hw iwX11 hown hK hP 0 rfl rfl 10 (by decide) (hw _ w_f_X11_108) (fun _ h9 => h9) rfl dX11_variableHere_16 ?_
        refine lv_bipush (v := 8) hx hb dX11_variableHere_19 (by decide) ?_
        refine lv_aload_n hx hb dX11_variableHere_21 rfl (lv_at hl 0 rfl) ?_
        refine va_get (D := (dC, dI)) (ci := 8) (v := .int x_mm_reading) (C := RX11) (T := TX11) (N := 71) hx hb hw iwX11 hown hK hP 0 rfl rfl 24 (by decide) (hw _ w_f_X11_105) (fun _ h9 => h9) rfl dX11_variableHere_22 ?_
        refine lv_imul hx hb dX11_variableHere_25 ?_
        refine lv_topi (fun z47 ez47 => ?_)
        have tz47 : (z47).toInt = 8 * (x_mm_reading).toInt := by rw [ez47]; exact i_mul (by decide) rfl (by omega)
        refine lv_iload_n hx hb dX11_variableHere_26 rfl (lv_at hl 1 rfl) ?_
        refine lv_iadd hx hb dX11_variableHere_27 ?_
        refine lv_topi (fun z48 ez48 => ?_)
        have tz48 : (z48).toInt = (z47).toInt + (x1).toInt := by rw [ez48]; exact i_add rfl rfl (by omega)
        refine va_iald hx hb hK hP 2 1 rfl rfl (i := z48) (vp_in_iff.mpr (by omega)) dX11_variableHere_28 ?_
        refine lv_topi (fun z49 ez49 => ?_)
        have lzz49 : (z49).toInt = vf ((z48).toInt - 8 * (x_mm_reading).toInt) := by rw [ez49]; exact hn_vfm _ (by omega) (by omega)
        have lvz49 : vf ((z48).toInt - 8 * (x_mm_reading).toInt) = vf (x1).toInt := congrArg vf (by omega)
        refine lv_aload_n hx hb dX11_variableHere_29 rfl (lv_at hl 0 rfl) ?_
        refine va_get (D := (dC, dI)) (ci := 8) (v := .int x_mm_sign) (C := RX11) (T := TX11) (N := 71) hx hb hw iwX11 hown hK hP 0 rfl rfl 18 (by decide) (hw _ w_f_X11_80) (fun _ h9 => h9) rfl dX11_variableHere_30 ?_
        refine lv_icmp_ne (tgt := 38) hx hb dX11_variableHere_33 (by decide) (fun c50 => ?_) (fun c50 => ?_)
        · have kc50 := (not_congr (cv_eq (rfl : (z49).toInt = (z49).toInt) (rfl : (x_mm_sign).toInt = (x_mm_sign).toInt))).mp c50
          obtain ⟨z51, ez51⟩ : ∃ y : Int32, y = x1 + 1 := ⟨_, rfl⟩
          have tz51 : (z51).toInt = (x1).toInt + 1 := by rw [ez51]; exact i_add rfl (by decide) (by omega)
          refine lv_iinc (v := z51) (lv' := [(1, .int z51), (0, .ref h_mm)]) hx hb dX11_variableHere_38 hl (k := 1) rfl (by rw [ez51]; rfl) (by decide) rfl (fun ls hl => ?_)
          have nf52 : ∀ j : Int, 0 ≤ j → j < (z51).toInt → ¬ vf j = G (x_mm_place).toInt := nf_step klp2_1 (by omega) tz51
          refine lv_goto (tgt := 2) hx hb dX11_variableHere_41 (by decide) ?_
          exact ih3 (z51) _ _ _ (by omega) nf52 (by omega) hP hD hS (lv_sub hl [1, 0] rfl)
        · have kc50 := (cv_eq (rfl : (z49).toInt = (z49).toInt) (rfl : (x_mm_sign).toInt = (x_mm_sign).toInt)).mp c50
          have pv9 : (pVar G (x_mm_taped).toInt (x_mm_place).toInt nv vf) = (0, tkN G (x_mm_taped).toInt (x_mm_place).toInt, nv, vf) := pVar_old ⟨(x1).toInt, by omega, by omega, by omega⟩
          have pq531 : ((pVar G (x_mm_taped).toInt (x_mm_place).toInt nv vf)).1 = 0 := by rw [pv9]
          have pq532 : ((pVar G (x_mm_taped).toInt (x_mm_place).toInt nv vf)).2.1 = tkN G (x_mm_taped).toInt (x_mm_place).toInt := by rw [pv9]
          have pq533 : ((pVar G (x_mm_taped).toInt (x_mm_place).toInt nv vf)).2.2.1 = nv := by rw [pv9]
          have pq534 : ((pVar G (x_mm_taped).toInt (x_mm_place).toInt nv vf)).2.2.2 = vf := by rw [pv9]
          refine lv_iload_n hx hb dX11_variableHere_36 rfl (lv_at hl 1 rfl) ?_
          refine W.widen (k := 0) (n := 0) (Nat.le_of_ble_eq_true rfl) (Nat.le_of_ble_eq_true rfl) ?_
          have w54 : 0 ≤ ((x_mm_isFaulty)).toInt ∧ ((x_mm_isFaulty)).toInt ≤ 1 := by first | exact hx_mm_isFaulty | omega
          have w55 : 0 ≤ (x1 : Int32).toInt ∧ (x1 : Int32).toInt ≤ 7 := by omega
          have w56 : (x_mm_isFaulty).toInt ≤ ((x_mm_isFaulty)).toInt := by omega
          have w57 : (((x_mm_isFaulty)).toInt = 0 ∧ ((pVar G (x_mm_taped).toInt (x_mm_place).toInt nv vf)).1 = 0 ∧ ((pVar G (x_mm_taped).toInt (x_mm_place).toInt nv vf)).2.1 = tkN G (x_mm_taped).toInt (x_mm_place).toInt ∧ ((x_mm_fault)).toInt = (x_mm_fault).toInt ∧ ((x_mm_faultPlace)).toInt = (x_mm_faultPlace).toInt) ∨ (((x_mm_isFaulty)).toInt = 1 ∧ ((pVar G (x_mm_taped).toInt (x_mm_place).toInt nv vf)).1 = 2 ∧ ((pVar G (x_mm_taped).toInt (x_mm_place).toInt nv vf)).2.1 = (x_mm_place).toInt ∧ ((x_mm_fault)).toInt = 2 ∧ ((x_mm_faultPlace)).toInt = (x_mm_place).toInt) := by omega
          have w58 : 0 ≤ ((pVar G (x_mm_taped).toInt (x_mm_place).toInt nv vf)).2.2.1 ∧ ((pVar G (x_mm_taped).toInt (x_mm_place).toInt nv vf)).2.2.1 ≤ 8 := by omega
          have w59 : VRF (x_mm_reading).toInt f_vrs (f_vrs) := vrf_rf
          have w60 : ((f_vrs) (Int32.toNatClampNeg x_mm_reading)).toInt = ((pVar G (x_mm_taped).toInt (x_mm_place).toInt nv vf)).2.2.1 := (hn_nvq.trans pq533.symm)
          have w61 : VFM ((pVar G (x_mm_taped).toInt (x_mm_place).toInt nv vf)).2.2.1 ((pVar G (x_mm_taped).toInt (x_mm_place).toInt nv vf)).2.2.2 (f_let) (x_mm_reading).toInt := (by rw [pq533, pq534]; exact hn_vfm)
          have w62 : IFZ ((x_mm_isFaulty)).toInt (0 ≤ ((x1 : Int32)).toInt ∧ ((x1 : Int32)).toInt < ((pVar G (x_mm_taped).toInt (x_mm_place).toInt nv vf)).2.2.1 ∧ ((pVar G (x_mm_taped).toInt (x_mm_place).toInt nv vf)).2.2.2 ((x1 : Int32)).toInt = G (x_mm_place).toInt) := (ifz_yes (by rw [pq533, pq534]; exact ⟨by omega, by omega, by omega⟩))
          exact W.iret (v := x1) hx hb hr (fun t ht hW => ⟨⟨x1, (x_mm_isFaulty, x_mm_fault, x_mm_faultPlace, f_vrs, f_let), rfl, ⟨w54, hf_vrs, w55, w56, w57, w58, w59, w60, w61, w62⟩, by rw [ht]; exact hP, hD⟩, hS.F ht⟩) hS.2.2 dX11_variableHere_37
  have cst0 : (0 : Int32).toInt = 0 := by decide
  exact lp2 _ (0) _ _ _ (by decide) (fun j h1 h2 => absurd h2 (by omega)) (Nat.le_refl _) hP hD hS (lv_sub hl [1, 0] rfl)

