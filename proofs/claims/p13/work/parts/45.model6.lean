theorem w_cl_X11_183 : Cond.constantLong "OppositePairsModel" 183 (10 : Int64) ∈ WALL := wall_t (tb_5 128 (by decide +kernel)) rfl
theorem w_cl_X11_185 : Cond.constantLong "OppositePairsModel" 185 (9 : Int64) ∈ WALL := wall_t (tb_5 129 (by decide +kernel)) rfl
theorem w_code_X11_part : Cond.code yX11_part prog_13_method_4_code 3 (some .int) ∈ WALL := wall_t (tb_5 123 (by decide +kernel)) rfl
theorem w_code_X11_partsAt : Cond.code yX11_partsAt prog_13_method_5_code 2 (some .int) ∈ WALL := wall_t (tb_5 119 (by decide +kernel)) rfl
theorem w_code_X11_positives : Cond.code yX11_positives prog_13_method_33_code 4 (some .int) ∈ WALL := wall_t (tb_5 127 (by decide +kernel)) rfl
theorem w_code_X11_sizeAt : Cond.code yX11_sizeAt prog_13_method_7_code 4 (some .int) ∈ WALL := wall_t (tb_5 115 (by decide +kernel)) rfl
theorem w_code_X11_sizeOf : Cond.code yX11_sizeOf prog_13_method_32_code 4 (some .int) ∈ WALL := wall_t (tb_5 111 (by decide +kernel)) rfl
theorem w_instanceMethod_X11_part : Cond.instanceMethod yX11_part ∈ WALL := wall_t (tb_5 122 (by decide +kernel)) rfl
theorem w_instanceMethod_X11_partsAt : Cond.instanceMethod yX11_partsAt ∈ WALL := wall_t (tb_5 118 (by decide +kernel)) rfl
theorem w_instanceMethod_X11_positives : Cond.instanceMethod yX11_positives ∈ WALL := wall_t (tb_5 126 (by decide +kernel)) rfl
theorem w_instanceMethod_X11_sizeAt : Cond.instanceMethod yX11_sizeAt ∈ WALL := wall_t (tb_5 114 (by decide +kernel)) rfl
theorem w_instanceMethod_X11_sizeOf : Cond.instanceMethod yX11_sizeOf ∈ WALL := wall_t (tb_5 110 (by decide +kernel)) rfl
theorem w_m_X11_177 : Cond.methodLink "OppositePairsModel" 177 yX11_sizeOf ∈ WALL := wall_t (tb_5 108 (by decide +kernel)) rfl
theorem w_m_X11_180 : Cond.methodLink "OppositePairsModel" 180 yX11_positives ∈ WALL := wall_t (tb_5 124 (by decide +kernel)) rfl
theorem w_m_X11_27 : Cond.methodLink "OppositePairsModel" 27 yX11_partsAt ∈ WALL := wall_t (tb_5 116 (by decide +kernel)) rfl
theorem w_m_X11_31 : Cond.methodLink "OppositePairsModel" 31 yX11_part ∈ WALL := wall_t (tb_5 120 (by decide +kernel)) rfl
theorem w_m_X11_35 : Cond.methodLink "OppositePairsModel" 35 yX11_sizeAt ∈ WALL := wall_t (tb_5 112 (by decide +kernel)) rfl
theorem ws_sel_X11_part : Cond.selects "OppositePairsModel" yX11_part yX11_part ∈ WALL := wall_s 107 (by decide +kernel) rfl
theorem ws_sel_X11_partsAt : Cond.selects "OppositePairsModel" yX11_partsAt yX11_partsAt ∈ WALL := wall_s 106 (by decide +kernel) rfl
theorem ws_sel_X11_positives : Cond.selects "OppositePairsModel" yX11_positives yX11_positives ∈ WALL := wall_s 108 (by decide +kernel) rfl
theorem ws_sel_X11_sizeAt : Cond.selects "OppositePairsModel" yX11_sizeAt yX11_sizeAt ∈ WALL := wall_s 105 (by decide +kernel) rfl
theorem ws_sel_X11_sizeOf : Cond.selects "OppositePairsModel" yX11_sizeOf yX11_sizeOf ∈ WALL := wall_s 104 (by decide +kernel) rfl
theorem dX11_areOf_0 : decode cX11_areOf 0 = .ok (.aload_n 0, 1) := by decide +kernel
theorem dX11_areOf_1 : decode cX11_areOf 1 = .ok (.getfield 23, 3) := by decide +kernel
theorem dX11_areOf_10 : decode cX11_areOf 10 = .ok (.iload_n 2, 1) := by decide +kernel
theorem dX11_areOf_11 : decode cX11_areOf 11 = .ok (.laload, 1) := by decide +kernel
theorem dX11_areOf_12 : decode cX11_areOf 12 = .ok (.lcmp, 1) := by decide +kernel
theorem dX11_areOf_13 : decode cX11_areOf 13 = .ok (.ifCond .ne 20, 3) := by decide +kernel
theorem dX11_areOf_16 : decode cX11_areOf 16 = .ok (.aload_n 0, 1) := by decide +kernel
theorem dX11_areOf_17 : decode cX11_areOf 17 = .ok (.iload_n 1, 1) := by decide +kernel
theorem dX11_areOf_18 : decode cX11_areOf 18 = .ok (.invokevirtual 27, 3) := by decide +kernel
theorem dX11_areOf_21 : decode cX11_areOf 21 = .ok (.aload_n 0, 1) := by decide +kernel
theorem dX11_areOf_22 : decode cX11_areOf 22 = .ok (.iload_n 2, 1) := by decide +kernel
theorem dX11_areOf_23 : decode cX11_areOf 23 = .ok (.invokevirtual 27, 3) := by decide +kernel
theorem dX11_areOf_26 : decode cX11_areOf 26 = .ok (.if_icmp .ne 7, 3) := by decide +kernel
theorem dX11_areOf_29 : decode cX11_areOf 29 = .ok (.iconst 1, 1) := by decide +kernel
theorem dX11_areOf_30 : decode cX11_areOf 30 = .ok (.goto 4, 3) := by decide +kernel
theorem dX11_areOf_33 : decode cX11_areOf 33 = .ok (.iconst 0, 1) := by decide +kernel
theorem dX11_areOf_34 : decode cX11_areOf 34 = .ok (.ireturn, 1) := by decide +kernel
theorem dX11_areOf_4 : decode cX11_areOf 4 = .ok (.iload_n 1, 1) := by decide +kernel
theorem dX11_areOf_5 : decode cX11_areOf 5 = .ok (.laload, 1) := by decide +kernel
theorem dX11_areOf_6 : decode cX11_areOf 6 = .ok (.aload_n 0, 1) := by decide +kernel
theorem dX11_areOf_7 : decode cX11_areOf 7 = .ok (.getfield 23, 3) := by decide +kernel
theorem dX11_clause_0 : decode cX11_clause 0 = .ok (.aload_n 0, 1) := by decide +kernel
theorem dX11_clause_1 : decode cX11_clause 1 = .ok (.iconst 0, 1) := by decide +kernel
theorem dX11_clause_10 : decode cX11_clause 10 = .ok (.ifCond .ne 5, 3) := by decide +kernel
theorem dX11_clause_102 : decode cX11_clause 102 = .ok (.aload_n 0, 1) := by decide +kernel
theorem dX11_clause_103 : decode cX11_clause 103 = .ok (.iload_n 1, 1) := by decide +kernel
theorem dX11_clause_104 : decode cX11_clause 104 = .ok (.iload_n 2, 1) := by decide +kernel
theorem dX11_clause_105 : decode cX11_clause 105 = .ok (.bipush 10, 2) := by decide +kernel
theorem dX11_clause_107 : decode cX11_clause 107 = .ok (.isub, 1) := by decide +kernel
theorem dX11_clause_108 : decode cX11_clause 108 = .ok (.invokevirtual 149, 3) := by decide +kernel
theorem dX11_clause_111 : decode cX11_clause 111 = .ok (.iaload, 1) := by decide +kernel
theorem dX11_clause_112 : decode cX11_clause 112 = .ok (.invokevirtual 27, 3) := by decide +kernel
theorem dX11_clause_115 : decode cX11_clause 115 = .ok (.goto 4, 3) := by decide +kernel
theorem dX11_clause_118 : decode cX11_clause 118 = .ok (.iconst (-1), 1) := by decide +kernel
theorem dX11_clause_119 : decode cX11_clause 119 = .ok (.ireturn, 1) := by decide +kernel
theorem dX11_clause_13 : decode cX11_clause 13 = .ok (.iconst (-1), 1) := by decide +kernel
theorem dX11_clause_14 : decode cX11_clause 14 = .ok (.ireturn, 1) := by decide +kernel
theorem dX11_clause_15 : decode cX11_clause 15 = .ok (.iload_n 2, 1) := by decide +kernel
theorem dX11_clause_16 : decode cX11_clause 16 = .ok (.tableswitch 58 0 3 #[32, 39, 46, 52], 32) := by decide +kernel
theorem dX11_clause_2 : decode cX11_clause 2 = .ok (.putfield 1, 3) := by decide +kernel
theorem dX11_clause_48 : decode cX11_clause 48 = .ok (.aload_n 0, 1) := by decide +kernel
theorem dX11_clause_49 : decode cX11_clause 49 = .ok (.getfield 142, 3) := by decide +kernel
theorem dX11_clause_5 : decode cX11_clause 5 = .ok (.aload_n 0, 1) := by decide +kernel
theorem dX11_clause_52 : decode cX11_clause 52 = .ok (.iload_n 1, 1) := by decide +kernel
theorem dX11_clause_53 : decode cX11_clause 53 = .ok (.iaload, 1) := by decide +kernel
theorem dX11_clause_54 : decode cX11_clause 54 = .ok (.ireturn, 1) := by decide +kernel
theorem dX11_clause_55 : decode cX11_clause 55 = .ok (.aload_n 0, 1) := by decide +kernel
theorem dX11_clause_56 : decode cX11_clause 56 = .ok (.getfield 102, 3) := by decide +kernel
theorem dX11_clause_59 : decode cX11_clause 59 = .ok (.iload_n 1, 1) := by decide +kernel
theorem dX11_clause_6 : decode cX11_clause 6 = .ok (.iload_n 1, 1) := by decide +kernel
theorem dX11_clause_60 : decode cX11_clause 60 = .ok (.iaload, 1) := by decide +kernel
theorem dX11_clause_61 : decode cX11_clause 61 = .ok (.ireturn, 1) := by decide +kernel
theorem dX11_clause_62 : decode cX11_clause 62 = .ok (.aload_n 0, 1) := by decide +kernel
theorem dX11_clause_63 : decode cX11_clause 63 = .ok (.iload_n 1, 1) := by decide +kernel
theorem dX11_clause_64 : decode cX11_clause 64 = .ok (.invokevirtual 177, 3) := by decide +kernel
theorem dX11_clause_67 : decode cX11_clause 67 = .ok (.ireturn, 1) := by decide +kernel
theorem dX11_clause_68 : decode cX11_clause 68 = .ok (.aload_n 0, 1) := by decide +kernel
theorem dX11_clause_69 : decode cX11_clause 69 = .ok (.iload_n 1, 1) := by decide +kernel
theorem dX11_clause_7 : decode cX11_clause 7 = .ok (.invokevirtual 174, 3) := by decide +kernel
theorem dX11_clause_70 : decode cX11_clause 70 = .ok (.invokevirtual 180, 3) := by decide +kernel
theorem dX11_clause_73 : decode cX11_clause 73 = .ok (.ireturn, 1) := by decide +kernel
theorem dX11_clause_74 : decode cX11_clause 74 = .ok (.aload_n 0, 1) := by decide +kernel
theorem dX11_clause_75 : decode cX11_clause 75 = .ok (.iload_n 2, 1) := by decide +kernel
theorem dX11_clause_76 : decode cX11_clause 76 = .ok (.i2l, 1) := by decide +kernel
theorem dX11_clause_77 : decode cX11_clause 77 = .ok (.ldc2_w 183, 3) := by decide +kernel
theorem dX11_clause_80 : decode cX11_clause 80 = .ok (.ldc2_w 185, 3) := by decide +kernel
theorem dX11_clause_83 : decode cX11_clause 83 = .ok (.aload_n 0, 1) := by decide +kernel
theorem dX11_clause_84 : decode cX11_clause 84 = .ok (.getfield 142, 3) := by decide +kernel
theorem dX11_clause_87 : decode cX11_clause 87 = .ok (.iload_n 1, 1) := by decide +kernel
theorem dX11_clause_88 : decode cX11_clause 88 = .ok (.iaload, 1) := by decide +kernel
theorem dX11_clause_89 : decode cX11_clause 89 = .ok (.i2l, 1) := by decide +kernel
theorem dX11_clause_90 : decode cX11_clause 90 = .ok (.ladd, 1) := by decide +kernel
theorem dX11_clause_91 : decode cX11_clause 91 = .ok (.invokevirtual 49, 3) := by decide +kernel
theorem dX11_clause_94 : decode cX11_clause 94 = .ok (.ifCond .eq 24, 3) := by decide +kernel
theorem dX11_clause_97 : decode cX11_clause 97 = .ok (.aload_n 0, 1) := by decide +kernel
theorem dX11_clause_98 : decode cX11_clause 98 = .ok (.aload_n 0, 1) := by decide +kernel
theorem dX11_clause_99 : decode cX11_clause 99 = .ok (.getfield 152, 3) := by decide +kernel
theorem dX11_sizeAt_0 : decode cX11_sizeAt 0 = .ok (.iconst 1, 1) := by decide +kernel
theorem dX11_sizeAt_1 : decode cX11_sizeAt 1 = .ok (.istore_n 2, 1) := by decide +kernel
theorem dX11_sizeAt_10 : decode cX11_sizeAt 10 = .ok (.if_icmp .ge 22, 3) := by decide +kernel
theorem dX11_sizeAt_13 : decode cX11_sizeAt 13 = .ok (.iload_n 2, 1) := by decide +kernel
theorem dX11_sizeAt_14 : decode cX11_sizeAt 14 = .ok (.aload_n 0, 1) := by decide +kernel
theorem dX11_sizeAt_15 : decode cX11_sizeAt 15 = .ok (.aload_n 0, 1) := by decide +kernel
theorem dX11_sizeAt_16 : decode cX11_sizeAt 16 = .ok (.iload_n 1, 1) := by decide +kernel
theorem dX11_sizeAt_17 : decode cX11_sizeAt 17 = .ok (.iload_n 3, 1) := by decide +kernel
theorem dX11_sizeAt_18 : decode cX11_sizeAt 18 = .ok (.invokevirtual 31, 3) := by decide +kernel
theorem dX11_sizeAt_2 : decode cX11_sizeAt 2 = .ok (.iconst 0, 1) := by decide +kernel
theorem dX11_sizeAt_21 : decode cX11_sizeAt 21 = .ok (.invokevirtual 35, 3) := by decide +kernel
theorem dX11_sizeAt_24 : decode cX11_sizeAt 24 = .ok (.iadd, 1) := by decide +kernel
theorem dX11_sizeAt_25 : decode cX11_sizeAt 25 = .ok (.istore_n 2, 1) := by decide +kernel
theorem dX11_sizeAt_26 : decode cX11_sizeAt 26 = .ok (.iinc 3 1, 3) := by decide +kernel
theorem dX11_sizeAt_29 : decode cX11_sizeAt 29 = .ok (.goto (-25), 3) := by decide +kernel
theorem dX11_sizeAt_3 : decode cX11_sizeAt 3 = .ok (.istore_n 3, 1) := by decide +kernel
theorem dX11_sizeAt_32 : decode cX11_sizeAt 32 = .ok (.iload_n 2, 1) := by decide +kernel
theorem dX11_sizeAt_33 : decode cX11_sizeAt 33 = .ok (.ireturn, 1) := by decide +kernel
theorem dX11_sizeAt_4 : decode cX11_sizeAt 4 = .ok (.iload_n 3, 1) := by decide +kernel
theorem dX11_sizeAt_5 : decode cX11_sizeAt 5 = .ok (.aload_n 0, 1) := by decide +kernel
theorem dX11_sizeAt_6 : decode cX11_sizeAt 6 = .ok (.iload_n 1, 1) := by decide +kernel
theorem dX11_sizeAt_7 : decode cX11_sizeAt 7 = .ok (.invokevirtual 27, 3) := by decide +kernel
theorem dX11_sizeOf_0 : decode cX11_sizeOf 0 = .ok (.iconst 0, 1) := by decide +kernel
theorem dX11_sizeOf_1 : decode cX11_sizeOf 1 = .ok (.istore_n 2, 1) := by decide +kernel
theorem dX11_sizeOf_10 : decode cX11_sizeOf 10 = .ok (.iaload, 1) := by decide +kernel
theorem dX11_sizeOf_11 : decode cX11_sizeOf 11 = .ok (.if_icmp .ge 27, 3) := by decide +kernel
theorem dX11_sizeOf_14 : decode cX11_sizeOf 14 = .ok (.iload_n 2, 1) := by decide +kernel
theorem dX11_sizeOf_15 : decode cX11_sizeOf 15 = .ok (.aload_n 0, 1) := by decide +kernel
theorem dX11_sizeOf_16 : decode cX11_sizeOf 16 = .ok (.aload_n 0, 1) := by decide +kernel
theorem dX11_sizeOf_17 : decode cX11_sizeOf 17 = .ok (.getfield 152, 3) := by decide +kernel
theorem dX11_sizeOf_2 : decode cX11_sizeOf 2 = .ok (.iconst 0, 1) := by decide +kernel
theorem dX11_sizeOf_20 : decode cX11_sizeOf 20 = .ok (.aload_n 0, 1) := by decide +kernel
theorem dX11_sizeOf_21 : decode cX11_sizeOf 21 = .ok (.iload_n 1, 1) := by decide +kernel
theorem dX11_sizeOf_22 : decode cX11_sizeOf 22 = .ok (.iload_n 3, 1) := by decide +kernel
theorem dX11_sizeOf_23 : decode cX11_sizeOf 23 = .ok (.invokevirtual 149, 3) := by decide +kernel
theorem dX11_sizeOf_26 : decode cX11_sizeOf 26 = .ok (.iaload, 1) := by decide +kernel
theorem dX11_sizeOf_27 : decode cX11_sizeOf 27 = .ok (.invokevirtual 35, 3) := by decide +kernel
theorem dX11_sizeOf_3 : decode cX11_sizeOf 3 = .ok (.istore_n 3, 1) := by decide +kernel
theorem dX11_sizeOf_30 : decode cX11_sizeOf 30 = .ok (.iadd, 1) := by decide +kernel
theorem dX11_sizeOf_31 : decode cX11_sizeOf 31 = .ok (.istore_n 2, 1) := by decide +kernel
theorem dX11_sizeOf_32 : decode cX11_sizeOf 32 = .ok (.iinc 3 1, 3) := by decide +kernel
theorem dX11_sizeOf_35 : decode cX11_sizeOf 35 = .ok (.goto (-31), 3) := by decide +kernel
theorem dX11_sizeOf_38 : decode cX11_sizeOf 38 = .ok (.iload_n 2, 1) := by decide +kernel
theorem dX11_sizeOf_39 : decode cX11_sizeOf 39 = .ok (.ireturn, 1) := by decide +kernel
theorem dX11_sizeOf_4 : decode cX11_sizeOf 4 = .ok (.iload_n 3, 1) := by decide +kernel
theorem dX11_sizeOf_5 : decode cX11_sizeOf 5 = .ok (.aload_n 0, 1) := by decide +kernel
theorem dX11_sizeOf_6 : decode cX11_sizeOf 6 = .ok (.getfield 142, 3) := by decide +kernel
theorem dX11_sizeOf_9 : decode cX11_sizeOf 9 = .ok (.iload_n 1, 1) := by decide +kernel
theorem dX11_slotOf_0 : decode cX11_slotOf 0 = .ok (.bipush 8, 2) := by decide +kernel
theorem dX11_slotOf_10 : decode cX11_slotOf 10 = .ok (.iadd, 1) := by decide +kernel
theorem dX11_slotOf_11 : decode cX11_slotOf 11 = .ok (.ireturn, 1) := by decide +kernel
theorem dX11_slotOf_2 : decode cX11_slotOf 2 = .ok (.iload_n 2, 1) := by decide +kernel
theorem dX11_slotOf_3 : decode cX11_slotOf 3 = .ok (.imul, 1) := by decide +kernel
theorem dX11_slotOf_4 : decode cX11_slotOf 4 = .ok (.aload_n 0, 1) := by decide +kernel
theorem dX11_slotOf_5 : decode cX11_slotOf 5 = .ok (.getfield 17, 3) := by decide +kernel
theorem dX11_slotOf_8 : decode cX11_slotOf 8 = .ok (.iload_n 1, 1) := by decide +kernel
theorem dX11_slotOf_9 : decode cX11_slotOf 9 = .ok (.iaload, 1) := by decide +kernel
abbrev mo129 (v : Nat → Value) (a1 : Value) : List Value := ((v 0) :: a1 :: (v 2) :: (v 3) :: (v 4) :: (v 5) :: (v 6) :: (v 7) :: (v 8) :: (v 9) :: (v 10) :: (v 11) :: (v 12) :: (v 13) :: (v 14) :: (v 15) :: (v 16) :: (v 17) :: (v 18) :: (v 19) :: (v 20) :: (v 21) :: (v 22) :: (v 23) :: (v 24) :: (v 25) :: (v 26) :: (v 27) :: (v 28) :: (v 29) :: (v 30) :: (v 31) :: (v 32) :: (v 33) :: (v 34) :: (v 35) :: (v 36) :: (v 37) :: (v 38) :: (v 39) :: (v 40) :: (v 41) :: (v 42) :: [(v 43), (v 44), (v 45), (v 46), (v 47), (v 48), (v 49), (v 50), (v 51), (v 52), (v 53), (v 54), (v 55), (v 56), (v 57), (v 58), (v 59), (v 60), (v 61), (v 62), (v 63), (v 64), (v 65), (v 66), (v 67), (v 68), (v 69), (v 70)])
abbrev mo130 (v : Nat → Value) (a1 a2 a3 a4 a5 : Value) : List Value := ((v 0) :: a1 :: a2 :: a3 :: a4 :: a5 :: (v 6) :: (v 7) :: (v 8) :: (v 9) :: (v 10) :: (v 11) :: (v 12) :: (v 13) :: (v 14) :: (v 15) :: (v 16) :: (v 17) :: (v 18) :: (v 19) :: (v 20) :: (v 21) :: (v 22) :: (v 23) :: (v 24) :: (v 25) :: (v 26) :: (v 27) :: (v 28) :: (v 29) :: (v 30) :: (v 31) :: (v 32) :: (v 33) :: (v 34) :: (v 35) :: (v 36) :: (v 37) :: (v 38) :: (v 39) :: (v 40) :: (v 41) :: (v 42) :: [(v 43), (v 44), (v 45), (v 46), (v 47), (v 48), (v 49), (v 50), (v 51), (v 52), (v 53), (v 54), (v 55), (v 56), (v 57), (v 58), (v 59), (v 60), (v 61), (v 62), (v 63), (v 64), (v 65), (v 66), (v 67), (v 68), (v 69), (v 70)])
abbrev mo131 (v : Nat → Value) (a1 a3 a4 a5 a8 a12 : Value) : List Value := ((v 0) :: a1 :: (v 2) :: a3 :: a4 :: a5 :: (v 6) :: (v 7) :: a8 :: (v 9) :: (v 10) :: (v 11) :: a12 :: (v 13) :: (v 14) :: (v 15) :: (v 16) :: (v 17) :: (v 18) :: (v 19) :: (v 20) :: (v 21) :: (v 22) :: (v 23) :: (v 24) :: (v 25) :: (v 26) :: (v 27) :: (v 28) :: (v 29) :: (v 30) :: (v 31) :: (v 32) :: (v 33) :: (v 34) :: (v 35) :: (v 36) :: (v 37) :: (v 38) :: (v 39) :: (v 40) :: (v 41) :: (v 42) :: [(v 43), (v 44), (v 45), (v 46), (v 47), (v 48), (v 49), (v 50), (v 51), (v 52), (v 53), (v 54), (v 55), (v 56), (v 57), (v 58), (v 59), (v 60), (v 61), (v 62), (v 63), (v 64), (v 65), (v 66), (v 67), (v 68), (v 69), (v 70)])
abbrev mo132 (v : Nat → Value) (a1 a3 a4 a5 a7 a8 a9 a11 a12 : Value) : List Value := ((v 0) :: a1 :: (v 2) :: a3 :: a4 :: a5 :: (v 6) :: a7 :: a8 :: a9 :: (v 10) :: a11 :: a12 :: (v 13) :: (v 14) :: (v 15) :: (v 16) :: (v 17) :: (v 18) :: (v 19) :: (v 20) :: (v 21) :: (v 22) :: (v 23) :: (v 24) :: (v 25) :: (v 26) :: (v 27) :: (v 28) :: (v 29) :: (v 30) :: (v 31) :: (v 32) :: (v 33) :: (v 34) :: (v 35) :: (v 36) :: (v 37) :: (v 38) :: (v 39) :: (v 40) :: (v 41) :: (v 42) :: [(v 43), (v 44), (v 45), (v 46), (v 47), (v 48), (v 49), (v 50), (v 51), (v 52), (v 53), (v 54), (v 55), (v 56), (v 57), (v 58), (v 59), (v 60), (v 61), (v 62), (v 63), (v 64), (v 65), (v 66), (v 67), (v 68), (v 69), (v 70)])
abbrev mo133 (v : Nat → Value) (a0 a1 a3 a4 a5 a7 a8 a9 a11 a12 : Value) : List Value := (a0 :: a1 :: (v 2) :: a3 :: a4 :: a5 :: (v 6) :: a7 :: a8 :: a9 :: (v 10) :: a11 :: a12 :: (v 13) :: (v 14) :: (v 15) :: (v 16) :: (v 17) :: (v 18) :: (v 19) :: (v 20) :: (v 21) :: (v 22) :: (v 23) :: (v 24) :: (v 25) :: (v 26) :: (v 27) :: (v 28) :: (v 29) :: (v 30) :: (v 31) :: (v 32) :: (v 33) :: (v 34) :: (v 35) :: (v 36) :: (v 37) :: (v 38) :: (v 39) :: (v 40) :: (v 41) :: (v 42) :: [(v 43), (v 44), (v 45), (v 46), (v 47), (v 48), (v 49), (v 50), (v 51), (v 52), (v 53), (v 54), (v 55), (v 56), (v 57), (v 58), (v 59), (v 60), (v 61), (v 62), (v 63), (v 64), (v 65), (v 66), (v 67), (v 68), (v 69), (v 70)])
set_option maxRecDepth 100000 in
theorem mq130_86 (v : Nat → Value) (b2 : Value) : ∃ w : Nat → Value, ∀ (a1 a3 a4 a5 : Value), mo86 w a1 a3 a4 a5 = (mo130 v a1 b2 a3 a4 a5) := ⟨fun k => List.getD (mo130 v .null b2 .null .null .null) k .null, fun _ _ _ _ => rfl⟩
set_option maxRecDepth 100000 in
theorem mq86_85 (v : Nat → Value) (b1 : Value) : ∃ w : Nat → Value, ∀ (a3 a4 a5 : Value), mo85 w a3 a4 a5 = (mo86 v b1 a3 a4 a5) := ⟨fun k => List.getD (mo86 v b1 .null .null .null) k .null, fun _ _ _ => rfl⟩
set_option maxRecDepth 100000 in
theorem mq131_86 (v : Nat → Value) (b8 b12 : Value) : ∃ w : Nat → Value, ∀ (a1 a3 a4 a5 : Value), mo86 w a1 a3 a4 a5 = (mo131 v a1 a3 a4 a5 b8 b12) := ⟨fun k => List.getD (mo131 v .null .null .null .null b8 b12) k .null, fun _ _ _ _ => rfl⟩
set_option maxRecDepth 100000 in
theorem mq133_100 (v : Nat → Value) (b0 b1 b3 b4 b5 b8 b9 b11 b12 : Value) : ∃ w : Nat → Value, ∀ (a7 : Value), mo100 w a7 = (mo133 v b0 b1 b3 b4 b5 a7 b8 b9 b11 b12) := ⟨fun k => List.getD (mo133 v b0 b1 b3 b4 b5 .null b8 b9 b11 b12) k .null, fun _ => rfl⟩
set_option maxRecDepth 100000 in
theorem mq133_86 (v : Nat → Value) (b0 b7 b8 b9 b11 b12 : Value) : ∃ w : Nat → Value, ∀ (a1 a3 a4 a5 : Value), mo86 w a1 a3 a4 a5 = (mo133 v b0 a1 a3 a4 a5 b7 b8 b9 b11 b12) := ⟨fun k => List.getD (mo133 v b0 .null .null .null .null b7 b8 b9 b11 b12) k .null, fun _ _ _ _ => rfl⟩
set_option maxRecDepth 100000 in
theorem mq133_131 (v : Nat → Value) (b0 b7 b9 b11 : Value) : ∃ w : Nat → Value, ∀ (a1 a3 a4 a5 a8 a12 : Value), mo131 w a1 a3 a4 a5 a8 a12 = (mo133 v b0 a1 a3 a4 a5 b7 a8 b9 b11 a12) := ⟨fun k => List.getD (mo133 v b0 .null .null .null .null b7 .null b9 b11 .null) k .null, fun _ _ _ _ _ _ => rfl⟩
set_option maxRecDepth 100000 in
theorem mq133_103 (v : Nat → Value) (b0 b1 b3 b4 b5 b7 b9 b12 : Value) : ∃ w : Nat → Value, ∀ (a8 a11 : Value), mo103 w a8 a11 = (mo133 v b0 b1 b3 b4 b5 b7 a8 b9 a11 b12) := ⟨fun k => List.getD (mo133 v b0 b1 b3 b4 b5 b7 .null b9 .null b12) k .null, fun _ _ => rfl⟩
set_option maxHeartbeats 8000000 in
set_option maxRecDepth 100000 in
theorem c_X11_partsAt_e (l : Launch) (dC : Nat → ClassId) (dI : Nat → Nat → Nat) (sz : Nat) (h_mm : Nat) (h_nv : Nat) (h_na : Nat) (h_nb : Nat) (h_nc : Nat) (v_mm : Nat → Value) (cy_nv : ClassId) (f_nv : Nat → Int32) (cy_na : ClassId) (f_na : Nat → Int32) (cy_nb : ClassId) (f_nb : Nat → Int32) (cy_nc : ClassId) (f_nc : Nat → Int32) (p1 : Int32) (hf_nv : Rg (-1) 7 f_nv) (hf_na : Rg (-1) 7999 f_na) (hf_nb : Rg (-1) 7999 f_nb) (hf_nc : Rg (-1) 7999 f_nc) (q0 : 0 ≤ (p1).toInt ∧ (p1).toInt ≤ 7999) : Met l yX11_partsAt (Ws yX11_partsAt cX11_partsAt 2 (some .int)) (({ frames := 0, cells := 0, slots := 0, locals := 0 } : Room)) (PRE (dC, dI) cls [(cy_nv, .int), (cy_na, .int), (cy_nb, .int), (cy_nc, .int)] [(h_mm, .inr (8, (mo86 v_mm (.ref h_nv) (.ref h_na) (.ref h_nb) (.ref h_nc)))), (h_nv, .inl (cy_nv, 8000, .inl f_nv)), (h_na, .inl (cy_na, 8000, .inl f_na)), (h_nb, .inl (cy_nb, 8000, .inl f_nb)), (h_nc, .inl (cy_nc, 8000, .inl f_nc))] sz [.ref h_mm, .int p1]) (va_Qi (fun (r : Int32) (_ : Unit) => (0 ≤ r.toInt ∧ r.toInt ≤ 3) ∧ ((r).toInt = (npx f_nv f_na f_nb f_nc (p1).toInt.toNat))) (fun (_ : Unit) (t : State) => va_P (dC, dI) cls [(h_mm, .inr (8, (mo86 v_mm (.ref h_nv) (.ref h_na) (.ref h_nb) (.ref h_nc)))), (h_nv, .inl (cy_nv, 8000, .inl f_nv)), (h_na, .inl (cy_na, 8000, .inl f_na)), (h_nb, .inl (cy_nb, 8000, .inl f_nb)), (h_nc, .inl (cy_nc, 8000, .inl f_nc))] t.heap ∧ va_D (va_A [(h_mm, .inr (8, (mo86 v_mm (.ref h_nv) (.ref h_na) (.ref h_nb) (.ref h_nc)))), (h_nv, .inl (cy_nv, 8000, .inl f_nv)), (h_na, .inl (cy_na, 8000, .inl f_na)), (h_nb, .inl (cy_nb, 8000, .inl f_nb)), (h_nc, .inl (cy_nc, 8000, .inl f_nc))] sz) [(h_mm, .inr (8, (mo86 v_mm (.ref h_nv) (.ref h_na) (.ref h_nb) (.ref h_nc)))), (h_nv, .inl (cy_nv, 8000, .inl f_nv)), (h_na, .inl (cy_na, 8000, .inl f_na)), (h_nb, .inl (cy_nb, 8000, .inl f_nb)), (h_nc, .inl (cy_nc, 8000, .inl f_nc))]) (va_A [(h_mm, .inr (8, (mo86 v_mm (.ref h_nv) (.ref h_na) (.ref h_nb) (.ref h_nc)))), (h_nv, .inl (cy_nv, 8000, .inl f_nv)), (h_na, .inl (cy_na, 8000, .inl f_na)), (h_nb, .inl (cy_nb, 8000, .inl f_nb)), (h_nc, .inl (cy_nc, 8000, .inl f_nc))] sz)) 0 0 (va_A [(h_mm, .inr (8, (mo86 v_mm (.ref h_nv) (.ref h_na) (.ref h_nb) (.ref h_nc)))), (h_nv, .inl (cy_nv, 8000, .inl f_nv)), (h_na, .inl (cy_na, 8000, .inl f_na)), (h_nb, .inl (cy_nb, 8000, .inl f_nb)), (h_nc, .inl (cy_nc, 8000, .inl f_nc))] sz) := by
  refine Met.ofW (cc := cX11_partsAt) (maxL := 2) (ret := (some .int)) (by decide) rfl ?_
  intro p e s m args below meth c s₁ B hml hv
  obtain ⟨rfl, hsz, hP, hK, hD0, hN⟩ := hv
  have hx := B.exec
  have hb := B.bytes
  have hr := B.returns
  have hts := atoms_spec (ws := Ws yX11_partsAt cX11_partsAt 2 (some .int)) B.pre
  have hT : ∀ w ∈ WALL, w ∈ Ws yX11_partsAt cX11_partsAt 2 (some .int) := fun w h => List.mem_cons_of_mem _ h
  have hw := fun w (h : w ∈ WALL) => hts w (hT w h)
  have hown : s.vm.findClass RX11 = some m.cls := findClass_of_methodNamed B.named
  have hlocks := B.notSynchronized
  subst hsz
  have hD := hD0.self (sz := s.heap.size)
  generalize hAe : va_A [(h_mm, .inr (8, (mo86 v_mm (.ref h_nv) (.ref h_na) (.ref h_nb) (.ref h_nc)))), (h_nv, .inl (cy_nv, 8000, .inl f_nv)), (h_na, .inl (cy_na, 8000, .inl f_na)), (h_nb, .inl (cy_nb, 8000, .inl f_nb)), (h_nc, .inl (cy_nc, 8000, .inl f_nc))] s.heap.size = A at hD ⊢
  have hA : ∀ q : Nat, s.heap.size ≤ q → A q := fun q h => by rw [← hAe]; exact Or.inr h
  have hS : va_S A s.heap s.heap [] := va_S.rf
  have hl := lv_entry ([.ref h_mm, .int p1]) (n := 2) (Nat.le_of_ble_eq_true rfl)
  rw [lg_entry_eq]
  generalize (lg_sl ([.ref h_mm, .int p1]) ++ List.replicate (2 - (lg_sl ([.ref h_mm, .int p1])).length) Slot.unset).toArray = ls at hl ⊢
  have hl : lv_has ls 2 [(0, .ref h_mm), (1, .int p1)] := hl
  refine lv_aload_n hx hb dX11_partsAt_0 rfl (lv_at hl 0 rfl) ?_
  refine va_get (D := (dC, dI)) (ci := 8) (v := .ref h_nv) (C := RX11) (T := TX11) (N := 71) hx hb hw iwX11 hown hK hP 0 rfl rfl 1 (by decide) (hw _ w_f_X11_17) (fun _ h9 => h9) rfl dX11_partsAt_1 ?_
  refine lv_iload_n hx hb dX11_partsAt_4 rfl (lv_at hl 1 rfl) ?_
  refine va_iald hx hb hK hP 1 0 rfl rfl (i := p1) (vp_in_iff.mpr (by omega)) dX11_partsAt_5 ?_
  refine lv_topi (fun z1 ez1 => ?_)
  have rz1 : -1 ≤ (z1).toInt ∧ (z1).toInt ≤ 7 := by rw [ez1]; exact hf_nv _
  refine lv_iconst (v := (-1)) hx hb dX11_partsAt_6 (by decide) ?_
  refine lv_icmp_ne (tgt := 20) hx hb dX11_partsAt_7 (by decide) (fun c2 => ?_) (fun c2 => ?_)
  · have kc2 := (not_congr (cv_eq (rfl : (z1).toInt = (z1).toInt) (by decide : ((-1) : Int32).toInt = -1))).mp c2
    refine lv_iconst (v := 0) hx hb dX11_partsAt_20 (by decide) ?_
    refine lv_goto (tgt := 53) hx hb dX11_partsAt_21 (by decide) ?_
    refine W.widen (k := 0) (n := 0) (Nat.le_of_ble_eq_true rfl) (Nat.le_of_ble_eq_true rfl) ?_
    have cst0 : (0 : Int32).toInt = 0 := by decide
    have w3 : 0 ≤ (0 : Int32).toInt ∧ (0 : Int32).toInt ≤ 3 := by omega
    have w4 : ((0 : Int32)).toInt = (npx f_nv f_na f_nb f_nc (p1).toInt.toNat) := by rw [(clamp_nat (i := p1) (by omega))] at ez1; unfold npx; rw [← ez1]; (repeat' split) <;> omega
    exact W.iret (v := 0) hx hb hr (fun t ht hW => ⟨⟨0, (), rfl, ⟨w3, w4⟩, by rw [ht]; exact hP, hD⟩, hS.F ht⟩) hS.2.2 dX11_partsAt_53
  · have kc2 := (cv_eq (rfl : (z1).toInt = (z1).toInt) (by decide : ((-1) : Int32).toInt = -1)).mp c2
    refine lv_aload_n hx hb dX11_partsAt_10 rfl (lv_at hl 0 rfl) ?_
    refine va_get (D := (dC, dI)) (ci := 8) (v := .ref h_na) (C := RX11) (T := TX11) (N := 71) hx hb hw iwX11 hown hK hP 0 rfl rfl 3 (by decide) (hw _ w_f_X11_7) (fun _ h9 => h9) rfl dX11_partsAt_11 ?_
    refine lv_iload_n hx hb dX11_partsAt_14 rfl (lv_at hl 1 rfl) ?_
    refine va_iald hx hb hK hP 2 1 rfl rfl (i := p1) (vp_in_iff.mpr (by omega)) dX11_partsAt_15 ?_
    refine lv_topi (fun z5 ez5 => ?_)
    have rz5 : -1 ≤ (z5).toInt ∧ (z5).toInt ≤ 7999 := by rw [ez5]; exact hf_na _
    refine lv_iconst (v := (-1)) hx hb dX11_partsAt_16 (by decide) ?_
    refine lv_icmp_ne (tgt := 24) hx hb dX11_partsAt_17 (by decide) (fun c6 => ?_) (fun c6 => ?_)
    · have kc6 := (not_congr (cv_eq (rfl : (z5).toInt = (z5).toInt) (by decide : ((-1) : Int32).toInt = -1))).mp c6
      refine lv_aload_n hx hb dX11_partsAt_24 rfl (lv_at hl 0 rfl) ?_
      refine va_get (D := (dC, dI)) (ci := 8) (v := .ref h_nb) (C := RX11) (T := TX11) (N := 71) hx hb hw iwX11 hown hK hP 0 rfl rfl 4 (by decide) (hw _ w_f_X11_11) (fun _ h9 => h9) rfl dX11_partsAt_25 ?_
      refine lv_iload_n hx hb dX11_partsAt_28 rfl (lv_at hl 1 rfl) ?_
      refine va_iald hx hb hK hP 3 2 rfl rfl (i := p1) (vp_in_iff.mpr (by omega)) dX11_partsAt_29 ?_
      refine lv_topi (fun z7 ez7 => ?_)
      have rz7 : -1 ≤ (z7).toInt ∧ (z7).toInt ≤ 7999 := by rw [ez7]; exact hf_nb _
      refine lv_iconst (v := (-1)) hx hb dX11_partsAt_30 (by decide) ?_
      refine lv_icmp_ne (tgt := 38) hx hb dX11_partsAt_31 (by decide) (fun c8 => ?_) (fun c8 => ?_)
      · have kc8 := (not_congr (cv_eq (rfl : (z7).toInt = (z7).toInt) (by decide : ((-1) : Int32).toInt = -1))).mp c8
        refine lv_aload_n hx hb dX11_partsAt_38 rfl (lv_at hl 0 rfl) ?_
        refine va_get (D := (dC, dI)) (ci := 8) (v := .ref h_nc) (C := RX11) (T := TX11) (N := 71) hx hb hw iwX11 hown hK hP 0 rfl rfl 5 (by decide) (hw _ w_f_X11_14) (fun _ h9 => h9) rfl dX11_partsAt_39 ?_
        refine lv_iload_n hx hb dX11_partsAt_42 rfl (lv_at hl 1 rfl) ?_
        refine va_iald hx hb hK hP 4 3 rfl rfl (i := p1) (vp_in_iff.mpr (by omega)) dX11_partsAt_43 ?_
        refine lv_topi (fun z9 ez9 => ?_)
        have rz9 : -1 ≤ (z9).toInt ∧ (z9).toInt ≤ 7999 := by rw [ez9]; exact hf_nc _
        refine lv_iconst (v := (-1)) hx hb dX11_partsAt_44 (by decide) ?_
        refine lv_icmp_ne (tgt := 52) hx hb dX11_partsAt_45 (by decide) (fun c10 => ?_) (fun c10 => ?_)
        · have kc10 := (not_congr (cv_eq (rfl : (z9).toInt = (z9).toInt) (by decide : ((-1) : Int32).toInt = -1))).mp c10
          refine lv_iconst (v := 3) hx hb dX11_partsAt_52 (by decide) ?_
          refine W.widen (k := 0) (n := 0) (Nat.le_of_ble_eq_true rfl) (Nat.le_of_ble_eq_true rfl) ?_
          have cst3 : (3 : Int32).toInt = 3 := by decide
          have w11 : 0 ≤ (3 : Int32).toInt ∧ (3 : Int32).toInt ≤ 3 := by omega
          have w12 : ((3 : Int32)).toInt = (npx f_nv f_na f_nb f_nc (p1).toInt.toNat) := by rw [(clamp_nat (i := p1) (by omega))] at ez1 ez5 ez7 ez9; unfold npx; rw [← ez1, ← ez5, ← ez7, ← ez9]; (repeat' split) <;> omega
          exact W.iret (v := 3) hx hb hr (fun t ht hW => ⟨⟨3, (), rfl, ⟨w11, w12⟩, by rw [ht]; exact hP, hD⟩, hS.F ht⟩) hS.2.2 dX11_partsAt_53
        · have kc10 := (cv_eq (rfl : (z9).toInt = (z9).toInt) (by decide : ((-1) : Int32).toInt = -1)).mp c10
          refine lv_iconst (v := 2) hx hb dX11_partsAt_48 (by decide) ?_
          refine lv_goto (tgt := 53) hx hb dX11_partsAt_49 (by decide) ?_
          refine W.widen (k := 0) (n := 0) (Nat.le_of_ble_eq_true rfl) (Nat.le_of_ble_eq_true rfl) ?_
          have cst2 : (2 : Int32).toInt = 2 := by decide
          have w13 : 0 ≤ (2 : Int32).toInt ∧ (2 : Int32).toInt ≤ 3 := by omega
          have w14 : ((2 : Int32)).toInt = (npx f_nv f_na f_nb f_nc (p1).toInt.toNat) := by rw [(clamp_nat (i := p1) (by omega))] at ez1 ez5 ez7 ez9; unfold npx; rw [← ez1, ← ez5, ← ez7, ← ez9]; (repeat' split) <;> omega
          exact W.iret (v := 2) hx hb hr (fun t ht hW => ⟨⟨2, (), rfl, ⟨w13, w14⟩, by rw [ht]; exact hP, hD⟩, hS.F ht⟩) hS.2.2 dX11_partsAt_53
      · have kc8 := (cv_eq (rfl : (z7).toInt = (z7).toInt) (by decide : ((-1) : Int32).toInt = -1)).mp c8
        refine lv_iconst (v := 1) hx hb dX11_partsAt_34 (by decide) ?_
        refine lv_goto (tgt := 53) hx hb dX11_partsAt_35 (by decide) ?_
        refine W.widen (k := 0) (n := 0) (Nat.le_of_ble_eq_true rfl) (Nat.le_of_ble_eq_true rfl) ?_
        have cst1 : (1 : Int32).toInt = 1 := by decide
        have w15 : 0 ≤ (1 : Int32).toInt ∧ (1 : Int32).toInt ≤ 3 := by omega
        have w16 : ((1 : Int32)).toInt = (npx f_nv f_na f_nb f_nc (p1).toInt.toNat) := by rw [(clamp_nat (i := p1) (by omega))] at ez1 ez5 ez7; unfold npx; rw [← ez1, ← ez5, ← ez7]; (repeat' split) <;> omega
        exact W.iret (v := 1) hx hb hr (fun t ht hW => ⟨⟨1, (), rfl, ⟨w15, w16⟩, by rw [ht]; exact hP, hD⟩, hS.F ht⟩) hS.2.2 dX11_partsAt_53
    · have kc6 := (cv_eq (rfl : (z5).toInt = (z5).toInt) (by decide : ((-1) : Int32).toInt = -1)).mp c6
      refine lv_iconst (v := 0) hx hb dX11_partsAt_20 (by decide) ?_
      refine lv_goto (tgt := 53) hx hb dX11_partsAt_21 (by decide) ?_
      refine W.widen (k := 0) (n := 0) (Nat.le_of_ble_eq_true rfl) (Nat.le_of_ble_eq_true rfl) ?_
      have cst0 : (0 : Int32).toInt = 0 := by decide
      have w17 : 0 ≤ (0 : Int32).toInt ∧ (0 : Int32).toInt ≤ 3 := by omega
      have w18 : ((0 : Int32)).toInt = (npx f_nv f_na f_nb f_nc (p1).toInt.toNat) := by rw [(clamp_nat (i := p1) (by omega))] at ez1 ez5; unfold npx; rw [← ez1, ← ez5]; (repeat' split) <;> omega
      exact W.iret (v := 0) hx hb hr (fun t ht hW => ⟨⟨0, (), rfl, ⟨w17, w18⟩, by rw [ht]; exact hP, hD⟩, hS.F ht⟩) hS.2.2 dX11_partsAt_53

set_option maxHeartbeats 8000000 in
set_option maxRecDepth 100000 in
theorem c_X11_part_e (l : Launch) (dC : Nat → ClassId) (dI : Nat → Nat → Nat) (sz : Nat) (h_mm : Nat) (h_na : Nat) (h_nb : Nat) (h_nc : Nat) (v_mm : Nat → Value) (cy_na : ClassId) (f_na : Nat → Int32) (cy_nb : ClassId) (f_nb : Nat → Int32) (cy_nc : ClassId) (f_nc : Nat → Int32) (p1 : Int32) (p2 : Int32) (hf_na : Rg (-1) 7999 f_na) (hf_nb : Rg (-1) 7999 f_nb) (hf_nc : Rg (-1) 7999 f_nc) (q0 : 0 ≤ (p1).toInt ∧ (p1).toInt ≤ 7999) : Met l yX11_part (Ws yX11_part cX11_part 3 (some .int)) (({ frames := 0, cells := 0, slots := 0, locals := 0 } : Room)) (PRE (dC, dI) cls [(cy_na, .int), (cy_nb, .int), (cy_nc, .int)] [(h_mm, .inr (8, (mo85 v_mm (.ref h_na) (.ref h_nb) (.ref h_nc)))), (h_na, .inl (cy_na, 8000, .inl f_na)), (h_nb, .inl (cy_nb, 8000, .inl f_nb)), (h_nc, .inl (cy_nc, 8000, .inl f_nc))] sz [.ref h_mm, .int p1, .int p2]) (va_Qi (fun (r : Int32) (_ : Unit) => (-1 ≤ r.toInt ∧ r.toInt ≤ 7999) ∧ ((r).toInt = (ptx f_na f_nb f_nc (p1).toInt.toNat (p2).toInt).toInt)) (fun (_ : Unit) (t : State) => va_P (dC, dI) cls [(h_mm, .inr (8, (mo85 v_mm (.ref h_na) (.ref h_nb) (.ref h_nc)))), (h_na, .inl (cy_na, 8000, .inl f_na)), (h_nb, .inl (cy_nb, 8000, .inl f_nb)), (h_nc, .inl (cy_nc, 8000, .inl f_nc))] t.heap ∧ va_D (va_A [(h_mm, .inr (8, (mo85 v_mm (.ref h_na) (.ref h_nb) (.ref h_nc)))), (h_na, .inl (cy_na, 8000, .inl f_na)), (h_nb, .inl (cy_nb, 8000, .inl f_nb)), (h_nc, .inl (cy_nc, 8000, .inl f_nc))] sz) [(h_mm, .inr (8, (mo85 v_mm (.ref h_na) (.ref h_nb) (.ref h_nc)))), (h_na, .inl (cy_na, 8000, .inl f_na)), (h_nb, .inl (cy_nb, 8000, .inl f_nb)), (h_nc, .inl (cy_nc, 8000, .inl f_nc))]) (va_A [(h_mm, .inr (8, (mo85 v_mm (.ref h_na) (.ref h_nb) (.ref h_nc)))), (h_na, .inl (cy_na, 8000, .inl f_na)), (h_nb, .inl (cy_nb, 8000, .inl f_nb)), (h_nc, .inl (cy_nc, 8000, .inl f_nc))] sz)) 0 0 (va_A [(h_mm, .inr (8, (mo85 v_mm (.ref h_na) (.ref h_nb) (.ref h_nc)))), (h_na, .inl (cy_na, 8000, .inl f_na)), (h_nb, .inl (cy_nb, 8000, .inl f_nb)), (h_nc, .inl (cy_nc, 8000, .inl f_nc))] sz) := by
  refine Met.ofW (cc := cX11_part) (maxL := 3) (ret := (some .int)) (by decide) rfl ?_
  intro p e s m args below meth c s₁ B hml hv
  obtain ⟨rfl, hsz, hP, hK, hD0, hN⟩ := hv
  have hx := B.exec
  have hb := B.bytes
  have hr := B.returns
  have hts := atoms_spec (ws := Ws yX11_part cX11_part 3 (some .int)) B.pre
  have hT : ∀ w ∈ WALL, w ∈ Ws yX11_part cX11_part 3 (some .int) := fun w h => List.mem_cons_of_mem _ h
  have hw := fun w (h : w ∈ WALL) => hts w (hT w h)
  have hown : s.vm.findClass RX11 = some m.cls := findClass_of_methodNamed B.named
  have hlocks := B.notSynchronized
  subst hsz
  have hD := hD0.self (sz := s.heap.size)
  generalize hAe : va_A [(h_mm, .inr (8, (mo85 v_mm (.ref h_na) (.ref h_nb) (.ref h_nc)))), (h_na, .inl (cy_na, 8000, .inl f_na)), (h_nb, .inl (cy_nb, 8000, .inl f_nb)), (h_nc, .inl (cy_nc, 8000, .inl f_nc))] s.heap.size = A at hD ⊢
  have hA : ∀ q : Nat, s.heap.size ≤ q → A q := fun q h => by rw [← hAe]; exact Or.inr h
  have hS : va_S A s.heap s.heap [] := va_S.rf
  have hl := lv_entry ([.ref h_mm, .int p1, .int p2]) (n := 3) (Nat.le_of_ble_eq_true rfl)
  rw [lg_entry_eq]
  generalize (lg_sl ([.ref h_mm, .int p1, .int p2]) ++ List.replicate (3 - (lg_sl ([.ref h_mm, .int p1, .int p2])).length) Slot.unset).toArray = ls at hl ⊢
  have hl : lv_has ls 3 [(0, .ref h_mm), (1, .int p1), (2, .int p2)] := hl
  refine lv_iload_n hx hb dX11_part_0 rfl (lv_at hl 2 rfl) ?_
  refine lv_if_ne (tgt := 13) hx hb dX11_part_1 (by decide) (fun c1 => ?_) (fun c1 => ?_)
  · have kc1 := (not_congr (cv_eq (rfl : (p2).toInt = (p2).toInt) (by decide : (0 : Int32).toInt = 0))).mp c1
    refine lv_iload_n hx hb dX11_part_13 rfl (lv_at hl 2 rfl) ?_
    refine lv_iconst (v := 1) hx hb dX11_part_14 (by decide) ?_
    refine lv_icmp_ne (tgt := 27) hx hb dX11_part_15 (by decide) (fun c2 => ?_) (fun c2 => ?_)
    · have kc2 := (not_congr (cv_eq (rfl : (p2).toInt = (p2).toInt) (by decide : (1 : Int32).toInt = 1))).mp c2
      refine lv_aload_n hx hb dX11_part_27 rfl (lv_at hl 0 rfl) ?_
      refine va_get (D := (dC, dI)) (ci := 8) (v := .ref h_nc) (C := RX11) (T := TX11) (N := 71) hx hb hw iwX11 hown hK hP 0 rfl rfl 5 (by decide) (hw _ w_f_X11_14) (fun _ h9 => h9) rfl dX11_part_28 ?_
      refine lv_iload_n hx hb dX11_part_31 rfl (lv_at hl 1 rfl) ?_
      refine va_iald hx hb hK hP 3 2 rfl rfl (i := p1) (vp_in_iff.mpr (by omega)) dX11_part_32 ?_
      refine lv_topi (fun z3 ez3 => ?_)
      have rz3 : -1 ≤ (z3).toInt ∧ (z3).toInt ≤ 7999 := by rw [ez3]; exact hf_nc _
      refine W.widen (k := 0) (n := 0) (Nat.le_of_ble_eq_true rfl) (Nat.le_of_ble_eq_true rfl) ?_
      have w4 : -1 ≤ (z3 : Int32).toInt ∧ (z3 : Int32).toInt ≤ 7999 := by omega
      have w5 : ((z3 : Int32)).toInt = (ptx f_na f_nb f_nc (p1).toInt.toNat (p2).toInt).toInt := by rw [(clamp_nat (i := p1) (by omega))] at ez3; unfold ptx; rw [ez3]; (repeat' split) <;> first | rfl | omega
      exact W.iret (v := z3) hx hb hr (fun t ht hW => ⟨⟨z3, (), rfl, ⟨w4, w5⟩, by rw [ht]; exact hP, hD⟩, hS.F ht⟩) hS.2.2 dX11_part_33
    · have kc2 := (cv_eq (rfl : (p2).toInt = (p2).toInt) (by decide : (1 : Int32).toInt = 1)).mp c2
      refine lv_aload_n hx hb dX11_part_18 rfl (lv_at hl 0 rfl) ?_
      refine va_get (D := (dC, dI)) (ci := 8) (v := .ref h_nb) (C := RX11) (T := TX11) (N := 71) hx hb hw iwX11 hown hK hP 0 rfl rfl 4 (by decide) (hw _ w_f_X11_11) (fun _ h9 => h9) rfl dX11_part_19 ?_
      refine lv_iload_n hx hb dX11_part_22 rfl (lv_at hl 1 rfl) ?_
      refine va_iald hx hb hK hP 2 1 rfl rfl (i := p1) (vp_in_iff.mpr (by omega)) dX11_part_23 ?_
      refine lv_topi (fun z6 ez6 => ?_)
      have rz6 : -1 ≤ (z6).toInt ∧ (z6).toInt ≤ 7999 := by rw [ez6]; exact hf_nb _
      refine lv_goto (tgt := 33) hx hb dX11_part_24 (by decide) ?_
      refine W.widen (k := 0) (n := 0) (Nat.le_of_ble_eq_true rfl) (Nat.le_of_ble_eq_true rfl) ?_
      have w7 : -1 ≤ (z6 : Int32).toInt ∧ (z6 : Int32).toInt ≤ 7999 := by omega
      have w8 : ((z6 : Int32)).toInt = (ptx f_na f_nb f_nc (p1).toInt.toNat (p2).toInt).toInt := by rw [(clamp_nat (i := p1) (by omega))] at ez6; unfold ptx; rw [ez6]; (repeat' split) <;> first | rfl | omega
      exact W.iret (v := z6) hx hb hr (fun t ht hW => ⟨⟨z6, (), rfl, ⟨w7, w8⟩, by rw [ht]; exact hP, hD⟩, hS.F ht⟩) hS.2.2 dX11_part_33
  · have kc1 := (cv_eq (rfl : (p2).toInt = (p2).toInt) (by decide : (0 : Int32).toInt = 0)).mp c1
    refine lv_aload_n hx hb dX11_part_4 rfl (lv_at hl 0 rfl) ?_
    refine va_get (D := (dC, dI)) (ci := 8) (v := .ref h_na) (C := RX11) (T := TX11) (N := 71) hx hb hw iwX11 hown hK hP 0 rfl rfl 3 (by decide) (hw _ w_f_X11_7) (fun _ h9 => h9) rfl dX11_part_5 ?_
    refine lv_iload_n hx hb dX11_part_8 rfl (lv_at hl 1 rfl) ?_
    refine va_iald hx hb hK hP 1 0 rfl rfl (i := p1) (vp_in_iff.mpr (by omega)) dX11_part_9 ?_
    refine lv_topi (fun z9 ez9 => ?_)
    have rz9 : -1 ≤ (z9).toInt ∧ (z9).toInt ≤ 7999 := by rw [ez9]; exact hf_na _
    refine lv_goto (tgt := 33) hx hb dX11_part_10 (by decide) ?_
    refine W.widen (k := 0) (n := 0) (Nat.le_of_ble_eq_true rfl) (Nat.le_of_ble_eq_true rfl) ?_
    have w10 : -1 ≤ (z9 : Int32).toInt ∧ (z9 : Int32).toInt ≤ 7999 := by omega
    have w11 : ((z9 : Int32)).toInt = (ptx f_na f_nb f_nc (p1).toInt.toNat (p2).toInt).toInt := by rw [(clamp_nat (i := p1) (by omega))] at ez9; unfold ptx; rw [ez9]; (repeat' split) <;> first | rfl | omega
    exact W.iret (v := z9) hx hb hr (fun t ht hW => ⟨⟨z9, (), rfl, ⟨w10, w11⟩, by rw [ht]; exact hP, hD⟩, hS.F ht⟩) hS.2.2 dX11_part_33

set_option maxHeartbeats 8000000 in
set_option maxRecDepth 100000 in
theorem c_X11_slotOf (l : Launch) (dC : Nat → ClassId) (dI : Nat → Nat → Nat) (sz : Nat) (h_mm : Nat) (h_nv : Nat) (v_mm : Nat → Value) (cy_nv : ClassId) (f_nv : Nat → Int32) (p1 : Int32) (p2 : Int32) (hf_nv : Rg (-1) 7 f_nv) (q0 : 0 ≤ (p1).toInt ∧ (p1).toInt ≤ 7999) (q1 : 0 ≤ (p2).toInt ∧ (p2).toInt ≤ 31) : Met l yX11_slotOf (Ws yX11_slotOf cX11_slotOf 3 (some .int)) (({ frames := 0, cells := 0, slots := 0, locals := 0 } : Room)) (PRE (dC, dI) cls [(cy_nv, .int)] [(h_mm, .inr (8, (mo129 v_mm (.ref h_nv)))), (h_nv, .inl (cy_nv, 8000, .inl f_nv))] sz [.ref h_mm, .int p1, .int p2]) (va_Qi (fun (r : Int32) (_ : Unit) => (-1 ≤ r.toInt ∧ r.toInt ≤ 255) ∧ ((r).toInt = 8 * (p2).toInt + (f_nv (p1).toInt.toNat).toInt)) (fun (_ : Unit) (t : State) => va_P (dC, dI) cls [(h_mm, .inr (8, (mo129 v_mm (.ref h_nv)))), (h_nv, .inl (cy_nv, 8000, .inl f_nv))] t.heap ∧ va_D (va_A [(h_mm, .inr (8, (mo129 v_mm (.ref h_nv)))), (h_nv, .inl (cy_nv, 8000, .inl f_nv))] sz) [(h_mm, .inr (8, (mo129 v_mm (.ref h_nv)))), (h_nv, .inl (cy_nv, 8000, .inl f_nv))]) (va_A [(h_mm, .inr (8, (mo129 v_mm (.ref h_nv)))), (h_nv, .inl (cy_nv, 8000, .inl f_nv))] sz)) 0 0 (va_A [(h_mm, .inr (8, (mo129 v_mm (.ref h_nv)))), (h_nv, .inl (cy_nv, 8000, .inl f_nv))] sz) := by
  refine Met.ofW (cc := cX11_slotOf) (maxL := 3) (ret := (some .int)) (by decide) rfl ?_
  intro p e s m args below meth c s₁ B hml hv
  obtain ⟨rfl, hsz, hP, hK, hD0, hN⟩ := hv
  have hx := B.exec
  have hb := B.bytes
  have hr := B.returns
  have hts := atoms_spec (ws := Ws yX11_slotOf cX11_slotOf 3 (some .int)) B.pre
  have hT : ∀ w ∈ WALL, w ∈ Ws yX11_slotOf cX11_slotOf 3 (some .int) := fun w h => List.mem_cons_of_mem _ h
  have hw := fun w (h : w ∈ WALL) => hts w (hT w h)
  have hown : s.vm.findClass RX11 = some m.cls := findClass_of_methodNamed B.named
  have hlocks := B.notSynchronized
  subst hsz
  have hD := hD0.self (sz := s.heap.size)
  generalize hAe : va_A [(h_mm, .inr (8, (mo129 v_mm (.ref h_nv)))), (h_nv, .inl (cy_nv, 8000, .inl f_nv))] s.heap.size = A at hD ⊢
  have hA : ∀ q : Nat, s.heap.size ≤ q → A q := fun q h => by rw [← hAe]; exact Or.inr h
  have hS : va_S A s.heap s.heap [] := va_S.rf
  have hl := lv_entry ([.ref h_mm, .int p1, .int p2]) (n := 3) (Nat.le_of_ble_eq_true rfl)
  rw [lg_entry_eq]
  generalize (lg_sl ([.ref h_mm, .int p1, .int p2]) ++ List.replicate (3 - (lg_sl ([.ref h_mm, .int p1, .int p2])).length) Slot.unset).toArray = ls at hl ⊢
  have hl : lv_has ls 3 [(0, .ref h_mm), (1, .int p1), (2, .int p2)] := hl
  refine lv_bipush (v := 8) hx hb dX11_slotOf_0 (by decide) ?_
  refine lv_iload_n hx hb dX11_slotOf_2 rfl (lv_at hl 2 rfl) ?_
  refine lv_imul hx hb dX11_slotOf_3 ?_
  refine lv_topi (fun z1 ez1 => ?_)
  have tz1 : (z1).toInt = 8 * (p2).toInt := by rw [ez1]; exact i_mul (by decide) rfl (by omega)
  refine lv_aload_n hx hb dX11_slotOf_4 rfl (lv_at hl 0 rfl) ?_
  refine va_get (D := (dC, dI)) (ci := 8) (v := .ref h_nv) (C := RX11) (T := TX11) (N := 71) hx hb hw iwX11 hown hK hP 0 rfl rfl 1 (by decide) (hw _ w_f_X11_17) (fun _ h9 => h9) rfl dX11_slotOf_5 ?_
  refine lv_iload_n hx hb dX11_slotOf_8 rfl (lv_at hl 1 rfl) ?_
  refine va_iald hx hb hK hP 1 0 rfl rfl (i := p1) (vp_in_iff.mpr (by omega)) dX11_slotOf_9 ?_
  refine lv_topi (fun z2 ez2 => ?_)
  have rz2 : -1 ≤ (z2).toInt ∧ (z2).toInt ≤ 7 := by rw [ez2]; exact hf_nv _
  refine lv_iadd hx hb dX11_slotOf_10 ?_
  refine lv_topi (fun z3 ez3 => ?_)
  have tz3 : (z3).toInt = (z1).toInt + (z2).toInt := by rw [ez3]; exact i_add rfl rfl (by omega)
  refine W.widen (k := 0) (n := 0) (Nat.le_of_ble_eq_true rfl) (Nat.le_of_ble_eq_true rfl) ?_
  have w4 : -1 ≤ (z3 : Int32).toInt ∧ (z3 : Int32).toInt ≤ 255 := by omega
  have w5 : ((z3 : Int32)).toInt = 8 * (p2).toInt + (f_nv (p1).toInt.toNat).toInt := by rw [(clamp_nat (i := p1) (by omega))] at ez2; rw [← ez2]; omega
  exact W.iret (v := z3) hx hb hr (fun t ht hW => ⟨⟨z3, (), rfl, ⟨w4, w5⟩, by rw [ht]; exact hP, hD⟩, hS.F ht⟩) hS.2.2 dX11_slotOf_11

set_option maxHeartbeats 8000000 in
set_option maxRecDepth 100000 in
theorem c_X11_areOf (l : Launch) (dC : Nat → ClassId) (dI : Nat → Nat → Nat) (sz : Nat) (h_mm : Nat) (h_nv : Nat) (h_nn : Nat) (h_na : Nat) (h_nb : Nat) (h_nc : Nat) (v_mm : Nat → Value) (cy_nv : ClassId) (f_nv : Nat → Int32) (cy_nn : ClassId) (f_nn : Nat → Int64) (cy_na : ClassId) (f_na : Nat → Int32) (cy_nb : ClassId) (f_nb : Nat → Int32) (cy_nc : ClassId) (f_nc : Nat → Int32) (p1 : Int32) (p2 : Int32) (hf_nv : Rg (-1) 7 f_nv) (hf_na : Rg (-1) 7999 f_na) (hf_nb : Rg (-1) 7999 f_nb) (hf_nc : Rg (-1) 7999 f_nc) (q0 : 0 ≤ (p1).toInt ∧ (p1).toInt ≤ 7999) (q1 : 0 ≤ (p2).toInt ∧ (p2).toInt ≤ 7999) : Met l yX11_areOf (Ws yX11_areOf cX11_areOf 3 (some .boolean)) (({ frames := 1, cells := 0, slots := 0, locals := 21 } : Room)) (PRE (dC, dI) cls [(cy_nv, .int), (cy_nn, .long), (cy_na, .int), (cy_nb, .int), (cy_nc, .int)] [(h_mm, .inr (8, (mo130 v_mm (.ref h_nv) (.ref h_nn) (.ref h_na) (.ref h_nb) (.ref h_nc)))), (h_nv, .inl (cy_nv, 8000, .inl f_nv)), (h_nn, .inl (cy_nn, 8000, .inr (.inl f_nn))), (h_na, .inl (cy_na, 8000, .inl f_na)), (h_nb, .inl (cy_nb, 8000, .inl f_nb)), (h_nc, .inl (cy_nc, 8000, .inl f_nc))] sz [.ref h_mm, .int p1, .int p2]) (va_Qi (fun (r : Int32) (_ : Unit) => (0 ≤ r.toInt ∧ r.toInt ≤ 1)) (fun (_ : Unit) (t : State) => va_P (dC, dI) cls [(h_mm, .inr (8, (mo130 v_mm (.ref h_nv) (.ref h_nn) (.ref h_na) (.ref h_nb) (.ref h_nc)))), (h_nv, .inl (cy_nv, 8000, .inl f_nv)), (h_nn, .inl (cy_nn, 8000, .inr (.inl f_nn))), (h_na, .inl (cy_na, 8000, .inl f_na)), (h_nb, .inl (cy_nb, 8000, .inl f_nb)), (h_nc, .inl (cy_nc, 8000, .inl f_nc))] t.heap ∧ va_D (va_A [(h_mm, .inr (8, (mo130 v_mm (.ref h_nv) (.ref h_nn) (.ref h_na) (.ref h_nb) (.ref h_nc)))), (h_nv, .inl (cy_nv, 8000, .inl f_nv)), (h_nn, .inl (cy_nn, 8000, .inr (.inl f_nn))), (h_na, .inl (cy_na, 8000, .inl f_na)), (h_nb, .inl (cy_nb, 8000, .inl f_nb)), (h_nc, .inl (cy_nc, 8000, .inl f_nc))] sz) [(h_mm, .inr (8, (mo130 v_mm (.ref h_nv) (.ref h_nn) (.ref h_na) (.ref h_nb) (.ref h_nc)))), (h_nv, .inl (cy_nv, 8000, .inl f_nv)), (h_nn, .inl (cy_nn, 8000, .inr (.inl f_nn))), (h_na, .inl (cy_na, 8000, .inl f_na)), (h_nb, .inl (cy_nb, 8000, .inl f_nb)), (h_nc, .inl (cy_nc, 8000, .inl f_nc))]) (va_A [(h_mm, .inr (8, (mo130 v_mm (.ref h_nv) (.ref h_nn) (.ref h_na) (.ref h_nb) (.ref h_nc)))), (h_nv, .inl (cy_nv, 8000, .inl f_nv)), (h_nn, .inl (cy_nn, 8000, .inr (.inl f_nn))), (h_na, .inl (cy_na, 8000, .inl f_na)), (h_nb, .inl (cy_nb, 8000, .inl f_nb)), (h_nc, .inl (cy_nc, 8000, .inl f_nc))] sz)) 0 0 (va_A [(h_mm, .inr (8, (mo130 v_mm (.ref h_nv) (.ref h_nn) (.ref h_na) (.ref h_nb) (.ref h_nc)))), (h_nv, .inl (cy_nv, 8000, .inl f_nv)), (h_nn, .inl (cy_nn, 8000, .inr (.inl f_nn))), (h_na, .inl (cy_na, 8000, .inl f_na)), (h_nb, .inl (cy_nb, 8000, .inl f_nb)), (h_nc, .inl (cy_nc, 8000, .inl f_nc))] sz) := by
  refine Met.ofW (cc := cX11_areOf) (maxL := 3) (ret := (some .boolean)) (by decide) rfl ?_
  intro p e s m args below meth c s₁ B hml hv
  obtain ⟨rfl, hsz, hP, hK, hD0, hN⟩ := hv
  have hx := B.exec
  have hb := B.bytes
  have hr := B.returns
  have hts := atoms_spec (ws := Ws yX11_areOf cX11_areOf 3 (some .boolean)) B.pre
  have hT : ∀ w ∈ WALL, w ∈ Ws yX11_areOf cX11_areOf 3 (some .boolean) := fun w h => List.mem_cons_of_mem _ h
  have hw := fun w (h : w ∈ WALL) => hts w (hT w h)
  have hown : s.vm.findClass RX11 = some m.cls := findClass_of_methodNamed B.named
  have hlocks := B.notSynchronized
  subst hsz
  have hD := hD0.self (sz := s.heap.size)
  generalize hAe : va_A [(h_mm, .inr (8, (mo130 v_mm (.ref h_nv) (.ref h_nn) (.ref h_na) (.ref h_nb) (.ref h_nc)))), (h_nv, .inl (cy_nv, 8000, .inl f_nv)), (h_nn, .inl (cy_nn, 8000, .inr (.inl f_nn))), (h_na, .inl (cy_na, 8000, .inl f_na)), (h_nb, .inl (cy_nb, 8000, .inl f_nb)), (h_nc, .inl (cy_nc, 8000, .inl f_nc))] s.heap.size = A at hD ⊢
  have hA : ∀ q : Nat, s.heap.size ≤ q → A q := fun q h => by rw [← hAe]; exact Or.inr h
  have hS : va_S A s.heap s.heap [] := va_S.rf
  have hl := lv_entry ([.ref h_mm, .int p1, .int p2]) (n := 3) (Nat.le_of_ble_eq_true rfl)
  rw [lg_entry_eq]
  generalize (lg_sl ([.ref h_mm, .int p1, .int p2]) ++ List.replicate (3 - (lg_sl ([.ref h_mm, .int p1, .int p2])).length) Slot.unset).toArray = ls at hl ⊢
  have hl : lv_has ls 3 [(0, .ref h_mm), (1, .int p1), (2, .int p2)] := hl
  refine lv_aload_n hx hb dX11_areOf_0 rfl (lv_at hl 0 rfl) ?_
  refine va_get (D := (dC, dI)) (ci := 8) (v := .ref h_nn) (C := RX11) (T := TX11) (N := 71) hx hb hw iwX11 hown hK hP 0 rfl rfl 2 (by decide) (hw _ w_f_X11_23) (fun _ h9 => h9) rfl dX11_areOf_1 ?_
  refine lv_iload_n hx hb dX11_areOf_4 rfl (lv_at hl 1 rfl) ?_
  refine va_lald hx hb hK hP 2 1 rfl rfl (i := p1) (vp_in_iff.mpr (by omega)) dX11_areOf_5 ?_
  refine lv_topl (fun z1 ez1 => ?_)
  refine lv_aload_n hx hb dX11_areOf_6 rfl (lv_at hl 0 rfl) ?_
  refine va_get (D := (dC, dI)) (ci := 8) (v := .ref h_nn) (C := RX11) (T := TX11) (N := 71) hx hb hw iwX11 hown hK hP 0 rfl rfl 2 (by decide) (hw _ w_f_X11_23) (fun _ h9 => h9) rfl dX11_areOf_7 ?_
  refine lv_iload_n hx hb dX11_areOf_10 rfl (lv_at hl 2 rfl) ?_
  refine va_lald hx hb hK hP 2 1 rfl rfl (i := p2) (vp_in_iff.mpr (by omega)) dX11_areOf_11 ?_
  refine lv_topl (fun z2 ez2 => ?_)
  refine W.lcmp hx hb dX11_areOf_12 ?_
  refine lv_topi (fun z3 ez3 => ?_)
  refine lv_if_ne (tgt := 33) hx hb dX11_areOf_13 (by decide) (fun c4 => ?_) (fun c4 => ?_)
  · have kc4 := (not_congr (cv_eq (rfl : (z3).toInt = (z3).toInt) (by decide : (0 : Int32).toInt = 0))).mp c4
    refine lv_iconst (v := 0) hx hb dX11_areOf_33 (by decide) ?_
    refine W.widen (k := 0) (n := 0) (Nat.le_of_ble_eq_true rfl) (Nat.le_of_ble_eq_true rfl) ?_
    have cst0 : (0 : Int32).toInt = 0 := by decide
    have w5 : 0 ≤ (0 : Int32).toInt ∧ (0 : Int32).toInt ≤ 1 := by omega
    exact W.zret (v := 0) (ty := .boolean) hx hb hr (by decide) (fun t ht hW => ⟨⟨0, (), rfl, w5, by rw [ht]; exact hP, hD⟩, hS.F ht⟩) hS.2.2 dX11_areOf_34
  · have kc4 := (cv_eq (rfl : (z3).toInt = (z3).toInt) (by decide : (0 : Int32).toInt = 0)).mp c4
    refine lv_aload_n hx hb dX11_areOf_16 rfl (lv_at hl 0 rfl) ?_
    refine lv_iload_n hx hb dX11_areOf_17 rfl (lv_at hl 1 rfl) ?_
    obtain ⟨vq6, evq6⟩ := mq130_86 v_mm (.ref h_nn)
    replace hP : va_P (dC, dI) cls [(h_mm, .inr (8, (mo86 vq6 (.ref h_nv) (.ref h_na) (.ref h_nb) (.ref h_nc)))), (h_nv, .inl (cy_nv, 8000, .inl f_nv)), (h_nn, .inl (cy_nn, 8000, .inr (.inl f_nn))), (h_na, .inl (cy_na, 8000, .inl f_na)), (h_nb, .inl (cy_nb, 8000, .inl f_nb)), (h_nc, .inl (cy_nc, 8000, .inl f_nc))] s.heap := by rw [evq6]; exact hP
    replace hD : va_D A [(h_mm, .inr (8, (mo86 vq6 (.ref h_nv) (.ref h_na) (.ref h_nb) (.ref h_nc)))), (h_nv, .inl (cy_nv, 8000, .inl f_nv)), (h_nn, .inl (cy_nn, 8000, .inr (.inl f_nn))), (h_na, .inl (cy_na, 8000, .inl f_na)), (h_nb, .inl (cy_nb, 8000, .inl f_nb)), (h_nc, .inl (cy_nc, 8000, .inl f_nc))] := by rw [evq6]; exact hD
    have hPc := hP.sub (ws' := [(h_mm, .inr (8, (mo86 vq6 (.ref h_nv) (.ref h_na) (.ref h_nb) (.ref h_nc)))), (h_nv, .inl (cy_nv, 8000, .inl f_nv)), (h_na, .inl (cy_na, 8000, .inl f_na)), (h_nb, .inl (cy_nb, 8000, .inl f_nb)), (h_nc, .inl (cy_nc, 8000, .inl f_nc))]) [0, 1, 3, 4, 5] rfl
    have hDc := hD.sub (ws' := [(h_mm, .inr (8, (mo86 vq6 (.ref h_nv) (.ref h_na) (.ref h_nb) (.ref h_nc)))), (h_nv, .inl (cy_nv, 8000, .inl f_nv)), (h_na, .inl (cy_na, 8000, .inl f_na)), (h_nb, .inl (cy_nb, 8000, .inl f_nb)), (h_nc, .inl (cy_nc, 8000, .inl f_nc))]) [0, 1, 3, 4, 5] (by decide) rfl
    have hKc := hK.sub (tys' := [(cy_nv, .int), (cy_na, .int), (cy_nb, .int), (cy_nc, .int)]) [0, 2, 3, 4] rfl
    have hFc := va_free (wc := [(h_mm, .inr (8, (mo86 vq6 (.ref h_nv) (.ref h_na) (.ref h_nb) (.ref h_nc)))), (h_nv, .inl (cy_nv, 8000, .inl f_nv)), (h_na, .inl (cy_na, 8000, .inl f_na)), (h_nb, .inl (cy_nb, 8000, .inl f_nb)), (h_nc, .inl (cy_nc, 8000, .inl f_nc))]) hD hS hA [0, 1, 3, 4, 5] rfl
    refine va_calli (va_runV (As := [.int p1]) (rest := []) ⟨hx, hb, hml, hown, hts⟩ (c_X11_partsAt_e l dC dI s.heap.size h_mm h_nv h_na h_nb h_nc vq6 cy_nv f_nv cy_na f_na cy_nb f_nb cy_nc f_nc p1 hf_nv hf_na hf_nb hf_nc (by first | exact q0 | omega)) (cwV 1 hts (gv hT w_m_X11_27 w_instanceMethod_X11_partsAt ws_sel_X11_partsAt w_ini_X11 w_code_X11_partsAt) rfl rfl rfl (by decide +kernel) ⟨(Nat.le_of_ble_eq_true rfl), (Nat.le_of_ble_eq_true rfl)⟩) ⟨pre_blind, va_recv hK hP (ci := 8) (q0 := 0) rfl rfl, pre_of hPc hKc hDc hN⟩ rfl rfl hl.1 rfl (lv_room (Nat.le_of_ble_eq_true rfl)) dX11_areOf_18 ⟨(Nat.le_of_ble_eq_true rfl), (Nat.le_of_ble_eq_true rfl)⟩) hS (fun q _ h => hFc q h) hFc (fun r7 u t H locs ht hvm hq hB hz1 hk1 hS9 => ?_)
    obtain ⟨hP1, hD1⟩ := hB
    rw [ht] at hP1
    obtain ⟨hP9, hD9⟩ := va_join (wr := [(h_nn, .inl (cy_nn, 8000, .inr (.inl f_nn)))]) (w1 := [(h_mm, .inr (8, (mo86 vq6 (.ref h_nv) (.ref h_na) (.ref h_nb) (.ref h_nc)))), (h_nv, .inl (cy_nv, 8000, .inl f_nv)), (h_na, .inl (cy_na, 8000, .inl f_na)), (h_nb, .inl (cy_nb, 8000, .inl f_nb)), (h_nc, .inl (cy_nc, 8000, .inl f_nc))]) hP hD [0, 1, 3, 4, 5] [2] rfl rfl (by decide) (by decide) hk1 hFc hP1 hD1
    clear hP hD hS hPc hDc hKc hFc hP1 hD1 hk1 hz1 ht hvm
    have hP : va_P (dC, dI) cls [(h_nn, .inl (cy_nn, 8000, .inr (.inl f_nn))), (h_mm, .inr (8, (mo86 vq6 (.ref h_nv) (.ref h_na) (.ref h_nb) (.ref h_nc)))), (h_nv, .inl (cy_nv, 8000, .inl f_nv)), (h_na, .inl (cy_na, 8000, .inl f_na)), (h_nb, .inl (cy_nb, 8000, .inl f_nb)), (h_nc, .inl (cy_nc, 8000, .inl f_nc))] H := hP9
    have hD : va_D A [(h_nn, .inl (cy_nn, 8000, .inr (.inl f_nn))), (h_mm, .inr (8, (mo86 vq6 (.ref h_nv) (.ref h_na) (.ref h_nb) (.ref h_nc)))), (h_nv, .inl (cy_nv, 8000, .inl f_nv)), (h_na, .inl (cy_na, 8000, .inl f_na)), (h_nb, .inl (cy_nb, 8000, .inl f_nb)), (h_nc, .inl (cy_nc, 8000, .inl f_nc))] := hD9
    have hS := hS9
    clear hP9 hD9 hS9
    rw [evq6] at hP hD
    replace hP : va_P (dC, dI) cls [(h_nn, .inl (cy_nn, 8000, .inr (.inl f_nn))), (h_mm, .inr (8, (mo130 v_mm (.ref h_nv) (.ref h_nn) (.ref h_na) (.ref h_nb) (.ref h_nc)))), (h_nv, .inl (cy_nv, 8000, .inl f_nv)), (h_na, .inl (cy_na, 8000, .inl f_na)), (h_nb, .inl (cy_nb, 8000, .inl f_nb)), (h_nc, .inl (cy_nc, 8000, .inl f_nc))] H := hP
    replace hD : va_D A [(h_nn, .inl (cy_nn, 8000, .inr (.inl f_nn))), (h_mm, .inr (8, (mo130 v_mm (.ref h_nv) (.ref h_nn) (.ref h_na) (.ref h_nb) (.ref h_nc)))), (h_nv, .inl (cy_nv, 8000, .inl f_nv)), (h_na, .inl (cy_na, 8000, .inl f_na)), (h_nb, .inl (cy_nb, 8000, .inl f_nb)), (h_nc, .inl (cy_nc, 8000, .inl f_nc))] := hD
    clear evq6 
    obtain ⟨k8, k9⟩ := hq
    replace k8 : 0 ≤ (r7).toInt ∧ (r7).toInt ≤ 3 := k8
    replace k9 : ((r7)).toInt = (npx f_nv f_na f_nb f_nc ((p1)).toInt.toNat) := k9
    refine lv_aload_n hx hb dX11_areOf_21 rfl (lv_at hl 0 rfl) ?_
    refine lv_iload_n hx hb dX11_areOf_22 rfl (lv_at hl 2 rfl) ?_
    obtain ⟨vq10, evq10⟩ := mq130_86 v_mm (.ref h_nn)
    replace hP : va_P (dC, dI) cls [(h_nn, .inl (cy_nn, 8000, .inr (.inl f_nn))), (h_mm, .inr (8, (mo86 vq10 (.ref h_nv) (.ref h_na) (.ref h_nb) (.ref h_nc)))), (h_nv, .inl (cy_nv, 8000, .inl f_nv)), (h_na, .inl (cy_na, 8000, .inl f_na)), (h_nb, .inl (cy_nb, 8000, .inl f_nb)), (h_nc, .inl (cy_nc, 8000, .inl f_nc))] H := by rw [evq10]; exact hP
    replace hD : va_D A [(h_nn, .inl (cy_nn, 8000, .inr (.inl f_nn))), (h_mm, .inr (8, (mo86 vq10 (.ref h_nv) (.ref h_na) (.ref h_nb) (.ref h_nc)))), (h_nv, .inl (cy_nv, 8000, .inl f_nv)), (h_na, .inl (cy_na, 8000, .inl f_na)), (h_nb, .inl (cy_nb, 8000, .inl f_nb)), (h_nc, .inl (cy_nc, 8000, .inl f_nc))] := by rw [evq10]; exact hD
    have hPc := hP.sub (ws' := [(h_mm, .inr (8, (mo86 vq10 (.ref h_nv) (.ref h_na) (.ref h_nb) (.ref h_nc)))), (h_nv, .inl (cy_nv, 8000, .inl f_nv)), (h_na, .inl (cy_na, 8000, .inl f_na)), (h_nb, .inl (cy_nb, 8000, .inl f_nb)), (h_nc, .inl (cy_nc, 8000, .inl f_nc))]) [1, 2, 3, 4, 5] rfl
    have hDc := hD.sub (ws' := [(h_mm, .inr (8, (mo86 vq10 (.ref h_nv) (.ref h_na) (.ref h_nb) (.ref h_nc)))), (h_nv, .inl (cy_nv, 8000, .inl f_nv)), (h_na, .inl (cy_na, 8000, .inl f_na)), (h_nb, .inl (cy_nb, 8000, .inl f_nb)), (h_nc, .inl (cy_nc, 8000, .inl f_nc))]) [1, 2, 3, 4, 5] (by decide) rfl
    have hKc := hK.sub (tys' := [(cy_nv, .int), (cy_na, .int), (cy_nb, .int), (cy_nc, .int)]) [0, 2, 3, 4] rfl
    have hFc := va_free (wc := [(h_mm, .inr (8, (mo86 vq10 (.ref h_nv) (.ref h_na) (.ref h_nb) (.ref h_nc)))), (h_nv, .inl (cy_nv, 8000, .inl f_nv)), (h_na, .inl (cy_na, 8000, .inl f_na)), (h_nb, .inl (cy_nb, 8000, .inl f_nb)), (h_nc, .inl (cy_nc, 8000, .inl f_nc))]) hD hS hA [1, 2, 3, 4, 5] rfl
    refine va_calli (va_runV (As := [.int p2]) (rest := [.int r7]) ⟨hx, hb, hml, hown, hts⟩ (c_X11_partsAt_e l dC dI H.size h_mm h_nv h_na h_nb h_nc vq10 cy_nv f_nv cy_na f_na cy_nb f_nb cy_nc f_nc p2 hf_nv hf_na hf_nb hf_nc (by first | exact q1 | omega)) (cwV 1 hts (gv hT w_m_X11_27 w_instanceMethod_X11_partsAt ws_sel_X11_partsAt w_ini_X11 w_code_X11_partsAt) rfl rfl rfl (by decide +kernel) ⟨(Nat.le_of_ble_eq_true rfl), (Nat.le_of_ble_eq_true rfl)⟩) ⟨pre_blind, va_recv hK hP (ci := 8) (q0 := 1) rfl rfl, pre_of hPc hKc hDc hN⟩ rfl rfl hl.1 rfl (lv_room (Nat.le_of_ble_eq_true rfl)) dX11_areOf_23 ⟨(Nat.le_of_ble_eq_true rfl), (Nat.le_of_ble_eq_true rfl)⟩) hS (fun q _ h => hFc q h) hFc (fun r11 u t H locs ht hvm hq hB hz1 hk1 hS9 => ?_)
    obtain ⟨hP1, hD1⟩ := hB
    rw [ht] at hP1
    obtain ⟨hP9, hD9⟩ := va_join (wr := [(h_nn, .inl (cy_nn, 8000, .inr (.inl f_nn)))]) (w1 := [(h_mm, .inr (8, (mo86 vq10 (.ref h_nv) (.ref h_na) (.ref h_nb) (.ref h_nc)))), (h_nv, .inl (cy_nv, 8000, .inl f_nv)), (h_na, .inl (cy_na, 8000, .inl f_na)), (h_nb, .inl (cy_nb, 8000, .inl f_nb)), (h_nc, .inl (cy_nc, 8000, .inl f_nc))]) hP hD [1, 2, 3, 4, 5] [0] rfl rfl (by decide) (by decide) hk1 hFc hP1 hD1
    clear hP hD hS hPc hDc hKc hFc hP1 hD1 hk1 hz1 ht hvm
    have hP : va_P (dC, dI) cls [(h_nn, .inl (cy_nn, 8000, .inr (.inl f_nn))), (h_mm, .inr (8, (mo86 vq10 (.ref h_nv) (.ref h_na) (.ref h_nb) (.ref h_nc)))), (h_nv, .inl (cy_nv, 8000, .inl f_nv)), (h_na, .inl (cy_na, 8000, .inl f_na)), (h_nb, .inl (cy_nb, 8000, .inl f_nb)), (h_nc, .inl (cy_nc, 8000, .inl f_nc))] H := hP9
    have hD : va_D A [(h_nn, .inl (cy_nn, 8000, .inr (.inl f_nn))), (h_mm, .inr (8, (mo86 vq10 (.ref h_nv) (.ref h_na) (.ref h_nb) (.ref h_nc)))), (h_nv, .inl (cy_nv, 8000, .inl f_nv)), (h_na, .inl (cy_na, 8000, .inl f_na)), (h_nb, .inl (cy_nb, 8000, .inl f_nb)), (h_nc, .inl (cy_nc, 8000, .inl f_nc))] := hD9
    have hS := hS9
    clear hP9 hD9 hS9
    rw [evq10] at hP hD
    replace hP : va_P (dC, dI) cls [(h_nn, .inl (cy_nn, 8000, .inr (.inl f_nn))), (h_mm, .inr (8, (mo130 v_mm (.ref h_nv) (.ref h_nn) (.ref h_na) (.ref h_nb) (.ref h_nc)))), (h_nv, .inl (cy_nv, 8000, .inl f_nv)), (h_na, .inl (cy_na, 8000, .inl f_na)), (h_nb, .inl (cy_nb, 8000, .inl f_nb)), (h_nc, .inl (cy_nc, 8000, .inl f_nc))] H := hP
    replace hD : va_D A [(h_nn, .inl (cy_nn, 8000, .inr (.inl f_nn))), (h_mm, .inr (8, (mo130 v_mm (.ref h_nv) (.ref h_nn) (.ref h_na) (.ref h_nb) (.ref h_nc)))), (h_nv, .inl (cy_nv, 8000, .inl f_nv)), (h_na, .inl (cy_na, 8000, .inl f_na)), (h_nb, .inl (cy_nb, 8000, .inl f_nb)), (h_nc, .inl (cy_nc, 8000, .inl f_nc))] := hD
    clear evq10 
    obtain ⟨k12, k13⟩ := hq
    replace k12 : 0 ≤ (r11).toInt ∧ (r11).toInt ≤ 3 := k12
    replace k13 : ((r11)).toInt = (npx f_nv f_na f_nb f_nc ((p2)).toInt.toNat) := k13
    refine lv_icmp_ne (tgt := 33) hx hb dX11_areOf_26 (by decide) (fun c14 => ?_) (fun c14 => ?_)
    · have kc14 := (not_congr (cv_eq (rfl : (r7).toInt = (r7).toInt) (rfl : (r11).toInt = (r11).toInt))).mp c14
      refine lv_iconst (v := 0) hx hb dX11_areOf_33 (by decide) ?_
      replace hP : va_P (dC, dI) cls [(h_mm, .inr (8, (mo130 v_mm (.ref h_nv) (.ref h_nn) (.ref h_na) (.ref h_nb) (.ref h_nc)))), (h_nv, .inl (cy_nv, 8000, .inl f_nv)), (h_nn, .inl (cy_nn, 8000, .inr (.inl f_nn))), (h_na, .inl (cy_na, 8000, .inl f_na)), (h_nb, .inl (cy_nb, 8000, .inl f_nb)), (h_nc, .inl (cy_nc, 8000, .inl f_nc))] H := hP.sub [1, 2, 0, 3, 4, 5] rfl
      replace hD : va_D A [(h_mm, .inr (8, (mo130 v_mm (.ref h_nv) (.ref h_nn) (.ref h_na) (.ref h_nb) (.ref h_nc)))), (h_nv, .inl (cy_nv, 8000, .inl f_nv)), (h_nn, .inl (cy_nn, 8000, .inr (.inl f_nn))), (h_na, .inl (cy_na, 8000, .inl f_na)), (h_nb, .inl (cy_nb, 8000, .inl f_nb)), (h_nc, .inl (cy_nc, 8000, .inl f_nc))] := hD.sub [1, 2, 0, 3, 4, 5] (by decide) rfl
      refine W.widen (k := 0) (n := 0) (Nat.le_of_ble_eq_true rfl) (Nat.le_of_ble_eq_true rfl) ?_
      have cst0 : (0 : Int32).toInt = 0 := by decide
      have w15 : 0 ≤ (0 : Int32).toInt ∧ (0 : Int32).toInt ≤ 1 := by omega
      exact W.zret (v := 0) (ty := .boolean) hx hb hr (by decide) (fun t ht hW => ⟨⟨0, (), rfl, w15, by rw [ht]; exact hP, hD⟩, hS.F ht⟩) hS.2.2 dX11_areOf_34
    · have kc14 := (cv_eq (rfl : (r7).toInt = (r7).toInt) (rfl : (r11).toInt = (r11).toInt)).mp c14
      refine lv_iconst (v := 1) hx hb dX11_areOf_29 (by decide) ?_
      refine lv_goto (tgt := 34) hx hb dX11_areOf_30 (by decide) ?_
      replace hP : va_P (dC, dI) cls [(h_mm, .inr (8, (mo130 v_mm (.ref h_nv) (.ref h_nn) (.ref h_na) (.ref h_nb) (.ref h_nc)))), (h_nv, .inl (cy_nv, 8000, .inl f_nv)), (h_nn, .inl (cy_nn, 8000, .inr (.inl f_nn))), (h_na, .inl (cy_na, 8000, .inl f_na)), (h_nb, .inl (cy_nb, 8000, .inl f_nb)), (h_nc, .inl (cy_nc, 8000, .inl f_nc))] H := hP.sub [1, 2, 0, 3, 4, 5] rfl
      replace hD : va_D A [(h_mm, .inr (8, (mo130 v_mm (.ref h_nv) (.ref h_nn) (.ref h_na) (.ref h_nb) (.ref h_nc)))), (h_nv, .inl (cy_nv, 8000, .inl f_nv)), (h_nn, .inl (cy_nn, 8000, .inr (.inl f_nn))), (h_na, .inl (cy_na, 8000, .inl f_na)), (h_nb, .inl (cy_nb, 8000, .inl f_nb)), (h_nc, .inl (cy_nc, 8000, .inl f_nc))] := hD.sub [1, 2, 0, 3, 4, 5] (by decide) rfl
      refine W.widen (k := 0) (n := 0) (Nat.le_of_ble_eq_true rfl) (Nat.le_of_ble_eq_true rfl) ?_
      have cst1 : (1 : Int32).toInt = 1 := by decide
      have w16 : 0 ≤ (1 : Int32).toInt ∧ (1 : Int32).toInt ≤ 1 := by omega
      exact W.zret (v := 1) (ty := .boolean) hx hb hr (by decide) (fun t ht hW => ⟨⟨1, (), rfl, w16, by rw [ht]; exact hP, hD⟩, hS.F ht⟩) hS.2.2 dX11_areOf_34

def K_X11_sizeAt (l : Launch) (fu : Nat) : Prop := ∀ (dC : Nat → ClassId) (dI : Nat → Nat → Nat) (sz : Nat) (h_mm : Nat) (h_nv : Nat) (h_na : Nat) (h_nb : Nat) (h_nc : Nat) (v_mm : Nat → Value) (cy_nv : ClassId) (f_nv : Nat → Int32) (cy_na : ClassId) (f_na : Nat → Int32) (cy_nb : ClassId) (f_nb : Nat → Int32) (cy_nc : ClassId) (f_nc : Nat → Int32) (p1 : Int32) (N : Int) (hz : Nat → Nat) (nnx : Nat → Int64) (dd : Nat) (hf_nv : Rg (-1) 7 f_nv) (hf_na : Rg (-1) 7999 f_na) (hf_nb : Rg (-1) 7999 f_nb) (hf_nc : Rg (-1) 7999 f_nc) (q0 : 0 ≤ (p1).toInt ∧ (p1).toInt < N) (q1 : N ≤ 8000) (q2 : hz (p1).toInt.toNat + 1 ≤ fu) (q3 : szX (RVW f_nv nnx f_na f_nb f_nc) dd (p1).toInt.toNat ≤ 300) (hn_nds : ND 0 N hz f_na f_nb f_nc) (hn_wfx : WFX (RVW f_nv nnx f_na f_nb f_nc) dd (p1).toInt.toNat), Met l yX11_sizeAt (Ws yX11_sizeAt cX11_sizeAt 4 (some .int)) (({ frames := fu + 1, cells := 0, slots := 0, locals := 23 * fu + 22 } : Room)) (PRE (dC, dI) cls [(cy_nv, .int), (cy_na, .int), (cy_nb, .int), (cy_nc, .int)] [(h_mm, .inr (8, (mo86 v_mm (.ref h_nv) (.ref h_na) (.ref h_nb) (.ref h_nc)))), (h_nv, .inl (cy_nv, 8000, .inl f_nv)), (h_na, .inl (cy_na, 8000, .inl f_na)), (h_nb, .inl (cy_nb, 8000, .inl f_nb)), (h_nc, .inl (cy_nc, 8000, .inl f_nc))] sz [.ref h_mm, .int p1]) (va_Qi (fun (r : Int32) (_ : Unit) => (0 ≤ r.toInt ∧ r.toInt ≤ 300) ∧ ((r).toInt = szX (RVW f_nv nnx f_na f_nb f_nc) dd (p1).toInt.toNat)) (fun (_ : Unit) (t : State) => va_P (dC, dI) cls [(h_mm, .inr (8, (mo86 v_mm (.ref h_nv) (.ref h_na) (.ref h_nb) (.ref h_nc)))), (h_nv, .inl (cy_nv, 8000, .inl f_nv)), (h_na, .inl (cy_na, 8000, .inl f_na)), (h_nb, .inl (cy_nb, 8000, .inl f_nb)), (h_nc, .inl (cy_nc, 8000, .inl f_nc))] t.heap ∧ va_D (va_A [(h_mm, .inr (8, (mo86 v_mm (.ref h_nv) (.ref h_na) (.ref h_nb) (.ref h_nc)))), (h_nv, .inl (cy_nv, 8000, .inl f_nv)), (h_na, .inl (cy_na, 8000, .inl f_na)), (h_nb, .inl (cy_nb, 8000, .inl f_nb)), (h_nc, .inl (cy_nc, 8000, .inl f_nc))] sz) [(h_mm, .inr (8, (mo86 v_mm (.ref h_nv) (.ref h_na) (.ref h_nb) (.ref h_nc)))), (h_nv, .inl (cy_nv, 8000, .inl f_nv)), (h_na, .inl (cy_na, 8000, .inl f_na)), (h_nb, .inl (cy_nb, 8000, .inl f_nb)), (h_nc, .inl (cy_nc, 8000, .inl f_nc))]) (va_A [(h_mm, .inr (8, (mo86 v_mm (.ref h_nv) (.ref h_na) (.ref h_nb) (.ref h_nc)))), (h_nv, .inl (cy_nv, 8000, .inl f_nv)), (h_na, .inl (cy_na, 8000, .inl f_na)), (h_nb, .inl (cy_nb, 8000, .inl f_nb)), (h_nc, .inl (cy_nc, 8000, .inl f_nc))] sz)) 0 0 (va_A [(h_mm, .inr (8, (mo86 v_mm (.ref h_nv) (.ref h_na) (.ref h_nb) (.ref h_nc)))), (h_nv, .inl (cy_nv, 8000, .inl f_nv)), (h_na, .inl (cy_na, 8000, .inl f_na)), (h_nb, .inl (cy_nb, 8000, .inl f_nb)), (h_nc, .inl (cy_nc, 8000, .inl f_nc))] sz)
set_option maxHeartbeats 8000000 in
set_option maxRecDepth 100000 in
theorem c_X11_sizeAt (l : Launch) (fu : Nat) : K_X11_sizeAt l fu := by
  refine Nat.rec (motive := fun fu => K_X11_sizeAt l fu) ?_ ?_ fu
  · intro dC dI sz h_mm h_nv h_na h_nb h_nc v_mm cy_nv f_nv cy_na f_na cy_nb f_nb cy_nc f_nc p1 N hz nnx dd hf_nv hf_na hf_nb hf_nc q0 q1 q2 q3 hn_nds hn_wfx
    have h09 : Nat.zero = 0 := rfl
    exact False.elim (by omega)
  intro fu ihf
  intro dC dI sz h_mm h_nv h_na h_nb h_nc v_mm cy_nv f_nv cy_na f_na cy_nb f_nb cy_nc f_nc p1 N hz nnx dd hf_nv hf_na hf_nb hf_nc q0 q1 q2 q3 hn_nds hn_wfx
  refine Met.ofW (cc := cX11_sizeAt) (maxL := 4) (ret := (some .int)) (by decide) rfl ?_
  intro p e s m args below meth c s₁ B hml hv
  obtain ⟨rfl, hsz, hP, hK, hD0, hN⟩ := hv
  have hx := B.exec
  have hb := B.bytes
  have hr := B.returns
  have hts := atoms_spec (ws := Ws yX11_sizeAt cX11_sizeAt 4 (some .int)) B.pre
  have hT : ∀ w ∈ WALL, w ∈ Ws yX11_sizeAt cX11_sizeAt 4 (some .int) := fun w h => List.mem_cons_of_mem _ h
  have hw := fun w (h : w ∈ WALL) => hts w (hT w h)
  have hown : s.vm.findClass RX11 = some m.cls := findClass_of_methodNamed B.named
  have hlocks := B.notSynchronized
  subst hsz
  have hD := hD0.self (sz := s.heap.size)
  generalize hAe : va_A [(h_mm, .inr (8, (mo86 v_mm (.ref h_nv) (.ref h_na) (.ref h_nb) (.ref h_nc)))), (h_nv, .inl (cy_nv, 8000, .inl f_nv)), (h_na, .inl (cy_na, 8000, .inl f_na)), (h_nb, .inl (cy_nb, 8000, .inl f_nb)), (h_nc, .inl (cy_nc, 8000, .inl f_nc))] s.heap.size = A at hD ⊢
  have hA : ∀ q : Nat, s.heap.size ≤ q → A q := fun q h => by rw [← hAe]; exact Or.inr h
  have hS : va_S A s.heap s.heap [] := va_S.rf
  have hl := lv_entry ([.ref h_mm, .int p1]) (n := 4) (Nat.le_of_ble_eq_true rfl)
  rw [lg_entry_eq]
  generalize (lg_sl ([.ref h_mm, .int p1]) ++ List.replicate (4 - (lg_sl ([.ref h_mm, .int p1])).length) Slot.unset).toArray = ls at hl ⊢
  have hl : lv_has ls 4 [(0, .ref h_mm), (1, .int p1)] := hl
  obtain ⟨d9, hd9⟩ := wfx_suc hn_wfx
  have wx9 : WFX (RVW f_nv nnx f_na f_nb f_nc) (d9 + 1) (p1).toInt.toNat := by rw [← hd9]; exact hn_wfx
  have sd9 : szX (RVW f_nv nnx f_na f_nb f_nc) dd (p1).toInt.toNat = szX (RVW f_nv nnx f_na f_nb f_nc) (d9 + 1) (p1).toInt.toNat := by rw [hd9]
  obtain ⟨M9, eM9⟩ : ∃ t : Int, t = npx f_nv f_na f_nb f_nc (p1).toInt.toNat := ⟨_, rfl⟩
  have sm9 : szX (RVW f_nv nnx f_na f_nb f_nc) (d9 + 1) (p1).toInt.toNat = 1 + sfX (RVW f_nv nnx f_na f_nb f_nc) d9 (p1).toInt.toNat (Int.toNat M9) ∧ 0 ≤ M9 ∧ M9 ≤ 3 ∧ (0 < M9 → (f_nv (p1).toInt.toNat).toInt = -1) := by
    by_cases v9 : (f_nv (p1).toInt.toNat).toInt = -1
    · have a9 := rvw_ar (nn := nnx) (A := f_na) (B := f_nb) (C := f_nc) v9
      have b9 := wfx_ar wx9 v9
      rw [a9, ← eM9] at b9
      exact ⟨szX_sum v9 (by rw [a9, ← eM9]; omega) (by omega), b9.1, b9.2, fun _ => v9⟩
    · have a9 : M9 = 0 := by rw [eM9]; exact npx_var v9
      have r9 := (hf_nv (p1).toInt.toNat)
      rw [a9]; exact ⟨szX_var (show 0 ≤ (f_nv (p1).toInt.toNat).toInt by omega), by omega, by omega, fun h9 => absurd h9 (by omega)⟩
  obtain ⟨sm1, sm2, sm3, sm4⟩ := sm9
  have sf0 : sfX (RVW f_nv nnx f_na f_nb f_nc) d9 (p1).toInt.toNat (Int.toNat ((0 : Int32)).toInt) = 0 := by rw [show ((0 : Int32)).toInt = 0 by decide]; rfl
  have sf1 := sfx_ge (V := (RVW f_nv nnx f_na f_nb f_nc)) (d := d9) (x := (p1).toInt.toNat) (Int.toNat M9)
  have sg0 := szX_ge (V := (RVW f_nv nnx f_na f_nb f_nc)) dd (p1).toInt.toNat
  refine lv_iconst (v := 1) hx hb dX11_sizeAt_0 (by decide) ?_
  refine lv_istore_n (lv' := [(2, .int 1), (0, .ref h_mm), (1, .int p1)]) hx hb dX11_sizeAt_1 rfl hl (by decide) rfl (fun ls hl => ?_)
  refine lv_iconst (v := 0) hx hb dX11_sizeAt_2 (by decide) ?_
  refine lv_istore_n (lv' := [(3, .int 0), (2, .int 1), (0, .ref h_mm), (1, .int p1)]) hx hb dX11_sizeAt_3 rfl hl (by decide) rfl (fun ls hl => ?_)
  have lp3 : ∀ (n : Nat) (x1 : Int32) (x2 : Int32) (H : Heap) (locs : List Loc) (ls : Array Slot), (0 ≤ (x1).toInt ∧ (x1).toInt ≤ 300) → (0 ≤ (x2).toInt ∧ (x2).toInt ≤ 3) → ((x1).toInt = 1 + sfX (RVW f_nv nnx f_na f_nb f_nc) d9 (p1).toInt.toNat (Int.toNat ((x2).toInt))) → ((x2).toInt ≤ M9) → (3 - (x2).toInt).toNat + 1 ≤ n → va_P (dC, dI) cls [(h_mm, .inr (8, (mo86 v_mm (.ref h_nv) (.ref h_na) (.ref h_nb) (.ref h_nc)))), (h_nv, .inl (cy_nv, 8000, .inl f_nv)), (h_na, .inl (cy_na, 8000, .inl f_na)), (h_nb, .inl (cy_nb, 8000, .inl f_nb)), (h_nc, .inl (cy_nc, 8000, .inl f_nc))] H → va_D A [(h_mm, .inr (8, (mo86 v_mm (.ref h_nv) (.ref h_na) (.ref h_nb) (.ref h_nc)))), (h_nv, .inl (cy_nv, 8000, .inl f_nv)), (h_na, .inl (cy_na, 8000, .inl f_na)), (h_nb, .inl (cy_nb, 8000, .inl f_nb)), (h_nc, .inl (cy_nc, 8000, .inl f_nc))] → va_S A s.heap H locs → lv_has ls 4 [(0, .ref h_mm), (1, .int p1), (2, .int x1), (3, .int x2)] → W p l e ({ frames := (fu + 1) + 1, cells := 0, slots := 0, locals := 23 * (fu + 1) + 22 } : Room) s m ([.ref h_mm, .int p1] : List Value).toArray below meth c H locs 0 0 (MQ below (va_Qi (fun (r : Int32) (_ : Unit) => (0 ≤ r.toInt ∧ r.toInt ≤ 300) ∧ ((r).toInt = szX (RVW f_nv nnx f_na f_nb f_nc) dd (p1).toInt.toNat)) (fun (_ : Unit) (t : State) => va_P (dC, dI) cls [(h_mm, .inr (8, (mo86 v_mm (.ref h_nv) (.ref h_na) (.ref h_nb) (.ref h_nc)))), (h_nv, .inl (cy_nv, 8000, .inl f_nv)), (h_na, .inl (cy_na, 8000, .inl f_na)), (h_nb, .inl (cy_nb, 8000, .inl f_nb)), (h_nc, .inl (cy_nc, 8000, .inl f_nc))] t.heap ∧ va_D A [(h_mm, .inr (8, (mo86 v_mm (.ref h_nv) (.ref h_na) (.ref h_nb) (.ref h_nc)))), (h_nv, .inl (cy_nv, 8000, .inl f_nv)), (h_na, .inl (cy_na, 8000, .inl f_na)), (h_nb, .inl (cy_nb, 8000, .inl f_nb)), (h_nc, .inl (cy_nc, 8000, .inl f_nc))]) A) ([.ref h_mm, .int p1] : List Value).toArray s 0 0 A) (F0 m 4 ls []) := by
    clear hP hD hS hl
    intro n
    induction n with
    | zero => intro x1 x2 H locs ls klp3_0 klp3_1 klp3_2 klp3_3 hm hP hD hS hl; exact False.elim (by omega)
    | succ n ih => 
      intro x1 x2 H locs ls klp3_0 klp3_1 klp3_2 klp3_3 hm hP hD hS hl
      have ih4 := ih
      clear ih
      refine lv_iload_n hx hb dX11_sizeAt_4 rfl (lv_at hl 3 rfl) ?_
      refine lv_aload_n hx hb dX11_sizeAt_5 rfl (lv_at hl 0 rfl) ?_
      refine lv_iload_n hx hb dX11_sizeAt_6 rfl (lv_at hl 1 rfl) ?_
      have hPc := hP.sub (ws' := [(h_mm, .inr (8, (mo86 v_mm (.ref h_nv) (.ref h_na) (.ref h_nb) (.ref h_nc)))), (h_nv, .inl (cy_nv, 8000, .inl f_nv)), (h_na, .inl (cy_na, 8000, .inl f_na)), (h_nb, .inl (cy_nb, 8000, .inl f_nb)), (h_nc, .inl (cy_nc, 8000, .inl f_nc))]) [0, 1, 2, 3, 4] rfl
      have hDc := hD.sub (ws' := [(h_mm, .inr (8, (mo86 v_mm (.ref h_nv) (.ref h_na) (.ref h_nb) (.ref h_nc)))), (h_nv, .inl (cy_nv, 8000, .inl f_nv)), (h_na, .inl (cy_na, 8000, .inl f_na)), (h_nb, .inl (cy_nb, 8000, .inl f_nb)), (h_nc, .inl (cy_nc, 8000, .inl f_nc))]) [0, 1, 2, 3, 4] (by decide) rfl
      have hKc := hK.sub (tys' := [(cy_nv, .int), (cy_na, .int), (cy_nb, .int), (cy_nc, .int)]) [0, 1, 2, 3] rfl
      have hFc := va_free (wc := [(h_mm, .inr (8, (mo86 v_mm (.ref h_nv) (.ref h_na) (.ref h_nb) (.ref h_nc)))), (h_nv, .inl (cy_nv, 8000, .inl f_nv)), (h_na, .inl (cy_na, 8000, .inl f_na)), (h_nb, .inl (cy_nb, 8000, .inl f_nb)), (h_nc, .inl (cy_nc, 8000, .inl f_nc))]) hD hS hA [0, 1, 2, 3, 4] rfl
      refine va_calli (va_runV (As := [.int p1]) (rest := [.int x2]) ⟨hx, hb, hml, hown, hts⟩ (c_X11_partsAt_e l dC dI H.size h_mm h_nv h_na h_nb h_nc v_mm cy_nv f_nv cy_na f_na cy_nb f_nb cy_nc f_nc p1 hf_nv hf_na hf_nb hf_nc (by omega)) (cwV 1 hts (gv hT w_m_X11_27 w_instanceMethod_X11_partsAt ws_sel_X11_partsAt w_ini_X11 w_code_X11_partsAt) rfl rfl rfl (by decide +kernel) ⟨(by dsimp only [headSpec]; omega), (by dsimp only [headSpec]; omega)⟩) ⟨pre_blind, va_recv hK hP (ci := 8) (q0 := 0) rfl rfl, pre_of hPc hKc hDc hN⟩ rfl rfl hl.1 rfl (lv_room (Nat.le_of_ble_eq_true rfl)) dX11_sizeAt_7 ⟨(Nat.le_of_ble_eq_true rfl), (Nat.le_of_ble_eq_true rfl)⟩) hS (fun q _ h => hFc q h) hFc (fun r5 u t H locs ht hvm hq hB hz1 hk1 hS9 => ?_)
      obtain ⟨hP1, hD1⟩ := hB
      rw [ht] at hP1
      obtain ⟨hP9, hD9⟩ := va_join (wr := []) (w1 := [(h_mm, .inr (8, (mo86 v_mm (.ref h_nv) (.ref h_na) (.ref h_nb) (.ref h_nc)))), (h_nv, .inl (cy_nv, 8000, .inl f_nv)), (h_na, .inl (cy_na, 8000, .inl f_na)), (h_nb, .inl (cy_nb, 8000, .inl f_nb)), (h_nc, .inl (cy_nc, 8000, .inl f_nc))]) hP hD [0, 1, 2, 3, 4] [] rfl rfl (by decide) (by decide) hk1 hFc hP1 hD1
      clear hP hD hS hPc hDc hKc hFc hP1 hD1 hk1 hz1 ht hvm
      have hP : va_P (dC, dI) cls [(h_mm, .inr (8, (mo86 v_mm (.ref h_nv) (.ref h_na) (.ref h_nb) (.ref h_nc)))), (h_nv, .inl (cy_nv, 8000, .inl f_nv)), (h_na, .inl (cy_na, 8000, .inl f_na)), (h_nb, .inl (cy_nb, 8000, .inl f_nb)), (h_nc, .inl (cy_nc, 8000, .inl f_nc))] H := hP9
      have hD : va_D A [(h_mm, .inr (8, (mo86 v_mm (.ref h_nv) (.ref h_na) (.ref h_nb) (.ref h_nc)))), (h_nv, .inl (cy_nv, 8000, .inl f_nv)), (h_na, .inl (cy_na, 8000, .inl f_na)), (h_nb, .inl (cy_nb, 8000, .inl f_nb)), (h_nc, .inl (cy_nc, 8000, .inl f_nc))] := hD9
      have hS := hS9
      clear hP9 hD9 hS9
      obtain ⟨k6, k7⟩ := hq
      replace k6 : 0 ≤ (r5).toInt ∧ (r5).toInt ≤ 3 := k6
      replace k7 : ((r5)).toInt = (npx f_nv f_na f_nb f_nc ((p1)).toInt.toNat) := k7
      have pnr5 : (r5).toInt = M9 := by omega
      refine lv_icmp_ge (tgt := 32) hx hb dX11_sizeAt_10 (by decide) (fun c8 => ?_) (fun c8 => ?_)
      · have kc8 := (cv_le (rfl : (r5).toInt = (r5).toInt) (rfl : (x2).toInt = (x2).toInt)).mp c8
        have ey9 : sfX (RVW f_nv nnx f_na f_nb f_nc) d9 (p1).toInt.toNat (Int.toNat (x2).toInt) = sfX (RVW f_nv nnx f_na f_nb f_nc) d9 (p1).toInt.toNat (Int.toNat M9) := by rw [show Int.toNat (x2).toInt = Int.toNat M9 by omega]
        refine lv_iload_n hx hb dX11_sizeAt_32 rfl (lv_at hl 2 rfl) ?_
        refine W.widen (k := 0) (n := 0) (Nat.le_of_ble_eq_true rfl) (Nat.le_of_ble_eq_true rfl) ?_
        have w9 : 0 ≤ (x1 : Int32).toInt ∧ (x1 : Int32).toInt ≤ 300 := by first | exact klp3_0 | omega
        have w10 : ((x1 : Int32)).toInt = szX (RVW f_nv nnx f_na f_nb f_nc) dd (p1).toInt.toNat := by omega
        exact W.iret (v := x1) hx hb hr (fun t ht hW => ⟨⟨x1, (), rfl, ⟨w9, w10⟩, by rw [ht]; exact hP, hD⟩, hS.F ht⟩) hS.2.2 dX11_sizeAt_33
      · have kc8 := (not_congr (cv_le (rfl : (r5).toInt = (r5).toInt) (rfl : (x2).toInt = (x2).toInt))).mp c8
        refine lv_iload_n hx hb dX11_sizeAt_13 rfl (lv_at hl 2 rfl) ?_
        refine lv_aload_n hx hb dX11_sizeAt_14 rfl (lv_at hl 0 rfl) ?_
        refine lv_aload_n hx hb dX11_sizeAt_15 rfl (lv_at hl 0 rfl) ?_
        refine lv_iload_n hx hb dX11_sizeAt_16 rfl (lv_at hl 1 rfl) ?_
        refine lv_iload_n hx hb dX11_sizeAt_17 rfl (lv_at hl 3 rfl) ?_
        obtain ⟨vq11, evq11⟩ := mq86_85 v_mm (.ref h_nv)
        replace hP : va_P (dC, dI) cls [(h_mm, .inr (8, (mo85 vq11 (.ref h_na) (.ref h_nb) (.ref h_nc)))), (h_nv, .inl (cy_nv, 8000, .inl f_nv)), (h_na, .inl (cy_na, 8000, .inl f_na)), (h_nb, .inl (cy_nb, 8000, .inl f_nb)), (h_nc, .inl (cy_nc, 8000, .inl f_nc))] H := by rw [evq11]; exact hP
        replace hD : va_D A [(h_mm, .inr (8, (mo85 vq11 (.ref h_na) (.ref h_nb) (.ref h_nc)))), (h_nv, .inl (cy_nv, 8000, .inl f_nv)), (h_na, .inl (cy_na, 8000, .inl f_na)), (h_nb, .inl (cy_nb, 8000, .inl f_nb)), (h_nc, .inl (cy_nc, 8000, .inl f_nc))] := by rw [evq11]; exact hD
        have hPc := hP.sub (ws' := [(h_mm, .inr (8, (mo85 vq11 (.ref h_na) (.ref h_nb) (.ref h_nc)))), (h_na, .inl (cy_na, 8000, .inl f_na)), (h_nb, .inl (cy_nb, 8000, .inl f_nb)), (h_nc, .inl (cy_nc, 8000, .inl f_nc))]) [0, 2, 3, 4] rfl
        have hDc := hD.sub (ws' := [(h_mm, .inr (8, (mo85 vq11 (.ref h_na) (.ref h_nb) (.ref h_nc)))), (h_na, .inl (cy_na, 8000, .inl f_na)), (h_nb, .inl (cy_nb, 8000, .inl f_nb)), (h_nc, .inl (cy_nc, 8000, .inl f_nc))]) [0, 2, 3, 4] (by decide) rfl
        have hKc := hK.sub (tys' := [(cy_na, .int), (cy_nb, .int), (cy_nc, .int)]) [1, 2, 3] rfl
        have hFc := va_free (wc := [(h_mm, .inr (8, (mo85 vq11 (.ref h_na) (.ref h_nb) (.ref h_nc)))), (h_na, .inl (cy_na, 8000, .inl f_na)), (h_nb, .inl (cy_nb, 8000, .inl f_nb)), (h_nc, .inl (cy_nc, 8000, .inl f_nc))]) hD hS hA [0, 2, 3, 4] rfl
        refine va_calli (va_runV (As := [.int p1, .int x2]) (rest := [.ref h_mm, .int x1]) ⟨hx, hb, hml, hown, hts⟩ (c_X11_part_e l dC dI H.size h_mm h_na h_nb h_nc vq11 cy_na f_na cy_nb f_nb cy_nc f_nc p1 x2 hf_na hf_nb hf_nc (by omega)) (cwV 2 hts (gv hT w_m_X11_31 w_instanceMethod_X11_part ws_sel_X11_part w_ini_X11 w_code_X11_part) rfl rfl rfl (by decide +kernel) ⟨(by dsimp only [headSpec]; omega), (by dsimp only [headSpec]; omega)⟩) ⟨pre_blind, va_recv hK hP (ci := 8) (q0 := 0) rfl rfl, pre_of hPc hKc hDc hN⟩ rfl rfl hl.1 rfl (lv_room (Nat.le_of_ble_eq_true rfl)) dX11_sizeAt_18 ⟨(Nat.le_of_ble_eq_true rfl), (Nat.le_of_ble_eq_true rfl)⟩) hS (fun q _ h => hFc q h) hFc (fun r12 u t H locs ht hvm hq hB hz1 hk1 hS9 => ?_)
        obtain ⟨hP1, hD1⟩ := hB
        rw [ht] at hP1
        obtain ⟨hP9, hD9⟩ := va_join (wr := [(h_nv, .inl (cy_nv, 8000, .inl f_nv))]) (w1 := [(h_mm, .inr (8, (mo85 vq11 (.ref h_na) (.ref h_nb) (.ref h_nc)))), (h_na, .inl (cy_na, 8000, .inl f_na)), (h_nb, .inl (cy_nb, 8000, .inl f_nb)), (h_nc, .inl (cy_nc, 8000, .inl f_nc))]) hP hD [0, 2, 3, 4] [1] rfl rfl (by decide) (by decide) hk1 hFc hP1 hD1
        clear hP hD hS hPc hDc hKc hFc hP1 hD1 hk1 hz1 ht hvm
        have hP : va_P (dC, dI) cls [(h_nv, .inl (cy_nv, 8000, .inl f_nv)), (h_mm, .inr (8, (mo85 vq11 (.ref h_na) (.ref h_nb) (.ref h_nc)))), (h_na, .inl (cy_na, 8000, .inl f_na)), (h_nb, .inl (cy_nb, 8000, .inl f_nb)), (h_nc, .inl (cy_nc, 8000, .inl f_nc))] H := hP9
        have hD : va_D A [(h_nv, .inl (cy_nv, 8000, .inl f_nv)), (h_mm, .inr (8, (mo85 vq11 (.ref h_na) (.ref h_nb) (.ref h_nc)))), (h_na, .inl (cy_na, 8000, .inl f_na)), (h_nb, .inl (cy_nb, 8000, .inl f_nb)), (h_nc, .inl (cy_nc, 8000, .inl f_nc))] := hD9
        have hS := hS9
        clear hP9 hD9 hS9
        rw [evq11] at hP hD
        replace hP : va_P (dC, dI) cls [(h_nv, .inl (cy_nv, 8000, .inl f_nv)), (h_mm, .inr (8, (mo86 v_mm (.ref h_nv) (.ref h_na) (.ref h_nb) (.ref h_nc)))), (h_na, .inl (cy_na, 8000, .inl f_na)), (h_nb, .inl (cy_nb, 8000, .inl f_nb)), (h_nc, .inl (cy_nc, 8000, .inl f_nc))] H := hP
        replace hD : va_D A [(h_nv, .inl (cy_nv, 8000, .inl f_nv)), (h_mm, .inr (8, (mo86 v_mm (.ref h_nv) (.ref h_na) (.ref h_nb) (.ref h_nc)))), (h_na, .inl (cy_na, 8000, .inl f_na)), (h_nb, .inl (cy_nb, 8000, .inl f_nb)), (h_nc, .inl (cy_nc, 8000, .inl f_nc))] := hD
        clear evq11 
        obtain ⟨k13, k14⟩ := hq
        replace k13 : -1 ≤ (r12).toInt ∧ (r12).toInt ≤ 7999 := k13
        replace k14 : ((r12)).toInt = (ptx f_na f_nb f_nc ((p1)).toInt.toNat ((x2)).toInt).toInt := k14
        have ch9 := ch_ok (nv := f_nv) (k := (x2).toInt) (x := (p1).toInt.toNat) hn_nds (by omega) (by omega)
        rw [← Int32.toInt_inj.mp (show (r12).toInt = (ptx f_na f_nb f_nc (p1).toInt.toNat (x2).toInt).toInt by omega)] at ch9
        have v9 := sm4 (by omega)
        have a9 := rvw_ar (nn := nnx) (A := f_na) (B := f_nb) (C := f_nc) v9
        have c9 : (r12).toInt.toNat = ((RVW f_nv nnx f_na f_nb f_nc)).2.2.2 (p1).toInt.toNat (Int.toNat (x2).toInt) := by rw [rvw_ch, ← clamp_nat (i := r12) (by omega)]; have e9 : ((Int.toNat (x2).toInt : Nat) : Int) = (x2).toInt := (by omega); rw [e9]; exact congrArg Int32.toNatClampNeg (Int32.toInt_inj.mp (by omega))
        have wc9 : WFX (RVW f_nv nnx f_na f_nb f_nc) d9 (r12).toInt.toNat := by rw [c9]; exact wfx_ch wx9 v9 (by rw [a9, ← eM9]; omega)
        have sn9 : sfX (RVW f_nv nnx f_na f_nb f_nc) d9 (p1).toInt.toNat (Int.toNat ((x2).toInt + 1)) = sfX (RVW f_nv nnx f_na f_nb f_nc) d9 (p1).toInt.toNat (Int.toNat (x2).toInt) + szX (RVW f_nv nnx f_na f_nb f_nc) d9 (r12).toInt.toNat := by have e9 : Int.toNat ((x2).toInt + 1) = Int.toNat (x2).toInt + 1 := (by omega); rw [e9, c9]; rfl
        have so9 := sfx_mono (V := (RVW f_nv nnx f_na f_nb f_nc)) (d := d9) (x := (p1).toInt.toNat) (j := Int.toNat ((x2).toInt + 1)) (Int.toNat M9) (by omega)
        have sp9 := sfx_ge (V := (RVW f_nv nnx f_na f_nb f_nc)) (d := d9) (x := (p1).toInt.toNat) (Int.toNat (x2).toInt)
        have sq9 := szX_ge (V := (RVW f_nv nnx f_na f_nb f_nc)) d9 (r12).toInt.toNat
        have hPc := hP.sub (ws' := [(h_mm, .inr (8, (mo86 v_mm (.ref h_nv) (.ref h_na) (.ref h_nb) (.ref h_nc)))), (h_nv, .inl (cy_nv, 8000, .inl f_nv)), (h_na, .inl (cy_na, 8000, .inl f_na)), (h_nb, .inl (cy_nb, 8000, .inl f_nb)), (h_nc, .inl (cy_nc, 8000, .inl f_nc))]) [1, 0, 2, 3, 4] rfl
        have hDc := hD.sub (ws' := [(h_mm, .inr (8, (mo86 v_mm (.ref h_nv) (.ref h_na) (.ref h_nb) (.ref h_nc)))), (h_nv, .inl (cy_nv, 8000, .inl f_nv)), (h_na, .inl (cy_na, 8000, .inl f_na)), (h_nb, .inl (cy_nb, 8000, .inl f_nb)), (h_nc, .inl (cy_nc, 8000, .inl f_nc))]) [1, 0, 2, 3, 4] (by decide) rfl
        have hKc := hK.sub (tys' := [(cy_nv, .int), (cy_na, .int), (cy_nb, .int), (cy_nc, .int)]) [0, 1, 2, 3] rfl
        have hFc := va_free (wc := [(h_mm, .inr (8, (mo86 v_mm (.ref h_nv) (.ref h_na) (.ref h_nb) (.ref h_nc)))), (h_nv, .inl (cy_nv, 8000, .inl f_nv)), (h_na, .inl (cy_na, 8000, .inl f_na)), (h_nb, .inl (cy_nb, 8000, .inl f_nb)), (h_nc, .inl (cy_nc, 8000, .inl f_nc))]) hD hS hA [1, 0, 2, 3, 4] rfl
        refine va_calli (va_runV (As := [.int r12]) (rest := [.int x1]) ⟨hx, hb, hml, hown, hts⟩ (ihf dC dI H.size h_mm h_nv h_na h_nb h_nc v_mm cy_nv f_nv cy_na f_na cy_nb f_nb cy_nc f_nc r12 N hz nnx d9 hf_nv hf_na hf_nb hf_nc (by omega) (by first | exact q1 | omega) (by omega) (by omega) hn_nds wc9) (cwV 1 hts (gv hT w_m_X11_35 w_instanceMethod_X11_sizeAt ws_sel_X11_sizeAt w_ini_X11 w_code_X11_sizeAt) rfl rfl rfl (by decide +kernel) ⟨(by dsimp only [headSpec]; omega), (by dsimp only [headSpec]; omega)⟩) ⟨pre_blind, va_recv hK hP (ci := 8) (q0 := 1) rfl rfl, pre_of hPc hKc hDc hN⟩ rfl rfl hl.1 rfl (lv_room (Nat.le_of_ble_eq_true rfl)) dX11_sizeAt_21 ⟨(Nat.le_of_ble_eq_true rfl), (Nat.le_of_ble_eq_true rfl)⟩) hS (fun q _ h => hFc q h) hFc (fun r15 u t H locs ht hvm hq hB hz1 hk1 hS9 => ?_)
        obtain ⟨hP1, hD1⟩ := hB
        rw [ht] at hP1
        obtain ⟨hP9, hD9⟩ := va_join (wr := []) (w1 := [(h_mm, .inr (8, (mo86 v_mm (.ref h_nv) (.ref h_na) (.ref h_nb) (.ref h_nc)))), (h_nv, .inl (cy_nv, 8000, .inl f_nv)), (h_na, .inl (cy_na, 8000, .inl f_na)), (h_nb, .inl (cy_nb, 8000, .inl f_nb)), (h_nc, .inl (cy_nc, 8000, .inl f_nc))]) hP hD [1, 0, 2, 3, 4] [] rfl rfl (by decide) (by decide) hk1 hFc hP1 hD1
        clear hP hD hS hPc hDc hKc hFc hP1 hD1 hk1 hz1 ht hvm
        have hP : va_P (dC, dI) cls [(h_mm, .inr (8, (mo86 v_mm (.ref h_nv) (.ref h_na) (.ref h_nb) (.ref h_nc)))), (h_nv, .inl (cy_nv, 8000, .inl f_nv)), (h_na, .inl (cy_na, 8000, .inl f_na)), (h_nb, .inl (cy_nb, 8000, .inl f_nb)), (h_nc, .inl (cy_nc, 8000, .inl f_nc))] H := hP9
        have hD : va_D A [(h_mm, .inr (8, (mo86 v_mm (.ref h_nv) (.ref h_na) (.ref h_nb) (.ref h_nc)))), (h_nv, .inl (cy_nv, 8000, .inl f_nv)), (h_na, .inl (cy_na, 8000, .inl f_na)), (h_nb, .inl (cy_nb, 8000, .inl f_nb)), (h_nc, .inl (cy_nc, 8000, .inl f_nc))] := hD9
        have hS := hS9
        clear hP9 hD9 hS9
        obtain ⟨k16, k17⟩ := hq
        replace k16 : 0 ≤ (r15).toInt ∧ (r15).toInt ≤ 300 := k16
        replace k17 : ((r15)).toInt = szX (RVW f_nv (nnx) f_na f_nb f_nc) (d9) ((r12)).toInt.toNat := k17
        refine lv_iadd hx hb dX11_sizeAt_24 ?_
        refine lv_topi (fun z18 ez18 => ?_)
        have tz18 : (z18).toInt = (x1).toInt + (r15).toInt := by rw [ez18]; exact i_add rfl rfl (by omega)
        refine lv_istore_n (lv' := [(2, .int z18), (0, .ref h_mm), (1, .int p1), (3, .int x2)]) hx hb dX11_sizeAt_25 rfl hl (by decide) rfl (fun ls hl => ?_)
        obtain ⟨z19, ez19⟩ : ∃ y : Int32, y = x2 + 1 := ⟨_, rfl⟩
        have tz19 : (z19).toInt = (x2).toInt + 1 := by rw [ez19]; exact i_add rfl (by decide) (by omega)
        refine lv_iinc (v := z19) (lv' := [(3, .int z19), (2, .int z18), (0, .ref h_mm), (1, .int p1)]) hx hb dX11_sizeAt_26 hl (k := 3) rfl (by rw [ez19]; rfl) (by decide) rfl (fun ls hl => ?_)
        refine lv_goto (tgt := 4) hx hb dX11_sizeAt_29 (by decide) ?_
        rw [← tz19] at sn9 so9
        exact ih4 (z18) (z19) _ _ _ (by omega) (by omega) (by omega) (by omega) (by omega) hP hD hS (lv_sub hl [2, 3, 1, 0] rfl)
  have cst0 : (0 : Int32).toInt = 0 := by decide
  have cst1 : (1 : Int32).toInt = 1 := by decide
  exact lp3 _ (1) (0) _ _ _ (by decide) (by decide) (by omega) (by omega) (Nat.le_refl _) hP hD hS (lv_sub hl [2, 3, 1, 0] rfl)

set_option maxHeartbeats 8000000 in
set_option maxRecDepth 100000 in
theorem c_X11_sizeOf (l : Launch) (dC : Nat → ClassId) (dI : Nat → Nat → Nat) (sz : Nat) (h_mm : Nat) (h_nv : Nat) (h_na : Nat) (h_nb : Nat) (h_nc : Nat) (h_mny : Nat) (h_tem : Nat) (v_mm : Nat → Value) (cy_nv : ClassId) (f_nv : Nat → Int32) (cy_na : ClassId) (f_na : Nat → Int32) (cy_nb : ClassId) (f_nb : Nat → Int32) (cy_nc : ClassId) (f_nc : Nat → Int32) (cy_mny : ClassId) (f_mny : Nat → Int32) (cy_tem : ClassId) (f_tem : Nat → Int32) (p1 : Int32) (N : Int) (hz : Nat → Nat) (cb : Int) (nnx : Nat → Int64) (hf_nv : Rg (-1) 7 f_nv) (hf_na : Rg (-1) 7999 f_na) (hf_nb : Rg (-1) 7999 f_nb) (hf_nc : Rg (-1) 7999 f_nc) (hf_mny : Rg 0 6 f_mny) (hf_tem : Rg 0 7999 f_tem) (q0 : 0 ≤ (p1).toInt ∧ (p1).toInt < cb) (q1 : cb ≤ 16) (q2 : N ≤ 8000) (hn_nds : ND 0 N hz f_na f_nb f_nc) (hn_tms : TM 0 N hz 0 cb f_mny f_tem) (hn_wfq : ∀ k : Nat, (k : Int) < (f_mny (0 + (p1).toInt.toNat)).toInt → WFX (RVW f_nv nnx f_na f_nb f_nc) 7 (Int32.toNatClampNeg (f_tem (6 * (0 + (p1).toInt.toNat) + k))) ∧ szX (RVW f_nv nnx f_na f_nb f_nc) 7 (Int32.toNatClampNeg (f_tem (6 * (0 + (p1).toInt.toNat) + k))) ≤ 300 ∧ ((RVW f_nv nnx f_na f_nb f_nc)).1 (Int32.toNatClampNeg (f_tem (6 * (0 + (p1).toInt.toNat) + k))) = -1) : Met l yX11_sizeOf (Ws yX11_sizeOf cX11_sizeOf 4 (some .int)) (({ frames := 10, cells := 0, slots := 0, locals := 229 } : Room)) (PRE (dC, dI) cls [(cy_nv, .int), (cy_na, .int), (cy_nb, .int), (cy_nc, .int), (cy_mny, .int), (cy_tem, .int)] [(h_mm, .inr (8, (mo131 v_mm (.ref h_nv) (.ref h_na) (.ref h_nb) (.ref h_nc) (.ref h_mny) (.ref h_tem)))), (h_nv, .inl (cy_nv, 8000, .inl f_nv)), (h_na, .inl (cy_na, 8000, .inl f_na)), (h_nb, .inl (cy_nb, 8000, .inl f_nb)), (h_nc, .inl (cy_nc, 8000, .inl f_nc)), (h_mny, .inl (cy_mny, 32, .inl f_mny)), (h_tem, .inl (cy_tem, 192, .inl f_tem))] sz [.ref h_mm, .int p1]) (va_Qi (fun (r : Int32) (_ : Unit) => ((r).toInt = szL (RVW f_nv nnx f_na f_nb f_nc) (fun k => Int32.toNatClampNeg (f_tem (6 * (0 + (p1).toInt.toNat) + k))) (Int.toNat (f_mny (0 + (p1).toInt.toNat)).toInt))) (fun (_ : Unit) (t : State) => va_P (dC, dI) cls [(h_mm, .inr (8, (mo131 v_mm (.ref h_nv) (.ref h_na) (.ref h_nb) (.ref h_nc) (.ref h_mny) (.ref h_tem)))), (h_nv, .inl (cy_nv, 8000, .inl f_nv)), (h_na, .inl (cy_na, 8000, .inl f_na)), (h_nb, .inl (cy_nb, 8000, .inl f_nb)), (h_nc, .inl (cy_nc, 8000, .inl f_nc)), (h_mny, .inl (cy_mny, 32, .inl f_mny)), (h_tem, .inl (cy_tem, 192, .inl f_tem))] t.heap ∧ va_D (va_A [(h_mm, .inr (8, (mo131 v_mm (.ref h_nv) (.ref h_na) (.ref h_nb) (.ref h_nc) (.ref h_mny) (.ref h_tem)))), (h_nv, .inl (cy_nv, 8000, .inl f_nv)), (h_na, .inl (cy_na, 8000, .inl f_na)), (h_nb, .inl (cy_nb, 8000, .inl f_nb)), (h_nc, .inl (cy_nc, 8000, .inl f_nc)), (h_mny, .inl (cy_mny, 32, .inl f_mny)), (h_tem, .inl (cy_tem, 192, .inl f_tem))] sz) [(h_mm, .inr (8, (mo131 v_mm (.ref h_nv) (.ref h_na) (.ref h_nb) (.ref h_nc) (.ref h_mny) (.ref h_tem)))), (h_nv, .inl (cy_nv, 8000, .inl f_nv)), (h_na, .inl (cy_na, 8000, .inl f_na)), (h_nb, .inl (cy_nb, 8000, .inl f_nb)), (h_nc, .inl (cy_nc, 8000, .inl f_nc)), (h_mny, .inl (cy_mny, 32, .inl f_mny)), (h_tem, .inl (cy_tem, 192, .inl f_tem))]) (va_A [(h_mm, .inr (8, (mo131 v_mm (.ref h_nv) (.ref h_na) (.ref h_nb) (.ref h_nc) (.ref h_mny) (.ref h_tem)))), (h_nv, .inl (cy_nv, 8000, .inl f_nv)), (h_na, .inl (cy_na, 8000, .inl f_na)), (h_nb, .inl (cy_nb, 8000, .inl f_nb)), (h_nc, .inl (cy_nc, 8000, .inl f_nc)), (h_mny, .inl (cy_mny, 32, .inl f_mny)), (h_tem, .inl (cy_tem, 192, .inl f_tem))] sz)) 0 0 (va_A [(h_mm, .inr (8, (mo131 v_mm (.ref h_nv) (.ref h_na) (.ref h_nb) (.ref h_nc) (.ref h_mny) (.ref h_tem)))), (h_nv, .inl (cy_nv, 8000, .inl f_nv)), (h_na, .inl (cy_na, 8000, .inl f_na)), (h_nb, .inl (cy_nb, 8000, .inl f_nb)), (h_nc, .inl (cy_nc, 8000, .inl f_nc)), (h_mny, .inl (cy_mny, 32, .inl f_mny)), (h_tem, .inl (cy_tem, 192, .inl f_tem))] sz) := by
  refine Met.ofW (cc := cX11_sizeOf) (maxL := 4) (ret := (some .int)) (by decide) rfl ?_
  intro p e s m args below meth c s₁ B hml hv
  obtain ⟨rfl, hsz, hP, hK, hD0, hN⟩ := hv
  have hx := B.exec
  have hb := B.bytes
  have hr := B.returns
  have hts := atoms_spec (ws := Ws yX11_sizeOf cX11_sizeOf 4 (some .int)) B.pre
  have hT : ∀ w ∈ WALL, w ∈ Ws yX11_sizeOf cX11_sizeOf 4 (some .int) := fun w h => List.mem_cons_of_mem _ h
  have hw := fun w (h : w ∈ WALL) => hts w (hT w h)
  have hown : s.vm.findClass RX11 = some m.cls := findClass_of_methodNamed B.named
  have hlocks := B.notSynchronized
  subst hsz
  have hD := hD0.self (sz := s.heap.size)
  generalize hAe : va_A [(h_mm, .inr (8, (mo131 v_mm (.ref h_nv) (.ref h_na) (.ref h_nb) (.ref h_nc) (.ref h_mny) (.ref h_tem)))), (h_nv, .inl (cy_nv, 8000, .inl f_nv)), (h_na, .inl (cy_na, 8000, .inl f_na)), (h_nb, .inl (cy_nb, 8000, .inl f_nb)), (h_nc, .inl (cy_nc, 8000, .inl f_nc)), (h_mny, .inl (cy_mny, 32, .inl f_mny)), (h_tem, .inl (cy_tem, 192, .inl f_tem))] s.heap.size = A at hD ⊢
  have hA : ∀ q : Nat, s.heap.size ≤ q → A q := fun q h => by rw [← hAe]; exact Or.inr h
  have hS : va_S A s.heap s.heap [] := va_S.rf
  have hl := lv_entry ([.ref h_mm, .int p1]) (n := 4) (Nat.le_of_ble_eq_true rfl)
  rw [lg_entry_eq]
  generalize (lg_sl ([.ref h_mm, .int p1]) ++ List.replicate (4 - (lg_sl ([.ref h_mm, .int p1])).length) Slot.unset).toArray = ls at hl ⊢
  have hl : lv_has ls 4 [(0, .ref h_mm), (1, .int p1)] := hl
  refine lv_iconst (v := 0) hx hb dX11_sizeOf_0 (by decide) ?_
  refine lv_istore_n (lv' := [(2, .int 0), (0, .ref h_mm), (1, .int p1)]) hx hb dX11_sizeOf_1 rfl hl (by decide) rfl (fun ls hl => ?_)
  refine lv_iconst (v := 0) hx hb dX11_sizeOf_2 (by decide) ?_
  refine lv_istore_n (lv' := [(3, .int 0), (2, .int 0), (0, .ref h_mm), (1, .int p1)]) hx hb dX11_sizeOf_3 rfl hl (by decide) rfl (fun ls hl => ?_)
  have sl0 : szL (RVW f_nv nnx f_na f_nb f_nc) (fun k => Int32.toNatClampNeg (f_tem (6 * (0 + (p1).toInt.toNat) + k))) (Int.toNat ((0 : Int32)).toInt) = 0 := by rw [show ((0 : Int32)).toInt = 0 by decide]; rfl
  have hm0 := hf_mny (0 + (p1).toInt.toNat)
  have lp3 : ∀ (n : Nat) (x1 : Int32) (x2 : Int32) (H : Heap) (locs : List Loc) (ls : Array Slot), (0 ≤ (x1).toInt ∧ (x1).toInt ≤ 1800) → (0 ≤ (x2).toInt ∧ (x2).toInt ≤ 6) → ((x1).toInt = szL (RVW f_nv nnx f_na f_nb f_nc) (fun k => Int32.toNatClampNeg (f_tem (6 * (0 + (p1).toInt.toNat) + k))) (Int.toNat ((x2).toInt))) → (0 ≤ (x1).toInt ∧ (x1).toInt ≤ 300 * (x2).toInt) → ((x2).toInt ≤ (f_mny (0 + (p1).toInt.toNat)).toInt) → (6 - (x2).toInt).toNat + 1 ≤ n → va_P (dC, dI) cls [(h_mm, .inr (8, (mo131 v_mm (.ref h_nv) (.ref h_na) (.ref h_nb) (.ref h_nc) (.ref h_mny) (.ref h_tem)))), (h_nv, .inl (cy_nv, 8000, .inl f_nv)), (h_na, .inl (cy_na, 8000, .inl f_na)), (h_nb, .inl (cy_nb, 8000, .inl f_nb)), (h_nc, .inl (cy_nc, 8000, .inl f_nc)), (h_mny, .inl (cy_mny, 32, .inl f_mny)), (h_tem, .inl (cy_tem, 192, .inl f_tem))] H → va_D A [(h_mm, .inr (8, (mo131 v_mm (.ref h_nv) (.ref h_na) (.ref h_nb) (.ref h_nc) (.ref h_mny) (.ref h_tem)))), (h_nv, .inl (cy_nv, 8000, .inl f_nv)), (h_na, .inl (cy_na, 8000, .inl f_na)), (h_nb, .inl (cy_nb, 8000, .inl f_nb)), (h_nc, .inl (cy_nc, 8000, .inl f_nc)), (h_mny, .inl (cy_mny, 32, .inl f_mny)), (h_tem, .inl (cy_tem, 192, .inl f_tem))] → va_S A s.heap H locs → lv_has ls 4 [(0, .ref h_mm), (1, .int p1), (2, .int x1), (3, .int x2)] → W p l e ({ frames := 10, cells := 0, slots := 0, locals := 229 } : Room) s m ([.ref h_mm, .int p1] : List Value).toArray below meth c H locs 0 0 (MQ below (va_Qi (fun (r : Int32) (_ : Unit) => ((r).toInt = szL (RVW f_nv nnx f_na f_nb f_nc) (fun k => Int32.toNatClampNeg (f_tem (6 * (0 + (p1).toInt.toNat) + k))) (Int.toNat (f_mny (0 + (p1).toInt.toNat)).toInt))) (fun (_ : Unit) (t : State) => va_P (dC, dI) cls [(h_mm, .inr (8, (mo131 v_mm (.ref h_nv) (.ref h_na) (.ref h_nb) (.ref h_nc) (.ref h_mny) (.ref h_tem)))), (h_nv, .inl (cy_nv, 8000, .inl f_nv)), (h_na, .inl (cy_na, 8000, .inl f_na)), (h_nb, .inl (cy_nb, 8000, .inl f_nb)), (h_nc, .inl (cy_nc, 8000, .inl f_nc)), (h_mny, .inl (cy_mny, 32, .inl f_mny)), (h_tem, .inl (cy_tem, 192, .inl f_tem))] t.heap ∧ va_D A [(h_mm, .inr (8, (mo131 v_mm (.ref h_nv) (.ref h_na) (.ref h_nb) (.ref h_nc) (.ref h_mny) (.ref h_tem)))), (h_nv, .inl (cy_nv, 8000, .inl f_nv)), (h_na, .inl (cy_na, 8000, .inl f_na)), (h_nb, .inl (cy_nb, 8000, .inl f_nb)), (h_nc, .inl (cy_nc, 8000, .inl f_nc)), (h_mny, .inl (cy_mny, 32, .inl f_mny)), (h_tem, .inl (cy_tem, 192, .inl f_tem))]) A) ([.ref h_mm, .int p1] : List Value).toArray s 0 0 A) (F0 m 4 ls []) := by
    clear hP hD hS hl
    intro n
    induction n with
    | zero => intro x1 x2 H locs ls klp3_0 klp3_1 klp3_2 klp3_3 klp3_4 hm hP hD hS hl; exact False.elim (by omega)
    | succ n ih => 
      intro x1 x2 H locs ls klp3_0 klp3_1 klp3_2 klp3_3 klp3_4 hm hP hD hS hl
      have ih4 := ih
      clear ih
      refine lv_iload_n hx hb dX11_sizeOf_4 rfl (lv_at hl 3 rfl) ?_
      refine lv_aload_n hx hb dX11_sizeOf_5 rfl (lv_at hl 0 rfl) ?_
      refine va_get (D := (dC, dI)) (ci := 8) (v := .ref h_mny) (C := RX11) (T := TX11) (N := 71) hx hb hw iwX11 hown hK hP 0 rfl rfl 8 (by decide) (hw _ w_f_X11_142) (fun _ h9 => h9) rfl dX11_sizeOf_6 ?_
      refine lv_iload_n hx hb dX11_sizeOf_9 rfl (lv_at hl 1 rfl) ?_
      refine va_iald hx hb hK hP 5 4 rfl rfl (i := p1) (vp_in_iff.mpr (by omega)) dX11_sizeOf_10 ?_
      refine lv_topi (fun z5 ez5 => ?_)
      have rz5 : 0 ≤ (z5).toInt ∧ (z5).toInt ≤ 6 := by rw [ez5]; exact hf_mny _
      have mlz5 : (f_mny (0 + (p1).toInt.toNat)).toInt = (z5).toInt := by rw [Nat.zero_add, ez5, clamp_nat (i := p1) (by omega)]
      refine lv_icmp_ge (tgt := 38) hx hb dX11_sizeOf_11 (by decide) (fun c6 => ?_) (fun c6 => ?_)
      · have kc6 := (cv_le (rfl : (z5).toInt = (z5).toInt) (rfl : (x2).toInt = (x2).toInt)).mp c6
        have ey9 : szL (RVW f_nv nnx f_na f_nb f_nc) (fun k => Int32.toNatClampNeg (f_tem (6 * (0 + (p1).toInt.toNat) + k))) (Int.toNat (x2).toInt) = szL (RVW f_nv nnx f_na f_nb f_nc) (fun k => Int32.toNatClampNeg (f_tem (6 * (0 + (p1).toInt.toNat) + k))) (Int.toNat (f_mny (0 + (p1).toInt.toNat)).toInt) := by rw [show Int.toNat (x2).toInt = Int.toNat (f_mny (0 + (p1).toInt.toNat)).toInt by omega]
        refine lv_iload_n hx hb dX11_sizeOf_38 rfl (lv_at hl 2 rfl) ?_
        refine W.widen (k := 0) (n := 0) (Nat.le_of_ble_eq_true rfl) (Nat.le_of_ble_eq_true rfl) ?_
        have w7 : ((x1 : Int32)).toInt = szL (RVW f_nv nnx f_na f_nb f_nc) (fun k => Int32.toNatClampNeg (f_tem (6 * (0 + (p1).toInt.toNat) + k))) (Int.toNat (f_mny (0 + (p1).toInt.toNat)).toInt) := by omega
        exact W.iret (v := x1) hx hb hr (fun t ht hW => ⟨⟨x1, (), rfl, w7, by rw [ht]; exact hP, hD⟩, hS.F ht⟩) hS.2.2 dX11_sizeOf_39
      · have kc6 := (not_congr (cv_le (rfl : (z5).toInt = (z5).toInt) (rfl : (x2).toInt = (x2).toInt))).mp c6
        refine lv_iload_n hx hb dX11_sizeOf_14 rfl (lv_at hl 2 rfl) ?_
        refine lv_aload_n hx hb dX11_sizeOf_15 rfl (lv_at hl 0 rfl) ?_
        refine lv_aload_n hx hb dX11_sizeOf_16 rfl (lv_at hl 0 rfl) ?_
        refine va_get (D := (dC, dI)) (ci := 8) (v := .ref h_tem) (C := RX11) (T := TX11) (N := 71) hx hb hw iwX11 hown hK hP 0 rfl rfl 12 (by decide) (hw _ w_f_X11_152) (fun _ h9 => h9) rfl dX11_sizeOf_17 ?_
        refine lv_aload_n hx hb dX11_sizeOf_20 rfl (lv_at hl 0 rfl) ?_
        refine lv_iload_n hx hb dX11_sizeOf_21 rfl (lv_at hl 1 rfl) ?_
        refine lv_iload_n hx hb dX11_sizeOf_22 rfl (lv_at hl 3 rfl) ?_
        have hPc := hP.sub (ws' := []) [] rfl
        have hDc := hD.sub (ws' := []) [] (by decide) rfl
        have hKc := hK.sub (tys' := []) [] rfl
        have hFc := va_free (wc := []) hD hS hA [] rfl
        refine va_calli (va_runV (As := [.int p1, .int x2]) (rest := [.ref h_tem, .ref h_mm, .int x1]) ⟨hx, hb, hml, hown, hts⟩ (c_X11_litAt l dC dI H.size h_mm p1 x2 (by omega) (by omega)) (cwV 2 hts (gv hT w_m_X11_149 w_instanceMethod_X11_litAt ws_sel_X11_litAt w_ini_X11 w_code_X11_litAt) rfl rfl rfl (by decide +kernel) ⟨(Nat.le_of_ble_eq_true rfl), (Nat.le_of_ble_eq_true rfl)⟩) ⟨pre_blind, va_recv hK hP (ci := 8) (q0 := 0) rfl rfl, pre_of hPc hKc hDc hN⟩ rfl rfl hl.1 rfl (lv_room (Nat.le_of_ble_eq_true rfl)) dX11_sizeOf_23 ⟨(Nat.le_of_ble_eq_true rfl), (Nat.le_of_ble_eq_true rfl)⟩) hS (fun q _ h => hFc q h) hFc (fun r8 u t H locs ht hvm hq hB hz1 hk1 hS9 => ?_)
        obtain ⟨hP1, hD1⟩ := hB
        rw [ht] at hP1
        obtain ⟨hP9, hD9⟩ := va_join (wr := [(h_mm, .inr (8, (mo131 v_mm (.ref h_nv) (.ref h_na) (.ref h_nb) (.ref h_nc) (.ref h_mny) (.ref h_tem)))), (h_nv, .inl (cy_nv, 8000, .inl f_nv)), (h_na, .inl (cy_na, 8000, .inl f_na)), (h_nb, .inl (cy_nb, 8000, .inl f_nb)), (h_nc, .inl (cy_nc, 8000, .inl f_nc)), (h_mny, .inl (cy_mny, 32, .inl f_mny)), (h_tem, .inl (cy_tem, 192, .inl f_tem))]) (w1 := []) hP hD [] [0, 1, 2, 3, 4, 5, 6] rfl rfl (by decide) (by decide) hk1 hFc hP1 hD1
        clear hP hD hS hPc hDc hKc hFc hP1 hD1 hk1 hz1 ht hvm
        have hP : va_P (dC, dI) cls [(h_mm, .inr (8, (mo131 v_mm (.ref h_nv) (.ref h_na) (.ref h_nb) (.ref h_nc) (.ref h_mny) (.ref h_tem)))), (h_nv, .inl (cy_nv, 8000, .inl f_nv)), (h_na, .inl (cy_na, 8000, .inl f_na)), (h_nb, .inl (cy_nb, 8000, .inl f_nb)), (h_nc, .inl (cy_nc, 8000, .inl f_nc)), (h_mny, .inl (cy_mny, 32, .inl f_mny)), (h_tem, .inl (cy_tem, 192, .inl f_tem))] H := hP9
        have hD : va_D A [(h_mm, .inr (8, (mo131 v_mm (.ref h_nv) (.ref h_na) (.ref h_nb) (.ref h_nc) (.ref h_mny) (.ref h_tem)))), (h_nv, .inl (cy_nv, 8000, .inl f_nv)), (h_na, .inl (cy_na, 8000, .inl f_na)), (h_nb, .inl (cy_nb, 8000, .inl f_nb)), (h_nc, .inl (cy_nc, 8000, .inl f_nc)), (h_mny, .inl (cy_mny, 32, .inl f_mny)), (h_tem, .inl (cy_tem, 192, .inl f_tem))] := hD9
        have hS := hS9
        clear hP9 hD9 hS9
        obtain ⟨k9, k10⟩ := hq
        replace k9 : 0 ≤ (r8).toInt ∧ (r8).toInt ≤ 191 := k9
        replace k10 : ((r8)).toInt = 6 * ((p1)).toInt + ((x2)).toInt := k10
        refine va_iald hx hb hK hP 6 5 rfl rfl (i := r8) (vp_in_iff.mpr (by omega)) dX11_sizeOf_26 ?_
        refine lv_topi (fun z11 ez11 => ?_)
        have rz11 : 0 ≤ (z11).toInt ∧ (z11).toInt ≤ 7999 := by rw [ez11]; exact hf_tem _
        have mzz5 : (f_mny (Int32.toNatClampNeg p1)).toInt = (z5).toInt := by rw [ez5]
        have tgz11 := tm_get (c := p1) (t := r8) (l := (x2).toInt) hn_tms (by omega) (by omega) (by omega) ez11
        obtain ⟨wq1, wq2, wq3⟩ := hn_wfq (Int.toNat (x2).toInt) (by omega)
        have ei9 : Int32.toNatClampNeg r8 = 6 * (0 + (p1).toInt.toNat) + Int.toNat (x2).toInt := by rw [clamp_nat (i := r8) (by omega)]; omega
        have ez9 : (z11).toInt.toNat = Int32.toNatClampNeg (f_tem (6 * (0 + (p1).toInt.toNat) + Int.toNat (x2).toInt)) := by rw [← ei9, ← ez11, clamp_nat (i := z11) (by omega)]
        rw [← ez9] at wq1 wq2
        have sl9 : szL (RVW f_nv nnx f_na f_nb f_nc) (fun k => Int32.toNatClampNeg (f_tem (6 * (0 + (p1).toInt.toNat) + k))) (Int.toNat ((x2).toInt + 1)) = szL (RVW f_nv nnx f_na f_nb f_nc) (fun k => Int32.toNatClampNeg (f_tem (6 * (0 + (p1).toInt.toNat) + k))) (Int.toNat (x2).toInt) + szX (RVW f_nv nnx f_na f_nb f_nc) 7 (z11).toInt.toNat := by have e9 : Int.toNat ((x2).toInt + 1) = Int.toNat (x2).toInt + 1 := (by omega); rw [e9, ez9]; rfl
        have sq9 := szX_ge (V := (RVW f_nv nnx f_na f_nb f_nc)) 7 (z11).toInt.toNat
        obtain ⟨vq12, evq12⟩ := mq131_86 v_mm (.ref h_mny) (.ref h_tem)
        replace hP : va_P (dC, dI) cls [(h_mm, .inr (8, (mo86 vq12 (.ref h_nv) (.ref h_na) (.ref h_nb) (.ref h_nc)))), (h_nv, .inl (cy_nv, 8000, .inl f_nv)), (h_na, .inl (cy_na, 8000, .inl f_na)), (h_nb, .inl (cy_nb, 8000, .inl f_nb)), (h_nc, .inl (cy_nc, 8000, .inl f_nc)), (h_mny, .inl (cy_mny, 32, .inl f_mny)), (h_tem, .inl (cy_tem, 192, .inl f_tem))] H := by rw [evq12]; exact hP
        replace hD : va_D A [(h_mm, .inr (8, (mo86 vq12 (.ref h_nv) (.ref h_na) (.ref h_nb) (.ref h_nc)))), (h_nv, .inl (cy_nv, 8000, .inl f_nv)), (h_na, .inl (cy_na, 8000, .inl f_na)), (h_nb, .inl (cy_nb, 8000, .inl f_nb)), (h_nc, .inl (cy_nc, 8000, .inl f_nc)), (h_mny, .inl (cy_mny, 32, .inl f_mny)), (h_tem, .inl (cy_tem, 192, .inl f_tem))] := by rw [evq12]; exact hD
        have hPc := hP.sub (ws' := [(h_mm, .inr (8, (mo86 vq12 (.ref h_nv) (.ref h_na) (.ref h_nb) (.ref h_nc)))), (h_nv, .inl (cy_nv, 8000, .inl f_nv)), (h_na, .inl (cy_na, 8000, .inl f_na)), (h_nb, .inl (cy_nb, 8000, .inl f_nb)), (h_nc, .inl (cy_nc, 8000, .inl f_nc))]) [0, 1, 2, 3, 4] rfl
        have hDc := hD.sub (ws' := [(h_mm, .inr (8, (mo86 vq12 (.ref h_nv) (.ref h_na) (.ref h_nb) (.ref h_nc)))), (h_nv, .inl (cy_nv, 8000, .inl f_nv)), (h_na, .inl (cy_na, 8000, .inl f_na)), (h_nb, .inl (cy_nb, 8000, .inl f_nb)), (h_nc, .inl (cy_nc, 8000, .inl f_nc))]) [0, 1, 2, 3, 4] (by decide) rfl
        have hKc := hK.sub (tys' := [(cy_nv, .int), (cy_na, .int), (cy_nb, .int), (cy_nc, .int)]) [0, 1, 2, 3] rfl
        have hFc := va_free (wc := [(h_mm, .inr (8, (mo86 vq12 (.ref h_nv) (.ref h_na) (.ref h_nb) (.ref h_nc)))), (h_nv, .inl (cy_nv, 8000, .inl f_nv)), (h_na, .inl (cy_na, 8000, .inl f_na)), (h_nb, .inl (cy_nb, 8000, .inl f_nb)), (h_nc, .inl (cy_nc, 8000, .inl f_nc))]) hD hS hA [0, 1, 2, 3, 4] rfl
        refine va_calli (va_runV (As := [.int z11]) (rest := [.int x1]) ⟨hx, hb, hml, hown, hts⟩ (c_X11_sizeAt l 8 dC dI H.size h_mm h_nv h_na h_nb h_nc vq12 cy_nv f_nv cy_na f_na cy_nb f_nb cy_nc f_nc z11 N hz nnx 7 hf_nv hf_na hf_nb hf_nc (by omega) (by first | exact q2 | omega) (by omega) (by omega) hn_nds wq1) (cwV 1 hts (gv hT w_m_X11_35 w_instanceMethod_X11_sizeAt ws_sel_X11_sizeAt w_ini_X11 w_code_X11_sizeAt) rfl rfl rfl (by decide +kernel) ⟨(Nat.le_of_ble_eq_true rfl), (Nat.le_of_ble_eq_true rfl)⟩) ⟨pre_blind, va_recv hK hP (ci := 8) (q0 := 0) rfl rfl, pre_of hPc hKc hDc hN⟩ rfl rfl hl.1 rfl (lv_room (Nat.le_of_ble_eq_true rfl)) dX11_sizeOf_27 ⟨(Nat.le_of_ble_eq_true rfl), (Nat.le_of_ble_eq_true rfl)⟩) hS (fun q _ h => hFc q h) hFc (fun r13 u t H locs ht hvm hq hB hz1 hk1 hS9 => ?_)
        obtain ⟨hP1, hD1⟩ := hB
        rw [ht] at hP1
        obtain ⟨hP9, hD9⟩ := va_join (wr := [(h_mny, .inl (cy_mny, 32, .inl f_mny)), (h_tem, .inl (cy_tem, 192, .inl f_tem))]) (w1 := [(h_mm, .inr (8, (mo86 vq12 (.ref h_nv) (.ref h_na) (.ref h_nb) (.ref h_nc)))), (h_nv, .inl (cy_nv, 8000, .inl f_nv)), (h_na, .inl (cy_na, 8000, .inl f_na)), (h_nb, .inl (cy_nb, 8000, .inl f_nb)), (h_nc, .inl (cy_nc, 8000, .inl f_nc))]) hP hD [0, 1, 2, 3, 4] [5, 6] rfl rfl (by decide) (by decide) hk1 hFc hP1 hD1
        clear hP hD hS hPc hDc hKc hFc hP1 hD1 hk1 hz1 ht hvm
        have hP : va_P (dC, dI) cls [(h_mny, .inl (cy_mny, 32, .inl f_mny)), (h_tem, .inl (cy_tem, 192, .inl f_tem)), (h_mm, .inr (8, (mo86 vq12 (.ref h_nv) (.ref h_na) (.ref h_nb) (.ref h_nc)))), (h_nv, .inl (cy_nv, 8000, .inl f_nv)), (h_na, .inl (cy_na, 8000, .inl f_na)), (h_nb, .inl (cy_nb, 8000, .inl f_nb)), (h_nc, .inl (cy_nc, 8000, .inl f_nc))] H := hP9
        have hD : va_D A [(h_mny, .inl (cy_mny, 32, .inl f_mny)), (h_tem, .inl (cy_tem, 192, .inl f_tem)), (h_mm, .inr (8, (mo86 vq12 (.ref h_nv) (.ref h_na) (.ref h_nb) (.ref h_nc)))), (h_nv, .inl (cy_nv, 8000, .inl f_nv)), (h_na, .inl (cy_na, 8000, .inl f_na)), (h_nb, .inl (cy_nb, 8000, .inl f_nb)), (h_nc, .inl (cy_nc, 8000, .inl f_nc))] := hD9
        have hS := hS9
        clear hP9 hD9 hS9
        rw [evq12] at hP hD
        replace hP : va_P (dC, dI) cls [(h_mny, .inl (cy_mny, 32, .inl f_mny)), (h_tem, .inl (cy_tem, 192, .inl f_tem)), (h_mm, .inr (8, (mo131 v_mm (.ref h_nv) (.ref h_na) (.ref h_nb) (.ref h_nc) (.ref h_mny) (.ref h_tem)))), (h_nv, .inl (cy_nv, 8000, .inl f_nv)), (h_na, .inl (cy_na, 8000, .inl f_na)), (h_nb, .inl (cy_nb, 8000, .inl f_nb)), (h_nc, .inl (cy_nc, 8000, .inl f_nc))] H := hP
        replace hD : va_D A [(h_mny, .inl (cy_mny, 32, .inl f_mny)), (h_tem, .inl (cy_tem, 192, .inl f_tem)), (h_mm, .inr (8, (mo131 v_mm (.ref h_nv) (.ref h_na) (.ref h_nb) (.ref h_nc) (.ref h_mny) (.ref h_tem)))), (h_nv, .inl (cy_nv, 8000, .inl f_nv)), (h_na, .inl (cy_na, 8000, .inl f_na)), (h_nb, .inl (cy_nb, 8000, .inl f_nb)), (h_nc, .inl (cy_nc, 8000, .inl f_nc))] := hD
        clear evq12 
        obtain ⟨k14, k15⟩ := hq
        replace k14 : 0 ≤ (r13).toInt ∧ (r13).toInt ≤ 300 := k14
        replace k15 : ((r13)).toInt = szX (RVW f_nv (nnx) f_na f_nb f_nc) (7 : Nat) ((z11)).toInt.toNat := k15
        refine lv_iadd hx hb dX11_sizeOf_30 ?_
        refine lv_topi (fun z16 ez16 => ?_)
        have tz16 : (z16).toInt = (x1).toInt + (r13).toInt := by rw [ez16]; exact i_add rfl rfl (by omega)
        refine lv_istore_n (lv' := [(2, .int z16), (0, .ref h_mm), (1, .int p1), (3, .int x2)]) hx hb dX11_sizeOf_31 rfl hl (by decide) rfl (fun ls hl => ?_)
        obtain ⟨z17, ez17⟩ : ∃ y : Int32, y = x2 + 1 := ⟨_, rfl⟩
        have tz17 : (z17).toInt = (x2).toInt + 1 := by rw [ez17]; exact i_add rfl (by decide) (by omega)
        refine lv_iinc (v := z17) (lv' := [(3, .int z17), (2, .int z16), (0, .ref h_mm), (1, .int p1)]) hx hb dX11_sizeOf_32 hl (k := 3) rfl (by rw [ez17]; rfl) (by decide) rfl (fun ls hl => ?_)
        refine lv_goto (tgt := 4) hx hb dX11_sizeOf_35 (by decide) ?_
        replace hP : va_P (dC, dI) cls [(h_mm, .inr (8, (mo131 v_mm (.ref h_nv) (.ref h_na) (.ref h_nb) (.ref h_nc) (.ref h_mny) (.ref h_tem)))), (h_nv, .inl (cy_nv, 8000, .inl f_nv)), (h_na, .inl (cy_na, 8000, .inl f_na)), (h_nb, .inl (cy_nb, 8000, .inl f_nb)), (h_nc, .inl (cy_nc, 8000, .inl f_nc)), (h_mny, .inl (cy_mny, 32, .inl f_mny)), (h_tem, .inl (cy_tem, 192, .inl f_tem))] H := hP.sub [2, 3, 4, 5, 6, 0, 1] rfl
        replace hD : va_D A [(h_mm, .inr (8, (mo131 v_mm (.ref h_nv) (.ref h_na) (.ref h_nb) (.ref h_nc) (.ref h_mny) (.ref h_tem)))), (h_nv, .inl (cy_nv, 8000, .inl f_nv)), (h_na, .inl (cy_na, 8000, .inl f_na)), (h_nb, .inl (cy_nb, 8000, .inl f_nb)), (h_nc, .inl (cy_nc, 8000, .inl f_nc)), (h_mny, .inl (cy_mny, 32, .inl f_mny)), (h_tem, .inl (cy_tem, 192, .inl f_tem))] := hD.sub [2, 3, 4, 5, 6, 0, 1] (by decide) rfl
        rw [← tz17] at sl9
        exact ih4 (z16) (z17) _ _ _ (by omega) (by omega) (by omega) (by omega) (by omega) (by omega) hP hD hS (lv_sub hl [2, 3, 1, 0] rfl)
  have cst0 : (0 : Int32).toInt = 0 := by decide
  exact lp3 _ (0) (0) _ _ _ (by decide) (by decide) (by omega) (by omega) (by omega) (Nat.le_refl _) hP hD hS (lv_sub hl [2, 3, 1, 0] rfl)

set_option maxHeartbeats 8000000 in
set_option maxRecDepth 100000 in
theorem c_X11_positives_e (l : Launch) (dC : Nat → ClassId) (dI : Nat → Nat → Nat) (sz : Nat) (h_mm : Nat) (h_mny : Nat) (h_isn : Nat) (v_mm : Nat → Value) (cy_mny : ClassId) (f_mny : Nat → Int32) (cy_isn : ClassId) (f_isn : Nat → Int32) (p1 : Int32) (hf_mny : Rg 0 6 f_mny) (hf_isn : Rg 0 1 f_isn) (q0 : 0 ≤ (p1).toInt ∧ (p1).toInt ≤ 15) : Met l yX11_positives (Ws yX11_positives cX11_positives 4 (some .int)) (({ frames := 1, cells := 0, slots := 0, locals := 22 } : Room)) (PRE (dC, dI) cls [(cy_mny, .int), (cy_isn, .boolean)] [(h_mm, .inr (8, (mo103 v_mm (.ref h_mny) (.ref h_isn)))), (h_mny, .inl (cy_mny, 32, .inl f_mny)), (h_isn, .inl (cy_isn, 192, .inl f_isn))] sz [.ref h_mm, .int p1]) (va_Qi (fun (r : Int32) (_ : Unit) => ((r).toInt = bsX (fun k => 1 - (f_isn (6 * (p1).toInt.toNat + k)).toInt) (Int.toNat (f_mny (p1).toInt.toNat).toInt))) (fun (_ : Unit) (t : State) => va_P (dC, dI) cls [(h_mm, .inr (8, (mo103 v_mm (.ref h_mny) (.ref h_isn)))), (h_mny, .inl (cy_mny, 32, .inl f_mny)), (h_isn, .inl (cy_isn, 192, .inl f_isn))] t.heap ∧ va_D (va_A [(h_mm, .inr (8, (mo103 v_mm (.ref h_mny) (.ref h_isn)))), (h_mny, .inl (cy_mny, 32, .inl f_mny)), (h_isn, .inl (cy_isn, 192, .inl f_isn))] sz) [(h_mm, .inr (8, (mo103 v_mm (.ref h_mny) (.ref h_isn)))), (h_mny, .inl (cy_mny, 32, .inl f_mny)), (h_isn, .inl (cy_isn, 192, .inl f_isn))]) (va_A [(h_mm, .inr (8, (mo103 v_mm (.ref h_mny) (.ref h_isn)))), (h_mny, .inl (cy_mny, 32, .inl f_mny)), (h_isn, .inl (cy_isn, 192, .inl f_isn))] sz)) 0 0 (va_A [(h_mm, .inr (8, (mo103 v_mm (.ref h_mny) (.ref h_isn)))), (h_mny, .inl (cy_mny, 32, .inl f_mny)), (h_isn, .inl (cy_isn, 192, .inl f_isn))] sz) := by
  refine Met.ofW (cc := cX11_positives) (maxL := 4) (ret := (some .int)) (by decide) rfl ?_
  intro p e s m args below meth c s₁ B hml hv
  obtain ⟨rfl, hsz, hP, hK, hD0, hN⟩ := hv
  have hx := B.exec
  have hb := B.bytes
  have hr := B.returns
  have hts := atoms_spec (ws := Ws yX11_positives cX11_positives 4 (some .int)) B.pre
  have hT : ∀ w ∈ WALL, w ∈ Ws yX11_positives cX11_positives 4 (some .int) := fun w h => List.mem_cons_of_mem _ h
  have hw := fun w (h : w ∈ WALL) => hts w (hT w h)
  have hown : s.vm.findClass RX11 = some m.cls := findClass_of_methodNamed B.named
  have hlocks := B.notSynchronized
  subst hsz
  have hD := hD0.self (sz := s.heap.size)
  generalize hAe : va_A [(h_mm, .inr (8, (mo103 v_mm (.ref h_mny) (.ref h_isn)))), (h_mny, .inl (cy_mny, 32, .inl f_mny)), (h_isn, .inl (cy_isn, 192, .inl f_isn))] s.heap.size = A at hD ⊢
  have hA : ∀ q : Nat, s.heap.size ≤ q → A q := fun q h => by rw [← hAe]; exact Or.inr h
  have hS : va_S A s.heap s.heap [] := va_S.rf
  have hl := lv_entry ([.ref h_mm, .int p1]) (n := 4) (Nat.le_of_ble_eq_true rfl)
  rw [lg_entry_eq]
  generalize (lg_sl ([.ref h_mm, .int p1]) ++ List.replicate (4 - (lg_sl ([.ref h_mm, .int p1])).length) Slot.unset).toArray = ls at hl ⊢
  have hl : lv_has ls 4 [(0, .ref h_mm), (1, .int p1)] := hl
  refine lv_iconst (v := 0) hx hb dX11_positives_0 (by decide) ?_
  refine lv_istore_n (lv' := [(2, .int 0), (0, .ref h_mm), (1, .int p1)]) hx hb dX11_positives_1 rfl hl (by decide) rfl (fun ls hl => ?_)
  refine lv_iconst (v := 0) hx hb dX11_positives_2 (by decide) ?_
  refine lv_istore_n (lv' := [(3, .int 0), (2, .int 0), (0, .ref h_mm), (1, .int p1)]) hx hb dX11_positives_3 rfl hl (by decide) rfl (fun ls hl => ?_)
  have sl0 : bsX (fun k => 1 - (f_isn (6 * (p1).toInt.toNat + k)).toInt) (Int.toNat ((0 : Int32)).toInt) = 0 := by rw [show ((0 : Int32)).toInt = 0 by decide]; rfl
  have hm0 := hf_mny (p1).toInt.toNat
  have lp3 : ∀ (n : Nat) (x1 : Int32) (x2 : Int32) (H : Heap) (locs : List Loc) (ls : Array Slot), (0 ≤ (x2).toInt ∧ (x2).toInt ≤ 6) → ((x1).toInt = bsX (fun k => 1 - (f_isn (6 * (p1).toInt.toNat + k)).toInt) (Int.toNat ((x2).toInt))) → ((x2).toInt ≤ (f_mny (p1).toInt.toNat).toInt) → (6 - (x2).toInt).toNat + 1 ≤ n → va_P (dC, dI) cls [(h_mm, .inr (8, (mo103 v_mm (.ref h_mny) (.ref h_isn)))), (h_mny, .inl (cy_mny, 32, .inl f_mny)), (h_isn, .inl (cy_isn, 192, .inl f_isn))] H → va_D A [(h_mm, .inr (8, (mo103 v_mm (.ref h_mny) (.ref h_isn)))), (h_mny, .inl (cy_mny, 32, .inl f_mny)), (h_isn, .inl (cy_isn, 192, .inl f_isn))] → va_S A s.heap H locs → lv_has ls 4 [(0, .ref h_mm), (1, .int p1), (2, .int x1), (3, .int x2)] → W p l e ({ frames := 1, cells := 0, slots := 0, locals := 22 } : Room) s m ([.ref h_mm, .int p1] : List Value).toArray below meth c H locs 0 0 (MQ below (va_Qi (fun (r : Int32) (_ : Unit) => ((r).toInt = bsX (fun k => 1 - (f_isn (6 * (p1).toInt.toNat + k)).toInt) (Int.toNat (f_mny (p1).toInt.toNat).toInt))) (fun (_ : Unit) (t : State) => va_P (dC, dI) cls [(h_mm, .inr (8, (mo103 v_mm (.ref h_mny) (.ref h_isn)))), (h_mny, .inl (cy_mny, 32, .inl f_mny)), (h_isn, .inl (cy_isn, 192, .inl f_isn))] t.heap ∧ va_D A [(h_mm, .inr (8, (mo103 v_mm (.ref h_mny) (.ref h_isn)))), (h_mny, .inl (cy_mny, 32, .inl f_mny)), (h_isn, .inl (cy_isn, 192, .inl f_isn))]) A) ([.ref h_mm, .int p1] : List Value).toArray s 0 0 A) (F0 m 4 ls []) := by
    clear hP hD hS hl
    intro n
    induction n with
    | zero => intro x1 x2 H locs ls klp3_0 klp3_1 klp3_2 hm hP hD hS hl; exact False.elim (by omega)
    | succ n ih => 
      intro x1 x2 H locs ls klp3_0 klp3_1 klp3_2 hm hP hD hS hl
      have ih4 := ih
      clear ih
      refine lv_iload_n hx hb dX11_positives_4 rfl (lv_at hl 3 rfl) ?_
      refine lv_aload_n hx hb dX11_positives_5 rfl (lv_at hl 0 rfl) ?_
      refine va_get (D := (dC, dI)) (ci := 8) (v := .ref h_mny) (C := RX11) (T := TX11) (N := 71) hx hb hw iwX11 hown hK hP 0 rfl rfl 8 (by decide) (hw _ w_f_X11_142) (fun _ h9 => h9) rfl dX11_positives_6 ?_
      refine lv_iload_n hx hb dX11_positives_9 rfl (lv_at hl 1 rfl) ?_
      refine va_iald hx hb hK hP 1 0 rfl rfl (i := p1) (vp_in_iff.mpr (by omega)) dX11_positives_10 ?_
      refine lv_topi (fun z5 ez5 => ?_)
      have rz5 : 0 ≤ (z5).toInt ∧ (z5).toInt ≤ 6 := by rw [ez5]; exact hf_mny _
      have mlz5 : (f_mny (p1).toInt.toNat).toInt = (z5).toInt := by rw [ez5, clamp_nat (i := p1) (by omega)]
      refine lv_icmp_ge (tgt := 44) hx hb dX11_positives_11 (by decide) (fun c6 => ?_) (fun c6 => ?_)
      · have kc6 := (cv_le (rfl : (z5).toInt = (z5).toInt) (rfl : (x2).toInt = (x2).toInt)).mp c6
        have ey9 : bsX (fun k => 1 - (f_isn (6 * (p1).toInt.toNat + k)).toInt) (Int.toNat (x2).toInt) = bsX (fun k => 1 - (f_isn (6 * (p1).toInt.toNat + k)).toInt) (Int.toNat (f_mny (p1).toInt.toNat).toInt) := by rw [show Int.toNat (x2).toInt = Int.toNat (f_mny (p1).toInt.toNat).toInt by omega]
        refine lv_iload_n hx hb dX11_positives_44 rfl (lv_at hl 2 rfl) ?_
        refine W.widen (k := 0) (n := 0) (Nat.le_of_ble_eq_true rfl) (Nat.le_of_ble_eq_true rfl) ?_
        have w7 : ((x1 : Int32)).toInt = bsX (fun k => 1 - (f_isn (6 * (p1).toInt.toNat + k)).toInt) (Int.toNat (f_mny (p1).toInt.toNat).toInt) := by omega
        exact W.iret (v := x1) hx hb hr (fun t ht hW => ⟨⟨x1, (), rfl, w7, by rw [ht]; exact hP, hD⟩, hS.F ht⟩) hS.2.2 dX11_positives_45
      · have kc6 := (not_congr (cv_le (rfl : (z5).toInt = (z5).toInt) (rfl : (x2).toInt = (x2).toInt))).mp c6
        refine lv_aload_n hx hb dX11_positives_14 rfl (lv_at hl 0 rfl) ?_
        refine va_get (D := (dC, dI)) (ci := 8) (v := .ref h_isn) (C := RX11) (T := TX11) (N := 71) hx hb hw iwX11 hown hK hP 0 rfl rfl 11 (by decide) (hw _ w_f_X11_145) (fun _ h9 => h9) rfl dX11_positives_15 ?_
        refine lv_aload_n hx hb dX11_positives_18 rfl (lv_at hl 0 rfl) ?_
        refine lv_iload_n hx hb dX11_positives_19 rfl (lv_at hl 1 rfl) ?_
        refine lv_iload_n hx hb dX11_positives_20 rfl (lv_at hl 3 rfl) ?_
        have hPc := hP.sub (ws' := []) [] rfl
        have hDc := hD.sub (ws' := []) [] (by decide) rfl
        have hKc := hK.sub (tys' := []) [] rfl
        have hFc := va_free (wc := []) hD hS hA [] rfl
        refine va_calli (va_runV (As := [.int p1, .int x2]) (rest := [.ref h_isn]) ⟨hx, hb, hml, hown, hts⟩ (c_X11_litAt l dC dI H.size h_mm p1 x2 (by omega) (by omega)) (cwV 2 hts (gv hT w_m_X11_149 w_instanceMethod_X11_litAt ws_sel_X11_litAt w_ini_X11 w_code_X11_litAt) rfl rfl rfl (by decide +kernel) ⟨(Nat.le_of_ble_eq_true rfl), (Nat.le_of_ble_eq_true rfl)⟩) ⟨pre_blind, va_recv hK hP (ci := 8) (q0 := 0) rfl rfl, pre_of hPc hKc hDc hN⟩ rfl rfl hl.1 rfl (lv_room (Nat.le_of_ble_eq_true rfl)) dX11_positives_21 ⟨(Nat.le_of_ble_eq_true rfl), (Nat.le_of_ble_eq_true rfl)⟩) hS (fun q _ h => hFc q h) hFc (fun r8 u t H locs ht hvm hq hB hz1 hk1 hS9 => ?_)
        obtain ⟨hP1, hD1⟩ := hB
        rw [ht] at hP1
        obtain ⟨hP9, hD9⟩ := va_join (wr := [(h_mm, .inr (8, (mo103 v_mm (.ref h_mny) (.ref h_isn)))), (h_mny, .inl (cy_mny, 32, .inl f_mny)), (h_isn, .inl (cy_isn, 192, .inl f_isn))]) (w1 := []) hP hD [] [0, 1, 2] rfl rfl (by decide) (by decide) hk1 hFc hP1 hD1
        clear hP hD hS hPc hDc hKc hFc hP1 hD1 hk1 hz1 ht hvm
        have hP : va_P (dC, dI) cls [(h_mm, .inr (8, (mo103 v_mm (.ref h_mny) (.ref h_isn)))), (h_mny, .inl (cy_mny, 32, .inl f_mny)), (h_isn, .inl (cy_isn, 192, .inl f_isn))] H := hP9
        have hD : va_D A [(h_mm, .inr (8, (mo103 v_mm (.ref h_mny) (.ref h_isn)))), (h_mny, .inl (cy_mny, 32, .inl f_mny)), (h_isn, .inl (cy_isn, 192, .inl f_isn))] := hD9
        have hS := hS9
        clear hP9 hD9 hS9
        obtain ⟨k9, k10⟩ := hq
        replace k9 : 0 ≤ (r8).toInt ∧ (r8).toInt ≤ 191 := k9
        replace k10 : ((r8)).toInt = 6 * ((p1)).toInt + ((x2)).toInt := k10
        refine va_zald hx hb hK hP 2 1 rfl rfl (i := r8) (vp_in_iff.mpr (by omega)) dX11_positives_24 ?_
        refine lv_topi (fun z11 ez11 => ?_)
        have rz11 : 0 ≤ (z11).toInt ∧ (z11).toInt ≤ 1 := by rw [ez11]; exact hf_isn _
        have ei9 : Int32.toNatClampNeg r8 = 6 * (p1).toInt.toNat + Int.toNat (x2).toInt := by rw [clamp_nat (i := r8) (by omega)]; omega
        have nz9 : (f_isn (6 * (p1).toInt.toNat + Int.toNat (x2).toInt)).toInt = (z11).toInt := by rw [← ei9, ← ez11]
        have rg9 := hf_isn (6 * (p1).toInt.toNat + Int.toNat (x2).toInt)
        have sn9 : bsX (fun k => 1 - (f_isn (6 * (p1).toInt.toNat + k)).toInt) (Int.toNat ((x2).toInt + 1)) = bsX (fun k => 1 - (f_isn (6 * (p1).toInt.toNat + k)).toInt) (Int.toNat (x2).toInt) + (1 - (f_isn (6 * (p1).toInt.toNat + Int.toNat (x2).toInt)).toInt) * 2 ^ (Int.toNat (x2).toInt) := by have e9 : Int.toNat ((x2).toInt + 1) = Int.toNat (x2).toInt + 1 := (by omega); rw [e9]; rfl
        rw [nz9] at sn9
        have bs9 := bs_rng (sg := (fun k => 1 - (f_isn (6 * (p1).toInt.toNat + k)).toInt)) (fun k9 => by have r9 := hf_isn (6 * (p1).toInt.toNat + k9); show 1 - (f_isn (6 * (p1).toInt.toNat + k9)).toInt = 0 ∨ 1 - (f_isn (6 * (p1).toInt.toNat + k9)).toInt = 1; omega) (Int.toNat (x2).toInt)
        refine lv_if_eq (tgt := 32) hx hb dX11_positives_25 (by decide) (fun c12 => ?_) (fun c12 => ?_)
        · have kc12 := (cv_eq (rfl : (z11).toInt = (z11).toInt) (by decide : (0 : Int32).toInt = 0)).mp c12
          refine lv_iload_n hx hb dX11_positives_32 rfl (lv_at hl 2 rfl) ?_
          refine lv_iconst (v := 1) hx hb dX11_positives_33 (by decide) ?_
          refine lv_iload_n hx hb dX11_positives_34 rfl (lv_at hl 3 rfl) ?_
          refine lv_ishl hx hb dX11_positives_35 ?_
          refine lv_topi (fun z13 ez13 => ?_)
          refine lv_ior hx hb dX11_positives_36 ?_
          refine lv_topi (fun z14 ez14 => ?_)
          have sy9 := sn9
          have so9 : (1 : Int) - (z11).toInt = 1 := by omega
          rw [so9, Int.one_mul] at sy9
          have or9 : (z14).toInt = (x1).toInt + 2 ^ (x2).toInt.toNat := or_bt62 (v := x1) (k := x2) (by omega) (by omega) ez13 ez14
          refine lv_istore_n (lv' := [(2, .int z14), (0, .ref h_mm), (1, .int p1), (3, .int x2)]) hx hb dX11_positives_37 rfl hl (by decide) rfl (fun ls hl => ?_)
          obtain ⟨z15, ez15⟩ : ∃ y : Int32, y = x2 + 1 := ⟨_, rfl⟩
          have tz15 : (z15).toInt = (x2).toInt + 1 := by rw [ez15]; exact i_add rfl (by decide) (by omega)
          refine lv_iinc (v := z15) (lv' := [(3, .int z15), (2, .int z14), (0, .ref h_mm), (1, .int p1)]) hx hb dX11_positives_38 hl (k := 3) rfl (by rw [ez15]; rfl) (by decide) rfl (fun ls hl => ?_)
          refine lv_goto (tgt := 4) hx hb dX11_positives_41 (by decide) ?_
          rw [← tz15] at sy9
          exact ih4 (z14) (z15) _ _ _ (by omega) (by omega) (by omega) (by omega) hP hD hS (lv_sub hl [2, 3, 1, 0] rfl)
        · have kc12 := (not_congr (cv_eq (rfl : (z11).toInt = (z11).toInt) (by decide : (0 : Int32).toInt = 0))).mp c12
          have sy9 := sn9
          have so9 : (1 : Int) - (z11).toInt = 0 := by omega
          rw [so9, Int.zero_mul] at sy9
          refine lv_iload_n hx hb dX11_positives_28 rfl (lv_at hl 2 rfl) ?_
          refine lv_goto (tgt := 37) hx hb dX11_positives_29 (by decide) ?_
          refine lv_istore_n (lv' := [(2, .int x1), (0, .ref h_mm), (1, .int p1), (3, .int x2)]) hx hb dX11_positives_37 rfl hl (by decide) rfl (fun ls hl => ?_)
          obtain ⟨z16, ez16⟩ : ∃ y : Int32, y = x2 + 1 := ⟨_, rfl⟩
          have tz16 : (z16).toInt = (x2).toInt + 1 := by rw [ez16]; exact i_add rfl (by decide) (by omega)
          refine lv_iinc (v := z16) (lv' := [(3, .int z16), (2, .int x1), (0, .ref h_mm), (1, .int p1)]) hx hb dX11_positives_38 hl (k := 3) rfl (by rw [ez16]; rfl) (by decide) rfl (fun ls hl => ?_)
          refine lv_goto (tgt := 4) hx hb dX11_positives_41 (by decide) ?_
          rw [← tz16] at sy9
          exact ih4 (x1) (z16) _ _ _ (by omega) (by omega) (by omega) (by omega) hP hD hS (lv_sub hl [2, 3, 1, 0] rfl)
  have cst0 : (0 : Int32).toInt = 0 := by decide
  exact lp3 _ (0) (0) _ _ _ (by decide) (by omega) (by omega) (Nat.le_refl _) hP hD hS (lv_sub hl [2, 3, 1, 0] rfl)

set_option maxHeartbeats 8000000 in
set_option maxRecDepth 100000 in
theorem c_X11_clause (l : Launch) (dC : Nat → ClassId) (dI : Nat → Nat → Nat) (sz : Nat) (h_mm : Nat) (h_nv : Nat) (h_na : Nat) (h_nb : Nat) (h_nc : Nat) (h_mny : Nat) (h_tem : Nat) (h_vrs : Nat) (h_isn : Nat) (v_mm : Nat → Value) (x_mm_clauses : Int32) (cy_nv : ClassId) (f_nv : Nat → Int32) (cy_na : ClassId) (f_na : Nat → Int32) (cy_nb : ClassId) (f_nb : Nat → Int32) (cy_nc : ClassId) (f_nc : Nat → Int32) (cy_mny : ClassId) (f_mny : Nat → Int32) (cy_tem : ClassId) (f_tem : Nat → Int32) (cy_vrs : ClassId) (f_vrs : Nat → Int32) (cy_isn : ClassId) (f_isn : Nat → Int32) (p1 : Int32) (p2 : Int32) (N : Int) (hz : Nat → Nat) (nnx : Nat → Int64) (hx_mm_clauses : 0 ≤ (x_mm_clauses).toInt ∧ (x_mm_clauses).toInt ≤ 16) (hf_nv : Rg (-1) 7 f_nv) (hf_na : Rg (-1) 7999 f_na) (hf_nb : Rg (-1) 7999 f_nb) (hf_nc : Rg (-1) 7999 f_nc) (hf_mny : Rg 0 6 f_mny) (hf_tem : Rg 0 7999 f_tem) (hf_vrs : Rg 0 8 f_vrs) (hf_isn : Rg 0 1 f_isn) (q0 : N ≤ 8000) (hn_nds : ND 0 N hz f_na f_nb f_nc) (hn_tms : TM 0 N hz 0 (x_mm_clauses).toInt f_mny f_tem) (hn_wfr : WFA (RVW f_nv nnx f_na f_nb f_nc) (RLX 0 f_mny f_vrs f_isn f_tem) (x_mm_clauses).toInt) : Met l yX11_clause (Ws yX11_clause cX11_clause 3 (some .int)) (({ frames := 11, cells := 0, slots := 0, locals := 252 } : Room)) (PRE (dC, dI) cls [(cy_nv, .int), (cy_na, .int), (cy_nb, .int), (cy_nc, .int), (cy_mny, .int), (cy_tem, .int), (cy_vrs, .int), (cy_isn, .boolean)] [(h_mm, .inr (8, (mo132 v_mm (.ref h_nv) (.ref h_na) (.ref h_nb) (.ref h_nc) (.int x_mm_clauses) (.ref h_mny) (.ref h_vrs) (.ref h_isn) (.ref h_tem)))), (h_nv, .inl (cy_nv, 8000, .inl f_nv)), (h_na, .inl (cy_na, 8000, .inl f_na)), (h_nb, .inl (cy_nb, 8000, .inl f_nb)), (h_nc, .inl (cy_nc, 8000, .inl f_nc)), (h_mny, .inl (cy_mny, 32, .inl f_mny)), (h_tem, .inl (cy_tem, 192, .inl f_tem)), (h_vrs, .inl (cy_vrs, 32, .inl f_vrs)), (h_isn, .inl (cy_isn, 192, .inl f_isn))] sz [.ref h_mm, .int p1, .int p2]) (va_Qi (fun (r : Int32) (u : (Int32)) => (CLV (RVW f_nv nnx f_na f_nb f_nc) (RLX 0 f_mny f_vrs f_isn f_tem) (fun j => bsX (fun k => 1 - (f_isn (6 * j + k)).toInt) (f_mny j).toInt.toNat) (x_mm_clauses).toInt (p1).toInt (p2).toInt (r).toInt)) (fun (u : (Int32)) (t : State) => va_P (dC, dI) cls [(h_mm, .inr (8, (mo133 v_mm (.int u) (.ref h_nv) (.ref h_na) (.ref h_nb) (.ref h_nc) (.int x_mm_clauses) (.ref h_mny) (.ref h_vrs) (.ref h_isn) (.ref h_tem)))), (h_nv, .inl (cy_nv, 8000, .inl f_nv)), (h_na, .inl (cy_na, 8000, .inl f_na)), (h_nb, .inl (cy_nb, 8000, .inl f_nb)), (h_nc, .inl (cy_nc, 8000, .inl f_nc)), (h_mny, .inl (cy_mny, 32, .inl f_mny)), (h_tem, .inl (cy_tem, 192, .inl f_tem)), (h_vrs, .inl (cy_vrs, 32, .inl f_vrs)), (h_isn, .inl (cy_isn, 192, .inl f_isn))] t.heap ∧ va_D (va_A [(h_mm, .inr (8, (mo132 v_mm (.ref h_nv) (.ref h_na) (.ref h_nb) (.ref h_nc) (.int x_mm_clauses) (.ref h_mny) (.ref h_vrs) (.ref h_isn) (.ref h_tem)))), (h_nv, .inl (cy_nv, 8000, .inl f_nv)), (h_na, .inl (cy_na, 8000, .inl f_na)), (h_nb, .inl (cy_nb, 8000, .inl f_nb)), (h_nc, .inl (cy_nc, 8000, .inl f_nc)), (h_mny, .inl (cy_mny, 32, .inl f_mny)), (h_tem, .inl (cy_tem, 192, .inl f_tem)), (h_vrs, .inl (cy_vrs, 32, .inl f_vrs)), (h_isn, .inl (cy_isn, 192, .inl f_isn))] sz) [(h_mm, .inr (8, (mo133 v_mm (.int u) (.ref h_nv) (.ref h_na) (.ref h_nb) (.ref h_nc) (.int x_mm_clauses) (.ref h_mny) (.ref h_vrs) (.ref h_isn) (.ref h_tem)))), (h_nv, .inl (cy_nv, 8000, .inl f_nv)), (h_na, .inl (cy_na, 8000, .inl f_na)), (h_nb, .inl (cy_nb, 8000, .inl f_nb)), (h_nc, .inl (cy_nc, 8000, .inl f_nc)), (h_mny, .inl (cy_mny, 32, .inl f_mny)), (h_tem, .inl (cy_tem, 192, .inl f_tem)), (h_vrs, .inl (cy_vrs, 32, .inl f_vrs)), (h_isn, .inl (cy_isn, 192, .inl f_isn))]) (va_A [(h_mm, .inr (8, (mo132 v_mm (.ref h_nv) (.ref h_na) (.ref h_nb) (.ref h_nc) (.int x_mm_clauses) (.ref h_mny) (.ref h_vrs) (.ref h_isn) (.ref h_tem)))), (h_nv, .inl (cy_nv, 8000, .inl f_nv)), (h_na, .inl (cy_na, 8000, .inl f_na)), (h_nb, .inl (cy_nb, 8000, .inl f_nb)), (h_nc, .inl (cy_nc, 8000, .inl f_nc)), (h_mny, .inl (cy_mny, 32, .inl f_mny)), (h_tem, .inl (cy_tem, 192, .inl f_tem)), (h_vrs, .inl (cy_vrs, 32, .inl f_vrs)), (h_isn, .inl (cy_isn, 192, .inl f_isn))] sz)) 0 0 (va_A [(h_mm, .inr (8, (mo132 v_mm (.ref h_nv) (.ref h_na) (.ref h_nb) (.ref h_nc) (.int x_mm_clauses) (.ref h_mny) (.ref h_vrs) (.ref h_isn) (.ref h_tem)))), (h_nv, .inl (cy_nv, 8000, .inl f_nv)), (h_na, .inl (cy_na, 8000, .inl f_na)), (h_nb, .inl (cy_nb, 8000, .inl f_nb)), (h_nc, .inl (cy_nc, 8000, .inl f_nc)), (h_mny, .inl (cy_mny, 32, .inl f_mny)), (h_tem, .inl (cy_tem, 192, .inl f_tem)), (h_vrs, .inl (cy_vrs, 32, .inl f_vrs)), (h_isn, .inl (cy_isn, 192, .inl f_isn))] sz) := by
  refine Met.ofW (cc := cX11_clause) (maxL := 3) (ret := (some .int)) (by decide) rfl ?_
  intro p e s m args below meth c s₁ B hml hv
  obtain ⟨rfl, hsz, hP, hK, hD0, hN⟩ := hv
  have hx := B.exec
  have hb := B.bytes
  have hr := B.returns
  have hts := atoms_spec (ws := Ws yX11_clause cX11_clause 3 (some .int)) B.pre
  have hT : ∀ w ∈ WALL, w ∈ Ws yX11_clause cX11_clause 3 (some .int) := fun w h => List.mem_cons_of_mem _ h
  have hw := fun w (h : w ∈ WALL) => hts w (hT w h)
  have hown : s.vm.findClass RX11 = some m.cls := findClass_of_methodNamed B.named
  have hlocks := B.notSynchronized
  subst hsz
  have hD := hD0.self (sz := s.heap.size)
  generalize hAe : va_A [(h_mm, .inr (8, (mo132 v_mm (.ref h_nv) (.ref h_na) (.ref h_nb) (.ref h_nc) (.int x_mm_clauses) (.ref h_mny) (.ref h_vrs) (.ref h_isn) (.ref h_tem)))), (h_nv, .inl (cy_nv, 8000, .inl f_nv)), (h_na, .inl (cy_na, 8000, .inl f_na)), (h_nb, .inl (cy_nb, 8000, .inl f_nb)), (h_nc, .inl (cy_nc, 8000, .inl f_nc)), (h_mny, .inl (cy_mny, 32, .inl f_mny)), (h_tem, .inl (cy_tem, 192, .inl f_tem)), (h_vrs, .inl (cy_vrs, 32, .inl f_vrs)), (h_isn, .inl (cy_isn, 192, .inl f_isn))] s.heap.size = A at hD ⊢
  have hA : ∀ q : Nat, s.heap.size ≤ q → A q := fun q h => by rw [← hAe]; exact Or.inr h
  have hS : va_S A s.heap s.heap [] := va_S.rf
  have hl := lv_entry ([.ref h_mm, .int p1, .int p2]) (n := 3) (Nat.le_of_ble_eq_true rfl)
  rw [lg_entry_eq]
  generalize (lg_sl ([.ref h_mm, .int p1, .int p2]) ++ List.replicate (3 - (lg_sl ([.ref h_mm, .int p1, .int p2])).length) Slot.unset).toArray = ls at hl ⊢
  have hl : lv_has ls 3 [(0, .ref h_mm), (1, .int p1), (2, .int p2)] := hl
  refine lv_aload_n hx hb dX11_clause_0 rfl (lv_at hl 0 rfl) ?_
  refine lv_iconst (v := 0) hx hb dX11_clause_1 (by decide) ?_
  refine va_put (D := (dC, dI)) (ci := 8) (v := .int 0) (ty := tyX11 0) (C := RX11) (T := TX11) (N := 71) hx hb hw iwX11 tyX11 tyX11_ok nmX11 hown hK hP hD hS 0 rfl rfl 0 (by decide) (hw _ w_f_X11_1) (fun _ h9 => h9) rfl (tyX11_ok 0 (by decide)) rfl rfl (Nat.le_of_ble_eq_true rfl) dX11_clause_2 (fun H locs hP9 hD9 hS9 => ?_)
  clear hP hD hS
  have hP : va_P (dC, dI) cls [(h_mm, .inr (8, (mo133 v_mm (.int 0) (.ref h_nv) (.ref h_na) (.ref h_nb) (.ref h_nc) (.int x_mm_clauses) (.ref h_mny) (.ref h_vrs) (.ref h_isn) (.ref h_tem)))), (h_nv, .inl (cy_nv, 8000, .inl f_nv)), (h_na, .inl (cy_na, 8000, .inl f_na)), (h_nb, .inl (cy_nb, 8000, .inl f_nb)), (h_nc, .inl (cy_nc, 8000, .inl f_nc)), (h_mny, .inl (cy_mny, 32, .inl f_mny)), (h_tem, .inl (cy_tem, 192, .inl f_tem)), (h_vrs, .inl (cy_vrs, 32, .inl f_vrs)), (h_isn, .inl (cy_isn, 192, .inl f_isn))] H := hP9
  have hD : va_D A [(h_mm, .inr (8, (mo133 v_mm (.int 0) (.ref h_nv) (.ref h_na) (.ref h_nb) (.ref h_nc) (.int x_mm_clauses) (.ref h_mny) (.ref h_vrs) (.ref h_isn) (.ref h_tem)))), (h_nv, .inl (cy_nv, 8000, .inl f_nv)), (h_na, .inl (cy_na, 8000, .inl f_na)), (h_nb, .inl (cy_nb, 8000, .inl f_nb)), (h_nc, .inl (cy_nc, 8000, .inl f_nc)), (h_mny, .inl (cy_mny, 32, .inl f_mny)), (h_tem, .inl (cy_tem, 192, .inl f_tem)), (h_vrs, .inl (cy_vrs, 32, .inl f_vrs)), (h_isn, .inl (cy_isn, 192, .inl f_isn))] := hD9
  have hS := hS9
  clear hP9 hD9 hS9
  refine lv_aload_n hx hb dX11_clause_5 rfl (lv_at hl 0 rfl) ?_
  refine lv_iload_n hx hb dX11_clause_6 rfl (lv_at hl 1 rfl) ?_
  obtain ⟨vq1, evq1⟩ := mq133_100 v_mm (.int 0) (.ref h_nv) (.ref h_na) (.ref h_nb) (.ref h_nc) (.ref h_mny) (.ref h_vrs) (.ref h_isn) (.ref h_tem)
  replace hP : va_P (dC, dI) cls [(h_mm, .inr (8, (mo100 vq1 (.int x_mm_clauses)))), (h_nv, .inl (cy_nv, 8000, .inl f_nv)), (h_na, .inl (cy_na, 8000, .inl f_na)), (h_nb, .inl (cy_nb, 8000, .inl f_nb)), (h_nc, .inl (cy_nc, 8000, .inl f_nc)), (h_mny, .inl (cy_mny, 32, .inl f_mny)), (h_tem, .inl (cy_tem, 192, .inl f_tem)), (h_vrs, .inl (cy_vrs, 32, .inl f_vrs)), (h_isn, .inl (cy_isn, 192, .inl f_isn))] H := by rw [evq1]; exact hP
  replace hD : va_D A [(h_mm, .inr (8, (mo100 vq1 (.int x_mm_clauses)))), (h_nv, .inl (cy_nv, 8000, .inl f_nv)), (h_na, .inl (cy_na, 8000, .inl f_na)), (h_nb, .inl (cy_nb, 8000, .inl f_nb)), (h_nc, .inl (cy_nc, 8000, .inl f_nc)), (h_mny, .inl (cy_mny, 32, .inl f_mny)), (h_tem, .inl (cy_tem, 192, .inl f_tem)), (h_vrs, .inl (cy_vrs, 32, .inl f_vrs)), (h_isn, .inl (cy_isn, 192, .inl f_isn))] := by rw [evq1]; exact hD
  have hPc := hP.sub (ws' := [(h_mm, .inr (8, (mo100 vq1 (.int x_mm_clauses))))]) [0] rfl
  have hDc := hD.sub (ws' := [(h_mm, .inr (8, (mo100 vq1 (.int x_mm_clauses))))]) [0] (by decide) rfl
  have hKc := hK.sub (tys' := []) [] rfl
  have hFc := va_free (wc := [(h_mm, .inr (8, (mo100 vq1 (.int x_mm_clauses))))]) hD hS hA [0] rfl
  refine va_calli (va_runV (As := [.int p1]) (rest := []) ⟨hx, hb, hml, hown, hts⟩ (c_X11_isClause l dC dI H.size h_mm vq1 x_mm_clauses p1 (by first | exact hx_mm_clauses | omega)) (cwV 1 hts (gv hT w_m_X11_174 w_instanceMethod_X11_isClause ws_sel_X11_isClause w_ini_X11 w_code_X11_isClause) rfl rfl rfl (by decide +kernel) ⟨(Nat.le_of_ble_eq_true rfl), (Nat.le_of_ble_eq_true rfl)⟩) ⟨pre_blind, va_recv hK hP (ci := 8) (q0 := 0) rfl rfl, pre_of hPc hKc hDc hN⟩ rfl rfl hl.1 rfl (lv_room (Nat.le_of_ble_eq_true rfl)) dX11_clause_7 ⟨(Nat.le_of_ble_eq_true rfl), (Nat.le_of_ble_eq_true rfl)⟩) hS (fun q _ h => hFc q h) hFc (fun r2 u t H locs ht hvm hq hB hz1 hk1 hS9 => ?_)
  obtain ⟨hP1, hD1⟩ := hB
  rw [ht] at hP1
  obtain ⟨hP9, hD9⟩ := va_join (wr := [(h_nv, .inl (cy_nv, 8000, .inl f_nv)), (h_na, .inl (cy_na, 8000, .inl f_na)), (h_nb, .inl (cy_nb, 8000, .inl f_nb)), (h_nc, .inl (cy_nc, 8000, .inl f_nc)), (h_mny, .inl (cy_mny, 32, .inl f_mny)), (h_tem, .inl (cy_tem, 192, .inl f_tem)), (h_vrs, .inl (cy_vrs, 32, .inl f_vrs)), (h_isn, .inl (cy_isn, 192, .inl f_isn))]) (w1 := [(h_mm, .inr (8, (mo100 vq1 (.int x_mm_clauses))))]) hP hD [0] [1, 2, 3, 4, 5, 6, 7, 8] rfl rfl (by decide) (by decide) hk1 hFc hP1 hD1
  clear hP hD hS hPc hDc hKc hFc hP1 hD1 hk1 hz1 ht hvm
  have hP : va_P (dC, dI) cls [(h_nv, .inl (cy_nv, 8000, .inl f_nv)), (h_na, .inl (cy_na, 8000, .inl f_na)), (h_nb, .inl (cy_nb, 8000, .inl f_nb)), (h_nc, .inl (cy_nc, 8000, .inl f_nc)), (h_mny, .inl (cy_mny, 32, .inl f_mny)), (h_tem, .inl (cy_tem, 192, .inl f_tem)), (h_vrs, .inl (cy_vrs, 32, .inl f_vrs)), (h_isn, .inl (cy_isn, 192, .inl f_isn)), (h_mm, .inr (8, (mo100 vq1 (.int x_mm_clauses))))] H := hP9
  have hD : va_D A [(h_nv, .inl (cy_nv, 8000, .inl f_nv)), (h_na, .inl (cy_na, 8000, .inl f_na)), (h_nb, .inl (cy_nb, 8000, .inl f_nb)), (h_nc, .inl (cy_nc, 8000, .inl f_nc)), (h_mny, .inl (cy_mny, 32, .inl f_mny)), (h_tem, .inl (cy_tem, 192, .inl f_tem)), (h_vrs, .inl (cy_vrs, 32, .inl f_vrs)), (h_isn, .inl (cy_isn, 192, .inl f_isn)), (h_mm, .inr (8, (mo100 vq1 (.int x_mm_clauses))))] := hD9
  have hS := hS9
  clear hP9 hD9 hS9
  rw [evq1] at hP hD
  replace hP : va_P (dC, dI) cls [(h_nv, .inl (cy_nv, 8000, .inl f_nv)), (h_na, .inl (cy_na, 8000, .inl f_na)), (h_nb, .inl (cy_nb, 8000, .inl f_nb)), (h_nc, .inl (cy_nc, 8000, .inl f_nc)), (h_mny, .inl (cy_mny, 32, .inl f_mny)), (h_tem, .inl (cy_tem, 192, .inl f_tem)), (h_vrs, .inl (cy_vrs, 32, .inl f_vrs)), (h_isn, .inl (cy_isn, 192, .inl f_isn)), (h_mm, .inr (8, (mo133 v_mm (.int 0) (.ref h_nv) (.ref h_na) (.ref h_nb) (.ref h_nc) (.int x_mm_clauses) (.ref h_mny) (.ref h_vrs) (.ref h_isn) (.ref h_tem))))] H := hP
  replace hD : va_D A [(h_nv, .inl (cy_nv, 8000, .inl f_nv)), (h_na, .inl (cy_na, 8000, .inl f_na)), (h_nb, .inl (cy_nb, 8000, .inl f_nb)), (h_nc, .inl (cy_nc, 8000, .inl f_nc)), (h_mny, .inl (cy_mny, 32, .inl f_mny)), (h_tem, .inl (cy_tem, 192, .inl f_tem)), (h_vrs, .inl (cy_vrs, 32, .inl f_vrs)), (h_isn, .inl (cy_isn, 192, .inl f_isn)), (h_mm, .inr (8, (mo133 v_mm (.int 0) (.ref h_nv) (.ref h_na) (.ref h_nb) (.ref h_nc) (.int x_mm_clauses) (.ref h_mny) (.ref h_vrs) (.ref h_isn) (.ref h_tem))))] := hD
  clear evq1 
  rcases hq with ⟨rfl, hq⟩ | ⟨rfl, hq⟩
  · replace hq : (0 ≤ ((p1)).toInt) ∧ (((p1)).toInt < ((x_mm_clauses)).toInt) := hq
    refine lv_if_ne (tgt := 15) hx hb dX11_clause_10 (by decide) (fun _ => ?_) (fun c9 => absurd c9 (by decide))
    refine lv_iload_n hx hb dX11_clause_15 rfl (lv_at hl 2 rfl) ?_
    have s3 : (p2).toInt < 0 ∨ 3 < (p2).toInt ∨ (p2).toInt = 0 ∨ (p2).toInt = 1 ∨ (p2).toInt = 2 ∨ (p2).toInt = 3 := by omega
    rcases s3 with s3 | s3 | s3 | s3 | s3 | s3
    · refine lv_tableOut (tgt := 74) hx hb dX11_clause_16 (Or.inl s3) (by decide) ?_
      refine lv_aload_n hx hb dX11_clause_74 rfl (lv_at hl 0 rfl) ?_
      refine lv_iload_n hx hb dX11_clause_75 rfl (lv_at hl 2 rfl) ?_
      refine lv_i2l hx hb dX11_clause_76 rfl ?_
      refine lv_topl (fun z4 ez4 => ?_)
      have tz4 : (z4).toInt = (p2).toInt := by rw [ez4]; exact Int32.toInt_toInt64 _
      have bz4 := i_bd p2
      refine lv_ldc2 (v := 10) hx hb hown (hw _ w_cl_X11_183) dX11_clause_77 ?_
      refine lv_ldc2 (v := 9) hx hb hown (hw _ w_cl_X11_185) dX11_clause_80 ?_
      refine lv_aload_n hx hb dX11_clause_83 rfl (lv_at hl 0 rfl) ?_
      refine va_get (D := (dC, dI)) (ci := 8) (v := .ref h_mny) (C := RX11) (T := TX11) (N := 71) hx hb hw iwX11 hown hK hP 8 rfl rfl 8 (by decide) (hw _ w_f_X11_142) (fun _ h9 => h9) rfl dX11_clause_84 ?_
      refine lv_iload_n hx hb dX11_clause_87 rfl (lv_at hl 1 rfl) ?_
      refine va_iald hx hb hK hP 4 4 rfl rfl (i := p1) (vp_in_iff.mpr (by omega)) dX11_clause_88 ?_
      refine lv_topi (fun z5 ez5 => ?_)
      have rz5 : 0 ≤ (z5).toInt ∧ (z5).toInt ≤ 6 := by rw [ez5]; exact hf_mny _
      have mlz5 : (f_mny (0 + (p1).toInt.toNat)).toInt = (z5).toInt := by rw [Nat.zero_add, ez5, clamp_nat (i := p1) (by omega)]
      have bp9 := i_bd p2
      refine lv_i2l hx hb dX11_clause_89 rfl ?_
      refine lv_topl (fun z6 ez6 => ?_)
      have tz6 : (z6).toInt = (z5).toInt := by rw [ez6]; exact Int32.toInt_toInt64 _
      have bz6 := i_bd z5
      refine lv_ladd hx hb dX11_clause_90 ?_
      refine lv_topl (fun z7 ez7 => ?_)
      have tz7 : (z7).toInt = 9 + (z6).toInt := by rw [ez7]; exact l_add (by decide) rfl (by omega)
      have : (10 : Int64).toInt = 10 := by decide
      have hPc := hP.sub (ws' := []) [] rfl
      have hDc := hD.sub (ws' := []) [] (by decide) rfl
      have hKc := hK.sub (tys' := []) [] rfl
      have hFc := va_free (wc := []) hD hS hA [] rfl
      refine va_calli (va_runV (As := [.long z4, .long 10, .long z7]) (rest := []) ⟨hx, hb, hml, hown, hts⟩ (c_X11_isIn l dC dI H.size h_mm z4 10 z7) (cwV 3 hts (gv hT w_m_X11_49 w_instanceMethod_X11_isIn ws_sel_X11_isIn w_ini_X11 w_code_X11_isIn) rfl rfl rfl (by decide +kernel) ⟨(Nat.le_of_ble_eq_true rfl), (Nat.le_of_ble_eq_true rfl)⟩) ⟨pre_blind, va_recv hK hP (ci := 8) (q0 := 8) rfl rfl, pre_of hPc hKc hDc hN⟩ rfl rfl hl.1 rfl (lv_room (Nat.le_of_ble_eq_true rfl)) dX11_clause_91 ⟨(Nat.le_of_ble_eq_true rfl), (Nat.le_of_ble_eq_true rfl)⟩) hS (fun q _ h => hFc q h) hFc (fun r8 u t H locs ht hvm hq hB hz1 hk1 hS9 => ?_)
      obtain ⟨hP1, hD1⟩ := hB
      rw [ht] at hP1
      obtain ⟨hP9, hD9⟩ := va_join (wr := [(h_nv, .inl (cy_nv, 8000, .inl f_nv)), (h_na, .inl (cy_na, 8000, .inl f_na)), (h_nb, .inl (cy_nb, 8000, .inl f_nb)), (h_nc, .inl (cy_nc, 8000, .inl f_nc)), (h_mny, .inl (cy_mny, 32, .inl f_mny)), (h_tem, .inl (cy_tem, 192, .inl f_tem)), (h_vrs, .inl (cy_vrs, 32, .inl f_vrs)), (h_isn, .inl (cy_isn, 192, .inl f_isn)), (h_mm, .inr (8, (mo133 v_mm (.int 0) (.ref h_nv) (.ref h_na) (.ref h_nb) (.ref h_nc) (.int x_mm_clauses) (.ref h_mny) (.ref h_vrs) (.ref h_isn) (.ref h_tem))))]) (w1 := []) hP hD [] [0, 1, 2, 3, 4, 5, 6, 7, 8] rfl rfl (by decide) (by decide) hk1 hFc hP1 hD1
      clear hP hD hS hPc hDc hKc hFc hP1 hD1 hk1 hz1 ht hvm
      have hP : va_P (dC, dI) cls [(h_nv, .inl (cy_nv, 8000, .inl f_nv)), (h_na, .inl (cy_na, 8000, .inl f_na)), (h_nb, .inl (cy_nb, 8000, .inl f_nb)), (h_nc, .inl (cy_nc, 8000, .inl f_nc)), (h_mny, .inl (cy_mny, 32, .inl f_mny)), (h_tem, .inl (cy_tem, 192, .inl f_tem)), (h_vrs, .inl (cy_vrs, 32, .inl f_vrs)), (h_isn, .inl (cy_isn, 192, .inl f_isn)), (h_mm, .inr (8, (mo133 v_mm (.int 0) (.ref h_nv) (.ref h_na) (.ref h_nb) (.ref h_nc) (.int x_mm_clauses) (.ref h_mny) (.ref h_vrs) (.ref h_isn) (.ref h_tem))))] H := hP9
      have hD : va_D A [(h_nv, .inl (cy_nv, 8000, .inl f_nv)), (h_na, .inl (cy_na, 8000, .inl f_na)), (h_nb, .inl (cy_nb, 8000, .inl f_nb)), (h_nc, .inl (cy_nc, 8000, .inl f_nc)), (h_mny, .inl (cy_mny, 32, .inl f_mny)), (h_tem, .inl (cy_tem, 192, .inl f_tem)), (h_vrs, .inl (cy_vrs, 32, .inl f_vrs)), (h_isn, .inl (cy_isn, 192, .inl f_isn)), (h_mm, .inr (8, (mo133 v_mm (.int 0) (.ref h_nv) (.ref h_na) (.ref h_nb) (.ref h_nc) (.int x_mm_clauses) (.ref h_mny) (.ref h_vrs) (.ref h_isn) (.ref h_tem))))] := hD9
      have hS := hS9
      clear hP9 hD9 hS9
      rcases hq with ⟨rfl, hq⟩ | ⟨rfl, hq⟩
      · replace hq : (((10 : Int64)).toInt ≤ ((z4)).toInt) ∧ (((z4)).toInt ≤ ((z7)).toInt) := hq
        refine lv_if_eq (tgt := 118) hx hb dX11_clause_94 (by decide) (fun c9 => absurd c9 (by decide)) (fun _ => ?_)
        refine lv_aload_n hx hb dX11_clause_97 rfl (lv_at hl 0 rfl) ?_
        refine lv_aload_n hx hb dX11_clause_98 rfl (lv_at hl 0 rfl) ?_
        refine va_get (D := (dC, dI)) (ci := 8) (v := .ref h_tem) (C := RX11) (T := TX11) (N := 71) hx hb hw iwX11 hown hK hP 8 rfl rfl 12 (by decide) (hw _ w_f_X11_152) (fun _ h9 => h9) rfl dX11_clause_99 ?_
        refine lv_aload_n hx hb dX11_clause_102 rfl (lv_at hl 0 rfl) ?_
        refine lv_iload_n hx hb dX11_clause_103 rfl (lv_at hl 1 rfl) ?_
        refine lv_iload_n hx hb dX11_clause_104 rfl (lv_at hl 2 rfl) ?_
        refine lv_bipush (v := 10) hx hb dX11_clause_105 (by decide) ?_
        refine lv_isub hx hb dX11_clause_107 ?_
        refine lv_topi (fun z9 ez9 => ?_)
        have tz9 : (z9).toInt = (p2).toInt - 10 := by rw [ez9]; exact i_sub rfl (by decide) (by omega)
        have hPc := hP.sub (ws' := []) [] rfl
        have hDc := hD.sub (ws' := []) [] (by decide) rfl
        have hKc := hK.sub (tys' := []) [] rfl
        have hFc := va_free (wc := []) hD hS hA [] rfl
        refine va_calli (va_runV (As := [.int p1, .int z9]) (rest := [.ref h_tem, .ref h_mm]) ⟨hx, hb, hml, hown, hts⟩ (c_X11_litAt l dC dI H.size h_mm p1 z9 (by omega) (by omega)) (cwV 2 hts (gv hT w_m_X11_149 w_instanceMethod_X11_litAt ws_sel_X11_litAt w_ini_X11 w_code_X11_litAt) rfl rfl rfl (by decide +kernel) ⟨(Nat.le_of_ble_eq_true rfl), (Nat.le_of_ble_eq_true rfl)⟩) ⟨pre_blind, va_recv hK hP (ci := 8) (q0 := 8) rfl rfl, pre_of hPc hKc hDc hN⟩ rfl rfl hl.1 rfl (lv_room (Nat.le_of_ble_eq_true rfl)) dX11_clause_108 ⟨(Nat.le_of_ble_eq_true rfl), (Nat.le_of_ble_eq_true rfl)⟩) hS (fun q _ h => hFc q h) hFc (fun r10 u t H locs ht hvm hq hB hz1 hk1 hS9 => ?_)
        obtain ⟨hP1, hD1⟩ := hB
        rw [ht] at hP1
        obtain ⟨hP9, hD9⟩ := va_join (wr := [(h_nv, .inl (cy_nv, 8000, .inl f_nv)), (h_na, .inl (cy_na, 8000, .inl f_na)), (h_nb, .inl (cy_nb, 8000, .inl f_nb)), (h_nc, .inl (cy_nc, 8000, .inl f_nc)), (h_mny, .inl (cy_mny, 32, .inl f_mny)), (h_tem, .inl (cy_tem, 192, .inl f_tem)), (h_vrs, .inl (cy_vrs, 32, .inl f_vrs)), (h_isn, .inl (cy_isn, 192, .inl f_isn)), (h_mm, .inr (8, (mo133 v_mm (.int 0) (.ref h_nv) (.ref h_na) (.ref h_nb) (.ref h_nc) (.int x_mm_clauses) (.ref h_mny) (.ref h_vrs) (.ref h_isn) (.ref h_tem))))]) (w1 := []) hP hD [] [0, 1, 2, 3, 4, 5, 6, 7, 8] rfl rfl (by decide) (by decide) hk1 hFc hP1 hD1
        clear hP hD hS hPc hDc hKc hFc hP1 hD1 hk1 hz1 ht hvm
        have hP : va_P (dC, dI) cls [(h_nv, .inl (cy_nv, 8000, .inl f_nv)), (h_na, .inl (cy_na, 8000, .inl f_na)), (h_nb, .inl (cy_nb, 8000, .inl f_nb)), (h_nc, .inl (cy_nc, 8000, .inl f_nc)), (h_mny, .inl (cy_mny, 32, .inl f_mny)), (h_tem, .inl (cy_tem, 192, .inl f_tem)), (h_vrs, .inl (cy_vrs, 32, .inl f_vrs)), (h_isn, .inl (cy_isn, 192, .inl f_isn)), (h_mm, .inr (8, (mo133 v_mm (.int 0) (.ref h_nv) (.ref h_na) (.ref h_nb) (.ref h_nc) (.int x_mm_clauses) (.ref h_mny) (.ref h_vrs) (.ref h_isn) (.ref h_tem))))] H := hP9
        have hD : va_D A [(h_nv, .inl (cy_nv, 8000, .inl f_nv)), (h_na, .inl (cy_na, 8000, .inl f_na)), (h_nb, .inl (cy_nb, 8000, .inl f_nb)), (h_nc, .inl (cy_nc, 8000, .inl f_nc)), (h_mny, .inl (cy_mny, 32, .inl f_mny)), (h_tem, .inl (cy_tem, 192, .inl f_tem)), (h_vrs, .inl (cy_vrs, 32, .inl f_vrs)), (h_isn, .inl (cy_isn, 192, .inl f_isn)), (h_mm, .inr (8, (mo133 v_mm (.int 0) (.ref h_nv) (.ref h_na) (.ref h_nb) (.ref h_nc) (.int x_mm_clauses) (.ref h_mny) (.ref h_vrs) (.ref h_isn) (.ref h_tem))))] := hD9
        have hS := hS9
        clear hP9 hD9 hS9
        obtain ⟨k11, k12⟩ := hq
        replace k11 : 0 ≤ (r10).toInt ∧ (r10).toInt ≤ 191 := k11
        replace k12 : ((r10)).toInt = 6 * ((p1)).toInt + ((z9)).toInt := k12
        refine va_iald hx hb hK hP 5 5 rfl rfl (i := r10) (vp_in_iff.mpr (by omega)) dX11_clause_111 ?_
        refine lv_topi (fun z13 ez13 => ?_)
        have rz13 : 0 ≤ (z13).toInt ∧ (z13).toInt ≤ 7999 := by rw [ez13]; exact hf_tem _
        have mzz5 : (f_mny (Int32.toNatClampNeg p1)).toInt = (z5).toInt := by rw [ez5]
        have tgz13 := tm_get (c := p1) (t := r10) (l := (p2).toInt - 10) hn_tms (by omega) (by omega) (by omega) ez13
        have ei9 : Int32.toNatClampNeg r10 = 6 * (0 + (p1).toInt.toNat) + ((p2).toInt - 10).toNat := by rw [clamp_nat (i := r10) (by omega)]; omega
        have ez9 : (z13).toInt.toNat = Int32.toNatClampNeg (f_tem (6 * (0 + (p1).toInt.toNat) + ((p2).toInt - 10).toNat)) := by rw [← ei9, ← ez13, clamp_nat (i := z13) (by omega)]
        have wv9 := (hn_wfr (p1).toInt.toNat (by omega) ((p2).toInt - 10).toNat (show (((p2).toInt - 10).toNat : Int) < (f_mny (0 + (p1).toInt.toNat)).toInt by omega)).2.2
        have wv8 : (f_nv (z13).toInt.toNat).toInt = -1 := by rw [ez9]; exact wv9
        obtain ⟨vq14, evq14⟩ := mq133_86 v_mm (.int 0) (.int x_mm_clauses) (.ref h_mny) (.ref h_vrs) (.ref h_isn) (.ref h_tem)
        replace hP : va_P (dC, dI) cls [(h_nv, .inl (cy_nv, 8000, .inl f_nv)), (h_na, .inl (cy_na, 8000, .inl f_na)), (h_nb, .inl (cy_nb, 8000, .inl f_nb)), (h_nc, .inl (cy_nc, 8000, .inl f_nc)), (h_mny, .inl (cy_mny, 32, .inl f_mny)), (h_tem, .inl (cy_tem, 192, .inl f_tem)), (h_vrs, .inl (cy_vrs, 32, .inl f_vrs)), (h_isn, .inl (cy_isn, 192, .inl f_isn)), (h_mm, .inr (8, (mo86 vq14 (.ref h_nv) (.ref h_na) (.ref h_nb) (.ref h_nc))))] H := by rw [evq14]; exact hP
        replace hD : va_D A [(h_nv, .inl (cy_nv, 8000, .inl f_nv)), (h_na, .inl (cy_na, 8000, .inl f_na)), (h_nb, .inl (cy_nb, 8000, .inl f_nb)), (h_nc, .inl (cy_nc, 8000, .inl f_nc)), (h_mny, .inl (cy_mny, 32, .inl f_mny)), (h_tem, .inl (cy_tem, 192, .inl f_tem)), (h_vrs, .inl (cy_vrs, 32, .inl f_vrs)), (h_isn, .inl (cy_isn, 192, .inl f_isn)), (h_mm, .inr (8, (mo86 vq14 (.ref h_nv) (.ref h_na) (.ref h_nb) (.ref h_nc))))] := by rw [evq14]; exact hD
        have hPc := hP.sub (ws' := [(h_mm, .inr (8, (mo86 vq14 (.ref h_nv) (.ref h_na) (.ref h_nb) (.ref h_nc)))), (h_nv, .inl (cy_nv, 8000, .inl f_nv)), (h_na, .inl (cy_na, 8000, .inl f_na)), (h_nb, .inl (cy_nb, 8000, .inl f_nb)), (h_nc, .inl (cy_nc, 8000, .inl f_nc))]) [8, 0, 1, 2, 3] rfl
        have hDc := hD.sub (ws' := [(h_mm, .inr (8, (mo86 vq14 (.ref h_nv) (.ref h_na) (.ref h_nb) (.ref h_nc)))), (h_nv, .inl (cy_nv, 8000, .inl f_nv)), (h_na, .inl (cy_na, 8000, .inl f_na)), (h_nb, .inl (cy_nb, 8000, .inl f_nb)), (h_nc, .inl (cy_nc, 8000, .inl f_nc))]) [8, 0, 1, 2, 3] (by decide) rfl
        have hKc := hK.sub (tys' := [(cy_nv, .int), (cy_na, .int), (cy_nb, .int), (cy_nc, .int)]) [0, 1, 2, 3] rfl
        have hFc := va_free (wc := [(h_mm, .inr (8, (mo86 vq14 (.ref h_nv) (.ref h_na) (.ref h_nb) (.ref h_nc)))), (h_nv, .inl (cy_nv, 8000, .inl f_nv)), (h_na, .inl (cy_na, 8000, .inl f_na)), (h_nb, .inl (cy_nb, 8000, .inl f_nb)), (h_nc, .inl (cy_nc, 8000, .inl f_nc))]) hD hS hA [8, 0, 1, 2, 3] rfl
        refine va_calli (va_runV (As := [.int z13]) (rest := []) ⟨hx, hb, hml, hown, hts⟩ (c_X11_partsAt_e l dC dI H.size h_mm h_nv h_na h_nb h_nc vq14 cy_nv f_nv cy_na f_na cy_nb f_nb cy_nc f_nc z13 hf_nv hf_na hf_nb hf_nc (by omega)) (cwV 1 hts (gv hT w_m_X11_27 w_instanceMethod_X11_partsAt ws_sel_X11_partsAt w_ini_X11 w_code_X11_partsAt) rfl rfl rfl (by decide +kernel) ⟨(Nat.le_of_ble_eq_true rfl), (Nat.le_of_ble_eq_true rfl)⟩) ⟨pre_blind, va_recv hK hP (ci := 8) (q0 := 8) rfl rfl, pre_of hPc hKc hDc hN⟩ rfl rfl hl.1 rfl (lv_room (Nat.le_of_ble_eq_true rfl)) dX11_clause_112 ⟨(Nat.le_of_ble_eq_true rfl), (Nat.le_of_ble_eq_true rfl)⟩) hS (fun q _ h => hFc q h) hFc (fun r15 u t H locs ht hvm hq hB hz1 hk1 hS9 => ?_)
        obtain ⟨hP1, hD1⟩ := hB
        rw [ht] at hP1
        obtain ⟨hP9, hD9⟩ := va_join (wr := [(h_mny, .inl (cy_mny, 32, .inl f_mny)), (h_tem, .inl (cy_tem, 192, .inl f_tem)), (h_vrs, .inl (cy_vrs, 32, .inl f_vrs)), (h_isn, .inl (cy_isn, 192, .inl f_isn))]) (w1 := [(h_mm, .inr (8, (mo86 vq14 (.ref h_nv) (.ref h_na) (.ref h_nb) (.ref h_nc)))), (h_nv, .inl (cy_nv, 8000, .inl f_nv)), (h_na, .inl (cy_na, 8000, .inl f_na)), (h_nb, .inl (cy_nb, 8000, .inl f_nb)), (h_nc, .inl (cy_nc, 8000, .inl f_nc))]) hP hD [8, 0, 1, 2, 3] [4, 5, 6, 7] rfl rfl (by decide) (by decide) hk1 hFc hP1 hD1
        clear hP hD hS hPc hDc hKc hFc hP1 hD1 hk1 hz1 ht hvm
        have hP : va_P (dC, dI) cls [(h_mny, .inl (cy_mny, 32, .inl f_mny)), (h_tem, .inl (cy_tem, 192, .inl f_tem)), (h_vrs, .inl (cy_vrs, 32, .inl f_vrs)), (h_isn, .inl (cy_isn, 192, .inl f_isn)), (h_mm, .inr (8, (mo86 vq14 (.ref h_nv) (.ref h_na) (.ref h_nb) (.ref h_nc)))), (h_nv, .inl (cy_nv, 8000, .inl f_nv)), (h_na, .inl (cy_na, 8000, .inl f_na)), (h_nb, .inl (cy_nb, 8000, .inl f_nb)), (h_nc, .inl (cy_nc, 8000, .inl f_nc))] H := hP9
        have hD : va_D A [(h_mny, .inl (cy_mny, 32, .inl f_mny)), (h_tem, .inl (cy_tem, 192, .inl f_tem)), (h_vrs, .inl (cy_vrs, 32, .inl f_vrs)), (h_isn, .inl (cy_isn, 192, .inl f_isn)), (h_mm, .inr (8, (mo86 vq14 (.ref h_nv) (.ref h_na) (.ref h_nb) (.ref h_nc)))), (h_nv, .inl (cy_nv, 8000, .inl f_nv)), (h_na, .inl (cy_na, 8000, .inl f_na)), (h_nb, .inl (cy_nb, 8000, .inl f_nb)), (h_nc, .inl (cy_nc, 8000, .inl f_nc))] := hD9
        have hS := hS9
        clear hP9 hD9 hS9
        rw [evq14] at hP hD
        replace hP : va_P (dC, dI) cls [(h_mny, .inl (cy_mny, 32, .inl f_mny)), (h_tem, .inl (cy_tem, 192, .inl f_tem)), (h_vrs, .inl (cy_vrs, 32, .inl f_vrs)), (h_isn, .inl (cy_isn, 192, .inl f_isn)), (h_mm, .inr (8, (mo133 v_mm (.int 0) (.ref h_nv) (.ref h_na) (.ref h_nb) (.ref h_nc) (.int x_mm_clauses) (.ref h_mny) (.ref h_vrs) (.ref h_isn) (.ref h_tem)))), (h_nv, .inl (cy_nv, 8000, .inl f_nv)), (h_na, .inl (cy_na, 8000, .inl f_na)), (h_nb, .inl (cy_nb, 8000, .inl f_nb)), (h_nc, .inl (cy_nc, 8000, .inl f_nc))] H := hP
        replace hD : va_D A [(h_mny, .inl (cy_mny, 32, .inl f_mny)), (h_tem, .inl (cy_tem, 192, .inl f_tem)), (h_vrs, .inl (cy_vrs, 32, .inl f_vrs)), (h_isn, .inl (cy_isn, 192, .inl f_isn)), (h_mm, .inr (8, (mo133 v_mm (.int 0) (.ref h_nv) (.ref h_na) (.ref h_nb) (.ref h_nc) (.int x_mm_clauses) (.ref h_mny) (.ref h_vrs) (.ref h_isn) (.ref h_tem)))), (h_nv, .inl (cy_nv, 8000, .inl f_nv)), (h_na, .inl (cy_na, 8000, .inl f_na)), (h_nb, .inl (cy_nb, 8000, .inl f_nb)), (h_nc, .inl (cy_nc, 8000, .inl f_nc))] := hD
        clear evq14 
        obtain ⟨k16, k17⟩ := hq
        replace k16 : 0 ≤ (r15).toInt ∧ (r15).toInt ≤ 3 := k16
        replace k17 : ((r15)).toInt = (npx f_nv f_na f_nb f_nc ((z13)).toInt.toNat) := k17
        have cv9 := k17
        rw [← rvw_ar (nn := nnx) wv8, ez9] at cv9
        refine lv_goto (tgt := 119) hx hb dX11_clause_115 (by decide) ?_
        replace hP : va_P (dC, dI) cls [(h_mm, .inr (8, (mo133 v_mm (.int 0) (.ref h_nv) (.ref h_na) (.ref h_nb) (.ref h_nc) (.int x_mm_clauses) (.ref h_mny) (.ref h_vrs) (.ref h_isn) (.ref h_tem)))), (h_nv, .inl (cy_nv, 8000, .inl f_nv)), (h_na, .inl (cy_na, 8000, .inl f_na)), (h_nb, .inl (cy_nb, 8000, .inl f_nb)), (h_nc, .inl (cy_nc, 8000, .inl f_nc)), (h_mny, .inl (cy_mny, 32, .inl f_mny)), (h_tem, .inl (cy_tem, 192, .inl f_tem)), (h_vrs, .inl (cy_vrs, 32, .inl f_vrs)), (h_isn, .inl (cy_isn, 192, .inl f_isn))] H := hP.sub [4, 5, 6, 7, 8, 0, 1, 2, 3] rfl
        replace hD : va_D A [(h_mm, .inr (8, (mo133 v_mm (.int 0) (.ref h_nv) (.ref h_na) (.ref h_nb) (.ref h_nc) (.int x_mm_clauses) (.ref h_mny) (.ref h_vrs) (.ref h_isn) (.ref h_tem)))), (h_nv, .inl (cy_nv, 8000, .inl f_nv)), (h_na, .inl (cy_na, 8000, .inl f_na)), (h_nb, .inl (cy_nb, 8000, .inl f_nb)), (h_nc, .inl (cy_nc, 8000, .inl f_nc)), (h_mny, .inl (cy_mny, 32, .inl f_mny)), (h_tem, .inl (cy_tem, 192, .inl f_tem)), (h_vrs, .inl (cy_vrs, 32, .inl f_vrs)), (h_isn, .inl (cy_isn, 192, .inl f_isn))] := hD.sub [4, 5, 6, 7, 8, 0, 1, 2, 3] (by decide) rfl
        refine W.widen (k := 0) (n := 0) (Nat.le_of_ble_eq_true rfl) (Nat.le_of_ble_eq_true rfl) ?_
        have cst0 : (0 : Int32).toInt = 0 := by decide
        have w18 : CLV (RVW f_nv nnx f_na f_nb f_nc) (RLX 0 f_mny f_vrs f_isn f_tem) (fun j => bsX (fun k => 1 - (f_isn (6 * j + k)).toInt) (f_mny j).toInt.toNat) (x_mm_clauses).toInt (p1).toInt (p2).toInt ((r15 : Int32)).toInt := (clv_5 (by omega) (show 10 ≤ (p2).toInt ∧ (p2).toInt - 10 < (f_mny (0 + (p1).toInt.toNat)).toInt by omega) cv9)
        exact W.iret (v := r15) hx hb hr (fun t ht hW => ⟨⟨r15, 0, rfl, w18, by rw [ht]; exact hP, hD⟩, hS.F ht⟩) hS.2.2 dX11_clause_119
      · replace hq : (((z4)).toInt < ((10 : Int64)).toInt ∨ ((z7)).toInt < ((z4)).toInt) := hq
        refine lv_if_eq (tgt := 118) hx hb dX11_clause_94 (by decide) (fun _ => ?_) (fun c9 => absurd c9 (by decide))
        refine lv_iconst (v := (-1)) hx hb dX11_clause_118 (by decide) ?_
        replace hP : va_P (dC, dI) cls [(h_mm, .inr (8, (mo133 v_mm (.int 0) (.ref h_nv) (.ref h_na) (.ref h_nb) (.ref h_nc) (.int x_mm_clauses) (.ref h_mny) (.ref h_vrs) (.ref h_isn) (.ref h_tem)))), (h_nv, .inl (cy_nv, 8000, .inl f_nv)), (h_na, .inl (cy_na, 8000, .inl f_na)), (h_nb, .inl (cy_nb, 8000, .inl f_nb)), (h_nc, .inl (cy_nc, 8000, .inl f_nc)), (h_mny, .inl (cy_mny, 32, .inl f_mny)), (h_tem, .inl (cy_tem, 192, .inl f_tem)), (h_vrs, .inl (cy_vrs, 32, .inl f_vrs)), (h_isn, .inl (cy_isn, 192, .inl f_isn))] H := hP.sub [8, 0, 1, 2, 3, 4, 5, 6, 7] rfl
        replace hD : va_D A [(h_mm, .inr (8, (mo133 v_mm (.int 0) (.ref h_nv) (.ref h_na) (.ref h_nb) (.ref h_nc) (.int x_mm_clauses) (.ref h_mny) (.ref h_vrs) (.ref h_isn) (.ref h_tem)))), (h_nv, .inl (cy_nv, 8000, .inl f_nv)), (h_na, .inl (cy_na, 8000, .inl f_na)), (h_nb, .inl (cy_nb, 8000, .inl f_nb)), (h_nc, .inl (cy_nc, 8000, .inl f_nc)), (h_mny, .inl (cy_mny, 32, .inl f_mny)), (h_tem, .inl (cy_tem, 192, .inl f_tem)), (h_vrs, .inl (cy_vrs, 32, .inl f_vrs)), (h_isn, .inl (cy_isn, 192, .inl f_isn))] := hD.sub [8, 0, 1, 2, 3, 4, 5, 6, 7] (by decide) rfl
        refine W.widen (k := 0) (n := 0) (Nat.le_of_ble_eq_true rfl) (Nat.le_of_ble_eq_true rfl) ?_
        have cstm1 : ((-1) : Int32).toInt = -1 := by decide
        have cst0 : (0 : Int32).toInt = 0 := by decide
        have w19 : CLV (RVW f_nv nnx f_na f_nb f_nc) (RLX 0 f_mny f_vrs f_isn f_tem) (fun j => bsX (fun k => 1 - (f_isn (6 * j + k)).toInt) (f_mny j).toInt.toNat) (x_mm_clauses).toInt (p1).toInt (p2).toInt (((-1) : Int32)).toInt := (clv_4 (by omega) (by omega) (show (p2).toInt < 10 ∨ (f_mny (0 + (p1).toInt.toNat)).toInt ≤ (p2).toInt - 10 by omega) (by decide))
        exact W.iret (v := (-1)) hx hb hr (fun t ht hW => ⟨⟨(-1), 0, rfl, w19, by rw [ht]; exact hP, hD⟩, hS.F ht⟩) hS.2.2 dX11_clause_119
    · refine lv_tableOut (tgt := 74) hx hb dX11_clause_16 (Or.inr s3) (by decide) ?_
      refine lv_aload_n hx hb dX11_clause_74 rfl (lv_at hl 0 rfl) ?_
      refine lv_iload_n hx hb dX11_clause_75 rfl (lv_at hl 2 rfl) ?_
      refine lv_i2l hx hb dX11_clause_76 rfl ?_
      refine lv_topl (fun z20 ez20 => ?_)
      have tz20 : (z20).toInt = (p2).toInt := by rw [ez20]; exact Int32.toInt_toInt64 _
      have bz20 := i_bd p2
      refine lv_ldc2 (v := 10) hx hb hown (hw _ w_cl_X11_183) dX11_clause_77 ?_
      refine lv_ldc2 (v := 9) hx hb hown (hw _ w_cl_X11_185) dX11_clause_80 ?_
      refine lv_aload_n hx hb dX11_clause_83 rfl (lv_at hl 0 rfl) ?_
      refine va_get (D := (dC, dI)) (ci := 8) (v := .ref h_mny) (C := RX11) (T := TX11) (N := 71) hx hb hw iwX11 hown hK hP 8 rfl rfl 8 (by decide) (hw _ w_f_X11_142) (fun _ h9 => h9) rfl dX11_clause_84 ?_
      refine lv_iload_n hx hb dX11_clause_87 rfl (lv_at hl 1 rfl) ?_
      refine va_iald hx hb hK hP 4 4 rfl rfl (i := p1) (vp_in_iff.mpr (by omega)) dX11_clause_88 ?_
      refine lv_topi (fun z21 ez21 => ?_)
      have rz21 : 0 ≤ (z21).toInt ∧ (z21).toInt ≤ 6 := by rw [ez21]; exact hf_mny _
      have mlz21 : (f_mny (0 + (p1).toInt.toNat)).toInt = (z21).toInt := by rw [Nat.zero_add, ez21, clamp_nat (i := p1) (by omega)]
      have bp9 := i_bd p2
      refine lv_i2l hx hb dX11_clause_89 rfl ?_
      refine lv_topl (fun z22 ez22 => ?_)
      have tz22 : (z22).toInt = (z21).toInt := by rw [ez22]; exact Int32.toInt_toInt64 _
      have bz22 := i_bd z21
      refine lv_ladd hx hb dX11_clause_90 ?_
      refine lv_topl (fun z23 ez23 => ?_)
      have tz23 : (z23).toInt = 9 + (z22).toInt := by rw [ez23]; exact l_add (by decide) rfl (by omega)
      have : (10 : Int64).toInt = 10 := by decide
      have hPc := hP.sub (ws' := []) [] rfl
      have hDc := hD.sub (ws' := []) [] (by decide) rfl
      have hKc := hK.sub (tys' := []) [] rfl
      have hFc := va_free (wc := []) hD hS hA [] rfl
      refine va_calli (va_runV (As := [.long z20, .long 10, .long z23]) (rest := []) ⟨hx, hb, hml, hown, hts⟩ (c_X11_isIn l dC dI H.size h_mm z20 10 z23) (cwV 3 hts (gv hT w_m_X11_49 w_instanceMethod_X11_isIn ws_sel_X11_isIn w_ini_X11 w_code_X11_isIn) rfl rfl rfl (by decide +kernel) ⟨(Nat.le_of_ble_eq_true rfl), (Nat.le_of_ble_eq_true rfl)⟩) ⟨pre_blind, va_recv hK hP (ci := 8) (q0 := 8) rfl rfl, pre_of hPc hKc hDc hN⟩ rfl rfl hl.1 rfl (lv_room (Nat.le_of_ble_eq_true rfl)) dX11_clause_91 ⟨(Nat.le_of_ble_eq_true rfl), (Nat.le_of_ble_eq_true rfl)⟩) hS (fun q _ h => hFc q h) hFc (fun r24 u t H locs ht hvm hq hB hz1 hk1 hS9 => ?_)
      obtain ⟨hP1, hD1⟩ := hB
      rw [ht] at hP1
      obtain ⟨hP9, hD9⟩ := va_join (wr := [(h_nv, .inl (cy_nv, 8000, .inl f_nv)), (h_na, .inl (cy_na, 8000, .inl f_na)), (h_nb, .inl (cy_nb, 8000, .inl f_nb)), (h_nc, .inl (cy_nc, 8000, .inl f_nc)), (h_mny, .inl (cy_mny, 32, .inl f_mny)), (h_tem, .inl (cy_tem, 192, .inl f_tem)), (h_vrs, .inl (cy_vrs, 32, .inl f_vrs)), (h_isn, .inl (cy_isn, 192, .inl f_isn)), (h_mm, .inr (8, (mo133 v_mm (.int 0) (.ref h_nv) (.ref h_na) (.ref h_nb) (.ref h_nc) (.int x_mm_clauses) (.ref h_mny) (.ref h_vrs) (.ref h_isn) (.ref h_tem))))]) (w1 := []) hP hD [] [0, 1, 2, 3, 4, 5, 6, 7, 8] rfl rfl (by decide) (by decide) hk1 hFc hP1 hD1
      clear hP hD hS hPc hDc hKc hFc hP1 hD1 hk1 hz1 ht hvm
      have hP : va_P (dC, dI) cls [(h_nv, .inl (cy_nv, 8000, .inl f_nv)), (h_na, .inl (cy_na, 8000, .inl f_na)), (h_nb, .inl (cy_nb, 8000, .inl f_nb)), (h_nc, .inl (cy_nc, 8000, .inl f_nc)), (h_mny, .inl (cy_mny, 32, .inl f_mny)), (h_tem, .inl (cy_tem, 192, .inl f_tem)), (h_vrs, .inl (cy_vrs, 32, .inl f_vrs)), (h_isn, .inl (cy_isn, 192, .inl f_isn)), (h_mm, .inr (8, (mo133 v_mm (.int 0) (.ref h_nv) (.ref h_na) (.ref h_nb) (.ref h_nc) (.int x_mm_clauses) (.ref h_mny) (.ref h_vrs) (.ref h_isn) (.ref h_tem))))] H := hP9
      have hD : va_D A [(h_nv, .inl (cy_nv, 8000, .inl f_nv)), (h_na, .inl (cy_na, 8000, .inl f_na)), (h_nb, .inl (cy_nb, 8000, .inl f_nb)), (h_nc, .inl (cy_nc, 8000, .inl f_nc)), (h_mny, .inl (cy_mny, 32, .inl f_mny)), (h_tem, .inl (cy_tem, 192, .inl f_tem)), (h_vrs, .inl (cy_vrs, 32, .inl f_vrs)), (h_isn, .inl (cy_isn, 192, .inl f_isn)), (h_mm, .inr (8, (mo133 v_mm (.int 0) (.ref h_nv) (.ref h_na) (.ref h_nb) (.ref h_nc) (.int x_mm_clauses) (.ref h_mny) (.ref h_vrs) (.ref h_isn) (.ref h_tem))))] := hD9
      have hS := hS9
      clear hP9 hD9 hS9
      rcases hq with ⟨rfl, hq⟩ | ⟨rfl, hq⟩
      · replace hq : (((10 : Int64)).toInt ≤ ((z20)).toInt) ∧ (((z20)).toInt ≤ ((z23)).toInt) := hq
        refine lv_if_eq (tgt := 118) hx hb dX11_clause_94 (by decide) (fun c9 => absurd c9 (by decide)) (fun _ => ?_)
        refine lv_aload_n hx hb dX11_clause_97 rfl (lv_at hl 0 rfl) ?_
        refine lv_aload_n hx hb dX11_clause_98 rfl (lv_at hl 0 rfl) ?_
        refine va_get (D := (dC, dI)) (ci := 8) (v := .ref h_tem) (C := RX11) (T := TX11) (N := 71) hx hb hw iwX11 hown hK hP 8 rfl rfl 12 (by decide) (hw _ w_f_X11_152) (fun _ h9 => h9) rfl dX11_clause_99 ?_
        refine lv_aload_n hx hb dX11_clause_102 rfl (lv_at hl 0 rfl) ?_
        refine lv_iload_n hx hb dX11_clause_103 rfl (lv_at hl 1 rfl) ?_
        refine lv_iload_n hx hb dX11_clause_104 rfl (lv_at hl 2 rfl) ?_
        refine lv_bipush (v := 10) hx hb dX11_clause_105 (by decide) ?_
        refine lv_isub hx hb dX11_clause_107 ?_
        refine lv_topi (fun z25 ez25 => ?_)
        have tz25 : (z25).toInt = (p2).toInt - 10 := by rw [ez25]; exact i_sub rfl (by decide) (by omega)
        have hPc := hP.sub (ws' := []) [] rfl
        have hDc := hD.sub (ws' := []) [] (by decide) rfl
        have hKc := hK.sub (tys' := []) [] rfl
        have hFc := va_free (wc := []) hD hS hA [] rfl
        refine va_calli (va_runV (As := [.int p1, .int z25]) (rest := [.ref h_tem, .ref h_mm]) ⟨hx, hb, hml, hown, hts⟩ (c_X11_litAt l dC dI H.size h_mm p1 z25 (by omega) (by omega)) (cwV 2 hts (gv hT w_m_X11_149 w_instanceMethod_X11_litAt ws_sel_X11_litAt w_ini_X11 w_code_X11_litAt) rfl rfl rfl (by decide +kernel) ⟨(Nat.le_of_ble_eq_true rfl), (Nat.le_of_ble_eq_true rfl)⟩) ⟨pre_blind, va_recv hK hP (ci := 8) (q0 := 8) rfl rfl, pre_of hPc hKc hDc hN⟩ rfl rfl hl.1 rfl (lv_room (Nat.le_of_ble_eq_true rfl)) dX11_clause_108 ⟨(Nat.le_of_ble_eq_true rfl), (Nat.le_of_ble_eq_true rfl)⟩) hS (fun q _ h => hFc q h) hFc (fun r26 u t H locs ht hvm hq hB hz1 hk1 hS9 => ?_)
        obtain ⟨hP1, hD1⟩ := hB
        rw [ht] at hP1
        obtain ⟨hP9, hD9⟩ := va_join (wr := [(h_nv, .inl (cy_nv, 8000, .inl f_nv)), (h_na, .inl (cy_na, 8000, .inl f_na)), (h_nb, .inl (cy_nb, 8000, .inl f_nb)), (h_nc, .inl (cy_nc, 8000, .inl f_nc)), (h_mny, .inl (cy_mny, 32, .inl f_mny)), (h_tem, .inl (cy_tem, 192, .inl f_tem)), (h_vrs, .inl (cy_vrs, 32, .inl f_vrs)), (h_isn, .inl (cy_isn, 192, .inl f_isn)), (h_mm, .inr (8, (mo133 v_mm (.int 0) (.ref h_nv) (.ref h_na) (.ref h_nb) (.ref h_nc) (.int x_mm_clauses) (.ref h_mny) (.ref h_vrs) (.ref h_isn) (.ref h_tem))))]) (w1 := []) hP hD [] [0, 1, 2, 3, 4, 5, 6, 7, 8] rfl rfl (by decide) (by decide) hk1 hFc hP1 hD1
        clear hP hD hS hPc hDc hKc hFc hP1 hD1 hk1 hz1 ht hvm
        have hP : va_P (dC, dI) cls [(h_nv, .inl (cy_nv, 8000, .inl f_nv)), (h_na, .inl (cy_na, 8000, .inl f_na)), (h_nb, .inl (cy_nb, 8000, .inl f_nb)), (h_nc, .inl (cy_nc, 8000, .inl f_nc)), (h_mny, .inl (cy_mny, 32, .inl f_mny)), (h_tem, .inl (cy_tem, 192, .inl f_tem)), (h_vrs, .inl (cy_vrs, 32, .inl f_vrs)), (h_isn, .inl (cy_isn, 192, .inl f_isn)), (h_mm, .inr (8, (mo133 v_mm (.int 0) (.ref h_nv) (.ref h_na) (.ref h_nb) (.ref h_nc) (.int x_mm_clauses) (.ref h_mny) (.ref h_vrs) (.ref h_isn) (.ref h_tem))))] H := hP9
        have hD : va_D A [(h_nv, .inl (cy_nv, 8000, .inl f_nv)), (h_na, .inl (cy_na, 8000, .inl f_na)), (h_nb, .inl (cy_nb, 8000, .inl f_nb)), (h_nc, .inl (cy_nc, 8000, .inl f_nc)), (h_mny, .inl (cy_mny, 32, .inl f_mny)), (h_tem, .inl (cy_tem, 192, .inl f_tem)), (h_vrs, .inl (cy_vrs, 32, .inl f_vrs)), (h_isn, .inl (cy_isn, 192, .inl f_isn)), (h_mm, .inr (8, (mo133 v_mm (.int 0) (.ref h_nv) (.ref h_na) (.ref h_nb) (.ref h_nc) (.int x_mm_clauses) (.ref h_mny) (.ref h_vrs) (.ref h_isn) (.ref h_tem))))] := hD9
        have hS := hS9
        clear hP9 hD9 hS9
        obtain ⟨k27, k28⟩ := hq
        replace k27 : 0 ≤ (r26).toInt ∧ (r26).toInt ≤ 191 := k27
        replace k28 : ((r26)).toInt = 6 * ((p1)).toInt + ((z25)).toInt := k28
        refine va_iald hx hb hK hP 5 5 rfl rfl (i := r26) (vp_in_iff.mpr (by omega)) dX11_clause_111 ?_
        refine lv_topi (fun z29 ez29 => ?_)
        have rz29 : 0 ≤ (z29).toInt ∧ (z29).toInt ≤ 7999 := by rw [ez29]; exact hf_tem _
        have mzz21 : (f_mny (Int32.toNatClampNeg p1)).toInt = (z21).toInt := by rw [ez21]
        have tgz29 := tm_get (c := p1) (t := r26) (l := (p2).toInt - 10) hn_tms (by omega) (by omega) (by omega) ez29
        have ei9 : Int32.toNatClampNeg r26 = 6 * (0 + (p1).toInt.toNat) + ((p2).toInt - 10).toNat := by rw [clamp_nat (i := r26) (by omega)]; omega
        have ez9 : (z29).toInt.toNat = Int32.toNatClampNeg (f_tem (6 * (0 + (p1).toInt.toNat) + ((p2).toInt - 10).toNat)) := by rw [← ei9, ← ez29, clamp_nat (i := z29) (by omega)]
        have wv9 := (hn_wfr (p1).toInt.toNat (by omega) ((p2).toInt - 10).toNat (show (((p2).toInt - 10).toNat : Int) < (f_mny (0 + (p1).toInt.toNat)).toInt by omega)).2.2
        have wv8 : (f_nv (z29).toInt.toNat).toInt = -1 := by rw [ez9]; exact wv9
        obtain ⟨vq30, evq30⟩ := mq133_86 v_mm (.int 0) (.int x_mm_clauses) (.ref h_mny) (.ref h_vrs) (.ref h_isn) (.ref h_tem)
        replace hP : va_P (dC, dI) cls [(h_nv, .inl (cy_nv, 8000, .inl f_nv)), (h_na, .inl (cy_na, 8000, .inl f_na)), (h_nb, .inl (cy_nb, 8000, .inl f_nb)), (h_nc, .inl (cy_nc, 8000, .inl f_nc)), (h_mny, .inl (cy_mny, 32, .inl f_mny)), (h_tem, .inl (cy_tem, 192, .inl f_tem)), (h_vrs, .inl (cy_vrs, 32, .inl f_vrs)), (h_isn, .inl (cy_isn, 192, .inl f_isn)), (h_mm, .inr (8, (mo86 vq30 (.ref h_nv) (.ref h_na) (.ref h_nb) (.ref h_nc))))] H := by rw [evq30]; exact hP
        replace hD : va_D A [(h_nv, .inl (cy_nv, 8000, .inl f_nv)), (h_na, .inl (cy_na, 8000, .inl f_na)), (h_nb, .inl (cy_nb, 8000, .inl f_nb)), (h_nc, .inl (cy_nc, 8000, .inl f_nc)), (h_mny, .inl (cy_mny, 32, .inl f_mny)), (h_tem, .inl (cy_tem, 192, .inl f_tem)), (h_vrs, .inl (cy_vrs, 32, .inl f_vrs)), (h_isn, .inl (cy_isn, 192, .inl f_isn)), (h_mm, .inr (8, (mo86 vq30 (.ref h_nv) (.ref h_na) (.ref h_nb) (.ref h_nc))))] := by rw [evq30]; exact hD
        have hPc := hP.sub (ws' := [(h_mm, .inr (8, (mo86 vq30 (.ref h_nv) (.ref h_na) (.ref h_nb) (.ref h_nc)))), (h_nv, .inl (cy_nv, 8000, .inl f_nv)), (h_na, .inl (cy_na, 8000, .inl f_na)), (h_nb, .inl (cy_nb, 8000, .inl f_nb)), (h_nc, .inl (cy_nc, 8000, .inl f_nc))]) [8, 0, 1, 2, 3] rfl
        have hDc := hD.sub (ws' := [(h_mm, .inr (8, (mo86 vq30 (.ref h_nv) (.ref h_na) (.ref h_nb) (.ref h_nc)))), (h_nv, .inl (cy_nv, 8000, .inl f_nv)), (h_na, .inl (cy_na, 8000, .inl f_na)), (h_nb, .inl (cy_nb, 8000, .inl f_nb)), (h_nc, .inl (cy_nc, 8000, .inl f_nc))]) [8, 0, 1, 2, 3] (by decide) rfl
        have hKc := hK.sub (tys' := [(cy_nv, .int), (cy_na, .int), (cy_nb, .int), (cy_nc, .int)]) [0, 1, 2, 3] rfl
        have hFc := va_free (wc := [(h_mm, .inr (8, (mo86 vq30 (.ref h_nv) (.ref h_na) (.ref h_nb) (.ref h_nc)))), (h_nv, .inl (cy_nv, 8000, .inl f_nv)), (h_na, .inl (cy_na, 8000, .inl f_na)), (h_nb, .inl (cy_nb, 8000, .inl f_nb)), (h_nc, .inl (cy_nc, 8000, .inl f_nc))]) hD hS hA [8, 0, 1, 2, 3] rfl
        refine va_calli (va_runV (As := [.int z29]) (rest := []) ⟨hx, hb, hml, hown, hts⟩ (c_X11_partsAt_e l dC dI H.size h_mm h_nv h_na h_nb h_nc vq30 cy_nv f_nv cy_na f_na cy_nb f_nb cy_nc f_nc z29 hf_nv hf_na hf_nb hf_nc (by omega)) (cwV 1 hts (gv hT w_m_X11_27 w_instanceMethod_X11_partsAt ws_sel_X11_partsAt w_ini_X11 w_code_X11_partsAt) rfl rfl rfl (by decide +kernel) ⟨(Nat.le_of_ble_eq_true rfl), (Nat.le_of_ble_eq_true rfl)⟩) ⟨pre_blind, va_recv hK hP (ci := 8) (q0 := 8) rfl rfl, pre_of hPc hKc hDc hN⟩ rfl rfl hl.1 rfl (lv_room (Nat.le_of_ble_eq_true rfl)) dX11_clause_112 ⟨(Nat.le_of_ble_eq_true rfl), (Nat.le_of_ble_eq_true rfl)⟩) hS (fun q _ h => hFc q h) hFc (fun r31 u t H locs ht hvm hq hB hz1 hk1 hS9 => ?_)
        obtain ⟨hP1, hD1⟩ := hB
        rw [ht] at hP1
        obtain ⟨hP9, hD9⟩ := va_join (wr := [(h_mny, .inl (cy_mny, 32, .inl f_mny)), (h_tem, .inl (cy_tem, 192, .inl f_tem)), (h_vrs, .inl (cy_vrs, 32, .inl f_vrs)), (h_isn, .inl (cy_isn, 192, .inl f_isn))]) (w1 := [(h_mm, .inr (8, (mo86 vq30 (.ref h_nv) (.ref h_na) (.ref h_nb) (.ref h_nc)))), (h_nv, .inl (cy_nv, 8000, .inl f_nv)), (h_na, .inl (cy_na, 8000, .inl f_na)), (h_nb, .inl (cy_nb, 8000, .inl f_nb)), (h_nc, .inl (cy_nc, 8000, .inl f_nc))]) hP hD [8, 0, 1, 2, 3] [4, 5, 6, 7] rfl rfl (by decide) (by decide) hk1 hFc hP1 hD1
        clear hP hD hS hPc hDc hKc hFc hP1 hD1 hk1 hz1 ht hvm
        have hP : va_P (dC, dI) cls [(h_mny, .inl (cy_mny, 32, .inl f_mny)), (h_tem, .inl (cy_tem, 192, .inl f_tem)), (h_vrs, .inl (cy_vrs, 32, .inl f_vrs)), (h_isn, .inl (cy_isn, 192, .inl f_isn)), (h_mm, .inr (8, (mo86 vq30 (.ref h_nv) (.ref h_na) (.ref h_nb) (.ref h_nc)))), (h_nv, .inl (cy_nv, 8000, .inl f_nv)), (h_na, .inl (cy_na, 8000, .inl f_na)), (h_nb, .inl (cy_nb, 8000, .inl f_nb)), (h_nc, .inl (cy_nc, 8000, .inl f_nc))] H := hP9
        have hD : va_D A [(h_mny, .inl (cy_mny, 32, .inl f_mny)), (h_tem, .inl (cy_tem, 192, .inl f_tem)), (h_vrs, .inl (cy_vrs, 32, .inl f_vrs)), (h_isn, .inl (cy_isn, 192, .inl f_isn)), (h_mm, .inr (8, (mo86 vq30 (.ref h_nv) (.ref h_na) (.ref h_nb) (.ref h_nc)))), (h_nv, .inl (cy_nv, 8000, .inl f_nv)), (h_na, .inl (cy_na, 8000, .inl f_na)), (h_nb, .inl (cy_nb, 8000, .inl f_nb)), (h_nc, .inl (cy_nc, 8000, .inl f_nc))] := hD9
        have hS := hS9
        clear hP9 hD9 hS9
        rw [evq30] at hP hD
        replace hP : va_P (dC, dI) cls [(h_mny, .inl (cy_mny, 32, .inl f_mny)), (h_tem, .inl (cy_tem, 192, .inl f_tem)), (h_vrs, .inl (cy_vrs, 32, .inl f_vrs)), (h_isn, .inl (cy_isn, 192, .inl f_isn)), (h_mm, .inr (8, (mo133 v_mm (.int 0) (.ref h_nv) (.ref h_na) (.ref h_nb) (.ref h_nc) (.int x_mm_clauses) (.ref h_mny) (.ref h_vrs) (.ref h_isn) (.ref h_tem)))), (h_nv, .inl (cy_nv, 8000, .inl f_nv)), (h_na, .inl (cy_na, 8000, .inl f_na)), (h_nb, .inl (cy_nb, 8000, .inl f_nb)), (h_nc, .inl (cy_nc, 8000, .inl f_nc))] H := hP
        replace hD : va_D A [(h_mny, .inl (cy_mny, 32, .inl f_mny)), (h_tem, .inl (cy_tem, 192, .inl f_tem)), (h_vrs, .inl (cy_vrs, 32, .inl f_vrs)), (h_isn, .inl (cy_isn, 192, .inl f_isn)), (h_mm, .inr (8, (mo133 v_mm (.int 0) (.ref h_nv) (.ref h_na) (.ref h_nb) (.ref h_nc) (.int x_mm_clauses) (.ref h_mny) (.ref h_vrs) (.ref h_isn) (.ref h_tem)))), (h_nv, .inl (cy_nv, 8000, .inl f_nv)), (h_na, .inl (cy_na, 8000, .inl f_na)), (h_nb, .inl (cy_nb, 8000, .inl f_nb)), (h_nc, .inl (cy_nc, 8000, .inl f_nc))] := hD
        clear evq30 
        obtain ⟨k32, k33⟩ := hq
        replace k32 : 0 ≤ (r31).toInt ∧ (r31).toInt ≤ 3 := k32
        replace k33 : ((r31)).toInt = (npx f_nv f_na f_nb f_nc ((z29)).toInt.toNat) := k33
        have cv9 := k33
        rw [← rvw_ar (nn := nnx) wv8, ez9] at cv9
        refine lv_goto (tgt := 119) hx hb dX11_clause_115 (by decide) ?_
        replace hP : va_P (dC, dI) cls [(h_mm, .inr (8, (mo133 v_mm (.int 0) (.ref h_nv) (.ref h_na) (.ref h_nb) (.ref h_nc) (.int x_mm_clauses) (.ref h_mny) (.ref h_vrs) (.ref h_isn) (.ref h_tem)))), (h_nv, .inl (cy_nv, 8000, .inl f_nv)), (h_na, .inl (cy_na, 8000, .inl f_na)), (h_nb, .inl (cy_nb, 8000, .inl f_nb)), (h_nc, .inl (cy_nc, 8000, .inl f_nc)), (h_mny, .inl (cy_mny, 32, .inl f_mny)), (h_tem, .inl (cy_tem, 192, .inl f_tem)), (h_vrs, .inl (cy_vrs, 32, .inl f_vrs)), (h_isn, .inl (cy_isn, 192, .inl f_isn))] H := hP.sub [4, 5, 6, 7, 8, 0, 1, 2, 3] rfl
        replace hD : va_D A [(h_mm, .inr (8, (mo133 v_mm (.int 0) (.ref h_nv) (.ref h_na) (.ref h_nb) (.ref h_nc) (.int x_mm_clauses) (.ref h_mny) (.ref h_vrs) (.ref h_isn) (.ref h_tem)))), (h_nv, .inl (cy_nv, 8000, .inl f_nv)), (h_na, .inl (cy_na, 8000, .inl f_na)), (h_nb, .inl (cy_nb, 8000, .inl f_nb)), (h_nc, .inl (cy_nc, 8000, .inl f_nc)), (h_mny, .inl (cy_mny, 32, .inl f_mny)), (h_tem, .inl (cy_tem, 192, .inl f_tem)), (h_vrs, .inl (cy_vrs, 32, .inl f_vrs)), (h_isn, .inl (cy_isn, 192, .inl f_isn))] := hD.sub [4, 5, 6, 7, 8, 0, 1, 2, 3] (by decide) rfl
        refine W.widen (k := 0) (n := 0) (Nat.le_of_ble_eq_true rfl) (Nat.le_of_ble_eq_true rfl) ?_
        have cst0 : (0 : Int32).toInt = 0 := by decide
        have w34 : CLV (RVW f_nv nnx f_na f_nb f_nc) (RLX 0 f_mny f_vrs f_isn f_tem) (fun j => bsX (fun k => 1 - (f_isn (6 * j + k)).toInt) (f_mny j).toInt.toNat) (x_mm_clauses).toInt (p1).toInt (p2).toInt ((r31 : Int32)).toInt := (clv_5 (by omega) (show 10 ≤ (p2).toInt ∧ (p2).toInt - 10 < (f_mny (0 + (p1).toInt.toNat)).toInt by omega) cv9)
        exact W.iret (v := r31) hx hb hr (fun t ht hW => ⟨⟨r31, 0, rfl, w34, by rw [ht]; exact hP, hD⟩, hS.F ht⟩) hS.2.2 dX11_clause_119
      · replace hq : (((z20)).toInt < ((10 : Int64)).toInt ∨ ((z23)).toInt < ((z20)).toInt) := hq
        refine lv_if_eq (tgt := 118) hx hb dX11_clause_94 (by decide) (fun _ => ?_) (fun c9 => absurd c9 (by decide))
        refine lv_iconst (v := (-1)) hx hb dX11_clause_118 (by decide) ?_
        replace hP : va_P (dC, dI) cls [(h_mm, .inr (8, (mo133 v_mm (.int 0) (.ref h_nv) (.ref h_na) (.ref h_nb) (.ref h_nc) (.int x_mm_clauses) (.ref h_mny) (.ref h_vrs) (.ref h_isn) (.ref h_tem)))), (h_nv, .inl (cy_nv, 8000, .inl f_nv)), (h_na, .inl (cy_na, 8000, .inl f_na)), (h_nb, .inl (cy_nb, 8000, .inl f_nb)), (h_nc, .inl (cy_nc, 8000, .inl f_nc)), (h_mny, .inl (cy_mny, 32, .inl f_mny)), (h_tem, .inl (cy_tem, 192, .inl f_tem)), (h_vrs, .inl (cy_vrs, 32, .inl f_vrs)), (h_isn, .inl (cy_isn, 192, .inl f_isn))] H := hP.sub [8, 0, 1, 2, 3, 4, 5, 6, 7] rfl
        replace hD : va_D A [(h_mm, .inr (8, (mo133 v_mm (.int 0) (.ref h_nv) (.ref h_na) (.ref h_nb) (.ref h_nc) (.int x_mm_clauses) (.ref h_mny) (.ref h_vrs) (.ref h_isn) (.ref h_tem)))), (h_nv, .inl (cy_nv, 8000, .inl f_nv)), (h_na, .inl (cy_na, 8000, .inl f_na)), (h_nb, .inl (cy_nb, 8000, .inl f_nb)), (h_nc, .inl (cy_nc, 8000, .inl f_nc)), (h_mny, .inl (cy_mny, 32, .inl f_mny)), (h_tem, .inl (cy_tem, 192, .inl f_tem)), (h_vrs, .inl (cy_vrs, 32, .inl f_vrs)), (h_isn, .inl (cy_isn, 192, .inl f_isn))] := hD.sub [8, 0, 1, 2, 3, 4, 5, 6, 7] (by decide) rfl
        refine W.widen (k := 0) (n := 0) (Nat.le_of_ble_eq_true rfl) (Nat.le_of_ble_eq_true rfl) ?_
        have cstm1 : ((-1) : Int32).toInt = -1 := by decide
        have cst0 : (0 : Int32).toInt = 0 := by decide
        have w35 : CLV (RVW f_nv nnx f_na f_nb f_nc) (RLX 0 f_mny f_vrs f_isn f_tem) (fun j => bsX (fun k => 1 - (f_isn (6 * j + k)).toInt) (f_mny j).toInt.toNat) (x_mm_clauses).toInt (p1).toInt (p2).toInt (((-1) : Int32)).toInt := (clv_4 (by omega) (by omega) (show (p2).toInt < 10 ∨ (f_mny (0 + (p1).toInt.toNat)).toInt ≤ (p2).toInt - 10 by omega) (by decide))
        exact W.iret (v := (-1)) hx hb hr (fun t ht hW => ⟨⟨(-1), 0, rfl, w35, by rw [ht]; exact hP, hD⟩, hS.F ht⟩) hS.2.2 dX11_clause_119
    · refine lv_tableIn (off := 32) (tgt := 48) hx hb dX11_clause_16 (by omega) (by omega) (by rw [s3]; rfl) (by decide) ?_
      refine lv_aload_n hx hb dX11_clause_48 rfl (lv_at hl 0 rfl) ?_
      refine va_get (D := (dC, dI)) (ci := 8) (v := .ref h_mny) (C := RX11) (T := TX11) (N := 71) hx hb hw iwX11 hown hK hP 8 rfl rfl 8 (by decide) (hw _ w_f_X11_142) (fun _ h9 => h9) rfl dX11_clause_49 ?_
      refine lv_iload_n hx hb dX11_clause_52 rfl (lv_at hl 1 rfl) ?_
      refine va_iald hx hb hK hP 4 4 rfl rfl (i := p1) (vp_in_iff.mpr (by omega)) dX11_clause_53 ?_
      refine lv_topi (fun z36 ez36 => ?_)
      have rz36 : 0 ≤ (z36).toInt ∧ (z36).toInt ≤ 6 := by rw [ez36]; exact hf_mny _
      have cv9 : (z36).toInt = (f_mny (0 + (p1).toInt.toNat)).toInt := by rw [Nat.zero_add, ez36, clamp_nat (i := p1) (by omega)]
      replace hP : va_P (dC, dI) cls [(h_mm, .inr (8, (mo133 v_mm (.int 0) (.ref h_nv) (.ref h_na) (.ref h_nb) (.ref h_nc) (.int x_mm_clauses) (.ref h_mny) (.ref h_vrs) (.ref h_isn) (.ref h_tem)))), (h_nv, .inl (cy_nv, 8000, .inl f_nv)), (h_na, .inl (cy_na, 8000, .inl f_na)), (h_nb, .inl (cy_nb, 8000, .inl f_nb)), (h_nc, .inl (cy_nc, 8000, .inl f_nc)), (h_mny, .inl (cy_mny, 32, .inl f_mny)), (h_tem, .inl (cy_tem, 192, .inl f_tem)), (h_vrs, .inl (cy_vrs, 32, .inl f_vrs)), (h_isn, .inl (cy_isn, 192, .inl f_isn))] H := hP.sub [8, 0, 1, 2, 3, 4, 5, 6, 7] rfl
      replace hD : va_D A [(h_mm, .inr (8, (mo133 v_mm (.int 0) (.ref h_nv) (.ref h_na) (.ref h_nb) (.ref h_nc) (.int x_mm_clauses) (.ref h_mny) (.ref h_vrs) (.ref h_isn) (.ref h_tem)))), (h_nv, .inl (cy_nv, 8000, .inl f_nv)), (h_na, .inl (cy_na, 8000, .inl f_na)), (h_nb, .inl (cy_nb, 8000, .inl f_nb)), (h_nc, .inl (cy_nc, 8000, .inl f_nc)), (h_mny, .inl (cy_mny, 32, .inl f_mny)), (h_tem, .inl (cy_tem, 192, .inl f_tem)), (h_vrs, .inl (cy_vrs, 32, .inl f_vrs)), (h_isn, .inl (cy_isn, 192, .inl f_isn))] := hD.sub [8, 0, 1, 2, 3, 4, 5, 6, 7] (by decide) rfl
      refine W.widen (k := 0) (n := 0) (Nat.le_of_ble_eq_true rfl) (Nat.le_of_ble_eq_true rfl) ?_
      have cst0 : (0 : Int32).toInt = 0 := by decide
      have w37 : CLV (RVW f_nv nnx f_na f_nb f_nc) (RLX 0 f_mny f_vrs f_isn f_tem) (fun j => bsX (fun k => 1 - (f_isn (6 * j + k)).toInt) (f_mny j).toInt.toNat) (x_mm_clauses).toInt (p1).toInt (p2).toInt ((z36 : Int32)).toInt := (clv_0 (by omega) (by omega) cv9)
      exact W.iret (v := z36) hx hb hr (fun t ht hW => ⟨⟨z36, 0, rfl, w37, by rw [ht]; exact hP, hD⟩, hS.F ht⟩) hS.2.2 dX11_clause_54
    · refine lv_tableIn (off := 39) (tgt := 55) hx hb dX11_clause_16 (by omega) (by omega) (by rw [s3]; rfl) (by decide) ?_
      refine lv_aload_n hx hb dX11_clause_55 rfl (lv_at hl 0 rfl) ?_
      refine va_get (D := (dC, dI)) (ci := 8) (v := .ref h_vrs) (C := RX11) (T := TX11) (N := 71) hx hb hw iwX11 hown hK hP 8 rfl rfl 9 (by decide) (hw _ w_f_X11_102) (fun _ h9 => h9) rfl dX11_clause_56 ?_
      refine lv_iload_n hx hb dX11_clause_59 rfl (lv_at hl 1 rfl) ?_
      refine va_iald hx hb hK hP 6 6 rfl rfl (i := p1) (vp_in_iff.mpr (by omega)) dX11_clause_60 ?_
      refine lv_topi (fun z38 ez38 => ?_)
      have rz38 : 0 ≤ (z38).toInt ∧ (z38).toInt ≤ 8 := by rw [ez38]; exact hf_vrs _
      have cv9 : (z38).toInt = (f_vrs (0 + (p1).toInt.toNat)).toInt := by rw [Nat.zero_add, ez38, clamp_nat (i := p1) (by omega)]
      replace hP : va_P (dC, dI) cls [(h_mm, .inr (8, (mo133 v_mm (.int 0) (.ref h_nv) (.ref h_na) (.ref h_nb) (.ref h_nc) (.int x_mm_clauses) (.ref h_mny) (.ref h_vrs) (.ref h_isn) (.ref h_tem)))), (h_nv, .inl (cy_nv, 8000, .inl f_nv)), (h_na, .inl (cy_na, 8000, .inl f_na)), (h_nb, .inl (cy_nb, 8000, .inl f_nb)), (h_nc, .inl (cy_nc, 8000, .inl f_nc)), (h_mny, .inl (cy_mny, 32, .inl f_mny)), (h_tem, .inl (cy_tem, 192, .inl f_tem)), (h_vrs, .inl (cy_vrs, 32, .inl f_vrs)), (h_isn, .inl (cy_isn, 192, .inl f_isn))] H := hP.sub [8, 0, 1, 2, 3, 4, 5, 6, 7] rfl
      replace hD : va_D A [(h_mm, .inr (8, (mo133 v_mm (.int 0) (.ref h_nv) (.ref h_na) (.ref h_nb) (.ref h_nc) (.int x_mm_clauses) (.ref h_mny) (.ref h_vrs) (.ref h_isn) (.ref h_tem)))), (h_nv, .inl (cy_nv, 8000, .inl f_nv)), (h_na, .inl (cy_na, 8000, .inl f_na)), (h_nb, .inl (cy_nb, 8000, .inl f_nb)), (h_nc, .inl (cy_nc, 8000, .inl f_nc)), (h_mny, .inl (cy_mny, 32, .inl f_mny)), (h_tem, .inl (cy_tem, 192, .inl f_tem)), (h_vrs, .inl (cy_vrs, 32, .inl f_vrs)), (h_isn, .inl (cy_isn, 192, .inl f_isn))] := hD.sub [8, 0, 1, 2, 3, 4, 5, 6, 7] (by decide) rfl
      refine W.widen (k := 0) (n := 0) (Nat.le_of_ble_eq_true rfl) (Nat.le_of_ble_eq_true rfl) ?_
      have cst0 : (0 : Int32).toInt = 0 := by decide
      have w39 : CLV (RVW f_nv nnx f_na f_nb f_nc) (RLX 0 f_mny f_vrs f_isn f_tem) (fun j => bsX (fun k => 1 - (f_isn (6 * j + k)).toInt) (f_mny j).toInt.toNat) (x_mm_clauses).toInt (p1).toInt (p2).toInt ((z38 : Int32)).toInt := (clv_1 (by omega) (by omega) cv9)
      exact W.iret (v := z38) hx hb hr (fun t ht hW => ⟨⟨z38, 0, rfl, w39, by rw [ht]; exact hP, hD⟩, hS.F ht⟩) hS.2.2 dX11_clause_61
    · refine lv_tableIn (off := 46) (tgt := 62) hx hb dX11_clause_16 (by omega) (by omega) (by rw [s3]; rfl) (by decide) ?_
      refine lv_aload_n hx hb dX11_clause_62 rfl (lv_at hl 0 rfl) ?_
      refine lv_iload_n hx hb dX11_clause_63 rfl (lv_at hl 1 rfl) ?_
      obtain ⟨vq40, evq40⟩ := mq133_131 v_mm (.int 0) (.int x_mm_clauses) (.ref h_vrs) (.ref h_isn)
      replace hP : va_P (dC, dI) cls [(h_nv, .inl (cy_nv, 8000, .inl f_nv)), (h_na, .inl (cy_na, 8000, .inl f_na)), (h_nb, .inl (cy_nb, 8000, .inl f_nb)), (h_nc, .inl (cy_nc, 8000, .inl f_nc)), (h_mny, .inl (cy_mny, 32, .inl f_mny)), (h_tem, .inl (cy_tem, 192, .inl f_tem)), (h_vrs, .inl (cy_vrs, 32, .inl f_vrs)), (h_isn, .inl (cy_isn, 192, .inl f_isn)), (h_mm, .inr (8, (mo131 vq40 (.ref h_nv) (.ref h_na) (.ref h_nb) (.ref h_nc) (.ref h_mny) (.ref h_tem))))] H := by rw [evq40]; exact hP
      replace hD : va_D A [(h_nv, .inl (cy_nv, 8000, .inl f_nv)), (h_na, .inl (cy_na, 8000, .inl f_na)), (h_nb, .inl (cy_nb, 8000, .inl f_nb)), (h_nc, .inl (cy_nc, 8000, .inl f_nc)), (h_mny, .inl (cy_mny, 32, .inl f_mny)), (h_tem, .inl (cy_tem, 192, .inl f_tem)), (h_vrs, .inl (cy_vrs, 32, .inl f_vrs)), (h_isn, .inl (cy_isn, 192, .inl f_isn)), (h_mm, .inr (8, (mo131 vq40 (.ref h_nv) (.ref h_na) (.ref h_nb) (.ref h_nc) (.ref h_mny) (.ref h_tem))))] := by rw [evq40]; exact hD
      have hPc := hP.sub (ws' := [(h_mm, .inr (8, (mo131 vq40 (.ref h_nv) (.ref h_na) (.ref h_nb) (.ref h_nc) (.ref h_mny) (.ref h_tem)))), (h_nv, .inl (cy_nv, 8000, .inl f_nv)), (h_na, .inl (cy_na, 8000, .inl f_na)), (h_nb, .inl (cy_nb, 8000, .inl f_nb)), (h_nc, .inl (cy_nc, 8000, .inl f_nc)), (h_mny, .inl (cy_mny, 32, .inl f_mny)), (h_tem, .inl (cy_tem, 192, .inl f_tem))]) [8, 0, 1, 2, 3, 4, 5] rfl
      have hDc := hD.sub (ws' := [(h_mm, .inr (8, (mo131 vq40 (.ref h_nv) (.ref h_na) (.ref h_nb) (.ref h_nc) (.ref h_mny) (.ref h_tem)))), (h_nv, .inl (cy_nv, 8000, .inl f_nv)), (h_na, .inl (cy_na, 8000, .inl f_na)), (h_nb, .inl (cy_nb, 8000, .inl f_nb)), (h_nc, .inl (cy_nc, 8000, .inl f_nc)), (h_mny, .inl (cy_mny, 32, .inl f_mny)), (h_tem, .inl (cy_tem, 192, .inl f_tem))]) [8, 0, 1, 2, 3, 4, 5] (by decide) rfl
      have hKc := hK.sub (tys' := [(cy_nv, .int), (cy_na, .int), (cy_nb, .int), (cy_nc, .int), (cy_mny, .int), (cy_tem, .int)]) [0, 1, 2, 3, 4, 5] rfl
      have hFc := va_free (wc := [(h_mm, .inr (8, (mo131 vq40 (.ref h_nv) (.ref h_na) (.ref h_nb) (.ref h_nc) (.ref h_mny) (.ref h_tem)))), (h_nv, .inl (cy_nv, 8000, .inl f_nv)), (h_na, .inl (cy_na, 8000, .inl f_na)), (h_nb, .inl (cy_nb, 8000, .inl f_nb)), (h_nc, .inl (cy_nc, 8000, .inl f_nc)), (h_mny, .inl (cy_mny, 32, .inl f_mny)), (h_tem, .inl (cy_tem, 192, .inl f_tem))]) hD hS hA [8, 0, 1, 2, 3, 4, 5] rfl
      refine va_calli (va_runV (As := [.int p1]) (rest := []) ⟨hx, hb, hml, hown, hts⟩ (c_X11_sizeOf l dC dI H.size h_mm h_nv h_na h_nb h_nc h_mny h_tem vq40 cy_nv f_nv cy_na f_na cy_nb f_nb cy_nc f_nc cy_mny f_mny cy_tem f_tem p1 N hz (x_mm_clauses).toInt nnx hf_nv hf_na hf_nb hf_nc hf_mny hf_tem (by omega) (by omega) (by first | exact q0 | omega) hn_nds hn_tms (hn_wfr (p1).toInt.toNat (by omega))) (cwV 1 hts (gv hT w_m_X11_177 w_instanceMethod_X11_sizeOf ws_sel_X11_sizeOf w_ini_X11 w_code_X11_sizeOf) rfl rfl rfl (by decide +kernel) ⟨(Nat.le_of_ble_eq_true rfl), (Nat.le_of_ble_eq_true rfl)⟩) ⟨pre_blind, va_recv hK hP (ci := 8) (q0 := 8) rfl rfl, pre_of hPc hKc hDc hN⟩ rfl rfl hl.1 rfl (lv_room (Nat.le_of_ble_eq_true rfl)) dX11_clause_64 ⟨(Nat.le_of_ble_eq_true rfl), (Nat.le_of_ble_eq_true rfl)⟩) hS (fun q _ h => hFc q h) hFc (fun r41 u t H locs ht hvm hq hB hz1 hk1 hS9 => ?_)
      obtain ⟨hP1, hD1⟩ := hB
      rw [ht] at hP1
      obtain ⟨hP9, hD9⟩ := va_join (wr := [(h_vrs, .inl (cy_vrs, 32, .inl f_vrs)), (h_isn, .inl (cy_isn, 192, .inl f_isn))]) (w1 := [(h_mm, .inr (8, (mo131 vq40 (.ref h_nv) (.ref h_na) (.ref h_nb) (.ref h_nc) (.ref h_mny) (.ref h_tem)))), (h_nv, .inl (cy_nv, 8000, .inl f_nv)), (h_na, .inl (cy_na, 8000, .inl f_na)), (h_nb, .inl (cy_nb, 8000, .inl f_nb)), (h_nc, .inl (cy_nc, 8000, .inl f_nc)), (h_mny, .inl (cy_mny, 32, .inl f_mny)), (h_tem, .inl (cy_tem, 192, .inl f_tem))]) hP hD [8, 0, 1, 2, 3, 4, 5] [6, 7] rfl rfl (by decide) (by decide) hk1 hFc hP1 hD1
      clear hP hD hS hPc hDc hKc hFc hP1 hD1 hk1 hz1 ht hvm
      have hP : va_P (dC, dI) cls [(h_vrs, .inl (cy_vrs, 32, .inl f_vrs)), (h_isn, .inl (cy_isn, 192, .inl f_isn)), (h_mm, .inr (8, (mo131 vq40 (.ref h_nv) (.ref h_na) (.ref h_nb) (.ref h_nc) (.ref h_mny) (.ref h_tem)))), (h_nv, .inl (cy_nv, 8000, .inl f_nv)), (h_na, .inl (cy_na, 8000, .inl f_na)), (h_nb, .inl (cy_nb, 8000, .inl f_nb)), (h_nc, .inl (cy_nc, 8000, .inl f_nc)), (h_mny, .inl (cy_mny, 32, .inl f_mny)), (h_tem, .inl (cy_tem, 192, .inl f_tem))] H := hP9
      have hD : va_D A [(h_vrs, .inl (cy_vrs, 32, .inl f_vrs)), (h_isn, .inl (cy_isn, 192, .inl f_isn)), (h_mm, .inr (8, (mo131 vq40 (.ref h_nv) (.ref h_na) (.ref h_nb) (.ref h_nc) (.ref h_mny) (.ref h_tem)))), (h_nv, .inl (cy_nv, 8000, .inl f_nv)), (h_na, .inl (cy_na, 8000, .inl f_na)), (h_nb, .inl (cy_nb, 8000, .inl f_nb)), (h_nc, .inl (cy_nc, 8000, .inl f_nc)), (h_mny, .inl (cy_mny, 32, .inl f_mny)), (h_tem, .inl (cy_tem, 192, .inl f_tem))] := hD9
      have hS := hS9
      clear hP9 hD9 hS9
      rw [evq40] at hP hD
      replace hP : va_P (dC, dI) cls [(h_vrs, .inl (cy_vrs, 32, .inl f_vrs)), (h_isn, .inl (cy_isn, 192, .inl f_isn)), (h_mm, .inr (8, (mo133 v_mm (.int 0) (.ref h_nv) (.ref h_na) (.ref h_nb) (.ref h_nc) (.int x_mm_clauses) (.ref h_mny) (.ref h_vrs) (.ref h_isn) (.ref h_tem)))), (h_nv, .inl (cy_nv, 8000, .inl f_nv)), (h_na, .inl (cy_na, 8000, .inl f_na)), (h_nb, .inl (cy_nb, 8000, .inl f_nb)), (h_nc, .inl (cy_nc, 8000, .inl f_nc)), (h_mny, .inl (cy_mny, 32, .inl f_mny)), (h_tem, .inl (cy_tem, 192, .inl f_tem))] H := hP
      replace hD : va_D A [(h_vrs, .inl (cy_vrs, 32, .inl f_vrs)), (h_isn, .inl (cy_isn, 192, .inl f_isn)), (h_mm, .inr (8, (mo133 v_mm (.int 0) (.ref h_nv) (.ref h_na) (.ref h_nb) (.ref h_nc) (.int x_mm_clauses) (.ref h_mny) (.ref h_vrs) (.ref h_isn) (.ref h_tem)))), (h_nv, .inl (cy_nv, 8000, .inl f_nv)), (h_na, .inl (cy_na, 8000, .inl f_na)), (h_nb, .inl (cy_nb, 8000, .inl f_nb)), (h_nc, .inl (cy_nc, 8000, .inl f_nc)), (h_mny, .inl (cy_mny, 32, .inl f_mny)), (h_tem, .inl (cy_tem, 192, .inl f_tem))] := hD
      clear evq40 
      have k42 : ((r41)).toInt = szL (RVW f_nv (nnx) f_na f_nb f_nc) (fun k => Int32.toNatClampNeg (f_tem (6 * (0 + ((p1)).toInt.toNat) + k))) (Int.toNat (f_mny (0 + ((p1)).toInt.toNat)).toInt) := hq
      clear hq
      replace hP : va_P (dC, dI) cls [(h_mm, .inr (8, (mo133 v_mm (.int 0) (.ref h_nv) (.ref h_na) (.ref h_nb) (.ref h_nc) (.int x_mm_clauses) (.ref h_mny) (.ref h_vrs) (.ref h_isn) (.ref h_tem)))), (h_nv, .inl (cy_nv, 8000, .inl f_nv)), (h_na, .inl (cy_na, 8000, .inl f_na)), (h_nb, .inl (cy_nb, 8000, .inl f_nb)), (h_nc, .inl (cy_nc, 8000, .inl f_nc)), (h_mny, .inl (cy_mny, 32, .inl f_mny)), (h_tem, .inl (cy_tem, 192, .inl f_tem)), (h_vrs, .inl (cy_vrs, 32, .inl f_vrs)), (h_isn, .inl (cy_isn, 192, .inl f_isn))] H := hP.sub [2, 3, 4, 5, 6, 7, 8, 0, 1] rfl
      replace hD : va_D A [(h_mm, .inr (8, (mo133 v_mm (.int 0) (.ref h_nv) (.ref h_na) (.ref h_nb) (.ref h_nc) (.int x_mm_clauses) (.ref h_mny) (.ref h_vrs) (.ref h_isn) (.ref h_tem)))), (h_nv, .inl (cy_nv, 8000, .inl f_nv)), (h_na, .inl (cy_na, 8000, .inl f_na)), (h_nb, .inl (cy_nb, 8000, .inl f_nb)), (h_nc, .inl (cy_nc, 8000, .inl f_nc)), (h_mny, .inl (cy_mny, 32, .inl f_mny)), (h_tem, .inl (cy_tem, 192, .inl f_tem)), (h_vrs, .inl (cy_vrs, 32, .inl f_vrs)), (h_isn, .inl (cy_isn, 192, .inl f_isn))] := hD.sub [2, 3, 4, 5, 6, 7, 8, 0, 1] (by decide) rfl
      refine W.widen (k := 0) (n := 0) (Nat.le_of_ble_eq_true rfl) (Nat.le_of_ble_eq_true rfl) ?_
      have cst0 : (0 : Int32).toInt = 0 := by decide
      have w43 : CLV (RVW f_nv nnx f_na f_nb f_nc) (RLX 0 f_mny f_vrs f_isn f_tem) (fun j => bsX (fun k => 1 - (f_isn (6 * j + k)).toInt) (f_mny j).toInt.toNat) (x_mm_clauses).toInt (p1).toInt (p2).toInt ((r41 : Int32)).toInt := (clv_2 (by omega) (by omega) k42)
      exact W.iret (v := r41) hx hb hr (fun t ht hW => ⟨⟨r41, 0, rfl, w43, by rw [ht]; exact hP, hD⟩, hS.F ht⟩) hS.2.2 dX11_clause_67
    · refine lv_tableIn (off := 52) (tgt := 68) hx hb dX11_clause_16 (by omega) (by omega) (by rw [s3]; rfl) (by decide) ?_
      refine lv_aload_n hx hb dX11_clause_68 rfl (lv_at hl 0 rfl) ?_
      refine lv_iload_n hx hb dX11_clause_69 rfl (lv_at hl 1 rfl) ?_
      obtain ⟨vq44, evq44⟩ := mq133_103 v_mm (.int 0) (.ref h_nv) (.ref h_na) (.ref h_nb) (.ref h_nc) (.int x_mm_clauses) (.ref h_vrs) (.ref h_tem)
      replace hP : va_P (dC, dI) cls [(h_nv, .inl (cy_nv, 8000, .inl f_nv)), (h_na, .inl (cy_na, 8000, .inl f_na)), (h_nb, .inl (cy_nb, 8000, .inl f_nb)), (h_nc, .inl (cy_nc, 8000, .inl f_nc)), (h_mny, .inl (cy_mny, 32, .inl f_mny)), (h_tem, .inl (cy_tem, 192, .inl f_tem)), (h_vrs, .inl (cy_vrs, 32, .inl f_vrs)), (h_isn, .inl (cy_isn, 192, .inl f_isn)), (h_mm, .inr (8, (mo103 vq44 (.ref h_mny) (.ref h_isn))))] H := by rw [evq44]; exact hP
      replace hD : va_D A [(h_nv, .inl (cy_nv, 8000, .inl f_nv)), (h_na, .inl (cy_na, 8000, .inl f_na)), (h_nb, .inl (cy_nb, 8000, .inl f_nb)), (h_nc, .inl (cy_nc, 8000, .inl f_nc)), (h_mny, .inl (cy_mny, 32, .inl f_mny)), (h_tem, .inl (cy_tem, 192, .inl f_tem)), (h_vrs, .inl (cy_vrs, 32, .inl f_vrs)), (h_isn, .inl (cy_isn, 192, .inl f_isn)), (h_mm, .inr (8, (mo103 vq44 (.ref h_mny) (.ref h_isn))))] := by rw [evq44]; exact hD
      have hPc := hP.sub (ws' := [(h_mm, .inr (8, (mo103 vq44 (.ref h_mny) (.ref h_isn)))), (h_mny, .inl (cy_mny, 32, .inl f_mny)), (h_isn, .inl (cy_isn, 192, .inl f_isn))]) [8, 4, 7] rfl
      have hDc := hD.sub (ws' := [(h_mm, .inr (8, (mo103 vq44 (.ref h_mny) (.ref h_isn)))), (h_mny, .inl (cy_mny, 32, .inl f_mny)), (h_isn, .inl (cy_isn, 192, .inl f_isn))]) [8, 4, 7] (by decide) rfl
      have hKc := hK.sub (tys' := [(cy_mny, .int), (cy_isn, .boolean)]) [4, 7] rfl
      have hFc := va_free (wc := [(h_mm, .inr (8, (mo103 vq44 (.ref h_mny) (.ref h_isn)))), (h_mny, .inl (cy_mny, 32, .inl f_mny)), (h_isn, .inl (cy_isn, 192, .inl f_isn))]) hD hS hA [8, 4, 7] rfl
      refine va_calli (va_runV (As := [.int p1]) (rest := []) ⟨hx, hb, hml, hown, hts⟩ (c_X11_positives_e l dC dI H.size h_mm h_mny h_isn vq44 cy_mny f_mny cy_isn f_isn p1 hf_mny hf_isn (by omega)) (cwV 1 hts (gv hT w_m_X11_180 w_instanceMethod_X11_positives ws_sel_X11_positives w_ini_X11 w_code_X11_positives) rfl rfl rfl (by decide +kernel) ⟨(Nat.le_of_ble_eq_true rfl), (Nat.le_of_ble_eq_true rfl)⟩) ⟨pre_blind, va_recv hK hP (ci := 8) (q0 := 8) rfl rfl, pre_of hPc hKc hDc hN⟩ rfl rfl hl.1 rfl (lv_room (Nat.le_of_ble_eq_true rfl)) dX11_clause_70 ⟨(Nat.le_of_ble_eq_true rfl), (Nat.le_of_ble_eq_true rfl)⟩) hS (fun q _ h => hFc q h) hFc (fun r45 u t H locs ht hvm hq hB hz1 hk1 hS9 => ?_)
      obtain ⟨hP1, hD1⟩ := hB
      rw [ht] at hP1
      obtain ⟨hP9, hD9⟩ := va_join (wr := [(h_nv, .inl (cy_nv, 8000, .inl f_nv)), (h_na, .inl (cy_na, 8000, .inl f_na)), (h_nb, .inl (cy_nb, 8000, .inl f_nb)), (h_nc, .inl (cy_nc, 8000, .inl f_nc)), (h_tem, .inl (cy_tem, 192, .inl f_tem)), (h_vrs, .inl (cy_vrs, 32, .inl f_vrs))]) (w1 := [(h_mm, .inr (8, (mo103 vq44 (.ref h_mny) (.ref h_isn)))), (h_mny, .inl (cy_mny, 32, .inl f_mny)), (h_isn, .inl (cy_isn, 192, .inl f_isn))]) hP hD [8, 4, 7] [0, 1, 2, 3, 5, 6] rfl rfl (by decide) (by decide) hk1 hFc hP1 hD1
      clear hP hD hS hPc hDc hKc hFc hP1 hD1 hk1 hz1 ht hvm
      have hP : va_P (dC, dI) cls [(h_nv, .inl (cy_nv, 8000, .inl f_nv)), (h_na, .inl (cy_na, 8000, .inl f_na)), (h_nb, .inl (cy_nb, 8000, .inl f_nb)), (h_nc, .inl (cy_nc, 8000, .inl f_nc)), (h_tem, .inl (cy_tem, 192, .inl f_tem)), (h_vrs, .inl (cy_vrs, 32, .inl f_vrs)), (h_mm, .inr (8, (mo103 vq44 (.ref h_mny) (.ref h_isn)))), (h_mny, .inl (cy_mny, 32, .inl f_mny)), (h_isn, .inl (cy_isn, 192, .inl f_isn))] H := hP9
      have hD : va_D A [(h_nv, .inl (cy_nv, 8000, .inl f_nv)), (h_na, .inl (cy_na, 8000, .inl f_na)), (h_nb, .inl (cy_nb, 8000, .inl f_nb)), (h_nc, .inl (cy_nc, 8000, .inl f_nc)), (h_tem, .inl (cy_tem, 192, .inl f_tem)), (h_vrs, .inl (cy_vrs, 32, .inl f_vrs)), (h_mm, .inr (8, (mo103 vq44 (.ref h_mny) (.ref h_isn)))), (h_mny, .inl (cy_mny, 32, .inl f_mny)), (h_isn, .inl (cy_isn, 192, .inl f_isn))] := hD9
      have hS := hS9
      clear hP9 hD9 hS9
      rw [evq44] at hP hD
      replace hP : va_P (dC, dI) cls [(h_nv, .inl (cy_nv, 8000, .inl f_nv)), (h_na, .inl (cy_na, 8000, .inl f_na)), (h_nb, .inl (cy_nb, 8000, .inl f_nb)), (h_nc, .inl (cy_nc, 8000, .inl f_nc)), (h_tem, .inl (cy_tem, 192, .inl f_tem)), (h_vrs, .inl (cy_vrs, 32, .inl f_vrs)), (h_mm, .inr (8, (mo133 v_mm (.int 0) (.ref h_nv) (.ref h_na) (.ref h_nb) (.ref h_nc) (.int x_mm_clauses) (.ref h_mny) (.ref h_vrs) (.ref h_isn) (.ref h_tem)))), (h_mny, .inl (cy_mny, 32, .inl f_mny)), (h_isn, .inl (cy_isn, 192, .inl f_isn))] H := hP
      replace hD : va_D A [(h_nv, .inl (cy_nv, 8000, .inl f_nv)), (h_na, .inl (cy_na, 8000, .inl f_na)), (h_nb, .inl (cy_nb, 8000, .inl f_nb)), (h_nc, .inl (cy_nc, 8000, .inl f_nc)), (h_tem, .inl (cy_tem, 192, .inl f_tem)), (h_vrs, .inl (cy_vrs, 32, .inl f_vrs)), (h_mm, .inr (8, (mo133 v_mm (.int 0) (.ref h_nv) (.ref h_na) (.ref h_nb) (.ref h_nc) (.int x_mm_clauses) (.ref h_mny) (.ref h_vrs) (.ref h_isn) (.ref h_tem)))), (h_mny, .inl (cy_mny, 32, .inl f_mny)), (h_isn, .inl (cy_isn, 192, .inl f_isn))] := hD
      clear evq44 
      have k46 : ((r45)).toInt = bsX (fun k => 1 - (f_isn (6 * ((p1)).toInt.toNat + k)).toInt) (Int.toNat (f_mny ((p1)).toInt.toNat).toInt) := hq
      clear hq
      replace hP : va_P (dC, dI) cls [(h_mm, .inr (8, (mo133 v_mm (.int 0) (.ref h_nv) (.ref h_na) (.ref h_nb) (.ref h_nc) (.int x_mm_clauses) (.ref h_mny) (.ref h_vrs) (.ref h_isn) (.ref h_tem)))), (h_nv, .inl (cy_nv, 8000, .inl f_nv)), (h_na, .inl (cy_na, 8000, .inl f_na)), (h_nb, .inl (cy_nb, 8000, .inl f_nb)), (h_nc, .inl (cy_nc, 8000, .inl f_nc)), (h_mny, .inl (cy_mny, 32, .inl f_mny)), (h_tem, .inl (cy_tem, 192, .inl f_tem)), (h_vrs, .inl (cy_vrs, 32, .inl f_vrs)), (h_isn, .inl (cy_isn, 192, .inl f_isn))] H := hP.sub [6, 0, 1, 2, 3, 7, 4, 5, 8] rfl
      replace hD : va_D A [(h_mm, .inr (8, (mo133 v_mm (.int 0) (.ref h_nv) (.ref h_na) (.ref h_nb) (.ref h_nc) (.int x_mm_clauses) (.ref h_mny) (.ref h_vrs) (.ref h_isn) (.ref h_tem)))), (h_nv, .inl (cy_nv, 8000, .inl f_nv)), (h_na, .inl (cy_na, 8000, .inl f_na)), (h_nb, .inl (cy_nb, 8000, .inl f_nb)), (h_nc, .inl (cy_nc, 8000, .inl f_nc)), (h_mny, .inl (cy_mny, 32, .inl f_mny)), (h_tem, .inl (cy_tem, 192, .inl f_tem)), (h_vrs, .inl (cy_vrs, 32, .inl f_vrs)), (h_isn, .inl (cy_isn, 192, .inl f_isn))] := hD.sub [6, 0, 1, 2, 3, 7, 4, 5, 8] (by decide) rfl
      refine W.widen (k := 0) (n := 0) (Nat.le_of_ble_eq_true rfl) (Nat.le_of_ble_eq_true rfl) ?_
      have cst0 : (0 : Int32).toInt = 0 := by decide
      have w47 : CLV (RVW f_nv nnx f_na f_nb f_nc) (RLX 0 f_mny f_vrs f_isn f_tem) (fun j => bsX (fun k => 1 - (f_isn (6 * j + k)).toInt) (f_mny j).toInt.toNat) (x_mm_clauses).toInt (p1).toInt (p2).toInt ((r45 : Int32)).toInt := (clv_3 (by omega) (by omega) k46)
      exact W.iret (v := r45) hx hb hr (fun t ht hW => ⟨⟨r45, 0, rfl, w47, by rw [ht]; exact hP, hD⟩, hS.F ht⟩) hS.2.2 dX11_clause_73
  · replace hq : (((p1)).toInt < 0 ∨ ((x_mm_clauses)).toInt ≤ ((p1)).toInt) := hq
    refine lv_if_ne (tgt := 15) hx hb dX11_clause_10 (by decide) (fun c9 => absurd c9 (by decide)) (fun _ => ?_)
    refine lv_iconst (v := (-1)) hx hb dX11_clause_13 (by decide) ?_
    replace hP : va_P (dC, dI) cls [(h_mm, .inr (8, (mo133 v_mm (.int 0) (.ref h_nv) (.ref h_na) (.ref h_nb) (.ref h_nc) (.int x_mm_clauses) (.ref h_mny) (.ref h_vrs) (.ref h_isn) (.ref h_tem)))), (h_nv, .inl (cy_nv, 8000, .inl f_nv)), (h_na, .inl (cy_na, 8000, .inl f_na)), (h_nb, .inl (cy_nb, 8000, .inl f_nb)), (h_nc, .inl (cy_nc, 8000, .inl f_nc)), (h_mny, .inl (cy_mny, 32, .inl f_mny)), (h_tem, .inl (cy_tem, 192, .inl f_tem)), (h_vrs, .inl (cy_vrs, 32, .inl f_vrs)), (h_isn, .inl (cy_isn, 192, .inl f_isn))] H := hP.sub [8, 0, 1, 2, 3, 4, 5, 6, 7] rfl
    replace hD : va_D A [(h_mm, .inr (8, (mo133 v_mm (.int 0) (.ref h_nv) (.ref h_na) (.ref h_nb) (.ref h_nc) (.int x_mm_clauses) (.ref h_mny) (.ref h_vrs) (.ref h_isn) (.ref h_tem)))), (h_nv, .inl (cy_nv, 8000, .inl f_nv)), (h_na, .inl (cy_na, 8000, .inl f_na)), (h_nb, .inl (cy_nb, 8000, .inl f_nb)), (h_nc, .inl (cy_nc, 8000, .inl f_nc)), (h_mny, .inl (cy_mny, 32, .inl f_mny)), (h_tem, .inl (cy_tem, 192, .inl f_tem)), (h_vrs, .inl (cy_vrs, 32, .inl f_vrs)), (h_isn, .inl (cy_isn, 192, .inl f_isn))] := hD.sub [8, 0, 1, 2, 3, 4, 5, 6, 7] (by decide) rfl
    refine W.widen (k := 0) (n := 0) (Nat.le_of_ble_eq_true rfl) (Nat.le_of_ble_eq_true rfl) ?_
    have cstm1 : ((-1) : Int32).toInt = -1 := by decide
    have cst0 : (0 : Int32).toInt = 0 := by decide
    have w48 : CLV (RVW f_nv nnx f_na f_nb f_nc) (RLX 0 f_mny f_vrs f_isn f_tem) (fun j => bsX (fun k => 1 - (f_isn (6 * j + k)).toInt) (f_mny j).toInt.toNat) (x_mm_clauses).toInt (p1).toInt (p2).toInt (((-1) : Int32)).toInt := (clv_no (by omega) (by decide))
    exact W.iret (v := (-1)) hx hb hr (fun t ht hW => ⟨⟨(-1), 0, rfl, w48, by rw [ht]; exact hP, hD⟩, hS.F ht⟩) hS.2.2 dX11_clause_14

set_option maxHeartbeats 8000000 in
set_option maxRecDepth 100000 in
theorem c_X11_forgets_e (l : Launch) (dC : Nat → ClassId) (dI : Nat → Nat → Nat) (sz : Nat) (h_mm : Nat) (v_mm : Nat → Value) (x_mm_isProof : Int32) (x_mm_answers : Int32) (hx_mm_isProof : 0 ≤ (x_mm_isProof).toInt ∧ (x_mm_isProof).toInt ≤ 1) (hx_mm_answers : 0 ≤ (x_mm_answers).toInt ∧ (x_mm_answers).toInt ≤ 8) : Met l yX11_forgets (Ws yX11_forgets cX11_forgets 1 none) (({ frames := 0, cells := 0, slots := 0, locals := 0 } : Room)) (PRE (dC, dI) cls [] [(h_mm, .inr (8, (mo104 v_mm (.int x_mm_isProof) (.int x_mm_answers))))] sz [.ref h_mm]) (va_Qv (fun (u : (Int32) × (Int32)) => (0 ≤ (u.1).toInt ∧ (u.1).toInt ≤ 1) ∧ (0 ≤ (u.2).toInt ∧ (u.2).toInt ≤ 8) ∧ ((u.1).toInt = 0) ∧ ((u.2).toInt = 0)) (fun (u : (Int32) × (Int32)) (t : State) => va_P (dC, dI) cls [(h_mm, .inr (8, (mo104 v_mm (.int u.1) (.int u.2))))] t.heap ∧ va_D (va_A [(h_mm, .inr (8, (mo104 v_mm (.int x_mm_isProof) (.int x_mm_answers))))] sz) [(h_mm, .inr (8, (mo104 v_mm (.int u.1) (.int u.2))))]) (va_A [(h_mm, .inr (8, (mo104 v_mm (.int x_mm_isProof) (.int x_mm_answers))))] sz)) 0 0 (va_A [(h_mm, .inr (8, (mo104 v_mm (.int x_mm_isProof) (.int x_mm_answers))))] sz) := by
  refine Met.ofW (cc := cX11_forgets) (maxL := 1) (ret := none) (by decide) rfl ?_
  intro p e s m args below meth c s₁ B hml hv
  obtain ⟨rfl, hsz, hP, hK, hD0, hN⟩ := hv
  have hx := B.exec
  have hb := B.bytes
  have hr := B.returns
  have hts := atoms_spec (ws := Ws yX11_forgets cX11_forgets 1 none) B.pre
  have hT : ∀ w ∈ WALL, w ∈ Ws yX11_forgets cX11_forgets 1 none := fun w h => List.mem_cons_of_mem _ h
  have hw := fun w (h : w ∈ WALL) => hts w (hT w h)
  have hown : s.vm.findClass RX11 = some m.cls := findClass_of_methodNamed B.named
  have hlocks := B.notSynchronized
  subst hsz
  have hD := hD0.self (sz := s.heap.size)
  generalize hAe : va_A [(h_mm, .inr (8, (mo104 v_mm (.int x_mm_isProof) (.int x_mm_answers))))] s.heap.size = A at hD ⊢
  have hA : ∀ q : Nat, s.heap.size ≤ q → A q := fun q h => by rw [← hAe]; exact Or.inr h
  have hS : va_S A s.heap s.heap [] := va_S.rf
  have hl := lv_entry ([.ref h_mm]) (n := 1) (Nat.le_of_ble_eq_true rfl)
  rw [lg_entry_eq]
  generalize (lg_sl ([.ref h_mm]) ++ List.replicate (1 - (lg_sl ([.ref h_mm])).length) Slot.unset).toArray = ls at hl ⊢
  have hl : lv_has ls 1 [(0, .ref h_mm)] := hl
  refine lv_aload_n hx hb dX11_forgets_0 rfl (lv_at hl 0 rfl) ?_
  refine lv_iconst (v := 0) hx hb dX11_forgets_1 (by decide) ?_
  refine va_put (D := (dC, dI)) (ci := 8) (v := .int 0) (ty := tyX11 58) (C := RX11) (T := TX11) (N := 71) hx hb hw iwX11 tyX11 tyX11_ok nmX11 hown hK hP hD hS 0 rfl rfl 58 (by decide) (hw _ w_f_X11_410) (fun _ h9 => h9) rfl (tyX11_ok 58 (by decide)) rfl rfl (Nat.le_of_ble_eq_true rfl) dX11_forgets_2 (fun H locs hP9 hD9 hS9 => ?_)
  clear hP hD hS
  have hP : va_P (dC, dI) cls [(h_mm, .inr (8, (mo104 v_mm (.int 0) (.int x_mm_answers))))] H := hP9
  have hD : va_D A [(h_mm, .inr (8, (mo104 v_mm (.int 0) (.int x_mm_answers))))] := hD9
  have hS := hS9
  clear hP9 hD9 hS9
  refine lv_aload_n hx hb dX11_forgets_5 rfl (lv_at hl 0 rfl) ?_
  refine lv_iconst (v := 0) hx hb dX11_forgets_6 (by decide) ?_
  refine va_put (D := (dC, dI)) (ci := 8) (v := .int 0) (ty := tyX11 60) (C := RX11) (T := TX11) (N := 71) hx hb hw iwX11 tyX11 tyX11_ok nmX11 hown hK hP hD hS 0 rfl rfl 60 (by decide) (hw _ w_f_X11_413) (fun _ h9 => h9) rfl (tyX11_ok 60 (by decide)) rfl rfl (Nat.le_of_ble_eq_true rfl) dX11_forgets_7 (fun H locs hP9 hD9 hS9 => ?_)
  clear hP hD hS
  have hP : va_P (dC, dI) cls [(h_mm, .inr (8, (mo104 v_mm (.int 0) (.int 0))))] H := hP9
  have hD : va_D A [(h_mm, .inr (8, (mo104 v_mm (.int 0) (.int 0))))] := hD9
  have hS := hS9
  clear hP9 hD9 hS9
  refine W.widen (k := 0) (n := 0) (Nat.le_of_ble_eq_true rfl) (Nat.le_of_ble_eq_true rfl) ?_
  have cst0 : (0 : Int32).toInt = 0 := by decide
  have w1 : 0 ≤ ((0 : Int32)).toInt ∧ ((0 : Int32)).toInt ≤ 1 := by omega
  have w2 : 0 ≤ ((0 : Int32)).toInt ∧ ((0 : Int32)).toInt ≤ 8 := by omega
  have w3 : ((0 : Int32)).toInt = 0 := by omega
  have w4 : ((0 : Int32)).toInt = 0 := by omega
  exact W.vret hx hb hr (fun t ht hW => ⟨⟨(0, 0), rfl, ⟨w1, w2, w3, w4⟩, by rw [ht]; exact hP, hD⟩, hS.F ht⟩) hS.2.2 dX11_forgets_10

set_option maxHeartbeats 8000000 in
set_option maxRecDepth 100000 in
theorem c_X11_drop_e (l : Launch) (dC : Nat → ClassId) (dI : Nat → Nat → Nat) (sz : Nat) (h_mm : Nat) (h_mny : Nat) (h_vrs : Nat) (h_let : Nat) (h_isn : Nat) (h_tem : Nat) (v_mm : Nat → Value) (x_mm_clauses : Int32) (x_mm_isProof : Int32) (x_mm_answers : Int32) (cy_mny : ClassId) (f_mny : Nat → Int32) (cy_vrs : ClassId) (f_vrs : Nat → Int32) (cy_let : ClassId) (f_let : Nat → Int32) (cy_isn : ClassId) (f_isn : Nat → Int32) (cy_tem : ClassId) (f_tem : Nat → Int32) (p1 : Int32) (N : Int) (hz : Nat → Nat) (hx_mm_clauses : 0 ≤ (x_mm_clauses).toInt ∧ (x_mm_clauses).toInt ≤ 16) (hx_mm_isProof : 0 ≤ (x_mm_isProof).toInt ∧ (x_mm_isProof).toInt ≤ 1) (hx_mm_answers : 0 ≤ (x_mm_answers).toInt ∧ (x_mm_answers).toInt ≤ 8) (hf_mny : Rg 0 6 f_mny) (hf_vrs : Rg 0 8 f_vrs) (hf_isn : Rg 0 1 f_isn) (hf_tem : Rg 0 7999 f_tem) (hn_tms : TM 0 N hz 0 (x_mm_clauses).toInt f_mny f_tem) : Met l yX11_drop (Ws yX11_drop cX11_drop 3 (some .boolean)) (({ frames := 2, cells := 0, slots := 0, locals := 47 } : Room)) (PRE (dC, dI) cls [(cy_mny, .int), (cy_vrs, .int), (cy_let, .int), (cy_isn, .boolean), (cy_tem, .int)] [(h_mm, .inr (8, (mo105 v_mm (.int x_mm_clauses) (.ref h_mny) (.ref h_vrs) (.ref h_let) (.ref h_isn) (.ref h_tem) (.int x_mm_isProof) (.int x_mm_answers)))), (h_mny, .inl (cy_mny, 32, .inl f_mny)), (h_vrs, .inl (cy_vrs, 32, .inl f_vrs)), (h_let, .inl (cy_let, 256, .inl f_let)), (h_isn, .inl (cy_isn, 192, .inl f_isn)), (h_tem, .inl (cy_tem, 192, .inl f_tem))] sz [.ref h_mm, .int p1]) (va_Qi (fun (r : Int32) (u : (Int32) × (Int32) × (Int32) × (Int32) × (Nat → Int32) × (Nat → Int32) × (Nat → Int32) × (Nat → Int32) × (Nat → Int32)) => (0 ≤ (u.2.1).toInt ∧ (u.2.1).toInt ≤ 16) ∧ (0 ≤ (u.2.2.1).toInt ∧ (u.2.2.1).toInt ≤ 1) ∧ (0 ≤ (u.2.2.2.1).toInt ∧ (u.2.2.2.1).toInt ≤ 8) ∧ (Rg 0 6 u.2.2.2.2.1) ∧ (Rg 0 8 u.2.2.2.2.2.1) ∧ (Rg 0 1 u.2.2.2.2.2.2.2.1) ∧ (Rg 0 7999 u.2.2.2.2.2.2.2.2) ∧ (0 ≤ r.toInt ∧ r.toInt ≤ 1) ∧ ((u.2.2.1).toInt = 0 ∨ ((u.2.2.1).toInt = (x_mm_isProof).toInt ∧ (u.2.1).toInt = (x_mm_clauses).toInt)) ∧ (((r).toInt = 1 ∧ 0 ≤ (p1).toInt ∧ (p1).toInt < (x_mm_clauses).toInt ∧ (u.2.1).toInt = (x_mm_clauses).toInt - 1) ∨ ((r).toInt = 0 ∧ ((p1).toInt < 0 ∨ (x_mm_clauses).toInt ≤ (p1).toInt) ∧ (u.2.1).toInt = (x_mm_clauses).toInt)) ∧ (TM 0 N hz 0 (u.2.1).toInt u.2.2.2.2.1 u.2.2.2.2.2.2.2.2) ∧ (((r).toInt = 0 ∧ u.2.2.2.2.1 = f_mny ∧ u.2.2.2.2.2.1 = f_vrs ∧ u.2.2.2.2.2.2.2.1 = f_isn ∧ u.2.2.2.2.2.2.2.2 = f_tem) ∨ ((r).toInt = 1 ∧ RMR (p1).toInt (u.2.1).toInt f_mny u.2.2.2.2.1 f_vrs u.2.2.2.2.2.1 f_isn u.2.2.2.2.2.2.2.1 f_tem u.2.2.2.2.2.2.2.2))) (fun (u : (Int32) × (Int32) × (Int32) × (Int32) × (Nat → Int32) × (Nat → Int32) × (Nat → Int32) × (Nat → Int32) × (Nat → Int32)) (t : State) => va_P (dC, dI) cls [(h_mm, .inr (8, (mo106 v_mm (.int u.1) (.int u.2.1) (.ref h_mny) (.ref h_vrs) (.ref h_let) (.ref h_isn) (.ref h_tem) (.int u.2.2.1) (.int u.2.2.2.1)))), (h_mny, .inl (cy_mny, 32, .inl u.2.2.2.2.1)), (h_vrs, .inl (cy_vrs, 32, .inl u.2.2.2.2.2.1)), (h_let, .inl (cy_let, 256, .inl u.2.2.2.2.2.2.1)), (h_isn, .inl (cy_isn, 192, .inl u.2.2.2.2.2.2.2.1)), (h_tem, .inl (cy_tem, 192, .inl u.2.2.2.2.2.2.2.2))] t.heap ∧ va_D (va_A [(h_mm, .inr (8, (mo105 v_mm (.int x_mm_clauses) (.ref h_mny) (.ref h_vrs) (.ref h_let) (.ref h_isn) (.ref h_tem) (.int x_mm_isProof) (.int x_mm_answers)))), (h_mny, .inl (cy_mny, 32, .inl f_mny)), (h_vrs, .inl (cy_vrs, 32, .inl f_vrs)), (h_let, .inl (cy_let, 256, .inl f_let)), (h_isn, .inl (cy_isn, 192, .inl f_isn)), (h_tem, .inl (cy_tem, 192, .inl f_tem))] sz) [(h_mm, .inr (8, (mo106 v_mm (.int u.1) (.int u.2.1) (.ref h_mny) (.ref h_vrs) (.ref h_let) (.ref h_isn) (.ref h_tem) (.int u.2.2.1) (.int u.2.2.2.1)))), (h_mny, .inl (cy_mny, 32, .inl u.2.2.2.2.1)), (h_vrs, .inl (cy_vrs, 32, .inl u.2.2.2.2.2.1)), (h_let, .inl (cy_let, 256, .inl u.2.2.2.2.2.2.1)), (h_isn, .inl (cy_isn, 192, .inl u.2.2.2.2.2.2.2.1)), (h_tem, .inl (cy_tem, 192, .inl u.2.2.2.2.2.2.2.2))]) (va_A [(h_mm, .inr (8, (mo105 v_mm (.int x_mm_clauses) (.ref h_mny) (.ref h_vrs) (.ref h_let) (.ref h_isn) (.ref h_tem) (.int x_mm_isProof) (.int x_mm_answers)))), (h_mny, .inl (cy_mny, 32, .inl f_mny)), (h_vrs, .inl (cy_vrs, 32, .inl f_vrs)), (h_let, .inl (cy_let, 256, .inl f_let)), (h_isn, .inl (cy_isn, 192, .inl f_isn)), (h_tem, .inl (cy_tem, 192, .inl f_tem))] sz)) 0 0 (va_A [(h_mm, .inr (8, (mo105 v_mm (.int x_mm_clauses) (.ref h_mny) (.ref h_vrs) (.ref h_let) (.ref h_isn) (.ref h_tem) (.int x_mm_isProof) (.int x_mm_answers)))), (h_mny, .inl (cy_mny, 32, .inl f_mny)), (h_vrs, .inl (cy_vrs, 32, .inl f_vrs)), (h_let, .inl (cy_let, 256, .inl f_let)), (h_isn, .inl (cy_isn, 192, .inl f_isn)), (h_tem, .inl (cy_tem, 192, .inl f_tem))] sz) := by
  refine Met.ofW (cc := cX11_drop) (maxL := 3) (ret := (some .boolean)) (by decide) rfl ?_
  intro p e s m args below meth c s₁ B hml hv
  obtain ⟨rfl, hsz, hP, hK, hD0, hN⟩ := hv
  have hx := B.exec
  have hb := B.bytes
  have hr := B.returns
  have hts := atoms_spec (ws := Ws yX11_drop cX11_drop 3 (some .boolean)) B.pre
  have hT : ∀ w ∈ WALL, w ∈ Ws yX11_drop cX11_drop 3 (some .boolean) := fun w h => List.mem_cons_of_mem _ h
  have hw := fun w (h : w ∈ WALL) => hts w (hT w h)
  have hown : s.vm.findClass RX11 = some m.cls := findClass_of_methodNamed B.named
  have hlocks := B.notSynchronized
  subst hsz
  have hD := hD0.self (sz := s.heap.size)
  generalize hAe : va_A [(h_mm, .inr (8, (mo105 v_mm (.int x_mm_clauses) (.ref h_mny) (.ref h_vrs) (.ref h_let) (.ref h_isn) (.ref h_tem) (.int x_mm_isProof) (.int x_mm_answers)))), (h_mny, .inl (cy_mny, 32, .inl f_mny)), (h_vrs, .inl (cy_vrs, 32, .inl f_vrs)), (h_let, .inl (cy_let, 256, .inl f_let)), (h_isn, .inl (cy_isn, 192, .inl f_isn)), (h_tem, .inl (cy_tem, 192, .inl f_tem))] s.heap.size = A at hD ⊢
  have hA : ∀ q : Nat, s.heap.size ≤ q → A q := fun q h => by rw [← hAe]; exact Or.inr h
  have hS : va_S A s.heap s.heap [] := va_S.rf
  have hl := lv_entry ([.ref h_mm, .int p1]) (n := 3) (Nat.le_of_ble_eq_true rfl)
  rw [lg_entry_eq]
  generalize (lg_sl ([.ref h_mm, .int p1]) ++ List.replicate (3 - (lg_sl ([.ref h_mm, .int p1])).length) Slot.unset).toArray = ls at hl ⊢
  have hl : lv_has ls 3 [(0, .ref h_mm), (1, .int p1)] := hl
  refine lv_aload_n hx hb dX11_drop_0 rfl (lv_at hl 0 rfl) ?_
  refine lv_iconst (v := 0) hx hb dX11_drop_1 (by decide) ?_
  refine va_put (D := (dC, dI)) (ci := 8) (v := .int 0) (ty := tyX11 0) (C := RX11) (T := TX11) (N := 71) hx hb hw iwX11 tyX11 tyX11_ok nmX11 hown hK hP hD hS 0 rfl rfl 0 (by decide) (hw _ w_f_X11_1) (fun _ h9 => h9) rfl (tyX11_ok 0 (by decide)) rfl rfl (Nat.le_of_ble_eq_true rfl) dX11_drop_2 (fun H locs hP9 hD9 hS9 => ?_)
  clear hP hD hS
  have hP : va_P (dC, dI) cls [(h_mm, .inr (8, (mo106 v_mm (.int 0) (.int x_mm_clauses) (.ref h_mny) (.ref h_vrs) (.ref h_let) (.ref h_isn) (.ref h_tem) (.int x_mm_isProof) (.int x_mm_answers)))), (h_mny, .inl (cy_mny, 32, .inl f_mny)), (h_vrs, .inl (cy_vrs, 32, .inl f_vrs)), (h_let, .inl (cy_let, 256, .inl f_let)), (h_isn, .inl (cy_isn, 192, .inl f_isn)), (h_tem, .inl (cy_tem, 192, .inl f_tem))] H := hP9
  have hD : va_D A [(h_mm, .inr (8, (mo106 v_mm (.int 0) (.int x_mm_clauses) (.ref h_mny) (.ref h_vrs) (.ref h_let) (.ref h_isn) (.ref h_tem) (.int x_mm_isProof) (.int x_mm_answers)))), (h_mny, .inl (cy_mny, 32, .inl f_mny)), (h_vrs, .inl (cy_vrs, 32, .inl f_vrs)), (h_let, .inl (cy_let, 256, .inl f_let)), (h_isn, .inl (cy_isn, 192, .inl f_isn)), (h_tem, .inl (cy_tem, 192, .inl f_tem))] := hD9
  have hS := hS9
  clear hP9 hD9 hS9
  refine lv_aload_n hx hb dX11_drop_5 rfl (lv_at hl 0 rfl) ?_
  refine lv_iload_n hx hb dX11_drop_6 rfl (lv_at hl 1 rfl) ?_
  obtain ⟨vq1, evq1⟩ := mq106_100 v_mm (.int 0) (.ref h_mny) (.ref h_vrs) (.ref h_let) (.ref h_isn) (.ref h_tem) (.int x_mm_isProof) (.int x_mm_answers)
  replace hP : va_P (dC, dI) cls [(h_mm, .inr (8, (mo100 vq1 (.int x_mm_clauses)))), (h_mny, .inl (cy_mny, 32, .inl f_mny)), (h_vrs, .inl (cy_vrs, 32, .inl f_vrs)), (h_let, .inl (cy_let, 256, .inl f_let)), (h_isn, .inl (cy_isn, 192, .inl f_isn)), (h_tem, .inl (cy_tem, 192, .inl f_tem))] H := by rw [evq1]; exact hP
  replace hD : va_D A [(h_mm, .inr (8, (mo100 vq1 (.int x_mm_clauses)))), (h_mny, .inl (cy_mny, 32, .inl f_mny)), (h_vrs, .inl (cy_vrs, 32, .inl f_vrs)), (h_let, .inl (cy_let, 256, .inl f_let)), (h_isn, .inl (cy_isn, 192, .inl f_isn)), (h_tem, .inl (cy_tem, 192, .inl f_tem))] := by rw [evq1]; exact hD
  have hPc := hP.sub (ws' := [(h_mm, .inr (8, (mo100 vq1 (.int x_mm_clauses))))]) [0] rfl
  have hDc := hD.sub (ws' := [(h_mm, .inr (8, (mo100 vq1 (.int x_mm_clauses))))]) [0] (by decide) rfl
  have hKc := hK.sub (tys' := []) [] rfl
  have hFc := va_free (wc := [(h_mm, .inr (8, (mo100 vq1 (.int x_mm_clauses))))]) hD hS hA [0] rfl
  refine va_calli (va_runV (As := [.int p1]) (rest := []) ⟨hx, hb, hml, hown, hts⟩ (c_X11_isClause l dC dI H.size h_mm vq1 x_mm_clauses p1 (by first | exact hx_mm_clauses | omega)) (cwV 1 hts (gv hT w_m_X11_174 w_instanceMethod_X11_isClause ws_sel_X11_isClause w_ini_X11 w_code_X11_isClause) rfl rfl rfl (by decide +kernel) ⟨(Nat.le_of_ble_eq_true rfl), (Nat.le_of_ble_eq_true rfl)⟩) ⟨pre_blind, va_recv hK hP (ci := 8) (q0 := 0) rfl rfl, pre_of hPc hKc hDc hN⟩ rfl rfl hl.1 rfl (lv_room (Nat.le_of_ble_eq_true rfl)) dX11_drop_7 ⟨(Nat.le_of_ble_eq_true rfl), (Nat.le_of_ble_eq_true rfl)⟩) hS (fun q _ h => hFc q h) hFc (fun r2 u t H locs ht hvm hq hB hz1 hk1 hS9 => ?_)
  obtain ⟨hP1, hD1⟩ := hB
  rw [ht] at hP1
  obtain ⟨hP9, hD9⟩ := va_join (wr := [(h_mny, .inl (cy_mny, 32, .inl f_mny)), (h_vrs, .inl (cy_vrs, 32, .inl f_vrs)), (h_let, .inl (cy_let, 256, .inl f_let)), (h_isn, .inl (cy_isn, 192, .inl f_isn)), (h_tem, .inl (cy_tem, 192, .inl f_tem))]) (w1 := [(h_mm, .inr (8, (mo100 vq1 (.int x_mm_clauses))))]) hP hD [0] [1, 2, 3, 4, 5] rfl rfl (by decide) (by decide) hk1 hFc hP1 hD1
  clear hP hD hS hPc hDc hKc hFc hP1 hD1 hk1 hz1 ht hvm
  have hP : va_P (dC, dI) cls [(h_mny, .inl (cy_mny, 32, .inl f_mny)), (h_vrs, .inl (cy_vrs, 32, .inl f_vrs)), (h_let, .inl (cy_let, 256, .inl f_let)), (h_isn, .inl (cy_isn, 192, .inl f_isn)), (h_tem, .inl (cy_tem, 192, .inl f_tem)), (h_mm, .inr (8, (mo100 vq1 (.int x_mm_clauses))))] H := hP9
  have hD : va_D A [(h_mny, .inl (cy_mny, 32, .inl f_mny)), (h_vrs, .inl (cy_vrs, 32, .inl f_vrs)), (h_let, .inl (cy_let, 256, .inl f_let)), (h_isn, .inl (cy_isn, 192, .inl f_isn)), (h_tem, .inl (cy_tem, 192, .inl f_tem)), (h_mm, .inr (8, (mo100 vq1 (.int x_mm_clauses))))] := hD9
  have hS := hS9
  clear hP9 hD9 hS9
  rw [evq1] at hP hD
  replace hP : va_P (dC, dI) cls [(h_mny, .inl (cy_mny, 32, .inl f_mny)), (h_vrs, .inl (cy_vrs, 32, .inl f_vrs)), (h_let, .inl (cy_let, 256, .inl f_let)), (h_isn, .inl (cy_isn, 192, .inl f_isn)), (h_tem, .inl (cy_tem, 192, .inl f_tem)), (h_mm, .inr (8, (mo106 v_mm (.int 0) (.int x_mm_clauses) (.ref h_mny) (.ref h_vrs) (.ref h_let) (.ref h_isn) (.ref h_tem) (.int x_mm_isProof) (.int x_mm_answers))))] H := hP
  replace hD : va_D A [(h_mny, .inl (cy_mny, 32, .inl f_mny)), (h_vrs, .inl (cy_vrs, 32, .inl f_vrs)), (h_let, .inl (cy_let, 256, .inl f_let)), (h_isn, .inl (cy_isn, 192, .inl f_isn)), (h_tem, .inl (cy_tem, 192, .inl f_tem)), (h_mm, .inr (8, (mo106 v_mm (.int 0) (.int x_mm_clauses) (.ref h_mny) (.ref h_vrs) (.ref h_let) (.ref h_isn) (.ref h_tem) (.int x_mm_isProof) (.int x_mm_answers))))] := hD
  clear evq1 
  rcases hq with ⟨rfl, hq⟩ | ⟨rfl, hq⟩
  · replace hq : (0 ≤ ((p1)).toInt) ∧ (((p1)).toInt < ((x_mm_clauses)).toInt) := hq
    refine lv_if_ne (tgt := 15) hx hb dX11_drop_10 (by decide) (fun _ => ?_) (fun c9 => absurd c9 (by decide))
    refine lv_iload_n hx hb dX11_drop_15 rfl (lv_at hl 1 rfl) ?_
    refine lv_istore_n (lv' := [(2, .int p1), (0, .ref h_mm), (1, .int p1)]) hx hb dX11_drop_16 rfl hl (by decide) rfl (fun ls hl => ?_)
    have lp9 : ∀ (n : Nat) (x3 : Int32) (f4 : Nat → Int32) (f5 : Nat → Int32) (f6 : Nat → Int32) (f7 : Nat → Int32) (f8 : Nat → Int32) (H : Heap) (locs : List Loc) (ls : Array Slot), (0 ≤ (x3).toInt ∧ (x3).toInt ≤ 15) → (Rg 0 6 f4) → (Rg 0 8 f5) → (Rg 0 1 f7) → (Rg 0 7999 f8) → ((x3).toInt < (x_mm_clauses).toInt) → ((p1).toInt ≤ (x3).toInt) → (TM 0 N hz 0 (x_mm_clauses).toInt f4 f8) → (RMR (p1).toInt (x3).toInt f_mny f4 f_vrs f5 f_isn f7 f_tem f8) → (16 - (x3).toInt).toNat + 1 ≤ n → va_P (dC, dI) cls [(h_mny, .inl (cy_mny, 32, .inl f4)), (h_vrs, .inl (cy_vrs, 32, .inl f5)), (h_let, .inl (cy_let, 256, .inl f6)), (h_isn, .inl (cy_isn, 192, .inl f7)), (h_tem, .inl (cy_tem, 192, .inl f8)), (h_mm, .inr (8, (mo106 v_mm (.int 0) (.int x_mm_clauses) (.ref h_mny) (.ref h_vrs) (.ref h_let) (.ref h_isn) (.ref h_tem) (.int x_mm_isProof) (.int x_mm_answers))))] H → va_D A [(h_mny, .inl (cy_mny, 32, .inl f4)), (h_vrs, .inl (cy_vrs, 32, .inl f5)), (h_let, .inl (cy_let, 256, .inl f6)), (h_isn, .inl (cy_isn, 192, .inl f7)), (h_tem, .inl (cy_tem, 192, .inl f8)), (h_mm, .inr (8, (mo106 v_mm (.int 0) (.int x_mm_clauses) (.ref h_mny) (.ref h_vrs) (.ref h_let) (.ref h_isn) (.ref h_tem) (.int x_mm_isProof) (.int x_mm_answers))))] → va_S A s.heap H locs → lv_has ls 3 [(0, .ref h_mm), (1, .int p1), (2, .int x3)] → W p l e ({ frames := 2, cells := 0, slots := 0, locals := 47 } : Room) s m ([.ref h_mm, .int p1] : List Value).toArray below meth c H locs 0 0 (MQ below (va_Qi (fun (r : Int32) (u : (Int32) × (Int32) × (Int32) × (Int32) × (Nat → Int32) × (Nat → Int32) × (Nat → Int32) × (Nat → Int32) × (Nat → Int32)) => (0 ≤ (u.2.1).toInt ∧ (u.2.1).toInt ≤ 16) ∧ (0 ≤ (u.2.2.1).toInt ∧ (u.2.2.1).toInt ≤ 1) ∧ (0 ≤ (u.2.2.2.1).toInt ∧ (u.2.2.2.1).toInt ≤ 8) ∧ (Rg 0 6 u.2.2.2.2.1) ∧ (Rg 0 8 u.2.2.2.2.2.1) ∧ (Rg 0 1 u.2.2.2.2.2.2.2.1) ∧ (Rg 0 7999 u.2.2.2.2.2.2.2.2) ∧ (0 ≤ r.toInt ∧ r.toInt ≤ 1) ∧ ((u.2.2.1).toInt = 0 ∨ ((u.2.2.1).toInt = (x_mm_isProof).toInt ∧ (u.2.1).toInt = (x_mm_clauses).toInt)) ∧ (((r).toInt = 1 ∧ 0 ≤ (p1).toInt ∧ (p1).toInt < (x_mm_clauses).toInt ∧ (u.2.1).toInt = (x_mm_clauses).toInt - 1) ∨ ((r).toInt = 0 ∧ ((p1).toInt < 0 ∨ (x_mm_clauses).toInt ≤ (p1).toInt) ∧ (u.2.1).toInt = (x_mm_clauses).toInt)) ∧ (TM 0 N hz 0 (u.2.1).toInt u.2.2.2.2.1 u.2.2.2.2.2.2.2.2) ∧ (((r).toInt = 0 ∧ u.2.2.2.2.1 = f_mny ∧ u.2.2.2.2.2.1 = f_vrs ∧ u.2.2.2.2.2.2.2.1 = f_isn ∧ u.2.2.2.2.2.2.2.2 = f_tem) ∨ ((r).toInt = 1 ∧ RMR (p1).toInt (u.2.1).toInt f_mny u.2.2.2.2.1 f_vrs u.2.2.2.2.2.1 f_isn u.2.2.2.2.2.2.2.1 f_tem u.2.2.2.2.2.2.2.2))) (fun (u : (Int32) × (Int32) × (Int32) × (Int32) × (Nat → Int32) × (Nat → Int32) × (Nat → Int32) × (Nat → Int32) × (Nat → Int32)) (t : State) => va_P (dC, dI) cls [(h_mm, .inr (8, (mo106 v_mm (.int u.1) (.int u.2.1) (.ref h_mny) (.ref h_vrs) (.ref h_let) (.ref h_isn) (.ref h_tem) (.int u.2.2.1) (.int u.2.2.2.1)))), (h_mny, .inl (cy_mny, 32, .inl u.2.2.2.2.1)), (h_vrs, .inl (cy_vrs, 32, .inl u.2.2.2.2.2.1)), (h_let, .inl (cy_let, 256, .inl u.2.2.2.2.2.2.1)), (h_isn, .inl (cy_isn, 192, .inl u.2.2.2.2.2.2.2.1)), (h_tem, .inl (cy_tem, 192, .inl u.2.2.2.2.2.2.2.2))] t.heap ∧ va_D A [(h_mm, .inr (8, (mo106 v_mm (.int u.1) (.int u.2.1) (.ref h_mny) (.ref h_vrs) (.ref h_let) (.ref h_isn) (.ref h_tem) (.int u.2.2.1) (.int u.2.2.2.1)))), (h_mny, .inl (cy_mny, 32, .inl u.2.2.2.2.1)), (h_vrs, .inl (cy_vrs, 32, .inl u.2.2.2.2.2.1)), (h_let, .inl (cy_let, 256, .inl u.2.2.2.2.2.2.1)), (h_isn, .inl (cy_isn, 192, .inl u.2.2.2.2.2.2.2.1)), (h_tem, .inl (cy_tem, 192, .inl u.2.2.2.2.2.2.2.2))]) A) ([.ref h_mm, .int p1] : List Value).toArray s 0 0 A) (F0 m 17 ls []) := by
      clear hP hD hS hl
      intro n
      induction n with
      | zero => intro x3 f4 f5 f6 f7 f8 H locs ls klp9_0 hf4 hf5 hf7 hf8 klp9_5 klp9_6 klp9_7 klp9_8 hm hP hD hS hl; exact False.elim (by omega)
      | succ n ih => 
        intro x3 f4 f5 f6 f7 f8 H locs ls klp9_0 hf4 hf5 hf7 hf8 klp9_5 klp9_6 klp9_7 klp9_8 hm hP hD hS hl
        have ih10 := ih
        clear ih
        refine lv_iload_n hx hb dX11_drop_17 rfl (lv_at hl 2 rfl) ?_
        refine lv_iconst (v := 1) hx hb dX11_drop_18 (by decide) ?_
        refine lv_iadd hx hb dX11_drop_19 ?_
        refine lv_topi (fun z11 ez11 => ?_)
        have tz11 : (z11).toInt = (x3).toInt + 1 := by rw [ez11]; exact i_add rfl (by decide) (by omega)
        refine lv_aload_n hx hb dX11_drop_20 rfl (lv_at hl 0 rfl) ?_
        refine va_get (D := (dC, dI)) (ci := 8) (v := .int x_mm_clauses) (C := RX11) (T := TX11) (N := 71) hx hb hw iwX11 hown hK hP 5 rfl rfl 7 (by decide) (hw _ w_f_X11_164) (fun _ h9 => h9) rfl dX11_drop_21 ?_
        refine lv_icmp_ge (tgt := 41) hx hb dX11_drop_24 (by decide) (fun c12 => ?_) (fun c12 => ?_)
        · have kc12 := (cv_le (rfl : (x_mm_clauses).toInt = (x_mm_clauses).toInt) (rfl : (z11).toInt = (z11).toInt)).mp c12
          refine lv_aload_n hx hb dX11_drop_41 rfl (lv_at hl 0 rfl) ?_
          refine lv_aload_n hx hb dX11_drop_42 rfl (lv_at hl 0 rfl) ?_
          refine va_get (D := (dC, dI)) (ci := 8) (v := .int x_mm_clauses) (C := RX11) (T := TX11) (N := 71) hx hb hw iwX11 hown hK hP 5 rfl rfl 7 (by decide) (hw _ w_f_X11_164) (fun _ h9 => h9) rfl dX11_drop_43 ?_
          refine lv_iconst (v := 1) hx hb dX11_drop_46 (by decide) ?_
          refine lv_isub hx hb dX11_drop_47 ?_
          refine lv_topi (fun z13 ez13 => ?_)
          have tz13 : (z13).toInt = (x_mm_clauses).toInt - 1 := by rw [ez13]; exact i_sub rfl (by decide) (by omega)
          refine va_put (D := (dC, dI)) (ci := 8) (v := .int z13) (ty := tyX11 7) (C := RX11) (T := TX11) (N := 71) hx hb hw iwX11 tyX11 tyX11_ok nmX11 hown hK hP hD hS 5 rfl rfl 7 (by decide) (hw _ w_f_X11_164) (fun _ h9 => h9) rfl (tyX11_ok 7 (by decide)) rfl rfl (Nat.le_of_ble_eq_true rfl) dX11_drop_48 (fun H locs hP9 hD9 hS9 => ?_)
          clear hP hD hS
          have hP : va_P (dC, dI) cls [(h_mny, .inl (cy_mny, 32, .inl f4)), (h_vrs, .inl (cy_vrs, 32, .inl f5)), (h_let, .inl (cy_let, 256, .inl f6)), (h_isn, .inl (cy_isn, 192, .inl f7)), (h_tem, .inl (cy_tem, 192, .inl f8)), (h_mm, .inr (8, (mo106 v_mm (.int 0) (.int z13) (.ref h_mny) (.ref h_vrs) (.ref h_let) (.ref h_isn) (.ref h_tem) (.int x_mm_isProof) (.int x_mm_answers))))] H := hP9
          have hD : va_D A [(h_mny, .inl (cy_mny, 32, .inl f4)), (h_vrs, .inl (cy_vrs, 32, .inl f5)), (h_let, .inl (cy_let, 256, .inl f6)), (h_isn, .inl (cy_isn, 192, .inl f7)), (h_tem, .inl (cy_tem, 192, .inl f8)), (h_mm, .inr (8, (mo106 v_mm (.int 0) (.int z13) (.ref h_mny) (.ref h_vrs) (.ref h_let) (.ref h_isn) (.ref h_tem) (.int x_mm_isProof) (.int x_mm_answers))))] := hD9
          have hS := hS9
          clear hP9 hD9 hS9
          have tm14 : TM 0 N hz 0 (z13).toInt f4 f8 := tm_less klp9_7 (by omega)
          refine lv_aload_n hx hb dX11_drop_51 rfl (lv_at hl 0 rfl) ?_
          obtain ⟨vq15, evq15⟩ := mq106_104 v_mm (.int 0) (.int z13) (.ref h_mny) (.ref h_vrs) (.ref h_let) (.ref h_isn) (.ref h_tem)
          replace hP : va_P (dC, dI) cls [(h_mny, .inl (cy_mny, 32, .inl f4)), (h_vrs, .inl (cy_vrs, 32, .inl f5)), (h_let, .inl (cy_let, 256, .inl f6)), (h_isn, .inl (cy_isn, 192, .inl f7)), (h_tem, .inl (cy_tem, 192, .inl f8)), (h_mm, .inr (8, (mo104 vq15 (.int x_mm_isProof) (.int x_mm_answers))))] H := by rw [evq15]; exact hP
          replace hD : va_D A [(h_mny, .inl (cy_mny, 32, .inl f4)), (h_vrs, .inl (cy_vrs, 32, .inl f5)), (h_let, .inl (cy_let, 256, .inl f6)), (h_isn, .inl (cy_isn, 192, .inl f7)), (h_tem, .inl (cy_tem, 192, .inl f8)), (h_mm, .inr (8, (mo104 vq15 (.int x_mm_isProof) (.int x_mm_answers))))] := by rw [evq15]; exact hD
          have hPc := hP.sub (ws' := [(h_mm, .inr (8, (mo104 vq15 (.int x_mm_isProof) (.int x_mm_answers))))]) [5] rfl
          have hDc := hD.sub (ws' := [(h_mm, .inr (8, (mo104 vq15 (.int x_mm_isProof) (.int x_mm_answers))))]) [5] (by decide) rfl
          have hKc := hK.sub (tys' := []) [] rfl
          have hFc := va_free (wc := [(h_mm, .inr (8, (mo104 vq15 (.int x_mm_isProof) (.int x_mm_answers))))]) hD hS hA [5] rfl
          refine va_callv (va_runV (As := []) (rest := []) ⟨hx, hb, hml, hown, hts⟩ (c_X11_forgets_e l dC dI H.size h_mm vq15 x_mm_isProof x_mm_answers (by first | exact hx_mm_isProof | omega) (by first | exact hx_mm_answers | omega)) (cwV 0 hts (gv hT w_m_X11_171 w_instanceMethod_X11_forgets ws_sel_X11_forgets w_ini_X11 w_code_X11_forgets) rfl rfl rfl (by decide +kernel) ⟨(Nat.le_of_ble_eq_true rfl), (Nat.le_of_ble_eq_true rfl)⟩) ⟨pre_blind, va_recv hK hP (ci := 8) (q0 := 5) rfl rfl, pre_of hPc hKc hDc hN⟩ rfl rfl hl.1 rfl (lv_room (Nat.le_of_ble_eq_true rfl)) dX11_drop_52 ⟨(Nat.le_of_ble_eq_true rfl), (Nat.le_of_ble_eq_true rfl)⟩) hS (fun q _ h => hFc q h) hFc (fun u t H locs ht hvm hq hB hz1 hk1 hS9 => ?_)
          obtain ⟨z17, z18⟩ := u
          obtain ⟨hP1, hD1⟩ := hB
          rw [ht] at hP1
          obtain ⟨hP9, hD9⟩ := va_join (wr := [(h_mny, .inl (cy_mny, 32, .inl f4)), (h_vrs, .inl (cy_vrs, 32, .inl f5)), (h_let, .inl (cy_let, 256, .inl f6)), (h_isn, .inl (cy_isn, 192, .inl f7)), (h_tem, .inl (cy_tem, 192, .inl f8))]) (w1 := [(h_mm, .inr (8, (mo104 vq15 (.int z17) (.int z18))))]) hP hD [5] [0, 1, 2, 3, 4] rfl rfl (by decide) (by decide) hk1 hFc hP1 hD1
          clear hP hD hS hPc hDc hKc hFc hP1 hD1 hk1 hz1 ht hvm
          have hP : va_P (dC, dI) cls [(h_mny, .inl (cy_mny, 32, .inl f4)), (h_vrs, .inl (cy_vrs, 32, .inl f5)), (h_let, .inl (cy_let, 256, .inl f6)), (h_isn, .inl (cy_isn, 192, .inl f7)), (h_tem, .inl (cy_tem, 192, .inl f8)), (h_mm, .inr (8, (mo104 vq15 (.int z17) (.int z18))))] H := hP9
          have hD : va_D A [(h_mny, .inl (cy_mny, 32, .inl f4)), (h_vrs, .inl (cy_vrs, 32, .inl f5)), (h_let, .inl (cy_let, 256, .inl f6)), (h_isn, .inl (cy_isn, 192, .inl f7)), (h_tem, .inl (cy_tem, 192, .inl f8)), (h_mm, .inr (8, (mo104 vq15 (.int z17) (.int z18))))] := hD9
          have hS := hS9
          clear hP9 hD9 hS9
          rw [evq15] at hP hD
          replace hP : va_P (dC, dI) cls [(h_mny, .inl (cy_mny, 32, .inl f4)), (h_vrs, .inl (cy_vrs, 32, .inl f5)), (h_let, .inl (cy_let, 256, .inl f6)), (h_isn, .inl (cy_isn, 192, .inl f7)), (h_tem, .inl (cy_tem, 192, .inl f8)), (h_mm, .inr (8, (mo106 v_mm (.int 0) (.int z13) (.ref h_mny) (.ref h_vrs) (.ref h_let) (.ref h_isn) (.ref h_tem) (.int z17) (.int z18))))] H := hP
          replace hD : va_D A [(h_mny, .inl (cy_mny, 32, .inl f4)), (h_vrs, .inl (cy_vrs, 32, .inl f5)), (h_let, .inl (cy_let, 256, .inl f6)), (h_isn, .inl (cy_isn, 192, .inl f7)), (h_tem, .inl (cy_tem, 192, .inl f8)), (h_mm, .inr (8, (mo106 v_mm (.int 0) (.int z13) (.ref h_mny) (.ref h_vrs) (.ref h_let) (.ref h_isn) (.ref h_tem) (.int z17) (.int z18))))] := hD
          clear evq15 
          obtain ⟨k19, k20, k21, k22⟩ := hq
          replace k19 : 0 ≤ ((z17)).toInt ∧ ((z17)).toInt ≤ 1 := k19
          replace k20 : 0 ≤ ((z18)).toInt ∧ ((z18)).toInt ≤ 8 := k20
          replace k21 : ((z17)).toInt = 0 := k21
          replace k22 : ((z18)).toInt = 0 := k22
          refine lv_iconst (v := 1) hx hb dX11_drop_55 (by decide) ?_
          replace hP : va_P (dC, dI) cls [(h_mm, .inr (8, (mo106 v_mm (.int 0) (.int z13) (.ref h_mny) (.ref h_vrs) (.ref h_let) (.ref h_isn) (.ref h_tem) (.int z17) (.int z18)))), (h_mny, .inl (cy_mny, 32, .inl f4)), (h_vrs, .inl (cy_vrs, 32, .inl f5)), (h_let, .inl (cy_let, 256, .inl f6)), (h_isn, .inl (cy_isn, 192, .inl f7)), (h_tem, .inl (cy_tem, 192, .inl f8))] H := hP.sub [5, 0, 1, 2, 3, 4] rfl
          replace hD : va_D A [(h_mm, .inr (8, (mo106 v_mm (.int 0) (.int z13) (.ref h_mny) (.ref h_vrs) (.ref h_let) (.ref h_isn) (.ref h_tem) (.int z17) (.int z18)))), (h_mny, .inl (cy_mny, 32, .inl f4)), (h_vrs, .inl (cy_vrs, 32, .inl f5)), (h_let, .inl (cy_let, 256, .inl f6)), (h_isn, .inl (cy_isn, 192, .inl f7)), (h_tem, .inl (cy_tem, 192, .inl f8))] := hD.sub [5, 0, 1, 2, 3, 4] (by decide) rfl
          refine W.widen (k := 0) (n := 0) (Nat.le_of_ble_eq_true rfl) (Nat.le_of_ble_eq_true rfl) ?_
          have cst1 : (1 : Int32).toInt = 1 := by decide
          have cst0 : (0 : Int32).toInt = 0 := by decide
          have w23 : 0 ≤ ((z13)).toInt ∧ ((z13)).toInt ≤ 16 := by omega
          have w24 : 0 ≤ ((z17)).toInt ∧ ((z17)).toInt ≤ 1 := by first | exact k19 | omega
          have w25 : 0 ≤ ((z18)).toInt ∧ ((z18)).toInt ≤ 8 := by first | exact k20 | omega
          have w26 : 0 ≤ (1 : Int32).toInt ∧ (1 : Int32).toInt ≤ 1 := by omega
          have w27 : ((z17)).toInt = 0 ∨ (((z17)).toInt = (x_mm_isProof).toInt ∧ ((z13)).toInt = (x_mm_clauses).toInt) := by omega
          have w28 : (((1 : Int32)).toInt = 1 ∧ 0 ≤ (p1).toInt ∧ (p1).toInt < (x_mm_clauses).toInt ∧ ((z13)).toInt = (x_mm_clauses).toInt - 1) ∨ (((1 : Int32)).toInt = 0 ∧ ((p1).toInt < 0 ∨ (x_mm_clauses).toInt ≤ (p1).toInt) ∧ ((z13)).toInt = (x_mm_clauses).toInt) := by omega
          have w29 : TM 0 N hz 0 ((z13)).toInt (f4) (f8) := tm14
          have w30 : (((1 : Int32)).toInt = 0 ∧ (f4) = f_mny ∧ (f5) = f_vrs ∧ (f7) = f_isn ∧ (f8) = f_tem) ∨ (((1 : Int32)).toInt = 1 ∧ RMR (p1).toInt ((z13)).toInt f_mny (f4) f_vrs (f5) f_isn (f7) f_tem (f8)) := (Or.inr ⟨by decide, (rmr_cast klp9_8 (by omega))⟩)
          exact W.zret (v := 1) (ty := .boolean) hx hb hr (by decide) (fun t ht hW => ⟨⟨1, (0, z13, z17, z18, f4, f5, f6, f7, f8), rfl, ⟨w23, w24, w25, hf4, hf5, hf7, hf8, w26, w27, w28, w29, w30⟩, by rw [ht]; exact hP, hD⟩, hS.F ht⟩) hS.2.2 dX11_drop_56
        · have kc12 := (not_congr (cv_le (rfl : (x_mm_clauses).toInt = (x_mm_clauses).toInt) (rfl : (z11).toInt = (z11).toInt))).mp c12
          refine lv_aload_n hx hb dX11_drop_27 rfl (lv_at hl 0 rfl) ?_
          refine lv_iload_n hx hb dX11_drop_28 rfl (lv_at hl 2 rfl) ?_
          refine lv_iconst (v := 1) hx hb dX11_drop_29 (by decide) ?_
          refine lv_iadd hx hb dX11_drop_30 ?_
          refine lv_topi (fun z31 ez31 => ?_)
          have qz31 : (z31).toInt = (z11).toInt := by rw [ez31, ez11]
          have tz31 : (z31).toInt = (x3).toInt + 1 := by rw [ez31]; exact i_add rfl (by decide) (by omega)
          refine lv_iload_n hx hb dX11_drop_31 rfl (lv_at hl 2 rfl) ?_
          obtain ⟨vq32, evq32⟩ := mq106_102 v_mm (.int 0) (.int x_mm_clauses) (.int x_mm_isProof) (.int x_mm_answers)
          replace hP : va_P (dC, dI) cls [(h_mny, .inl (cy_mny, 32, .inl f4)), (h_vrs, .inl (cy_vrs, 32, .inl f5)), (h_let, .inl (cy_let, 256, .inl f6)), (h_isn, .inl (cy_isn, 192, .inl f7)), (h_tem, .inl (cy_tem, 192, .inl f8)), (h_mm, .inr (8, (mo102 vq32 (.ref h_mny) (.ref h_vrs) (.ref h_let) (.ref h_isn) (.ref h_tem))))] H := by rw [evq32]; exact hP
          replace hD : va_D A [(h_mny, .inl (cy_mny, 32, .inl f4)), (h_vrs, .inl (cy_vrs, 32, .inl f5)), (h_let, .inl (cy_let, 256, .inl f6)), (h_isn, .inl (cy_isn, 192, .inl f7)), (h_tem, .inl (cy_tem, 192, .inl f8)), (h_mm, .inr (8, (mo102 vq32 (.ref h_mny) (.ref h_vrs) (.ref h_let) (.ref h_isn) (.ref h_tem))))] := by rw [evq32]; exact hD
          have hPc := hP.sub (ws' := [(h_mm, .inr (8, (mo102 vq32 (.ref h_mny) (.ref h_vrs) (.ref h_let) (.ref h_isn) (.ref h_tem)))), (h_mny, .inl (cy_mny, 32, .inl f4)), (h_vrs, .inl (cy_vrs, 32, .inl f5)), (h_let, .inl (cy_let, 256, .inl f6)), (h_isn, .inl (cy_isn, 192, .inl f7)), (h_tem, .inl (cy_tem, 192, .inl f8))]) [5, 0, 1, 2, 3, 4] rfl
          have hDc := hD.sub (ws' := [(h_mm, .inr (8, (mo102 vq32 (.ref h_mny) (.ref h_vrs) (.ref h_let) (.ref h_isn) (.ref h_tem)))), (h_mny, .inl (cy_mny, 32, .inl f4)), (h_vrs, .inl (cy_vrs, 32, .inl f5)), (h_let, .inl (cy_let, 256, .inl f6)), (h_isn, .inl (cy_isn, 192, .inl f7)), (h_tem, .inl (cy_tem, 192, .inl f8))]) [5, 0, 1, 2, 3, 4] (by decide) rfl
          have hKc := hK.sub (tys' := [(cy_mny, .int), (cy_vrs, .int), (cy_let, .int), (cy_isn, .boolean), (cy_tem, .int)]) [0, 1, 2, 3, 4] rfl
          have hFc := va_free (wc := [(h_mm, .inr (8, (mo102 vq32 (.ref h_mny) (.ref h_vrs) (.ref h_let) (.ref h_isn) (.ref h_tem)))), (h_mny, .inl (cy_mny, 32, .inl f4)), (h_vrs, .inl (cy_vrs, 32, .inl f5)), (h_let, .inl (cy_let, 256, .inl f6)), (h_isn, .inl (cy_isn, 192, .inl f7)), (h_tem, .inl (cy_tem, 192, .inl f8))]) hD hS hA [5, 0, 1, 2, 3, 4] rfl
          refine va_callv (va_runV (As := [.int z31, .int x3]) (rest := []) ⟨hx, hb, hml, hown, hts⟩ (c_X11_copiesClause_e l dC dI H.size h_mm h_mny h_vrs h_let h_isn h_tem vq32 cy_mny f4 cy_vrs f5 cy_let f6 cy_isn f7 cy_tem f8 z31 x3 hf4 hf5 hf7 hf8 (by omega) (by omega)) (cwV 2 hts (gv hT w_m_X11_167 w_instanceMethod_X11_copiesClause ws_sel_X11_copiesClause w_ini_X11 w_code_X11_copiesClause) rfl rfl rfl (by decide +kernel) ⟨(Nat.le_of_ble_eq_true rfl), (Nat.le_of_ble_eq_true rfl)⟩) ⟨pre_blind, va_recv hK hP (ci := 8) (q0 := 5) rfl rfl, pre_of hPc hKc hDc hN⟩ rfl rfl hl.1 rfl (lv_room (Nat.le_of_ble_eq_true rfl)) dX11_drop_32 ⟨(Nat.le_of_ble_eq_true rfl), (Nat.le_of_ble_eq_true rfl)⟩) hS (fun q _ h => hFc q h) hFc (fun u t H locs ht hvm hq hB hz1 hk1 hS9 => ?_)
          obtain ⟨f34, f35, f36, f37, f38⟩ := u
          obtain ⟨hP1, hD1⟩ := hB
          rw [ht] at hP1
          obtain ⟨hP9, hD9⟩ := va_join (wr := []) (w1 := [(h_mm, .inr (8, (mo102 vq32 (.ref h_mny) (.ref h_vrs) (.ref h_let) (.ref h_isn) (.ref h_tem)))), (h_mny, .inl (cy_mny, 32, .inl f34)), (h_vrs, .inl (cy_vrs, 32, .inl f35)), (h_let, .inl (cy_let, 256, .inl f36)), (h_isn, .inl (cy_isn, 192, .inl f37)), (h_tem, .inl (cy_tem, 192, .inl f38))]) hP hD [5, 0, 1, 2, 3, 4] [] rfl rfl (by decide) (by decide) hk1 hFc hP1 hD1
          clear hP hD hS hPc hDc hKc hFc hP1 hD1 hk1 hz1 ht hvm
          have hP : va_P (dC, dI) cls [(h_mm, .inr (8, (mo102 vq32 (.ref h_mny) (.ref h_vrs) (.ref h_let) (.ref h_isn) (.ref h_tem)))), (h_mny, .inl (cy_mny, 32, .inl f34)), (h_vrs, .inl (cy_vrs, 32, .inl f35)), (h_let, .inl (cy_let, 256, .inl f36)), (h_isn, .inl (cy_isn, 192, .inl f37)), (h_tem, .inl (cy_tem, 192, .inl f38))] H := hP9
          have hD : va_D A [(h_mm, .inr (8, (mo102 vq32 (.ref h_mny) (.ref h_vrs) (.ref h_let) (.ref h_isn) (.ref h_tem)))), (h_mny, .inl (cy_mny, 32, .inl f34)), (h_vrs, .inl (cy_vrs, 32, .inl f35)), (h_let, .inl (cy_let, 256, .inl f36)), (h_isn, .inl (cy_isn, 192, .inl f37)), (h_tem, .inl (cy_tem, 192, .inl f38))] := hD9
          have hS := hS9
          clear hP9 hD9 hS9
          rw [evq32] at hP hD
          replace hP : va_P (dC, dI) cls [(h_mm, .inr (8, (mo106 v_mm (.int 0) (.int x_mm_clauses) (.ref h_mny) (.ref h_vrs) (.ref h_let) (.ref h_isn) (.ref h_tem) (.int x_mm_isProof) (.int x_mm_answers)))), (h_mny, .inl (cy_mny, 32, .inl f34)), (h_vrs, .inl (cy_vrs, 32, .inl f35)), (h_let, .inl (cy_let, 256, .inl f36)), (h_isn, .inl (cy_isn, 192, .inl f37)), (h_tem, .inl (cy_tem, 192, .inl f38))] H := hP
          replace hD : va_D A [(h_mm, .inr (8, (mo106 v_mm (.int 0) (.int x_mm_clauses) (.ref h_mny) (.ref h_vrs) (.ref h_let) (.ref h_isn) (.ref h_tem) (.int x_mm_isProof) (.int x_mm_answers)))), (h_mny, .inl (cy_mny, 32, .inl f34)), (h_vrs, .inl (cy_vrs, 32, .inl f35)), (h_let, .inl (cy_let, 256, .inl f36)), (h_isn, .inl (cy_isn, 192, .inl f37)), (h_tem, .inl (cy_tem, 192, .inl f38))] := hD
          clear evq32 
          obtain ⟨hf34, hf35, hf37, hf38, k39, k40, k41, k42⟩ := hq
          replace hf34 : Rg 0 6 (f34) := hf34
          replace hf35 : Rg 0 8 (f35) := hf35
          replace hf37 : Rg 0 1 (f37) := hf37
          replace hf38 : Rg 0 7999 (f38) := hf38
          replace k39 : (f34) = upd (f4) (Int32.toNatClampNeg (x3)) ((f4) (Int32.toNatClampNeg (z31))) := k39
          replace k40 : CPT 6 (f8) (f38) (z31) (x3) := k40
          replace k41 : (f35) = upd (f5) (Int32.toNatClampNeg (x3)) ((f5) (Int32.toNatClampNeg (z31))) := k41
          replace k42 : CPT 6 (f7) (f37) (z31) (x3) := k42
          have ckp := clamp_nat (i := z31) (by omega)
          have tc43 : TMc 0 N hz f4 f8 (Int32.toNatClampNeg z31) := tm_at klp9_7 (by omega) (by omega)
          have tm44 : TM 0 N hz 0 (x_mm_clauses).toInt f34 f38 := tm_copy klp9_7 (by omega) (by omega) tc43 k39 k40 (Or.inl (by omega))
          have rm45 : RMR (p1).toInt ((x3).toInt + 1) f_mny f34 f_vrs f35 f_isn f37 f_tem f38 := rmr_step klp9_8 (by omega) (by omega) rfl k39 k41 k42 k40 rfl
          obtain ⟨z46, ez46⟩ : ∃ y : Int32, y = x3 + 1 := ⟨_, rfl⟩
          have tz46 : (z46).toInt = (x3).toInt + 1 := by rw [ez46]; exact i_add rfl (by decide) (by omega)
          refine lv_iinc (v := z46) (lv' := [(2, .int z46), (0, .ref h_mm), (1, .int p1)]) hx hb dX11_drop_35 hl (k := 2) rfl (by rw [ez46]; rfl) (by decide) rfl (fun ls hl => ?_)
          refine lv_goto (tgt := 17) hx hb dX11_drop_38 (by decide) ?_
          replace hP : va_P (dC, dI) cls [(h_mny, .inl (cy_mny, 32, .inl f34)), (h_vrs, .inl (cy_vrs, 32, .inl f35)), (h_let, .inl (cy_let, 256, .inl f36)), (h_isn, .inl (cy_isn, 192, .inl f37)), (h_tem, .inl (cy_tem, 192, .inl f38)), (h_mm, .inr (8, (mo106 v_mm (.int 0) (.int x_mm_clauses) (.ref h_mny) (.ref h_vrs) (.ref h_let) (.ref h_isn) (.ref h_tem) (.int x_mm_isProof) (.int x_mm_answers))))] H := hP.sub [1, 2, 3, 4, 5, 0] rfl
          replace hD : va_D A [(h_mny, .inl (cy_mny, 32, .inl f34)), (h_vrs, .inl (cy_vrs, 32, .inl f35)), (h_let, .inl (cy_let, 256, .inl f36)), (h_isn, .inl (cy_isn, 192, .inl f37)), (h_tem, .inl (cy_tem, 192, .inl f38)), (h_mm, .inr (8, (mo106 v_mm (.int 0) (.int x_mm_clauses) (.ref h_mny) (.ref h_vrs) (.ref h_let) (.ref h_isn) (.ref h_tem) (.int x_mm_isProof) (.int x_mm_answers))))] := hD.sub [1, 2, 3, 4, 5, 0] (by decide) rfl
          exact ih10 (z46) (f34) (f35) (f36) (f37) (f38) _ _ _ (by omega) hf34 hf35 hf37 hf38 (by omega) (by omega) tm44 (rmr_cast rm45 (by omega)) (by omega) hP hD hS (lv_sub hl [1, 2, 0] rfl)
    exact lp9 _ (p1) (f_mny) (f_vrs) (f_let) (f_isn) (f_tem) _ _ _ (by omega) hf_mny hf_vrs hf_isn hf_tem (by omega) (by omega) hn_tms (rmr_cast (rmr_zero rfl) (by omega)) (Nat.le_refl _) hP hD hS (lv_sub hl [1, 2, 0] rfl)
  · replace hq : (((p1)).toInt < 0 ∨ ((x_mm_clauses)).toInt ≤ ((p1)).toInt) := hq
    refine lv_if_ne (tgt := 15) hx hb dX11_drop_10 (by decide) (fun c9 => absurd c9 (by decide)) (fun _ => ?_)
    refine lv_iconst (v := 0) hx hb dX11_drop_13 (by decide) ?_
    replace hP : va_P (dC, dI) cls [(h_mm, .inr (8, (mo106 v_mm (.int 0) (.int x_mm_clauses) (.ref h_mny) (.ref h_vrs) (.ref h_let) (.ref h_isn) (.ref h_tem) (.int x_mm_isProof) (.int x_mm_answers)))), (h_mny, .inl (cy_mny, 32, .inl f_mny)), (h_vrs, .inl (cy_vrs, 32, .inl f_vrs)), (h_let, .inl (cy_let, 256, .inl f_let)), (h_isn, .inl (cy_isn, 192, .inl f_isn)), (h_tem, .inl (cy_tem, 192, .inl f_tem))] H := hP.sub [5, 0, 1, 2, 3, 4] rfl
    replace hD : va_D A [(h_mm, .inr (8, (mo106 v_mm (.int 0) (.int x_mm_clauses) (.ref h_mny) (.ref h_vrs) (.ref h_let) (.ref h_isn) (.ref h_tem) (.int x_mm_isProof) (.int x_mm_answers)))), (h_mny, .inl (cy_mny, 32, .inl f_mny)), (h_vrs, .inl (cy_vrs, 32, .inl f_vrs)), (h_let, .inl (cy_let, 256, .inl f_let)), (h_isn, .inl (cy_isn, 192, .inl f_isn)), (h_tem, .inl (cy_tem, 192, .inl f_tem))] := hD.sub [5, 0, 1, 2, 3, 4] (by decide) rfl
    refine W.widen (k := 0) (n := 0) (Nat.le_of_ble_eq_true rfl) (Nat.le_of_ble_eq_true rfl) ?_
    have cst0 : (0 : Int32).toInt = 0 := by decide
    have w47 : 0 ≤ ((x_mm_clauses)).toInt ∧ ((x_mm_clauses)).toInt ≤ 16 := by first | exact hx_mm_clauses | omega
    have w48 : 0 ≤ ((x_mm_isProof)).toInt ∧ ((x_mm_isProof)).toInt ≤ 1 := by first | exact hx_mm_isProof | omega
    have w49 : 0 ≤ ((x_mm_answers)).toInt ∧ ((x_mm_answers)).toInt ≤ 8 := by first | exact hx_mm_answers | omega
    have w50 : 0 ≤ (0 : Int32).toInt ∧ (0 : Int32).toInt ≤ 1 := by omega
    have w51 : ((x_mm_isProof)).toInt = 0 ∨ (((x_mm_isProof)).toInt = (x_mm_isProof).toInt ∧ ((x_mm_clauses)).toInt = (x_mm_clauses).toInt) := by omega
    have w52 : (((0 : Int32)).toInt = 1 ∧ 0 ≤ (p1).toInt ∧ (p1).toInt < (x_mm_clauses).toInt ∧ ((x_mm_clauses)).toInt = (x_mm_clauses).toInt - 1) ∨ (((0 : Int32)).toInt = 0 ∧ ((p1).toInt < 0 ∨ (x_mm_clauses).toInt ≤ (p1).toInt) ∧ ((x_mm_clauses)).toInt = (x_mm_clauses).toInt) := by omega
    have w53 : TM 0 N hz 0 ((x_mm_clauses)).toInt (f_mny) (f_tem) := hn_tms
    have w54 : (((0 : Int32)).toInt = 0 ∧ (f_mny) = f_mny ∧ (f_vrs) = f_vrs ∧ (f_isn) = f_isn ∧ (f_tem) = f_tem) ∨ (((0 : Int32)).toInt = 1 ∧ RMR (p1).toInt ((x_mm_clauses)).toInt f_mny (f_mny) f_vrs (f_vrs) f_isn (f_isn) f_tem (f_tem)) := (Or.inl ⟨by decide, rfl, rfl, rfl, rfl⟩)
    exact W.zret (v := 0) (ty := .boolean) hx hb hr (by decide) (fun t ht hW => ⟨⟨0, (0, x_mm_clauses, x_mm_isProof, x_mm_answers, f_mny, f_vrs, f_let, f_isn, f_tem), rfl, ⟨w47, w48, w49, hf_mny, hf_vrs, hf_isn, hf_tem, w50, w51, w52, w53, w54⟩, by rw [ht]; exact hP, hD⟩, hS.F ht⟩) hS.2.2 dX11_drop_14

