theorem dX0_init_0 : decode cX0_init 0 = .ok (.aload_n 0, 1) := by decide +kernel
theorem dX0_init_1 : decode cX0_init 1 = .ok (.invokespecial 3, 3) := by decide +kernel
theorem dX0_init_12 : decode cX0_init 12 = .ok (.aload_n 0, 1) := by decide +kernel
theorem dX0_init_13 : decode cX0_init 13 = .ok (.bipush 8, 2) := by decide +kernel
theorem dX0_init_15 : decode cX0_init 15 = .ok (.newarray .int, 2) := by decide +kernel
theorem dX0_init_17 : decode cX0_init 17 = .ok (.putfield 15, 3) := by decide +kernel
theorem dX0_init_20 : decode cX0_init 20 = .ok (.aload_n 0, 1) := by decide +kernel
theorem dX0_init_21 : decode cX0_init 21 = .ok (.bipush 8, 2) := by decide +kernel
theorem dX0_init_23 : decode cX0_init 23 = .ok (.newarray .int, 2) := by decide +kernel
theorem dX0_init_25 : decode cX0_init 25 = .ok (.putfield 18, 3) := by decide +kernel
theorem dX0_init_28 : decode cX0_init 28 = .ok (.aload_n 0, 1) := by decide +kernel
theorem dX0_init_29 : decode cX0_init 29 = .ok (.bipush 8, 2) := by decide +kernel
theorem dX0_init_31 : decode cX0_init 31 = .ok (.newarray .int, 2) := by decide +kernel
theorem dX0_init_33 : decode cX0_init 33 = .ok (.putfield 21, 3) := by decide +kernel
theorem dX0_init_36 : decode cX0_init 36 = .ok (.return_, 1) := by decide +kernel
theorem dX0_init_4 : decode cX0_init 4 = .ok (.aload_n 0, 1) := by decide +kernel
theorem dX0_init_5 : decode cX0_init 5 = .ok (.bipush 8, 2) := by decide +kernel
theorem dX0_init_7 : decode cX0_init 7 = .ok (.newarray .int, 2) := by decide +kernel
theorem dX0_init_9 : decode cX0_init 9 = .ok (.putfield 9, 3) := by decide +kernel
theorem dX10_answer_0 : decode cX10_answer 0 = .ok (.iload_n 1, 1) := by decide +kernel
theorem dX10_answer_1 : decode cX10_answer 1 = .ok (.iconst (-1), 1) := by decide +kernel
theorem dX10_answer_12 : decode cX10_answer 12 = .ok (.ireturn, 1) := by decide +kernel
theorem dX10_answer_13 : decode cX10_answer 13 = .ok (.iload_n 1, 1) := by decide +kernel
theorem dX10_answer_14 : decode cX10_answer 14 = .ok (.ifCond .lt 14, 3) := by decide +kernel
theorem dX10_answer_17 : decode cX10_answer 17 = .ok (.iload_n 1, 1) := by decide +kernel
theorem dX10_answer_18 : decode cX10_answer 18 = .ok (.aload_n 0, 1) := by decide +kernel
theorem dX10_answer_19 : decode cX10_answer 19 = .ok (.getfield 63, 3) := by decide +kernel
theorem dX10_answer_2 : decode cX10_answer 2 = .ok (.if_icmp .ne 11, 3) := by decide +kernel
theorem dX10_answer_22 : decode cX10_answer 22 = .ok (.getfield 232, 3) := by decide +kernel
theorem dX10_answer_25 : decode cX10_answer 25 = .ok (.if_icmp .lt 5, 3) := by decide +kernel
theorem dX10_answer_28 : decode cX10_answer 28 = .ok (.iconst (-1), 1) := by decide +kernel
theorem dX10_answer_29 : decode cX10_answer 29 = .ok (.ireturn, 1) := by decide +kernel
theorem dX10_answer_5 : decode cX10_answer 5 = .ok (.aload_n 0, 1) := by decide +kernel
theorem dX10_answer_6 : decode cX10_answer 6 = .ok (.getfield 63, 3) := by decide +kernel
theorem dX10_answer_9 : decode cX10_answer 9 = .ok (.getfield 232, 3) := by decide +kernel
theorem dX10_any_0 : decode cX10_any 0 = .ok (.iload_n 1, 1) := by decide +kernel
theorem dX10_any_1 : decode cX10_any 1 = .ok (.iload_n 2, 1) := by decide +kernel
theorem dX10_any_10 : decode cX10_any 10 = .ok (.ireturn, 1) := by decide +kernel
theorem dX10_any_11 : decode cX10_any 11 = .ok (.aload_n 0, 1) := by decide +kernel
theorem dX10_any_12 : decode cX10_any 12 = .ok (.invokevirtual 153, 3) := by decide +kernel
theorem dX10_any_15 : decode cX10_any 15 = .ok (.iconst 0, 1) := by decide +kernel
theorem dX10_any_16 : decode cX10_any 16 = .ok (.istore_n 3, 1) := by decide +kernel
theorem dX10_any_17 : decode cX10_any 17 = .ok (.iload_n 3, 1) := by decide +kernel
theorem dX10_any_18 : decode cX10_any 18 = .ok (.aload_n 0, 1) := by decide +kernel
theorem dX10_any_19 : decode cX10_any 19 = .ok (.getfield 19, 3) := by decide +kernel
theorem dX10_any_2 : decode cX10_any 2 = .ok (.invokestatic 150, 3) := by decide +kernel
theorem dX10_any_22 : decode cX10_any 22 = .ok (.getfield 84, 3) := by decide +kernel
theorem dX10_any_25 : decode cX10_any 25 = .ok (.if_icmp .ge 39, 3) := by decide +kernel
theorem dX10_any_5 : decode cX10_any 5 = .ok (.ifCond .ne 6, 3) := by decide +kernel
theorem dX10_any_64 : decode cX10_any 64 = .ok (.iconst (-1), 1) := by decide +kernel
theorem dX10_any_65 : decode cX10_any 65 = .ok (.ireturn, 1) := by decide +kernel
theorem dX10_any_8 : decode cX10_any 8 = .ok (.bipush (-3), 2) := by decide +kernel
theorem dX10_begin_0 : decode cX10_begin 0 = .ok (.aload_n 0, 1) := by decide +kernel
theorem dX10_begin_1 : decode cX10_begin 1 = .ok (.getfield 56, 3) := by decide +kernel
theorem dX10_begin_11 : decode cX10_begin 11 = .ok (.invokevirtual 262, 3) := by decide +kernel
theorem dX10_begin_14 : decode cX10_begin 14 = .ok (.return_, 1) := by decide +kernel
theorem dX10_begin_4 : decode cX10_begin 4 = .ok (.invokevirtual 259, 3) := by decide +kernel
theorem dX10_begin_7 : decode cX10_begin 7 = .ok (.aload_n 0, 1) := by decide +kernel
theorem dX10_begin_8 : decode cX10_begin 8 = .ok (.getfield 47, 3) := by decide +kernel
theorem dX10_canBe_0 : decode cX10_canBe 0 = .ok (.iload_n 0, 1) := by decide +kernel
theorem dX10_canBe_1 : decode cX10_canBe 1 = .ok (.ifCond .lt 23, 3) := by decide +kernel
theorem dX10_canBe_10 : decode cX10_canBe 10 = .ok (.iload_n 1, 1) := by decide +kernel
theorem dX10_canBe_11 : decode cX10_canBe 11 = .ok (.ifCond .lt 13, 3) := by decide +kernel
theorem dX10_canBe_14 : decode cX10_canBe 14 = .ok (.iload_n 1, 1) := by decide +kernel
theorem dX10_canBe_15 : decode cX10_canBe 15 = .ok (.bipush 7, 2) := by decide +kernel
theorem dX10_canBe_17 : decode cX10_canBe 17 = .ok (.if_icmp .gt 7, 3) := by decide +kernel
theorem dX10_canBe_20 : decode cX10_canBe 20 = .ok (.iconst 1, 1) := by decide +kernel
theorem dX10_canBe_21 : decode cX10_canBe 21 = .ok (.goto 4, 3) := by decide +kernel
theorem dX10_canBe_24 : decode cX10_canBe 24 = .ok (.iconst 0, 1) := by decide +kernel
theorem dX10_canBe_25 : decode cX10_canBe 25 = .ok (.ireturn, 1) := by decide +kernel
theorem dX10_canBe_4 : decode cX10_canBe 4 = .ok (.iload_n 0, 1) := by decide +kernel
theorem dX10_canBe_5 : decode cX10_canBe 5 = .ok (.bipush 20, 2) := by decide +kernel
theorem dX10_canBe_7 : decode cX10_canBe 7 = .ok (.if_icmp .gt 17, 3) := by decide +kernel
theorem dX10_clause_0 : decode cX10_clause 0 = .ok (.aload_n 0, 1) := by decide +kernel
theorem dX10_clause_1 : decode cX10_clause 1 = .ok (.getfield 19, 3) := by decide +kernel
theorem dX10_clause_11 : decode cX10_clause 11 = .ok (.iconst (-1), 1) := by decide +kernel
theorem dX10_clause_12 : decode cX10_clause 12 = .ok (.ireturn, 1) := by decide +kernel
theorem dX10_clause_4 : decode cX10_clause 4 = .ok (.iload_n 1, 1) := by decide +kernel
theorem dX10_clause_5 : decode cX10_clause 5 = .ok (.invokevirtual 90, 3) := by decide +kernel
theorem dX10_clause_8 : decode cX10_clause 8 = .ok (.ifCond .ne 5, 3) := by decide +kernel
theorem dX10_clauses_0 : decode cX10_clauses 0 = .ok (.aload_n 0, 1) := by decide +kernel
theorem dX10_clauses_1 : decode cX10_clauses 1 = .ok (.getfield 12, 3) := by decide +kernel
theorem dX10_clauses_11 : decode cX10_clauses 11 = .ok (.aload_n 0, 1) := by decide +kernel
theorem dX10_clauses_12 : decode cX10_clauses 12 = .ok (.getfield 12, 3) := by decide +kernel
theorem dX10_clauses_15 : decode cX10_clauses 15 = .ok (.getfield 78, 3) := by decide +kernel
theorem dX10_clauses_18 : decode cX10_clauses 18 = .ok (.ifCond .ne 7, 3) := by decide +kernel
theorem dX10_clauses_21 : decode cX10_clauses 21 = .ok (.iconst 1, 1) := by decide +kernel
theorem dX10_clauses_22 : decode cX10_clauses 22 = .ok (.goto 4, 3) := by decide +kernel
theorem dX10_clauses_26 : decode cX10_clauses 26 = .ok (.istore_n 1, 1) := by decide +kernel
theorem dX10_clauses_27 : decode cX10_clauses 27 = .ok (.iload_n 1, 1) := by decide +kernel
theorem dX10_clauses_28 : decode cX10_clauses 28 = .ok (.ifCond .eq 18, 3) := by decide +kernel
theorem dX10_clauses_31 : decode cX10_clauses 31 = .ok (.aload_n 0, 1) := by decide +kernel
theorem dX10_clauses_32 : decode cX10_clauses 32 = .ok (.getfield 12, 3) := by decide +kernel
theorem dX10_clauses_35 : decode cX10_clauses 35 = .ok (.aload_n 0, 1) := by decide +kernel
theorem dX10_clauses_36 : decode cX10_clauses 36 = .ok (.getfield 19, 3) := by decide +kernel
theorem dX10_clauses_39 : decode cX10_clauses 39 = .ok (.invokevirtual 75, 3) := by decide +kernel
theorem dX10_clauses_4 : decode cX10_clauses 4 = .ok (.aload_n 0, 1) := by decide +kernel
theorem dX10_clauses_42 : decode cX10_clauses 42 = .ok (.aload_n 0, 1) := by decide +kernel
theorem dX10_clauses_43 : decode cX10_clauses 43 = .ok (.invokevirtual 81, 3) := by decide +kernel
theorem dX10_clauses_46 : decode cX10_clauses 46 = .ok (.aload_n 0, 1) := by decide +kernel
theorem dX10_clauses_47 : decode cX10_clauses 47 = .ok (.getfield 12, 3) := by decide +kernel
theorem dX10_clauses_5 : decode cX10_clauses 5 = .ok (.getfield 23, 3) := by decide +kernel
theorem dX10_clauses_50 : decode cX10_clauses 50 = .ok (.iconst 0, 1) := by decide +kernel
theorem dX10_clauses_51 : decode cX10_clauses 51 = .ok (.putfield 67, 3) := by decide +kernel
theorem dX10_clauses_54 : decode cX10_clauses 54 = .ok (.iload_n 1, 1) := by decide +kernel
theorem dX10_clauses_55 : decode cX10_clauses 55 = .ok (.ifCond .eq 13, 3) := by decide +kernel
theorem dX10_clauses_58 : decode cX10_clauses 58 = .ok (.aload_n 0, 1) := by decide +kernel
theorem dX10_clauses_59 : decode cX10_clauses 59 = .ok (.getfield 19, 3) := by decide +kernel
theorem dX10_clauses_62 : decode cX10_clauses 62 = .ok (.getfield 84, 3) := by decide +kernel
theorem dX10_clauses_65 : decode cX10_clauses 65 = .ok (.goto 4, 3) := by decide +kernel
theorem dX10_clauses_69 : decode cX10_clauses 69 = .ok (.ireturn, 1) := by decide +kernel
theorem dX10_clauses_8 : decode cX10_clauses 8 = .ok (.invokevirtual 75, 3) := by decide +kernel
theorem dX10_closed_0 : decode cX10_closed 0 = .ok (.aload_n 0, 1) := by decide +kernel
theorem dX10_closed_1 : decode cX10_closed 1 = .ok (.getfield 47, 3) := by decide +kernel
theorem dX10_closed_23 : decode cX10_closed 23 = .ok (.iconst (-1), 1) := by decide +kernel
theorem dX10_closed_24 : decode cX10_closed 24 = .ok (.ireturn, 1) := by decide +kernel
theorem dX10_closed_4 : decode cX10_closed 4 = .ok (.getfield 175, 3) := by decide +kernel
theorem dX10_closed_7 : decode cX10_closed 7 = .ok (.ifCond .eq 16, 3) := by decide +kernel
theorem dX10_deepen_0 : decode cX10_deepen 0 = .ok (.aload_n 0, 1) := by decide +kernel
theorem dX10_deepen_1 : decode cX10_deepen 1 = .ok (.getfield 19, 3) := by decide +kernel
theorem dX10_deepen_19 : decode cX10_deepen 19 = .ok (.bipush (-3), 2) := by decide +kernel
theorem dX10_deepen_21 : decode cX10_deepen 21 = .ok (.ireturn, 1) := by decide +kernel
theorem dX10_deepen_4 : decode cX10_deepen 4 = .ok (.iload_n 1, 1) := by decide +kernel
theorem dX10_deepen_5 : decode cX10_deepen 5 = .ok (.invokevirtual 90, 3) := by decide +kernel
theorem dX10_deepen_8 : decode cX10_deepen 8 = .ok (.ifCond .eq 11, 3) := by decide +kernel
theorem dX10_drop_0 : decode cX10_drop 0 = .ok (.aload_n 0, 1) := by decide +kernel
theorem dX10_drop_1 : decode cX10_drop 1 = .ok (.getfield 19, 3) := by decide +kernel
theorem dX10_drop_11 : decode cX10_drop 11 = .ok (.iconst 0, 1) := by decide +kernel
theorem dX10_drop_12 : decode cX10_drop 12 = .ok (.ireturn, 1) := by decide +kernel
theorem dX10_drop_4 : decode cX10_drop 4 = .ok (.iload_n 1, 1) := by decide +kernel
theorem dX10_drop_5 : decode cX10_drop 5 = .ok (.invokevirtual 90, 3) := by decide +kernel
theorem dX10_drop_8 : decode cX10_drop 8 = .ok (.ifCond .ne 5, 3) := by decide +kernel
theorem dX10_end_0 : decode cX10_end 0 = .ok (.iload_n 1, 1) := by decide +kernel
theorem dX10_end_1 : decode cX10_end 1 = .ok (.ifCond .lt 14, 3) := by decide +kernel
theorem dX10_end_12 : decode cX10_end 12 = .ok (.if_icmp .le 5, 3) := by decide +kernel
theorem dX10_end_15 : decode cX10_end 15 = .ok (.iconst 0, 1) := by decide +kernel
theorem dX10_end_16 : decode cX10_end 16 = .ok (.ireturn, 1) := by decide +kernel
theorem dX10_end_17 : decode cX10_end 17 = .ok (.aload_n 0, 1) := by decide +kernel
theorem dX10_end_18 : decode cX10_end 18 = .ok (.getfield 12, 3) := by decide +kernel
theorem dX10_end_21 : decode cX10_end 21 = .ok (.iload_n 1, 1) := by decide +kernel
theorem dX10_end_22 : decode cX10_end 22 = .ok (.putfield 67, 3) := by decide +kernel
theorem dX10_end_25 : decode cX10_end 25 = .ok (.iconst 1, 1) := by decide +kernel
theorem dX10_end_26 : decode cX10_end 26 = .ok (.ireturn, 1) := by decide +kernel
theorem dX10_end_4 : decode cX10_end 4 = .ok (.iload_n 1, 1) := by decide +kernel
theorem dX10_end_5 : decode cX10_end 5 = .ok (.aload_n 0, 1) := by decide +kernel
theorem dX10_end_6 : decode cX10_end 6 = .ok (.getfield 12, 3) := by decide +kernel
theorem dX10_end_9 : decode cX10_end 9 = .ok (.getfield 67, 3) := by decide +kernel
theorem dX10_fault_0 : decode cX10_fault 0 = .ok (.iload_n 1, 1) := by decide +kernel
theorem dX10_fault_1 : decode cX10_fault 1 = .ok (.lookupswitch 43 #[(0, 27), (1, 35)], 27) := by decide +kernel
theorem dX10_fault_28 : decode cX10_fault 28 = .ok (.aload_n 0, 1) := by decide +kernel
theorem dX10_fault_29 : decode cX10_fault 29 = .ok (.getfield 12, 3) := by decide +kernel
theorem dX10_fault_32 : decode cX10_fault 32 = .ok (.getfield 78, 3) := by decide +kernel
theorem dX10_fault_35 : decode cX10_fault 35 = .ok (.ireturn, 1) := by decide +kernel
theorem dX10_fault_36 : decode cX10_fault 36 = .ok (.aload_n 0, 1) := by decide +kernel
theorem dX10_fault_37 : decode cX10_fault 37 = .ok (.getfield 12, 3) := by decide +kernel
theorem dX10_fault_40 : decode cX10_fault 40 = .ok (.getfield 87, 3) := by decide +kernel
theorem dX10_fault_43 : decode cX10_fault 43 = .ok (.ireturn, 1) := by decide +kernel
theorem dX10_fault_44 : decode cX10_fault 44 = .ok (.iconst (-1), 1) := by decide +kernel
theorem dX10_fault_45 : decode cX10_fault 45 = .ok (.ireturn, 1) := by decide +kernel
theorem dX10_feed_0 : decode cX10_feed 0 = .ok (.aload_n 0, 1) := by decide +kernel
theorem dX10_feed_1 : decode cX10_feed 1 = .ok (.getfield 12, 3) := by decide +kernel
theorem dX10_feed_10 : decode cX10_feed 10 = .ok (.sipush 600, 3) := by decide +kernel
theorem dX10_feed_13 : decode cX10_feed 13 = .ok (.if_icmp .le 5, 3) := by decide +kernel
theorem dX10_feed_18 : decode cX10_feed 18 = .ok (.aload_n 0, 1) := by decide +kernel
theorem dX10_feed_19 : decode cX10_feed 19 = .ok (.getfield 12, 3) := by decide +kernel
theorem dX10_feed_22 : decode cX10_feed 22 = .ok (.iload_n 1, 1) := by decide +kernel
theorem dX10_feed_23 : decode cX10_feed 23 = .ok (.invokevirtual 71, 3) := by decide +kernel
theorem dX10_feed_26 : decode cX10_feed 26 = .ok (.aload_n 0, 1) := by decide +kernel
theorem dX10_feed_27 : decode cX10_feed 27 = .ok (.getfield 12, 3) := by decide +kernel
theorem dX10_feed_30 : decode cX10_feed 30 = .ok (.iload_n 2, 1) := by decide +kernel
theorem dX10_feed_31 : decode cX10_feed 31 = .ok (.invokevirtual 71, 3) := by decide +kernel
theorem dX10_feed_34 : decode cX10_feed 34 = .ok (.aload_n 0, 1) := by decide +kernel
theorem dX10_feed_35 : decode cX10_feed 35 = .ok (.getfield 12, 3) := by decide +kernel
theorem dX10_feed_38 : decode cX10_feed 38 = .ok (.iload_n 3, 1) := by decide +kernel
theorem dX10_feed_39 : decode cX10_feed 39 = .ok (.invokevirtual 71, 3) := by decide +kernel
theorem dX10_feed_4 : decode cX10_feed 4 = .ok (.getfield 67, 3) := by decide +kernel
theorem dX10_feed_42 : decode cX10_feed 42 = .ok (.aload_n 0, 1) := by decide +kernel
theorem dX10_feed_43 : decode cX10_feed 43 = .ok (.getfield 12, 3) := by decide +kernel
theorem dX10_feed_46 : decode cX10_feed 46 = .ok (.iload 4, 2) := by decide +kernel
theorem dX10_feed_48 : decode cX10_feed 48 = .ok (.invokevirtual 71, 3) := by decide +kernel
theorem dX10_feed_51 : decode cX10_feed 51 = .ok (.aload_n 0, 1) := by decide +kernel
theorem dX10_feed_52 : decode cX10_feed 52 = .ok (.getfield 12, 3) := by decide +kernel
theorem dX10_feed_55 : decode cX10_feed 55 = .ok (.iload 5, 2) := by decide +kernel
theorem dX10_feed_57 : decode cX10_feed 57 = .ok (.invokevirtual 71, 3) := by decide +kernel
theorem dX10_feed_60 : decode cX10_feed 60 = .ok (.aload_n 0, 1) := by decide +kernel
theorem dX10_feed_61 : decode cX10_feed 61 = .ok (.getfield 12, 3) := by decide +kernel
theorem dX10_feed_64 : decode cX10_feed 64 = .ok (.getfield 67, 3) := by decide +kernel
theorem dX10_feed_67 : decode cX10_feed 67 = .ok (.ireturn, 1) := by decide +kernel
theorem dX10_feed_7 : decode cX10_feed 7 = .ok (.bipush 20, 2) := by decide +kernel
theorem dX10_feed_9 : decode cX10_feed 9 = .ok (.iadd, 1) := by decide +kernel
theorem dX10_forgetAll_0 : decode cX10_forgetAll 0 = .ok (.aload_n 0, 1) := by decide +kernel
theorem dX10_forgetAll_1 : decode cX10_forgetAll 1 = .ok (.getfield 47, 3) := by decide +kernel
theorem dX10_forgetAll_12 : decode cX10_forgetAll 12 = .ok (.invokevirtual 259, 3) := by decide +kernel
theorem dX10_forgetAll_15 : decode cX10_forgetAll 15 = .ok (.aload_n 0, 1) := by decide +kernel
theorem dX10_forgetAll_16 : decode cX10_forgetAll 16 = .ok (.getfield 63, 3) := by decide +kernel
theorem dX10_forgetAll_19 : decode cX10_forgetAll 19 = .ok (.iconst 0, 1) := by decide +kernel
theorem dX10_forgetAll_20 : decode cX10_forgetAll 20 = .ok (.putfield 232, 3) := by decide +kernel
theorem dX10_forgetAll_23 : decode cX10_forgetAll 23 = .ok (.return_, 1) := by decide +kernel
theorem dX10_forgetAll_4 : decode cX10_forgetAll 4 = .ok (.iconst 0, 1) := by decide +kernel
theorem dX10_forgetAll_5 : decode cX10_forgetAll 5 = .ok (.putfield 175, 3) := by decide +kernel
theorem dX10_forgetAll_8 : decode cX10_forgetAll 8 = .ok (.aload_n 0, 1) := by decide +kernel
theorem dX10_forgetAll_9 : decode cX10_forgetAll 9 = .ok (.getfield 56, 3) := by decide +kernel
theorem dX10_init_0 : decode cX10_init 0 = .ok (.aload_n 0, 1) := by decide +kernel
theorem dX10_init_1 : decode cX10_init 1 = .ok (.invokespecial 3, 3) := by decide +kernel
theorem dX10_init_100 : decode cX10_init 100 = .ok (.getfield 31, 3) := by decide +kernel
theorem dX10_init_103 : decode cX10_init 103 = .ok (.aload_n 0, 1) := by decide +kernel
theorem dX10_init_104 : decode cX10_init 104 = .ok (.getfield 47, 3) := by decide +kernel
theorem dX10_init_107 : decode cX10_init 107 = .ok (.invokespecial 53, 3) := by decide +kernel
theorem dX10_init_110 : decode cX10_init 110 = .ok (.putfield 56, 3) := by decide +kernel
theorem dX10_init_113 : decode cX10_init 113 = .ok (.aload_n 0, 1) := by decide +kernel
theorem dX10_init_114 : decode cX10_init 114 = .ok (.new 60, 3) := by decide +kernel
theorem dX10_init_117 : decode cX10_init 117 = .ok (.dup, 1) := by decide +kernel
theorem dX10_init_118 : decode cX10_init 118 = .ok (.invokespecial 62, 3) := by decide +kernel
theorem dX10_init_12 : decode cX10_init 12 = .ok (.putfield 12, 3) := by decide +kernel
theorem dX10_init_121 : decode cX10_init 121 = .ok (.putfield 63, 3) := by decide +kernel
theorem dX10_init_124 : decode cX10_init 124 = .ok (.return_, 1) := by decide +kernel
theorem dX10_init_15 : decode cX10_init 15 = .ok (.aload_n 0, 1) := by decide +kernel
theorem dX10_init_16 : decode cX10_init 16 = .ok (.new 16, 3) := by decide +kernel
theorem dX10_init_19 : decode cX10_init 19 = .ok (.dup, 1) := by decide +kernel
theorem dX10_init_20 : decode cX10_init 20 = .ok (.invokespecial 18, 3) := by decide +kernel
theorem dX10_init_23 : decode cX10_init 23 = .ok (.putfield 19, 3) := by decide +kernel
theorem dX10_init_26 : decode cX10_init 26 = .ok (.aload_n 0, 1) := by decide +kernel
theorem dX10_init_27 : decode cX10_init 27 = .ok (.new 16, 3) := by decide +kernel
theorem dX10_init_30 : decode cX10_init 30 = .ok (.dup, 1) := by decide +kernel
theorem dX10_init_31 : decode cX10_init 31 = .ok (.invokespecial 18, 3) := by decide +kernel
theorem dX10_init_34 : decode cX10_init 34 = .ok (.putfield 23, 3) := by decide +kernel
theorem dX10_init_37 : decode cX10_init 37 = .ok (.aload_n 0, 1) := by decide +kernel
theorem dX10_init_38 : decode cX10_init 38 = .ok (.new 26, 3) := by decide +kernel
theorem dX10_init_4 : decode cX10_init 4 = .ok (.aload_n 0, 1) := by decide +kernel
theorem dX10_init_41 : decode cX10_init 41 = .ok (.dup, 1) := by decide +kernel
theorem dX10_init_42 : decode cX10_init 42 = .ok (.aload_n 0, 1) := by decide +kernel
theorem dX10_init_43 : decode cX10_init 43 = .ok (.getfield 19, 3) := by decide +kernel
theorem dX10_init_46 : decode cX10_init 46 = .ok (.invokespecial 28, 3) := by decide +kernel
theorem dX10_init_49 : decode cX10_init 49 = .ok (.putfield 31, 3) := by decide +kernel
theorem dX10_init_5 : decode cX10_init 5 = .ok (.new 9, 3) := by decide +kernel
theorem dX10_init_52 : decode cX10_init 52 = .ok (.aload_n 0, 1) := by decide +kernel
theorem dX10_init_53 : decode cX10_init 53 = .ok (.new 35, 3) := by decide +kernel
theorem dX10_init_56 : decode cX10_init 56 = .ok (.dup, 1) := by decide +kernel
theorem dX10_init_57 : decode cX10_init 57 = .ok (.aload_n 0, 1) := by decide +kernel
theorem dX10_init_58 : decode cX10_init 58 = .ok (.getfield 19, 3) := by decide +kernel
theorem dX10_init_61 : decode cX10_init 61 = .ok (.aload_n 0, 1) := by decide +kernel
theorem dX10_init_62 : decode cX10_init 62 = .ok (.getfield 31, 3) := by decide +kernel
theorem dX10_init_65 : decode cX10_init 65 = .ok (.invokespecial 37, 3) := by decide +kernel
theorem dX10_init_68 : decode cX10_init 68 = .ok (.putfield 40, 3) := by decide +kernel
theorem dX10_init_71 : decode cX10_init 71 = .ok (.aload_n 0, 1) := by decide +kernel
theorem dX10_init_72 : decode cX10_init 72 = .ok (.new 44, 3) := by decide +kernel
theorem dX10_init_75 : decode cX10_init 75 = .ok (.dup, 1) := by decide +kernel
theorem dX10_init_76 : decode cX10_init 76 = .ok (.aload_n 0, 1) := by decide +kernel
theorem dX10_init_77 : decode cX10_init 77 = .ok (.getfield 19, 3) := by decide +kernel
theorem dX10_init_8 : decode cX10_init 8 = .ok (.dup, 1) := by decide +kernel
theorem dX10_init_80 : decode cX10_init 80 = .ok (.aload_n 0, 1) := by decide +kernel
theorem dX10_init_81 : decode cX10_init 81 = .ok (.getfield 31, 3) := by decide +kernel
theorem dX10_init_84 : decode cX10_init 84 = .ok (.invokespecial 46, 3) := by decide +kernel
theorem dX10_init_87 : decode cX10_init 87 = .ok (.putfield 47, 3) := by decide +kernel
theorem dX10_init_9 : decode cX10_init 9 = .ok (.invokespecial 11, 3) := by decide +kernel
theorem dX10_init_90 : decode cX10_init 90 = .ok (.aload_n 0, 1) := by decide +kernel
theorem dX10_init_91 : decode cX10_init 91 = .ok (.new 51, 3) := by decide +kernel
theorem dX10_init_94 : decode cX10_init 94 = .ok (.dup, 1) := by decide +kernel
theorem dX10_init_95 : decode cX10_init 95 = .ok (.aload_n 0, 1) := by decide +kernel
theorem dX10_init_96 : decode cX10_init 96 = .ok (.getfield 19, 3) := by decide +kernel
theorem dX10_init_99 : decode cX10_init 99 = .ok (.aload_n 0, 1) := by decide +kernel
theorem dX10_instance_0 : decode cX10_instance 0 = .ok (.aload_n 0, 1) := by decide +kernel
theorem dX10_instance_1 : decode cX10_instance 1 = .ok (.getfield 47, 3) := by decide +kernel
theorem dX10_instance_10 : decode cX10_instance 10 = .ok (.iconst (-1), 1) := by decide +kernel
theorem dX10_instance_11 : decode cX10_instance 11 = .ok (.ireturn, 1) := by decide +kernel
theorem dX10_instance_4 : decode cX10_instance 4 = .ok (.getfield 175, 3) := by decide +kernel
theorem dX10_instance_7 : decode cX10_instance 7 = .ok (.ifCond .ne 5, 3) := by decide +kernel
theorem dX10_isInstance_0 : decode cX10_isInstance 0 = .ok (.aload_n 0, 1) := by decide +kernel
theorem dX10_isInstance_1 : decode cX10_isInstance 1 = .ok (.getfield 47, 3) := by decide +kernel
theorem dX10_isInstance_29 : decode cX10_isInstance 29 = .ok (.iconst 0, 1) := by decide +kernel
theorem dX10_isInstance_30 : decode cX10_isInstance 30 = .ok (.ireturn, 1) := by decide +kernel
theorem dX10_isInstance_4 : decode cX10_isInstance 4 = .ok (.getfield 175, 3) := by decide +kernel
theorem dX10_isInstance_7 : decode cX10_isInstance 7 = .ok (.ifCond .eq 22, 3) := by decide +kernel
theorem dX10_look_0 : decode cX10_look 0 = .ok (.iload_n 1, 1) := by decide +kernel
theorem dX10_look_1 : decode cX10_look 1 = .ok (.tableswitch 134 0 8 #[51, 59, 67, 75, 83, 99, 108, 117, 126], 51) := by decide +kernel
theorem dX10_look_100 : decode cX10_look 100 = .ok (.aload_n 0, 1) := by decide +kernel
theorem dX10_look_101 : decode cX10_look 101 = .ok (.getfield 47, 3) := by decide +kernel
theorem dX10_look_104 : decode cX10_look 104 = .ok (.iconst 1, 1) := by decide +kernel
theorem dX10_look_105 : decode cX10_look 105 = .ok (.invokevirtual 253, 3) := by decide +kernel
theorem dX10_look_108 : decode cX10_look 108 = .ok (.ireturn, 1) := by decide +kernel
theorem dX10_look_109 : decode cX10_look 109 = .ok (.aload_n 0, 1) := by decide +kernel
theorem dX10_look_110 : decode cX10_look 110 = .ok (.getfield 47, 3) := by decide +kernel
theorem dX10_look_113 : decode cX10_look 113 = .ok (.iconst 2, 1) := by decide +kernel
theorem dX10_look_114 : decode cX10_look 114 = .ok (.invokevirtual 253, 3) := by decide +kernel
theorem dX10_look_117 : decode cX10_look 117 = .ok (.ireturn, 1) := by decide +kernel
theorem dX10_look_118 : decode cX10_look 118 = .ok (.aload_n 0, 1) := by decide +kernel
theorem dX10_look_119 : decode cX10_look 119 = .ok (.getfield 47, 3) := by decide +kernel
theorem dX10_look_122 : decode cX10_look 122 = .ok (.iconst 3, 1) := by decide +kernel
theorem dX10_look_123 : decode cX10_look 123 = .ok (.invokevirtual 253, 3) := by decide +kernel
theorem dX10_look_126 : decode cX10_look 126 = .ok (.ireturn, 1) := by decide +kernel
theorem dX10_look_127 : decode cX10_look 127 = .ok (.aload_n 0, 1) := by decide +kernel
theorem dX10_look_128 : decode cX10_look 128 = .ok (.getfield 63, 3) := by decide +kernel
theorem dX10_look_131 : decode cX10_look 131 = .ok (.getfield 256, 3) := by decide +kernel
theorem dX10_look_134 : decode cX10_look 134 = .ok (.ireturn, 1) := by decide +kernel
theorem dX10_look_135 : decode cX10_look 135 = .ok (.iconst (-1), 1) := by decide +kernel
theorem dX10_look_136 : decode cX10_look 136 = .ok (.ireturn, 1) := by decide +kernel
theorem dX10_look_52 : decode cX10_look 52 = .ok (.aload_n 0, 1) := by decide +kernel
theorem dX10_look_53 : decode cX10_look 53 = .ok (.getfield 19, 3) := by decide +kernel
theorem dX10_look_56 : decode cX10_look 56 = .ok (.getfield 84, 3) := by decide +kernel
theorem dX10_look_59 : decode cX10_look 59 = .ok (.ireturn, 1) := by decide +kernel
theorem dX10_look_60 : decode cX10_look 60 = .ok (.aload_n 0, 1) := by decide +kernel
theorem dX10_look_61 : decode cX10_look 61 = .ok (.getfield 19, 3) := by decide +kernel
theorem dX10_look_64 : decode cX10_look 64 = .ok (.invokevirtual 247, 3) := by decide +kernel
theorem dX10_look_67 : decode cX10_look 67 = .ok (.ireturn, 1) := by decide +kernel
theorem dX10_look_68 : decode cX10_look 68 = .ok (.aload_n 0, 1) := by decide +kernel
theorem dX10_look_69 : decode cX10_look 69 = .ok (.getfield 19, 3) := by decide +kernel
theorem dX10_look_72 : decode cX10_look 72 = .ok (.invokevirtual 250, 3) := by decide +kernel
theorem dX10_look_75 : decode cX10_look 75 = .ok (.ireturn, 1) := by decide +kernel
theorem dX10_look_76 : decode cX10_look 76 = .ok (.aload_n 0, 1) := by decide +kernel
theorem dX10_look_77 : decode cX10_look 77 = .ok (.getfield 12, 3) := by decide +kernel
theorem dX10_look_80 : decode cX10_look 80 = .ok (.getfield 67, 3) := by decide +kernel
theorem dX10_look_83 : decode cX10_look 83 = .ok (.ireturn, 1) := by decide +kernel
theorem dX10_look_84 : decode cX10_look 84 = .ok (.aload_n 0, 1) := by decide +kernel
theorem dX10_look_85 : decode cX10_look 85 = .ok (.getfield 47, 3) := by decide +kernel
theorem dX10_look_88 : decode cX10_look 88 = .ok (.getfield 175, 3) := by decide +kernel
theorem dX10_look_91 : decode cX10_look 91 = .ok (.ifCond .eq 7, 3) := by decide +kernel
theorem dX10_look_98 : decode cX10_look 98 = .ok (.iconst 0, 1) := by decide +kernel
theorem dX10_look_99 : decode cX10_look 99 = .ok (.ireturn, 1) := by decide +kernel
theorem dX10_meets_0 : decode cX10_meets 0 = .ok (.aload_n 0, 1) := by decide +kernel
theorem dX10_meets_1 : decode cX10_meets 1 = .ok (.getfield 19, 3) := by decide +kernel
theorem dX10_meets_25 : decode cX10_meets 25 = .ok (.iconst (-1), 1) := by decide +kernel
theorem dX10_meets_26 : decode cX10_meets 26 = .ok (.ireturn, 1) := by decide +kernel
theorem dX10_meets_4 : decode cX10_meets 4 = .ok (.iload_n 1, 1) := by decide +kernel
theorem dX10_meets_5 : decode cX10_meets 5 = .ok (.iload_n 2, 1) := by decide +kernel
theorem dX10_meets_6 : decode cX10_meets 6 = .ok (.invokevirtual 111, 3) := by decide +kernel
theorem dX10_meets_9 : decode cX10_meets 9 = .ok (.ifCond .eq 16, 3) := by decide +kernel
theorem dX10_needed_0 : decode cX10_needed 0 = .ok (.aload_n 0, 1) := by decide +kernel
theorem dX10_needed_1 : decode cX10_needed 1 = .ok (.getfield 47, 3) := by decide +kernel
theorem dX10_needed_10 : decode cX10_needed 10 = .ok (.iconst 0, 1) := by decide +kernel
theorem dX10_needed_11 : decode cX10_needed 11 = .ok (.ireturn, 1) := by decide +kernel
theorem dX10_needed_4 : decode cX10_needed 4 = .ok (.getfield 175, 3) := by decide +kernel
theorem dX10_needed_7 : decode cX10_needed 7 = .ok (.ifCond .ne 5, 3) := by decide +kernel
theorem dX10_open_0 : decode cX10_open 0 = .ok (.aload_n 0, 1) := by decide +kernel
theorem dX10_open_1 : decode cX10_open 1 = .ok (.iload_n 1, 1) := by decide +kernel
theorem dX10_open_2 : decode cX10_open 2 = .ok (.invokevirtual 220, 3) := by decide +kernel
theorem dX10_open_32 : decode cX10_open 32 = .ok (.iconst (-1), 1) := by decide +kernel
theorem dX10_open_33 : decode cX10_open 33 = .ok (.ireturn, 1) := by decide +kernel
theorem dX10_open_5 : decode cX10_open 5 = .ok (.ifCond .eq 27, 3) := by decide +kernel
theorem dX10_out_0 : decode cX10_out 0 = .ok (.iload_n 1, 1) := by decide +kernel
theorem dX10_out_1 : decode cX10_out 1 = .ok (.ifCond .lt 14, 3) := by decide +kernel
theorem dX10_out_12 : decode cX10_out 12 = .ok (.if_icmp .lt 5, 3) := by decide +kernel
theorem dX10_out_15 : decode cX10_out 15 = .ok (.iconst (-1), 1) := by decide +kernel
theorem dX10_out_16 : decode cX10_out 16 = .ok (.ireturn, 1) := by decide +kernel
theorem dX10_out_4 : decode cX10_out 4 = .ok (.iload_n 1, 1) := by decide +kernel
theorem dX10_out_5 : decode cX10_out 5 = .ok (.aload_n 0, 1) := by decide +kernel
theorem dX10_out_6 : decode cX10_out 6 = .ok (.getfield 40, 3) := by decide +kernel
theorem dX10_out_9 : decode cX10_out 9 = .ok (.getfield 132, 3) := by decide +kernel
theorem dX10_partners_0 : decode cX10_partners 0 = .ok (.aload_n 0, 1) := by decide +kernel
theorem dX10_partners_1 : decode cX10_partners 1 = .ok (.getfield 19, 3) := by decide +kernel
theorem dX10_partners_12 : decode cX10_partners 12 = .ok (.iconst (-1), 1) := by decide +kernel
theorem dX10_partners_13 : decode cX10_partners 13 = .ok (.ireturn, 1) := by decide +kernel
theorem dX10_partners_4 : decode cX10_partners 4 = .ok (.iload_n 1, 1) := by decide +kernel
theorem dX10_partners_5 : decode cX10_partners 5 = .ok (.iload_n 2, 1) := by decide +kernel
theorem dX10_partners_6 : decode cX10_partners 6 = .ok (.invokevirtual 111, 3) := by decide +kernel
theorem dX10_partners_9 : decode cX10_partners 9 = .ok (.ifCond .ne 5, 3) := by decide +kernel
theorem dX10_pure_0 : decode cX10_pure 0 = .ok (.aload_n 0, 1) := by decide +kernel
theorem dX10_pure_1 : decode cX10_pure 1 = .ok (.getfield 19, 3) := by decide +kernel
theorem dX10_pure_10 : decode cX10_pure 10 = .ok (.iload_n 2, 1) := by decide +kernel
theorem dX10_pure_11 : decode cX10_pure 11 = .ok (.bipush 16, 2) := by decide +kernel
theorem dX10_pure_13 : decode cX10_pure 13 = .ok (.if_icmp .ge 72, 3) := by decide +kernel
theorem dX10_pure_16 : decode cX10_pure 16 = .ok (.iconst 0, 1) := by decide +kernel
theorem dX10_pure_17 : decode cX10_pure 17 = .ok (.istore_n 3, 1) := by decide +kernel
theorem dX10_pure_18 : decode cX10_pure 18 = .ok (.iconst 0, 1) := by decide +kernel
theorem dX10_pure_19 : decode cX10_pure 19 = .ok (.istore 4, 2) := by decide +kernel
theorem dX10_pure_21 : decode cX10_pure 21 = .ok (.iload 4, 2) := by decide +kernel
theorem dX10_pure_23 : decode cX10_pure 23 = .ok (.aload_n 0, 1) := by decide +kernel
theorem dX10_pure_24 : decode cX10_pure 24 = .ok (.getfield 19, 3) := by decide +kernel
theorem dX10_pure_27 : decode cX10_pure 27 = .ok (.getfield 84, 3) := by decide +kernel
theorem dX10_pure_30 : decode cX10_pure 30 = .ok (.if_icmp .ge 36, 3) := by decide +kernel
theorem dX10_pure_4 : decode cX10_pure 4 = .ok (.invokevirtual 140, 3) := by decide +kernel
theorem dX10_pure_66 : decode cX10_pure 66 = .ok (.iload_n 3, 1) := by decide +kernel
theorem dX10_pure_67 : decode cX10_pure 67 = .ok (.ifCond .ne 6, 3) := by decide +kernel
theorem dX10_pure_7 : decode cX10_pure 7 = .ok (.istore_n 1, 1) := by decide +kernel
theorem dX10_pure_70 : decode cX10_pure 70 = .ok (.goto 15, 3) := by decide +kernel
theorem dX10_pure_8 : decode cX10_pure 8 = .ok (.iconst 0, 1) := by decide +kernel
theorem dX10_pure_85 : decode cX10_pure 85 = .ok (.aload_n 0, 1) := by decide +kernel
theorem dX10_pure_86 : decode cX10_pure 86 = .ok (.getfield 19, 3) := by decide +kernel
theorem dX10_pure_89 : decode cX10_pure 89 = .ok (.invokevirtual 140, 3) := by decide +kernel
theorem dX10_pure_9 : decode cX10_pure 9 = .ok (.istore_n 2, 1) := by decide +kernel
theorem dX10_pure_92 : decode cX10_pure 92 = .ok (.iload_n 1, 1) := by decide +kernel
theorem dX10_pure_93 : decode cX10_pure 93 = .ok (.iconst (-1), 1) := by decide +kernel
theorem dX10_pure_94 : decode cX10_pure 94 = .ok (.ixor, 1) := by decide +kernel
theorem dX10_pure_95 : decode cX10_pure 95 = .ok (.iand, 1) := by decide +kernel
theorem dX10_pure_96 : decode cX10_pure 96 = .ok (.ireturn, 1) := by decide +kernel
theorem dX10_show_0 : decode cX10_show 0 = .ok (.aload_n 0, 1) := by decide +kernel
theorem dX10_show_1 : decode cX10_show 1 = .ok (.getfield 19, 3) := by decide +kernel
theorem dX10_show_12 : decode cX10_show 12 = .ok (.iconst (-1), 1) := by decide +kernel
theorem dX10_show_13 : decode cX10_show 13 = .ok (.ireturn, 1) := by decide +kernel
theorem dX10_show_4 : decode cX10_show 4 = .ok (.iload_n 1, 1) := by decide +kernel
theorem dX10_show_5 : decode cX10_show 5 = .ok (.iload_n 2, 1) := by decide +kernel
theorem dX10_show_6 : decode cX10_show 6 = .ok (.invokevirtual 111, 3) := by decide +kernel
theorem dX10_show_9 : decode cX10_show 9 = .ok (.ifCond .ne 5, 3) := by decide +kernel
theorem dX10_shown_0 : decode cX10_shown 0 = .ok (.aload_n 0, 1) := by decide +kernel
theorem dX10_shown_1 : decode cX10_shown 1 = .ok (.iload_n 1, 1) := by decide +kernel
theorem dX10_shown_2 : decode cX10_shown 2 = .ok (.invokevirtual 220, 3) := by decide +kernel
theorem dX10_shown_5 : decode cX10_shown 5 = .ok (.ifCond .ne 5, 3) := by decide +kernel
theorem dX10_shown_8 : decode cX10_shown 8 = .ok (.iconst (-1), 1) := by decide +kernel
theorem dX10_shown_9 : decode cX10_shown 9 = .ok (.ireturn, 1) := by decide +kernel
theorem dX10_solve_0 : decode cX10_solve 0 = .ok (.aload_n 0, 1) := by decide +kernel
theorem dX10_solve_1 : decode cX10_solve 1 = .ok (.getfield 19, 3) := by decide +kernel
theorem dX10_solve_19 : decode cX10_solve 19 = .ok (.iconst (-1), 1) := by decide +kernel
theorem dX10_solve_20 : decode cX10_solve 20 = .ok (.ireturn, 1) := by decide +kernel
theorem dX10_solve_4 : decode cX10_solve 4 = .ok (.iload_n 1, 1) := by decide +kernel
theorem dX10_solve_5 : decode cX10_solve 5 = .ok (.invokevirtual 90, 3) := by decide +kernel
theorem dX10_solve_8 : decode cX10_solve 8 = .ok (.ifCond .eq 11, 3) := by decide +kernel
theorem dX10_step_0 : decode cX10_step 0 = .ok (.aload_n 0, 1) := by decide +kernel
theorem dX10_step_1 : decode cX10_step 1 = .ok (.getfield 47, 3) := by decide +kernel
theorem dX10_step_10 : decode cX10_step 10 = .ok (.iconst (-1), 1) := by decide +kernel
theorem dX10_step_11 : decode cX10_step 11 = .ok (.ireturn, 1) := by decide +kernel
theorem dX10_step_4 : decode cX10_step 4 = .ok (.getfield 175, 3) := by decide +kernel
theorem dX10_step_7 : decode cX10_step 7 = .ok (.ifCond .ne 5, 3) := by decide +kernel
theorem dX10_tried_0 : decode cX10_tried 0 = .ok (.iload_n 1, 1) := by decide +kernel
theorem dX10_tried_1 : decode cX10_tried 1 = .ok (.tableswitch 63 0 3 #[31, 39, 47, 55], 31) := by decide +kernel
theorem dX10_tried_32 : decode cX10_tried 32 = .ok (.aload_n 0, 1) := by decide +kernel
theorem dX10_tried_33 : decode cX10_tried 33 = .ok (.getfield 47, 3) := by decide +kernel
theorem dX10_tried_36 : decode cX10_tried 36 = .ok (.getfield 163, 3) := by decide +kernel
theorem dX10_tried_39 : decode cX10_tried 39 = .ok (.ireturn, 1) := by decide +kernel
theorem dX10_tried_40 : decode cX10_tried 40 = .ok (.aload_n 0, 1) := by decide +kernel
theorem dX10_tried_41 : decode cX10_tried 41 = .ok (.getfield 47, 3) := by decide +kernel
theorem dX10_tried_44 : decode cX10_tried 44 = .ok (.getfield 166, 3) := by decide +kernel
theorem dX10_tried_47 : decode cX10_tried 47 = .ok (.ireturn, 1) := by decide +kernel
theorem dX10_tried_48 : decode cX10_tried 48 = .ok (.aload_n 0, 1) := by decide +kernel
theorem dX10_tried_49 : decode cX10_tried 49 = .ok (.getfield 47, 3) := by decide +kernel
theorem dX10_tried_52 : decode cX10_tried 52 = .ok (.getfield 169, 3) := by decide +kernel
theorem dX10_tried_55 : decode cX10_tried 55 = .ok (.ireturn, 1) := by decide +kernel
theorem dX10_tried_56 : decode cX10_tried 56 = .ok (.aload_n 0, 1) := by decide +kernel
theorem dX10_tried_57 : decode cX10_tried 57 = .ok (.getfield 47, 3) := by decide +kernel
theorem dX10_tried_60 : decode cX10_tried 60 = .ok (.getfield 172, 3) := by decide +kernel
theorem dX10_tried_63 : decode cX10_tried 63 = .ok (.ireturn, 1) := by decide +kernel
theorem dX10_tried_64 : decode cX10_tried 64 = .ok (.iconst (-1), 1) := by decide +kernel
theorem dX10_tried_65 : decode cX10_tried 65 = .ok (.ireturn, 1) := by decide +kernel
theorem dX1_init_0 : decode cX1_init 0 = .ok (.aload_n 0, 1) := by decide +kernel
theorem dX1_init_1 : decode cX1_init 1 = .ok (.invokespecial 3, 3) := by decide +kernel
theorem dX1_init_10 : decode cX1_init 10 = .ok (.putfield 9, 3) := by decide +kernel
theorem dX1_init_13 : decode cX1_init 13 = .ok (.aload_n 0, 1) := by decide +kernel
theorem dX1_init_14 : decode cX1_init 14 = .ok (.sipush 256, 3) := by decide +kernel
theorem dX1_init_17 : decode cX1_init 17 = .ok (.newarray .int, 2) := by decide +kernel
theorem dX1_init_19 : decode cX1_init 19 = .ok (.putfield 15, 3) := by decide +kernel
theorem dX1_init_22 : decode cX1_init 22 = .ok (.aload_n 0, 1) := by decide +kernel
theorem dX1_init_23 : decode cX1_init 23 = .ok (.sipush 9600, 3) := by decide +kernel
theorem dX1_init_26 : decode cX1_init 26 = .ok (.newarray .int, 2) := by decide +kernel
theorem dX1_init_28 : decode cX1_init 28 = .ok (.putfield 18, 3) := by decide +kernel
theorem dX1_init_31 : decode cX1_init 31 = .ok (.aload_n 0, 1) := by decide +kernel
theorem dX1_init_32 : decode cX1_init 32 = .ok (.sipush 1024, 3) := by decide +kernel
theorem dX1_init_35 : decode cX1_init 35 = .ok (.newarray .int, 2) := by decide +kernel
theorem dX1_init_37 : decode cX1_init 37 = .ok (.putfield 21, 3) := by decide +kernel
theorem dX1_init_4 : decode cX1_init 4 = .ok (.aload_n 0, 1) := by decide +kernel
theorem dX1_init_40 : decode cX1_init 40 = .ok (.aload_n 0, 1) := by decide +kernel
theorem dX1_init_41 : decode cX1_init 41 = .ok (.sipush 2048, 3) := by decide +kernel
theorem dX1_init_44 : decode cX1_init 44 = .ok (.newarray .int, 2) := by decide +kernel
theorem dX1_init_46 : decode cX1_init 46 = .ok (.putfield 24, 3) := by decide +kernel
theorem dX1_init_49 : decode cX1_init 49 = .ok (.aload_n 0, 1) := by decide +kernel
theorem dX1_init_5 : decode cX1_init 5 = .ok (.sipush 256, 3) := by decide +kernel
theorem dX1_init_50 : decode cX1_init 50 = .ok (.sipush 2048, 3) := by decide +kernel
theorem dX1_init_53 : decode cX1_init 53 = .ok (.newarray .int, 2) := by decide +kernel
theorem dX1_init_55 : decode cX1_init 55 = .ok (.putfield 27, 3) := by decide +kernel
theorem dX1_init_58 : decode cX1_init 58 = .ok (.aload_n 0, 1) := by decide +kernel
theorem dX1_init_59 : decode cX1_init 59 = .ok (.sipush 2048, 3) := by decide +kernel
theorem dX1_init_62 : decode cX1_init 62 = .ok (.newarray .int, 2) := by decide +kernel
theorem dX1_init_64 : decode cX1_init 64 = .ok (.putfield 30, 3) := by decide +kernel
theorem dX1_init_67 : decode cX1_init 67 = .ok (.aload_n 0, 1) := by decide +kernel
theorem dX1_init_68 : decode cX1_init 68 = .ok (.sipush 256, 3) := by decide +kernel
theorem dX1_init_71 : decode cX1_init 71 = .ok (.newarray .int, 2) := by decide +kernel
theorem dX1_init_73 : decode cX1_init 73 = .ok (.putfield 33, 3) := by decide +kernel
theorem dX1_init_76 : decode cX1_init 76 = .ok (.aload_n 0, 1) := by decide +kernel
theorem dX1_init_77 : decode cX1_init 77 = .ok (.aload_n 1, 1) := by decide +kernel
theorem dX1_init_78 : decode cX1_init 78 = .ok (.putfield 36, 3) := by decide +kernel
theorem dX1_init_8 : decode cX1_init 8 = .ok (.newarray .int, 2) := by decide +kernel
theorem dX1_init_81 : decode cX1_init 81 = .ok (.return_, 1) := by decide +kernel
theorem dX3_forget_0 : decode cX3_forget 0 = .ok (.aload_n 0, 1) := by decide +kernel
theorem dX3_forget_1 : decode cX3_forget 1 = .ok (.iconst 0, 1) := by decide +kernel
theorem dX3_forget_11 : decode cX3_forget 11 = .ok (.return_, 1) := by decide +kernel
theorem dX3_forget_2 : decode cX3_forget 2 = .ok (.putfield 43, 3) := by decide +kernel
theorem dX3_forget_5 : decode cX3_forget 5 = .ok (.aload_n 0, 1) := by decide +kernel
theorem dX3_forget_6 : decode cX3_forget 6 = .ok (.bipush (-2), 2) := by decide +kernel
theorem dX3_forget_8 : decode cX3_forget 8 = .ok (.putfield 27, 3) := by decide +kernel
theorem dX3_init_0 : decode cX3_init 0 = .ok (.aload_n 0, 1) := by decide +kernel
theorem dX3_init_1 : decode cX3_init 1 = .ok (.invokespecial 3, 3) := by decide +kernel
theorem dX3_init_10 : decode cX3_init 10 = .ok (.putfield 9, 3) := by decide +kernel
theorem dX3_init_13 : decode cX3_init 13 = .ok (.aload_n 0, 1) := by decide +kernel
theorem dX3_init_14 : decode cX3_init 14 = .ok (.bipush 30, 2) := by decide +kernel
theorem dX3_init_16 : decode cX3_init 16 = .ok (.newarray .int, 2) := by decide +kernel
theorem dX3_init_18 : decode cX3_init 18 = .ok (.putfield 15, 3) := by decide +kernel
theorem dX3_init_21 : decode cX3_init 21 = .ok (.aload_n 0, 1) := by decide +kernel
theorem dX3_init_22 : decode cX3_init 22 = .ok (.bipush 30, 2) := by decide +kernel
theorem dX3_init_24 : decode cX3_init 24 = .ok (.newarray .int, 2) := by decide +kernel
theorem dX3_init_26 : decode cX3_init 26 = .ok (.putfield 18, 3) := by decide +kernel
theorem dX3_init_29 : decode cX3_init 29 = .ok (.aload_n 0, 1) := by decide +kernel
theorem dX3_init_30 : decode cX3_init 30 = .ok (.sipush 180, 3) := by decide +kernel
theorem dX3_init_33 : decode cX3_init 33 = .ok (.newarray .int, 2) := by decide +kernel
theorem dX3_init_35 : decode cX3_init 35 = .ok (.putfield 21, 3) := by decide +kernel
theorem dX3_init_38 : decode cX3_init 38 = .ok (.aload_n 0, 1) := by decide +kernel
theorem dX3_init_39 : decode cX3_init 39 = .ok (.sipush 180, 3) := by decide +kernel
theorem dX3_init_4 : decode cX3_init 4 = .ok (.aload_n 0, 1) := by decide +kernel
theorem dX3_init_42 : decode cX3_init 42 = .ok (.newarray .int, 2) := by decide +kernel
theorem dX3_init_44 : decode cX3_init 44 = .ok (.putfield 24, 3) := by decide +kernel
theorem dX3_init_47 : decode cX3_init 47 = .ok (.aload_n 0, 1) := by decide +kernel
theorem dX3_init_48 : decode cX3_init 48 = .ok (.bipush (-2), 2) := by decide +kernel
theorem dX3_init_5 : decode cX3_init 5 = .ok (.sipush 180, 3) := by decide +kernel
theorem dX3_init_50 : decode cX3_init 50 = .ok (.putfield 27, 3) := by decide +kernel
theorem dX3_init_53 : decode cX3_init 53 = .ok (.aload_n 0, 1) := by decide +kernel
theorem dX3_init_54 : decode cX3_init 54 = .ok (.aload_n 1, 1) := by decide +kernel
theorem dX3_init_55 : decode cX3_init 55 = .ok (.putfield 31, 3) := by decide +kernel
theorem dX3_init_58 : decode cX3_init 58 = .ok (.aload_n 0, 1) := by decide +kernel
theorem dX3_init_59 : decode cX3_init 59 = .ok (.aload_n 2, 1) := by decide +kernel
theorem dX3_init_60 : decode cX3_init 60 = .ok (.putfield 35, 3) := by decide +kernel
theorem dX3_init_63 : decode cX3_init 63 = .ok (.aload_n 0, 1) := by decide +kernel
theorem dX3_init_64 : decode cX3_init 64 = .ok (.aload_n 3, 1) := by decide +kernel
theorem dX3_init_65 : decode cX3_init 65 = .ok (.putfield 39, 3) := by decide +kernel
theorem dX3_init_68 : decode cX3_init 68 = .ok (.return_, 1) := by decide +kernel
theorem dX3_init_8 : decode cX3_init 8 = .ok (.newarray .int, 2) := by decide +kernel
theorem dX4_countSteps_0 : decode cX4_countSteps 0 = .ok (.iconst 0, 1) := by decide +kernel
theorem dX4_countSteps_1 : decode cX4_countSteps 1 = .ok (.istore_n 2, 1) := by decide +kernel
theorem dX4_countSteps_2 : decode cX4_countSteps 2 = .ok (.iconst 0, 1) := by decide +kernel
theorem dX4_countSteps_3 : decode cX4_countSteps 3 = .ok (.istore_n 3, 1) := by decide +kernel
theorem dX4_countSteps_4 : decode cX4_countSteps 4 = .ok (.aload_n 0, 1) := by decide +kernel
theorem dX4_countSteps_46 : decode cX4_countSteps 46 = .ok (.iload_n 2, 1) := by decide +kernel
theorem dX4_countSteps_47 : decode cX4_countSteps 47 = .ok (.ireturn, 1) := by decide +kernel
theorem dX4_countSteps_5 : decode cX4_countSteps 5 = .ok (.getfield 41, 3) := by decide +kernel
theorem dX4_countSteps_8 : decode cX4_countSteps 8 = .ok (.ifCond .eq 38, 3) := by decide +kernel
theorem dX4_forgetCounts_0 : decode cX4_forgetCounts 0 = .ok (.aload_n 0, 1) := by decide +kernel
theorem dX4_forgetCounts_1 : decode cX4_forgetCounts 1 = .ok (.iconst 0, 1) := by decide +kernel
theorem dX4_forgetCounts_10 : decode cX4_forgetCounts 10 = .ok (.aload_n 0, 1) := by decide +kernel
theorem dX4_forgetCounts_11 : decode cX4_forgetCounts 11 = .ok (.iconst 0, 1) := by decide +kernel
theorem dX4_forgetCounts_12 : decode cX4_forgetCounts 12 = .ok (.putfield 49, 3) := by decide +kernel
theorem dX4_forgetCounts_15 : decode cX4_forgetCounts 15 = .ok (.aload_n 0, 1) := by decide +kernel
theorem dX4_forgetCounts_16 : decode cX4_forgetCounts 16 = .ok (.iconst 0, 1) := by decide +kernel
theorem dX4_forgetCounts_17 : decode cX4_forgetCounts 17 = .ok (.putfield 52, 3) := by decide +kernel
theorem dX4_forgetCounts_2 : decode cX4_forgetCounts 2 = .ok (.putfield 41, 3) := by decide +kernel
theorem dX4_forgetCounts_20 : decode cX4_forgetCounts 20 = .ok (.aload_n 0, 1) := by decide +kernel
theorem dX4_forgetCounts_21 : decode cX4_forgetCounts 21 = .ok (.iconst 0, 1) := by decide +kernel
theorem dX4_forgetCounts_22 : decode cX4_forgetCounts 22 = .ok (.putfield 55, 3) := by decide +kernel
theorem dX4_forgetCounts_25 : decode cX4_forgetCounts 25 = .ok (.return_, 1) := by decide +kernel
theorem dX4_forgetCounts_5 : decode cX4_forgetCounts 5 = .ok (.aload_n 0, 1) := by decide +kernel
theorem dX4_forgetCounts_6 : decode cX4_forgetCounts 6 = .ok (.iconst 0, 1) := by decide +kernel
theorem dX4_forgetCounts_7 : decode cX4_forgetCounts 7 = .ok (.putfield 45, 3) := by decide +kernel
theorem dX4_init_0 : decode cX4_init 0 = .ok (.aload_n 0, 1) := by decide +kernel
theorem dX4_init_1 : decode cX4_init 1 = .ok (.invokespecial 3, 3) := by decide +kernel
theorem dX4_init_11 : decode cX4_init 11 = .ok (.putfield 11, 3) := by decide +kernel
theorem dX4_init_14 : decode cX4_init 14 = .ok (.aload_n 0, 1) := by decide +kernel
theorem dX4_init_15 : decode cX4_init 15 = .ok (.sipush 210, 3) := by decide +kernel
theorem dX4_init_18 : decode cX4_init 18 = .ok (.anewarray 17, 3) := by decide +kernel
theorem dX4_init_21 : decode cX4_init 21 = .ok (.putfield 19, 3) := by decide +kernel
theorem dX4_init_24 : decode cX4_init 24 = .ok (.aload_n 0, 1) := by decide +kernel
theorem dX4_init_25 : decode cX4_init 25 = .ok (.sipush 180, 3) := by decide +kernel
theorem dX4_init_28 : decode cX4_init 28 = .ok (.anewarray 23, 3) := by decide +kernel
theorem dX4_init_31 : decode cX4_init 31 = .ok (.putfield 25, 3) := by decide +kernel
theorem dX4_init_34 : decode cX4_init 34 = .ok (.aload_n 0, 1) := by decide +kernel
theorem dX4_init_35 : decode cX4_init 35 = .ok (.bipush 30, 2) := by decide +kernel
theorem dX4_init_37 : decode cX4_init 37 = .ok (.newarray .int, 2) := by decide +kernel
theorem dX4_init_39 : decode cX4_init 39 = .ok (.putfield 29, 3) := by decide +kernel
theorem dX4_init_4 : decode cX4_init 4 = .ok (.aload_n 0, 1) := by decide +kernel
theorem dX4_init_42 : decode cX4_init 42 = .ok (.aload_n 0, 1) := by decide +kernel
theorem dX4_init_43 : decode cX4_init 43 = .ok (.aload_n 1, 1) := by decide +kernel
theorem dX4_init_44 : decode cX4_init 44 = .ok (.putfield 33, 3) := by decide +kernel
theorem dX4_init_47 : decode cX4_init 47 = .ok (.aload_n 0, 1) := by decide +kernel
theorem dX4_init_48 : decode cX4_init 48 = .ok (.aload_n 2, 1) := by decide +kernel
theorem dX4_init_49 : decode cX4_init 49 = .ok (.putfield 37, 3) := by decide +kernel
theorem dX4_init_5 : decode cX4_init 5 = .ok (.sipush 361, 3) := by decide +kernel
theorem dX4_init_52 : decode cX4_init 52 = .ok (.return_, 1) := by decide +kernel
theorem dX4_init_8 : decode cX4_init 8 = .ok (.anewarray 9, 3) := by decide +kernel
theorem dX5_init_0 : decode cX5_init 0 = .ok (.aload_n 0, 1) := by decide +kernel
theorem dX5_init_1 : decode cX5_init 1 = .ok (.invokespecial 3, 3) := by decide +kernel
theorem dX5_init_10 : decode cX5_init 10 = .ok (.putfield 9, 3) := by decide +kernel
theorem dX5_init_13 : decode cX5_init 13 = .ok (.aload_n 0, 1) := by decide +kernel
theorem dX5_init_14 : decode cX5_init 14 = .ok (.iconst (-1), 1) := by decide +kernel
theorem dX5_init_15 : decode cX5_init 15 = .ok (.putfield 15, 3) := by decide +kernel
theorem dX5_init_18 : decode cX5_init 18 = .ok (.aload_n 0, 1) := by decide +kernel
theorem dX5_init_19 : decode cX5_init 19 = .ok (.bipush 8, 2) := by decide +kernel
theorem dX5_init_21 : decode cX5_init 21 = .ok (.newarray .int, 2) := by decide +kernel
theorem dX5_init_23 : decode cX5_init 23 = .ok (.putfield 19, 3) := by decide +kernel
theorem dX5_init_26 : decode cX5_init 26 = .ok (.return_, 1) := by decide +kernel
theorem dX5_init_4 : decode cX5_init 4 = .ok (.aload_n 0, 1) := by decide +kernel
theorem dX5_init_5 : decode cX5_init 5 = .ok (.sipush 600, 3) := by decide +kernel
theorem dX5_init_8 : decode cX5_init 8 = .ok (.newarray .int, 2) := by decide +kernel
theorem dX5_nextToken_0 : decode cX5_nextToken 0 = .ok (.aload_n 0, 1) := by decide +kernel
theorem dX5_nextToken_1 : decode cX5_nextToken 1 = .ok (.aload_n 0, 1) := by decide +kernel
theorem dX5_nextToken_12 : decode cX5_nextToken 12 = .ok (.aload_n 0, 1) := by decide +kernel
theorem dX5_nextToken_13 : decode cX5_nextToken 13 = .ok (.getfield 22, 3) := by decide +kernel
theorem dX5_nextToken_139 : decode cX5_nextToken 139 = .ok (.return_, 1) := by decide +kernel
theorem dX5_nextToken_16 : decode cX5_nextToken 16 = .ok (.if_icmp .ge 44, 3) := by decide +kernel
theorem dX5_nextToken_2 : decode cX5_nextToken 2 = .ok (.getfield 37, 3) := by decide +kernel
theorem dX5_nextToken_5 : decode cX5_nextToken 5 = .ok (.putfield 49, 3) := by decide +kernel
theorem dX5_nextToken_60 : decode cX5_nextToken 60 = .ok (.aload_n 0, 1) := by decide +kernel
theorem dX5_nextToken_61 : decode cX5_nextToken 61 = .ok (.getfield 49, 3) := by decide +kernel
theorem dX5_nextToken_64 : decode cX5_nextToken 64 = .ok (.aload_n 0, 1) := by decide +kernel
theorem dX5_nextToken_65 : decode cX5_nextToken 65 = .ok (.getfield 22, 3) := by decide +kernel
theorem dX5_nextToken_68 : decode cX5_nextToken 68 = .ok (.if_icmp .lt 11, 3) := by decide +kernel
theorem dX5_nextToken_71 : decode cX5_nextToken 71 = .ok (.aload_n 0, 1) := by decide +kernel
theorem dX5_nextToken_72 : decode cX5_nextToken 72 = .ok (.iconst (-1), 1) := by decide +kernel
theorem dX5_nextToken_73 : decode cX5_nextToken 73 = .ok (.putfield 43, 3) := by decide +kernel
theorem dX5_nextToken_76 : decode cX5_nextToken 76 = .ok (.goto 63, 3) := by decide +kernel
theorem dX5_nextToken_8 : decode cX5_nextToken 8 = .ok (.aload_n 0, 1) := by decide +kernel
theorem dX5_nextToken_9 : decode cX5_nextToken 9 = .ok (.getfield 49, 3) := by decide +kernel
theorem dX5_read_0 : decode cX5_read 0 = .ok (.aload_n 0, 1) := by decide +kernel
theorem dX5_read_1 : decode cX5_read 1 = .ok (.aload_n 1, 1) := by decide +kernel
theorem dX5_read_12 : decode cX5_read 12 = .ok (.aload_n 0, 1) := by decide +kernel
theorem dX5_read_13 : decode cX5_read 13 = .ok (.iconst 0, 1) := by decide +kernel
theorem dX5_read_14 : decode cX5_read 14 = .ok (.putfield 34, 3) := by decide +kernel
theorem dX5_read_17 : decode cX5_read 17 = .ok (.aload_n 0, 1) := by decide +kernel
theorem dX5_read_18 : decode cX5_read 18 = .ok (.iconst (-1), 1) := by decide +kernel
theorem dX5_read_19 : decode cX5_read 19 = .ok (.putfield 15, 3) := by decide +kernel
theorem dX5_read_2 : decode cX5_read 2 = .ok (.putfield 25, 3) := by decide +kernel
theorem dX5_read_22 : decode cX5_read 22 = .ok (.aload_n 0, 1) := by decide +kernel
theorem dX5_read_23 : decode cX5_read 23 = .ok (.iconst 0, 1) := by decide +kernel
theorem dX5_read_24 : decode cX5_read 24 = .ok (.putfield 37, 3) := by decide +kernel
theorem dX5_read_27 : decode cX5_read 27 = .ok (.aload_n 0, 1) := by decide +kernel
theorem dX5_read_28 : decode cX5_read 28 = .ok (.invokevirtual 40, 3) := by decide +kernel
theorem dX5_read_31 : decode cX5_read 31 = .ok (.iconst 0, 1) := by decide +kernel
theorem dX5_read_32 : decode cX5_read 32 = .ok (.istore_n 2, 1) := by decide +kernel
theorem dX5_read_33 : decode cX5_read 33 = .ok (.iload_n 2, 1) := by decide +kernel
theorem dX5_read_34 : decode cX5_read 34 = .ok (.sipush 600, 3) := by decide +kernel
theorem dX5_read_37 : decode cX5_read 37 = .ok (.if_icmp .ge 28, 3) := by decide +kernel
theorem dX5_read_40 : decode cX5_read 40 = .ok (.aload_n 0, 1) := by decide +kernel
theorem dX5_read_41 : decode cX5_read 41 = .ok (.getfield 34, 3) := by decide +kernel
theorem dX5_read_44 : decode cX5_read 44 = .ok (.ifCond .ne 21, 3) := by decide +kernel
theorem dX5_read_47 : decode cX5_read 47 = .ok (.aload_n 0, 1) := by decide +kernel
theorem dX5_read_48 : decode cX5_read 48 = .ok (.getfield 43, 3) := by decide +kernel
theorem dX5_read_5 : decode cX5_read 5 = .ok (.aload_n 0, 1) := by decide +kernel
theorem dX5_read_51 : decode cX5_read 51 = .ok (.iconst (-1), 1) := by decide +kernel
theorem dX5_read_52 : decode cX5_read 52 = .ok (.if_icmp .eq 13, 3) := by decide +kernel
theorem dX5_read_6 : decode cX5_read 6 = .ok (.getfield 25, 3) := by decide +kernel
theorem dX5_read_65 : decode cX5_read 65 = .ok (.return_, 1) := by decide +kernel
theorem dX5_read_9 : decode cX5_read 9 = .ok (.invokevirtual 29, 3) := by decide +kernel
theorem dX5_take_0 : decode cX5_take 0 = .ok (.bipush 24, 2) := by decide +kernel
theorem dX5_take_11 : decode cX5_take 11 = .ok (.sipush 600, 3) := by decide +kernel
theorem dX5_take_14 : decode cX5_take 14 = .ok (.if_icmp .ge 32, 3) := by decide +kernel
theorem dX5_take_17 : decode cX5_take 17 = .ok (.aload_n 0, 1) := by decide +kernel
theorem dX5_take_18 : decode cX5_take 18 = .ok (.getfield 9, 3) := by decide +kernel
theorem dX5_take_2 : decode cX5_take 2 = .ok (.istore_n 2, 1) := by decide +kernel
theorem dX5_take_21 : decode cX5_take 21 = .ok (.aload_n 0, 1) := by decide +kernel
theorem dX5_take_22 : decode cX5_take 22 = .ok (.dup, 1) := by decide +kernel
theorem dX5_take_23 : decode cX5_take 23 = .ok (.getfield 22, 3) := by decide +kernel
theorem dX5_take_26 : decode cX5_take 26 = .ok (.dup_x1, 1) := by decide +kernel
theorem dX5_take_27 : decode cX5_take 27 = .ok (.iconst 1, 1) := by decide +kernel
theorem dX5_take_28 : decode cX5_take 28 = .ok (.iadd, 1) := by decide +kernel
theorem dX5_take_29 : decode cX5_take 29 = .ok (.putfield 22, 3) := by decide +kernel
theorem dX5_take_3 : decode cX5_take 3 = .ok (.iload_n 2, 1) := by decide +kernel
theorem dX5_take_32 : decode cX5_take 32 = .ok (.iload_n 1, 1) := by decide +kernel
theorem dX5_take_33 : decode cX5_take 33 = .ok (.iload_n 2, 1) := by decide +kernel
theorem dX5_take_34 : decode cX5_take 34 = .ok (.ishr, 1) := by decide +kernel
theorem dX5_take_35 : decode cX5_take 35 = .ok (.sipush 255, 3) := by decide +kernel
theorem dX5_take_38 : decode cX5_take 38 = .ok (.iand, 1) := by decide +kernel
theorem dX5_take_39 : decode cX5_take 39 = .ok (.iastore, 1) := by decide +kernel
theorem dX5_take_4 : decode cX5_take 4 = .ok (.ifCond .lt 42, 3) := by decide +kernel
theorem dX5_take_40 : decode cX5_take 40 = .ok (.iinc 2 (-8), 3) := by decide +kernel
theorem dX5_take_43 : decode cX5_take 43 = .ok (.goto (-40), 3) := by decide +kernel
theorem dX5_take_46 : decode cX5_take 46 = .ok (.return_, 1) := by decide +kernel
theorem dX5_take_7 : decode cX5_take 7 = .ok (.aload_n 0, 1) := by decide +kernel
theorem dX5_take_8 : decode cX5_take 8 = .ok (.getfield 22, 3) := by decide +kernel
theorem dX8_all_0 : decode cX8_all 0 = .ok (.iconst 1, 1) := by decide +kernel
theorem dX8_all_1 : decode cX8_all 1 = .ok (.aload_n 0, 1) := by decide +kernel
theorem dX8_all_2 : decode cX8_all 2 = .ok (.getfield 41, 3) := by decide +kernel
theorem dX8_all_5 : decode cX8_all 5 = .ok (.ishl, 1) := by decide +kernel
theorem dX8_all_6 : decode cX8_all 6 = .ok (.iconst 1, 1) := by decide +kernel
theorem dX8_all_7 : decode cX8_all 7 = .ok (.isub, 1) := by decide +kernel
theorem dX8_all_8 : decode cX8_all 8 = .ok (.ireturn, 1) := by decide +kernel
theorem dX8_clear_0 : decode cX8_clear 0 = .ok (.aload_n 0, 1) := by decide +kernel
theorem dX8_clear_1 : decode cX8_clear 1 = .ok (.iconst 0, 1) := by decide +kernel
theorem dX8_clear_10 : decode cX8_clear 10 = .ok (.return_, 1) := by decide +kernel
theorem dX8_clear_2 : decode cX8_clear 2 = .ok (.putfield 37, 3) := by decide +kernel
theorem dX8_clear_5 : decode cX8_clear 5 = .ok (.aload_n 0, 1) := by decide +kernel
theorem dX8_clear_6 : decode cX8_clear 6 = .ok (.iconst 0, 1) := by decide +kernel
theorem dX8_clear_7 : decode cX8_clear 7 = .ok (.putfield 41, 3) := by decide +kernel
theorem dX8_countLiterals_0 : decode cX8_countLiterals 0 = .ok (.iconst 0, 1) := by decide +kernel
theorem dX8_countLiterals_1 : decode cX8_countLiterals 1 = .ok (.istore_n 1, 1) := by decide +kernel
theorem dX8_countLiterals_2 : decode cX8_countLiterals 2 = .ok (.iconst 0, 1) := by decide +kernel
theorem dX8_countLiterals_27 : decode cX8_countLiterals 27 = .ok (.iload_n 1, 1) := by decide +kernel
theorem dX8_countLiterals_28 : decode cX8_countLiterals 28 = .ok (.ireturn, 1) := by decide +kernel
theorem dX8_countLiterals_3 : decode cX8_countLiterals 3 = .ok (.istore_n 2, 1) := by decide +kernel
theorem dX8_countLiterals_4 : decode cX8_countLiterals 4 = .ok (.iload_n 2, 1) := by decide +kernel
theorem dX8_countLiterals_5 : decode cX8_countLiterals 5 = .ok (.aload_n 0, 1) := by decide +kernel
theorem dX8_countLiterals_6 : decode cX8_countLiterals 6 = .ok (.getfield 41, 3) := by decide +kernel
theorem dX8_countLiterals_9 : decode cX8_countLiterals 9 = .ok (.if_icmp .ge 18, 3) := by decide +kernel
theorem dX8_countNames_0 : decode cX8_countNames 0 = .ok (.iconst 0, 1) := by decide +kernel
theorem dX8_countNames_1 : decode cX8_countNames 1 = .ok (.istore_n 1, 1) := by decide +kernel
theorem dX8_countNames_2 : decode cX8_countNames 2 = .ok (.iconst 0, 1) := by decide +kernel
theorem dX8_countNames_3 : decode cX8_countNames 3 = .ok (.istore_n 2, 1) := by decide +kernel
theorem dX8_countNames_4 : decode cX8_countNames 4 = .ok (.iload_n 2, 1) := by decide +kernel
theorem dX8_countNames_5 : decode cX8_countNames 5 = .ok (.aload_n 0, 1) := by decide +kernel
theorem dX8_countNames_53 : decode cX8_countNames 53 = .ok (.iload_n 1, 1) := by decide +kernel
theorem dX8_countNames_54 : decode cX8_countNames 54 = .ok (.ireturn, 1) := by decide +kernel
theorem dX8_countNames_6 : decode cX8_countNames 6 = .ok (.getfield 41, 3) := by decide +kernel
theorem dX8_countNames_9 : decode cX8_countNames 9 = .ok (.if_icmp .ge 44, 3) := by decide +kernel
theorem dX8_init_0 : decode cX8_init 0 = .ok (.aload_n 0, 1) := by decide +kernel
theorem dX8_init_1 : decode cX8_init 1 = .ok (.invokespecial 3, 3) := by decide +kernel
theorem dX8_init_10 : decode cX8_init 10 = .ok (.putfield 9, 3) := by decide +kernel
theorem dX8_init_13 : decode cX8_init 13 = .ok (.aload_n 0, 1) := by decide +kernel
theorem dX8_init_14 : decode cX8_init 14 = .ok (.sipush 300, 3) := by decide +kernel
theorem dX8_init_17 : decode cX8_init 17 = .ok (.newarray .int, 2) := by decide +kernel
theorem dX8_init_19 : decode cX8_init 19 = .ok (.putfield 15, 3) := by decide +kernel
theorem dX8_init_22 : decode cX8_init 22 = .ok (.aload_n 0, 1) := by decide +kernel
theorem dX8_init_23 : decode cX8_init 23 = .ok (.sipush 300, 3) := by decide +kernel
theorem dX8_init_26 : decode cX8_init 26 = .ok (.newarray .int, 2) := by decide +kernel
theorem dX8_init_28 : decode cX8_init 28 = .ok (.putfield 19, 3) := by decide +kernel
theorem dX8_init_31 : decode cX8_init 31 = .ok (.aload_n 0, 1) := by decide +kernel
theorem dX8_init_32 : decode cX8_init 32 = .ok (.sipush 900, 3) := by decide +kernel
theorem dX8_init_35 : decode cX8_init 35 = .ok (.newarray .int, 2) := by decide +kernel
theorem dX8_init_37 : decode cX8_init 37 = .ok (.putfield 22, 3) := by decide +kernel
theorem dX8_init_4 : decode cX8_init 4 = .ok (.aload_n 0, 1) := by decide +kernel
theorem dX8_init_40 : decode cX8_init 40 = .ok (.aload_n 0, 1) := by decide +kernel
theorem dX8_init_41 : decode cX8_init 41 = .ok (.bipush 16, 2) := by decide +kernel
theorem dX8_init_43 : decode cX8_init 43 = .ok (.newarray .int, 2) := by decide +kernel
theorem dX8_init_45 : decode cX8_init 45 = .ok (.putfield 25, 3) := by decide +kernel
theorem dX8_init_48 : decode cX8_init 48 = .ok (.aload_n 0, 1) := by decide +kernel
theorem dX8_init_49 : decode cX8_init 49 = .ok (.bipush 16, 2) := by decide +kernel
theorem dX8_init_5 : decode cX8_init 5 = .ok (.sipush 300, 3) := by decide +kernel
theorem dX8_init_51 : decode cX8_init 51 = .ok (.newarray .int, 2) := by decide +kernel
theorem dX8_init_53 : decode cX8_init 53 = .ok (.putfield 28, 3) := by decide +kernel
theorem dX8_init_56 : decode cX8_init 56 = .ok (.aload_n 0, 1) := by decide +kernel
theorem dX8_init_57 : decode cX8_init 57 = .ok (.bipush 16, 2) := by decide +kernel
theorem dX8_init_59 : decode cX8_init 59 = .ok (.newarray .int, 2) := by decide +kernel
theorem dX8_init_61 : decode cX8_init 61 = .ok (.putfield 31, 3) := by decide +kernel
theorem dX8_init_64 : decode cX8_init 64 = .ok (.aload_n 0, 1) := by decide +kernel
theorem dX8_init_65 : decode cX8_init 65 = .ok (.bipush 96, 2) := by decide +kernel
theorem dX8_init_67 : decode cX8_init 67 = .ok (.newarray .int, 2) := by decide +kernel
theorem dX8_init_69 : decode cX8_init 69 = .ok (.putfield 34, 3) := by decide +kernel
theorem dX8_init_72 : decode cX8_init 72 = .ok (.return_, 1) := by decide +kernel
theorem dX8_init_8 : decode cX8_init 8 = .ok (.newarray .long, 2) := by decide +kernel
theorem dX8_isClause_0 : decode cX8_isClause 0 = .ok (.iload_n 1, 1) := by decide +kernel
theorem dX8_isClause_1 : decode cX8_isClause 1 = .ok (.ifCond .lt 15, 3) := by decide +kernel
theorem dX8_isClause_16 : decode cX8_isClause 16 = .ok (.iconst 0, 1) := by decide +kernel
theorem dX8_isClause_17 : decode cX8_isClause 17 = .ok (.ireturn, 1) := by decide +kernel
theorem dX8_isClause_4 : decode cX8_isClause 4 = .ok (.iload_n 1, 1) := by decide +kernel
theorem dX8_isClause_5 : decode cX8_isClause 5 = .ok (.aload_n 0, 1) := by decide +kernel
theorem dX8_isClause_6 : decode cX8_isClause 6 = .ok (.getfield 41, 3) := by decide +kernel
theorem dX8_isClause_9 : decode cX8_isClause 9 = .ok (.if_icmp .ge 7, 3) := by decide +kernel
theorem dX8_isLiteral_0 : decode cX8_isLiteral 0 = .ok (.aload_n 0, 1) := by decide +kernel
theorem dX8_isLiteral_1 : decode cX8_isLiteral 1 = .ok (.iload_n 1, 1) := by decide +kernel
theorem dX8_isLiteral_2 : decode cX8_isLiteral 2 = .ok (.invokevirtual 50, 3) := by decide +kernel
theorem dX8_isLiteral_26 : decode cX8_isLiteral 26 = .ok (.iconst 0, 1) := by decide +kernel
theorem dX8_isLiteral_27 : decode cX8_isLiteral 27 = .ok (.ireturn, 1) := by decide +kernel
theorem dX8_isLiteral_5 : decode cX8_isLiteral 5 = .ok (.ifCond .eq 21, 3) := by decide +kernel
theorem dX9_init_0 : decode cX9_init 0 = .ok (.aload_n 0, 1) := by decide +kernel
theorem dX9_init_1 : decode cX9_init 1 = .ok (.invokespecial 3, 3) := by decide +kernel
theorem dX9_init_10 : decode cX9_init 10 = .ok (.putfield 9, 3) := by decide +kernel
theorem dX9_init_13 : decode cX9_init 13 = .ok (.aload_n 0, 1) := by decide +kernel
theorem dX9_init_14 : decode cX9_init 14 = .ok (.sipush 616, 3) := by decide +kernel
theorem dX9_init_17 : decode cX9_init 17 = .ok (.newarray .int, 2) := by decide +kernel
theorem dX9_init_19 : decode cX9_init 19 = .ok (.putfield 15, 3) := by decide +kernel
theorem dX9_init_22 : decode cX9_init 22 = .ok (.aload_n 0, 1) := by decide +kernel
theorem dX9_init_23 : decode cX9_init 23 = .ok (.sipush 2048, 3) := by decide +kernel
theorem dX9_init_26 : decode cX9_init 26 = .ok (.newarray .int, 2) := by decide +kernel
theorem dX9_init_28 : decode cX9_init 28 = .ok (.putfield 18, 3) := by decide +kernel
theorem dX9_init_31 : decode cX9_init 31 = .ok (.aload_n 0, 1) := by decide +kernel
theorem dX9_init_32 : decode cX9_init 32 = .ok (.aload_n 1, 1) := by decide +kernel
theorem dX9_init_33 : decode cX9_init 33 = .ok (.putfield 21, 3) := by decide +kernel
theorem dX9_init_36 : decode cX9_init 36 = .ok (.aload_n 0, 1) := by decide +kernel
theorem dX9_init_37 : decode cX9_init 37 = .ok (.aload_n 2, 1) := by decide +kernel
theorem dX9_init_38 : decode cX9_init 38 = .ok (.putfield 25, 3) := by decide +kernel
theorem dX9_init_4 : decode cX9_init 4 = .ok (.aload_n 0, 1) := by decide +kernel
theorem dX9_init_41 : decode cX9_init 41 = .ok (.return_, 1) := by decide +kernel
theorem dX9_init_5 : decode cX9_init 5 = .ok (.sipush 600, 3) := by decide +kernel
theorem dX9_init_8 : decode cX9_init 8 = .ok (.newarray .int, 2) := by decide +kernel
