theorem dX0_init_0 : decode cX0_init 0 = .ok (.aload_n 0, 1) := by decide +kernel
theorem dX0_init_1 : decode cX0_init 1 = .ok (.invokespecial 3, 3) := by decide +kernel
theorem dX0_init_12 : decode cX0_init 12 = .ok (.aload_n 0, 1) := by decide +kernel
theorem dX0_init_13 : decode cX0_init 13 = .ok (.bipush 8, 2) := by decide +kernel
theorem dX0_init_15 : decode cX0_init 15 = .ok (.newarray .int, 2) := by decide +kernel
theorem dX0_init_17 : decode cX0_init 17 = .ok (.putfield 15, 3) := by decide +kernel
theorem dX0_init_20 : decode cX0_init 20 = .ok (.aload_n 0, 1) := by decide +kernel
theorem dX0_init_21 : decode cX0_init 21 = .ok (.bipush 8, 2) := by decide +kernel
theorem dX0_init_23 : decode cX0_init 23 = .ok (.newarray .int, 2) := by decide +kernel
theorem dX0_init_25 : decode cX0_init 25 = .ok (.putfield 18, 3) := by decide +kernel
theorem dX0_init_28 : decode cX0_init 28 = .ok (.aload_n 0, 1) := by decide +kernel
theorem dX0_init_29 : decode cX0_init 29 = .ok (.bipush 8, 2) := by decide +kernel
theorem dX0_init_31 : decode cX0_init 31 = .ok (.newarray .int, 2) := by decide +kernel
theorem dX0_init_33 : decode cX0_init 33 = .ok (.putfield 21, 3) := by decide +kernel
theorem dX0_init_36 : decode cX0_init 36 = .ok (.return_, 1) := by decide +kernel
theorem dX0_init_4 : decode cX0_init 4 = .ok (.aload_n 0, 1) := by decide +kernel
theorem dX0_init_5 : decode cX0_init 5 = .ok (.bipush 8, 2) := by decide +kernel
theorem dX0_init_7 : decode cX0_init 7 = .ok (.newarray .int, 2) := by decide +kernel
theorem dX0_init_9 : decode cX0_init 9 = .ok (.putfield 9, 3) := by decide +kernel
theorem dX10_answer_0 : decode cX10_answer 0 = .ok (.iload_n 1, 1) := by decide +kernel
theorem dX10_answer_1 : decode cX10_answer 1 = .ok (.iconst (-1), 1) := by decide +kernel
theorem dX10_answer_12 : decode cX10_answer 12 = .ok (.ireturn, 1) := by decide +kernel
theorem dX10_answer_13 : decode cX10_answer 13 = .ok (.iload_n 1, 1) := by decide +kernel
theorem dX10_answer_14 : decode cX10_answer 14 = .ok (.ifCond .lt 14, 3) := by decide +kernel
theorem dX10_answer_17 : decode cX10_answer 17 = .ok (.iload_n 1, 1) := by decide +kernel
theorem dX10_answer_18 : decode cX10_answer 18 = .ok (.aload_n 0, 1) := by decide +kernel
theorem dX10_answer_19 : decode cX10_answer 19 = .ok (.getfield 63, 3) := by decide +kernel
theorem dX10_answer_2 : decode cX10_answer 2 = .ok (.if_icmp .ne 11, 3) := by decide +kernel
theorem dX10_answer_22 : decode cX10_answer 22 = .ok (.getfield 232, 3) := by decide +kernel
theorem dX10_answer_25 : decode cX10_answer 25 = .ok (.if_icmp .lt 5, 3) := by decide +kernel
theorem dX10_answer_28 : decode cX10_answer 28 = .ok (.iconst (-1), 1) := by decide +kernel
theorem dX10_answer_29 : decode cX10_answer 29 = .ok (.ireturn, 1) := by decide +kernel
theorem dX10_answer_5 : decode cX10_answer 5 = .ok (.aload_n 0, 1) := by decide +kernel
theorem dX10_answer_6 : decode cX10_answer 6 = .ok (.getfield 63, 3) := by decide +kernel
theorem dX10_answer_9 : decode cX10_answer 9 = .ok (.getfield 232, 3) := by decide +kernel
theorem dX10_any_0 : decode cX10_any 0 = .ok (.iload_n 1, 1) := by decide +kernel
theorem dX10_any_1 : decode cX10_any 1 = .ok (.iload_n 2, 1) := by decide +kernel
theorem dX10_any_10 : decode cX10_any 10 = .ok (.ireturn, 1) := by decide +kernel
theorem dX10_any_11 : decode cX10_any 11 = .ok (.aload_n 0, 1) := by decide +kernel
theorem dX10_any_12 : decode cX10_any 12 = .ok (.invokevirtual 153, 3) := by decide +kernel
theorem dX10_any_15 : decode cX10_any 15 = .ok (.iconst 0, 1) := by decide +kernel
theorem dX10_any_16 : decode cX10_any 16 = .ok (.istore_n 3, 1) := by decide +kernel
theorem dX10_any_17 : decode cX10_any 17 = .ok (.iload_n 3, 1) := by decide +kernel
theorem dX10_any_18 : decode cX10_any 18 = .ok (.aload_n 0, 1) := by decide +kernel
theorem dX10_any_19 : decode cX10_any 19 = .ok (.getfield 19, 3) := by decide +kernel
theorem dX10_any_2 : decode cX10_any 2 = .ok (.invokestatic 150, 3) := by decide +kernel
theorem dX10_any_22 : decode cX10_any 22 = .ok (.getfield 84, 3) := by decide +kernel
theorem dX10_any_25 : decode cX10_any 25 = .ok (.if_icmp .ge 39, 3) := by decide +kernel
theorem dX10_any_5 : decode cX10_any 5 = .ok (.ifCond .ne 6, 3) := by decide +kernel
theorem dX10_any_64 : decode cX10_any 64 = .ok (.iconst (-1), 1) := by decide +kernel
theorem dX10_any_65 : decode cX10_any 65 = .ok (.ireturn, 1) := by decide +kernel
theorem dX10_any_8 : decode cX10_any 8 = .ok (.bipush (-3), 2) := by decide +kernel
theorem dX10_begin_0 : decode cX10_begin 0 = .ok (.aload_n 0, 1) := by decide +kernel
theorem dX10_begin_1 : decode cX10_begin 1 = .ok (.getfield 56, 3) := by decide +kernel
theorem dX10_begin_11 : decode cX10_begin 11 = .ok (.invokevirtual 262, 3) := by decide +kernel
theorem dX10_begin_14 : decode cX10_begin 14 = .ok (.return_, 1) := by decide +kernel
theorem dX10_begin_4 : decode cX10_begin 4 = .ok (.invokevirtual 259, 3) := by decide +kernel
theorem dX10_begin_7 : decode cX10_begin 7 = .ok (.aload_n 0, 1) := by decide +kernel
theorem dX10_begin_8 : decode cX10_begin 8 = .ok (.getfield 47, 3) := by decide +kernel
theorem dX10_canBe_0 : decode cX10_canBe 0 = .ok (.iload_n 0, 1) := by decide +kernel
theorem dX10_canBe_1 : decode cX10_canBe 1 = .ok (.ifCond .lt 23, 3) := by decide +kernel
theorem dX10_canBe_10 : decode cX10_canBe 10 = .ok (.iload_n 1, 1) := by decide +kernel
theorem dX10_canBe_11 : decode cX10_canBe 11 = .ok (.ifCond .lt 13, 3) := by decide +kernel
theorem dX10_canBe_14 : decode cX10_canBe 14 = .ok (.iload_n 1, 1) := by decide +kernel
theorem dX10_canBe_15 : decode cX10_canBe 15 = .ok (.bipush 7, 2) := by decide +kernel
theorem dX10_canBe_17 : decode cX10_canBe 17 = .ok (.if_icmp .gt 7, 3) := by decide +kernel
theorem dX10_canBe_20 : decode cX10_canBe 20 = .ok (.iconst 1, 1) := by decide +kernel
theorem dX10_canBe_21 : decode cX10_canBe 21 = .ok (.goto 4, 3) := by decide +kernel
theorem dX10_canBe_24 : decode cX10_canBe 24 = .ok (.iconst 0, 1) := by decide +kernel
theorem dX10_canBe_25 : decode cX10_canBe 25 = .ok (.ireturn, 1) := by decide +kernel
theorem dX10_canBe_4 : decode cX10_canBe 4 = .ok (.iload_n 0, 1) := by decide +kernel
theorem dX10_canBe_5 : decode cX10_canBe 5 = .ok (.bipush 20, 2) := by decide +kernel
theorem dX10_canBe_7 : decode cX10_canBe 7 = .ok (.if_icmp .gt 17, 3) := by decide +kernel
theorem dX10_clause_0 : decode cX10_clause 0 = .ok (.aload_n 0, 1) := by decide +kernel
theorem dX10_clause_1 : decode cX10_clause 1 = .ok (.getfield 19, 3) := by decide +kernel
theorem dX10_clause_11 : decode cX10_clause 11 = .ok (.iconst (-1), 1) := by decide +kernel
theorem dX10_clause_12 : decode cX10_clause 12 = .ok (.ireturn, 1) := by decide +kernel
theorem dX10_clause_4 : decode cX10_clause 4 = .ok (.iload_n 1, 1) := by decide +kernel
theorem dX10_clause_5 : decode cX10_clause 5 = .ok (.invokevirtual 90, 3) := by decide +kernel
theorem dX10_clause_8 : decode cX10_clause 8 = .ok (.ifCond .ne 5, 3) := by decide +kernel
theorem dX10_clauses_0 : decode cX10_clauses 0 = .ok (.aload_n 0, 1) := by decide +kernel
theorem dX10_clauses_1 : decode cX10_clauses 1 = .ok (.getfield 12, 3) := by decide +kernel
theorem dX10_clauses_11 : decode cX10_clauses 11 = .ok (.aload_n 0, 1) := by decide +kernel
theorem dX10_clauses_12 : decode cX10_clauses 12 = .ok (.getfield 12, 3) := by decide +kernel
theorem dX10_clauses_15 : decode cX10_clauses 15 = .ok (.getfield 78, 3) := by decide +kernel
theorem dX10_clauses_18 : decode cX10_clauses 18 = .ok (.ifCond .ne 7, 3) := by decide +kernel
theorem dX10_clauses_21 : decode cX10_clauses 21 = .ok (.iconst 1, 1) := by decide +kernel
theorem dX10_clauses_22 : decode cX10_clauses 22 = .ok (.goto 4, 3) := by decide +kernel
theorem dX10_clauses_26 : decode cX10_clauses 26 = .ok (.istore_n 1, 1) := by decide +kernel
theorem dX10_clauses_27 : decode cX10_clauses 27 = .ok (.iload_n 1, 1) := by decide +kernel
theorem dX10_clauses_28 : decode cX10_clauses 28 = .ok (.ifCond .eq 18, 3) := by decide +kernel
theorem dX10_clauses_31 : decode cX10_clauses 31 = .ok (.aload_n 0, 1) := by decide +kernel
theorem dX10_clauses_32 : decode cX10_clauses 32 = .ok (.getfield 12, 3) := by decide +kernel
theorem dX10_clauses_35 : decode cX10_clauses 35 = .ok (.aload_n 0, 1) := by decide +kernel
theorem dX10_clauses_36 : decode cX10_clauses 36 = .ok (.getfield 19, 3) := by decide +kernel
theorem dX10_clauses_39 : decode cX10_clauses 39 = .ok (.invokevirtual 75, 3) := by decide +kernel
theorem dX10_clauses_4 : decode cX10_clauses 4 = .ok (.aload_n 0, 1) := by decide +kernel
theorem dX10_clauses_42 : decode cX10_clauses 42 = .ok (.aload_n 0, 1) := by decide +kernel
theorem dX10_clauses_43 : decode cX10_clauses 43 = .ok (.invokevirtual 81, 3) := by decide +kernel
theorem dX10_clauses_46 : decode cX10_clauses 46 = .ok (.aload_n 0, 1) := by decide +kernel
theorem dX10_clauses_47 : decode cX10_clauses 47 = .ok (.getfield 12, 3) := by decide +kernel
theorem dX10_clauses_5 : decode cX10_clauses 5 = .ok (.getfield 23, 3) := by decide +kernel
theorem dX10_clauses_50 : decode cX10_clauses 50 = .ok (.iconst 0, 1) := by decide +kernel
theorem dX10_clauses_51 : decode cX10_clauses 51 = .ok (.putfield 67, 3) := by decide +kernel
theorem dX10_clauses_54 : decode cX10_clauses 54 = .ok (.iload_n 1, 1) := by decide +kernel
theorem dX10_clauses_55 : decode cX10_clauses 55 = .ok (.ifCond .eq 13, 3) := by decide +kernel
theorem dX10_clauses_58 : decode cX10_clauses 58 = .ok (.aload_n 0, 1) := by decide +kernel
theorem dX10_clauses_59 : decode cX10_clauses 59 = .ok (.getfield 19, 3) := by decide +kernel
theorem dX10_clauses_62 : decode cX10_clauses 62 = .ok (.getfield 84, 3) := by decide +kernel
theorem dX10_clauses_65 : decode cX10_clauses 65 = .ok (.goto 4, 3) := by decide +kernel
theorem dX10_clauses_69 : decode cX10_clauses 69 = .ok (.ireturn, 1) := by decide +kernel
theorem dX10_clauses_8 : decode cX10_clauses 8 = .ok (.invokevirtual 75, 3) := by decide +kernel
theorem dX10_closed_0 : decode cX10_closed 0 = .ok (.aload_n 0, 1) := by decide +kernel
theorem dX10_closed_1 : decode cX10_closed 1 = .ok (.getfield 47, 3) := by decide +kernel
theorem dX10_closed_23 : decode cX10_closed 23 = .ok (.iconst (-1), 1) := by decide +kernel
theorem dX10_closed_24 : decode cX10_closed 24 = .ok (.ireturn, 1) := by decide +kernel
theorem dX10_closed_4 : decode cX10_closed 4 = .ok (.getfield 175, 3) := by decide +kernel
theorem dX10_closed_7 : decode cX10_closed 7 = .ok (.ifCond .eq 16, 3) := by decide +kernel
theorem dX10_deepen_0 : decode cX10_deepen 0 = .ok (.aload_n 0, 1) := by decide +kernel
theorem dX10_deepen_1 : decode cX10_deepen 1 = .ok (.getfield 19, 3) := by decide +kernel
theorem dX10_deepen_19 : decode cX10_deepen 19 = .ok (.bipush (-3), 2) := by decide +kernel
theorem dX10_deepen_21 : decode cX10_deepen 21 = .ok (.ireturn, 1) := by decide +kernel
theorem dX10_deepen_4 : decode cX10_deepen 4 = .ok (.iload_n 1, 1) := by decide +kernel
theorem dX10_deepen_5 : decode cX10_deepen 5 = .ok (.invokevirtual 90, 3) := by decide +kernel
theorem dX10_deepen_8 : decode cX10_deepen 8 = .ok (.ifCond .eq 11, 3) := by decide +kernel
theorem dX10_drop_0 : decode cX10_drop 0 = .ok (.aload_n 0, 1) := by decide +kernel
theorem dX10_drop_1 : decode cX10_drop 1 = .ok (.getfield 19, 3) := by decide +kernel
theorem dX10_drop_11 : decode cX10_drop 11 = .ok (.iconst 0, 1) := by decide +kernel
theorem dX10_drop_12 : decode cX10_drop 12 = .ok (.ireturn, 1) := by decide +kernel
theorem dX10_drop_4 : decode cX10_drop 4 = .ok (.iload_n 1, 1) := by decide +kernel
theorem dX10_drop_5 : decode cX10_drop 5 = .ok (.invokevirtual 90, 3) := by decide +kernel
theorem dX10_drop_8 : decode cX10_drop 8 = .ok (.ifCond .ne 5, 3) := by decide +kernel
theorem dX10_end_0 : decode cX10_end 0 = .ok (.iload_n 1, 1) := by decide +kernel
theorem dX10_end_1 : decode cX10_end 1 = .ok (.ifCond .lt 14, 3) := by decide +kernel
theorem dX10_end_12 : decode cX10_end 12 = .ok (.if_icmp .le 5, 3) := by decide +kernel
theorem dX10_end_15 : decode cX10_end 15 = .ok (.iconst 0, 1) := by decide +kernel
theorem dX10_end_16 : decode cX10_end 16 = .ok (.ireturn, 1) := by decide +kernel
theorem dX10_end_17 : decode cX10_end 17 = .ok (.aload_n 0, 1) := by decide +kernel
theorem dX10_end_18 : decode cX10_end 18 = .ok (.getfield 12, 3) := by decide +kernel
theorem dX10_end_21 : decode cX10_end 21 = .ok (.iload_n 1, 1) := by decide +kernel
theorem dX10_end_22 : decode cX10_end 22 = .ok (.putfield 67, 3) := by decide +kernel
theorem dX10_end_25 : decode cX10_end 25 = .ok (.iconst 1, 1) := by decide +kernel
theorem dX10_end_26 : decode cX10_end 26 = .ok (.ireturn, 1) := by decide +kernel
theorem dX10_end_4 : decode cX10_end 4 = .ok (.iload_n 1, 1) := by decide +kernel
theorem dX10_end_5 : decode cX10_end 5 = .ok (.aload_n 0, 1) := by decide +kernel
theorem dX10_end_6 : decode cX10_end 6 = .ok (.getfield 12, 3) := by decide +kernel
theorem dX10_end_9 : decode cX10_end 9 = .ok (.getfield 67, 3) := by decide +kernel
theorem dX10_fault_0 : decode cX10_fault 0 = .ok (.iload_n 1, 1) := by decide +kernel
theorem dX10_fault_1 : decode cX10_fault 1 = .ok (.lookupswitch 43 #[(0, 27), (1, 35)], 27) := by decide +kernel
theorem dX10_fault_28 : decode cX10_fault 28 = .ok (.aload_n 0, 1) := by decide +kernel
theorem dX10_fault_29 : decode cX10_fault 29 = .ok (.getfield 12, 3) := by decide +kernel
theorem dX10_fault_32 : decode cX10_fault 32 = .ok (.getfield 78, 3) := by decide +kernel
theorem dX10_fault_35 : decode cX10_fault 35 = .ok (.ireturn, 1) := by decide +kernel
theorem dX10_fault_36 : decode cX10_fault 36 = .ok (.aload_n 0, 1) := by decide +kernel
theorem dX10_fault_37 : decode cX10_fault 37 = .ok (.getfield 12, 3) := by decide +kernel
theorem dX10_fault_40 : decode cX10_fault 40 = .ok (.getfield 87, 3) := by decide +kernel
theorem dX10_fault_43 : decode cX10_fault 43 = .ok (.ireturn, 1) := by decide +kernel
theorem dX10_fault_44 : decode cX10_fault 44 = .ok (.iconst (-1), 1) := by decide +kernel
theorem dX10_fault_45 : decode cX10_fault 45 = .ok (.ireturn, 1) := by decide +kernel
theorem dX10_feed_0 : decode cX10_feed 0 = .ok (.aload_n 0, 1) := by decide +kernel
theorem dX10_feed_1 : decode cX10_feed 1 = .ok (.getfield 12, 3) := by decide +kernel
theorem dX10_feed_10 : decode cX10_feed 10 = .ok (.sipush 600, 3) := by decide +kernel
theorem dX10_feed_13 : decode cX10_feed 13 = .ok (.if_icmp .le 5, 3) := by decide +kernel
theorem dX10_feed_18 : decode cX10_feed 18 = .ok (.aload_n 0, 1) := by decide +kernel
theorem dX10_feed_19 : decode cX10_feed 19 = .ok (.getfield 12, 3) := by decide +kernel
theorem dX10_feed_22 : decode cX10_feed 22 = .ok (.iload_n 1, 1) := by decide +kernel
theorem dX10_feed_23 : decode cX10_feed 23 = .ok (.invokevirtual 71, 3) := by decide +kernel
theorem dX10_feed_26 : decode cX10_feed 26 = .ok (.aload_n 0, 1) := by decide +kernel
theorem dX10_feed_27 : decode cX10_feed 27 = .ok (.getfield 12, 3) := by decide +kernel
theorem dX10_feed_30 : decode cX10_feed 30 = .ok (.iload_n 2, 1) := by decide +kernel
theorem dX10_feed_31 : decode cX10_feed 31 = .ok (.invokevirtual 71, 3) := by decide +kernel
theorem dX10_feed_34 : decode cX10_feed 34 = .ok (.aload_n 0, 1) := by decide +kernel
theorem dX10_feed_35 : decode cX10_feed 35 = .ok (.getfield 12, 3) := by decide +kernel
theorem dX10_feed_38 : decode cX10_feed 38 = .ok (.iload_n 3, 1) := by decide +kernel
theorem dX10_feed_39 : decode cX10_feed 39 = .ok (.invokevirtual 71, 3) := by decide +kernel
theorem dX10_feed_4 : decode cX10_feed 4 = .ok (.getfield 67, 3) := by decide +kernel
theorem dX10_feed_42 : decode cX10_feed 42 = .ok (.aload_n 0, 1) := by decide +kernel
theorem dX10_feed_43 : decode cX10_feed 43 = .ok (.getfield 12, 3) := by decide +kernel
theorem dX10_feed_46 : decode cX10_feed 46 = .ok (.iload 4, 2) := by decide +kernel
theorem dX10_feed_48 : decode cX10_feed 48 = .ok (.invokevirtual 71, 3) := by decide +kernel
theorem dX10_feed_51 : decode cX10_feed 51 = .ok (.aload_n 0, 1) := by decide +kernel
theorem dX10_feed_52 : decode cX10_feed 52 = .ok (.getfield 12, 3) := by decide +kernel
theorem dX10_feed_55 : decode cX10_feed 55 = .ok (.iload 5, 2) := by decide +kernel
theorem dX10_feed_57 : decode cX10_feed 57 = .ok (.invokevirtual 71, 3) := by decide +kernel
theorem dX10_feed_60 : decode cX10_feed 60 = .ok (.aload_n 0, 1) := by decide +kernel
theorem dX10_feed_61 : decode cX10_feed 61 = .ok (.getfield 12, 3) := by decide +kernel
theorem dX10_feed_64 : decode cX10_feed 64 = .ok (.getfield 67, 3) := by decide +kernel
theorem dX10_feed_67 : decode cX10_feed 67 = .ok (.ireturn, 1) := by decide +kernel
theorem dX10_feed_7 : decode cX10_feed 7 = .ok (.bipush 20, 2) := by decide +kernel
theorem dX10_feed_9 : decode cX10_feed 9 = .ok (.iadd, 1) := by decide +kernel
theorem dX10_forgetAll_0 : decode cX10_forgetAll 0 = .ok (.aload_n 0, 1) := by decide +kernel
theorem dX10_forgetAll_1 : decode cX10_forgetAll 1 = .ok (.getfield 47, 3) := by decide +kernel
theorem dX10_forgetAll_12 : decode cX10_forgetAll 12 = .ok (.invokevirtual 259, 3) := by decide +kernel
theorem dX10_forgetAll_15 : decode cX10_forgetAll 15 = .ok (.aload_n 0, 1) := by decide +kernel
theorem dX10_forgetAll_16 : decode cX10_forgetAll 16 = .ok (.getfield 63, 3) := by decide +kernel
theorem dX10_forgetAll_19 : decode cX10_forgetAll 19 = .ok (.iconst 0, 1) := by decide +kernel
theorem dX10_forgetAll_20 : decode cX10_forgetAll 20 = .ok (.putfield 232, 3) := by decide +kernel
theorem dX10_forgetAll_23 : decode cX10_forgetAll 23 = .ok (.return_, 1) := by decide +kernel
theorem dX10_forgetAll_4 : decode cX10_forgetAll 4 = .ok (.iconst 0, 1) := by decide +kernel
theorem dX10_forgetAll_5 : decode cX10_forgetAll 5 = .ok (.putfield 175, 3) := by decide +kernel
theorem dX10_forgetAll_8 : decode cX10_forgetAll 8 = .ok (.aload_n 0, 1) := by decide +kernel
theorem dX10_forgetAll_9 : decode cX10_forgetAll 9 = .ok (.getfield 56, 3) := by decide +kernel
theorem dX10_init_0 : decode cX10_init 0 = .ok (.aload_n 0, 1) := by decide +kernel
theorem dX10_init_1 : decode cX10_init 1 = .ok (.invokespecial 3, 3) := by decide +kernel
theorem dX10_init_100 : decode cX10_init 100 = .ok (.getfield 31, 3) := by decide +kernel
theorem dX10_init_103 : decode cX10_init 103 = .ok (.aload_n 0, 1) := by decide +kernel
theorem dX10_init_104 : decode cX10_init 104 = .ok (.getfield 47, 3) := by decide +kernel
theorem dX10_init_107 : decode cX10_init 107 = .ok (.invokespecial 53, 3) := by decide +kernel
theorem dX10_init_110 : decode cX10_init 110 = .ok (.putfield 56, 3) := by decide +kernel
theorem dX10_init_113 : decode cX10_init 113 = .ok (.aload_n 0, 1) := by decide +kernel
theorem dX10_init_114 : decode cX10_init 114 = .ok (.new 60, 3) := by decide +kernel
theorem dX10_init_117 : decode cX10_init 117 = .ok (.dup, 1) := by decide +kernel
theorem dX10_init_118 : decode cX10_init 118 = .ok (.invokespecial 62, 3) := by decide +kernel
theorem dX10_init_12 : decode cX10_init 12 = .ok (.putfield 12, 3) := by decide +kernel
theorem dX10_init_121 : decode cX10_init 121 = .ok (.putfield 63, 3) := by decide +kernel
theorem dX10_init_124 : decode cX10_init 124 = .ok (.return_, 1) := by decide +kernel
theorem dX10_init_15 : decode cX10_init 15 = .ok (.aload_n 0, 1) := by decide +kernel
theorem dX10_init_16 : decode cX10_init 16 = .ok (.new 16, 3) := by decide +kernel
theorem dX10_init_19 : decode cX10_init 19 = .ok (.dup, 1) := by decide +kernel
theorem dX10_init_20 : decode cX10_init 20 = .ok (.invokespecial 18, 3) := by decide +kernel
theorem dX10_init_23 : decode cX10_init 23 = .ok (.putfield 19, 3) := by decide +kernel
theorem dX10_init_26 : decode cX10_init 26 = .ok (.aload_n 0, 1) := by decide +kernel
theorem dX10_init_27 : decode cX10_init 27 = .ok (.new 16, 3) := by decide +kernel
theorem dX10_init_30 : decode cX10_init 30 = .ok (.dup, 1) := by decide +kernel
theorem dX10_init_31 : decode cX10_init 31 = .ok (.invokespecial 18, 3) := by decide +kernel
theorem dX10_init_34 : decode cX10_init 34 = .ok (.putfield 23, 3) := by decide +kernel
theorem dX10_init_37 : decode cX10_init 37 = .ok (.aload_n 0, 1) := by decide +kernel
theorem dX10_init_38 : decode cX10_init 38 = .ok (.new 26, 3) := by decide +kernel
theorem dX10_init_4 : decode cX10_init 4 = .ok (.aload_n 0, 1) := by decide +kernel
theorem dX10_init_41 : decode cX10_init 41 = .ok (.dup, 1) := by decide +kernel
theorem dX10_init_42 : decode cX10_init 42 = .ok (.aload_n 0, 1) := by decide +kernel
theorem dX10_init_43 : decode cX10_init 43 = .ok (.getfield 19, 3) := by decide +kernel
theorem dX10_init_46 : decode cX10_init 46 = .ok (.invokespecial 28, 3) := by decide +kernel
theorem dX10_init_49 : decode cX10_init 49 = .ok (.putfield 31, 3) := by decide +kernel
theorem dX10_init_5 : decode cX10_init 5 = .ok (.new 9, 3) := by decide +kernel
theorem dX10_init_52 : decode cX10_init 52 = .ok (.aload_n 0, 1) := by decide +kernel
theorem dX10_init_53 : decode cX10_init 53 = .ok (.new 35, 3) := by decide +kernel
theorem dX10_init_56 : decode cX10_init 56 = .ok (.dup, 1) := by decide +kernel
theorem dX10_init_57 : decode cX10_init 57 = .ok (.aload_n 0, 1) := by decide +kernel
theorem dX10_init_58 : decode cX10_init 58 = .ok (.getfield 19, 3) := by decide +kernel
theorem dX10_init_61 : decode cX10_init 61 = .ok (.aload_n 0, 1) := by decide +kernel
theorem dX10_init_62 : decode cX10_init 62 = .ok (.getfield 31, 3) := by decide +kernel
theorem dX10_init_65 : decode cX10_init 65 = .ok (.invokespecial 37, 3) := by decide +kernel
theorem dX10_init_68 : decode cX10_init 68 = .ok (.putfield 40, 3) := by decide +kernel
theorem dX10_init_71 : decode cX10_init 71 = .ok (.aload_n 0, 1) := by decide +kernel
theorem dX10_init_72 : decode cX10_init 72 = .ok (.new 44, 3) := by decide +kernel
theorem dX10_init_75 : decode cX10_init 75 = .ok (.dup, 1) := by decide +kernel
theorem dX10_init_76 : decode cX10_init 76 = .ok (.aload_n 0, 1) := by decide +kernel
theorem dX10_init_77 : decode cX10_init 77 = .ok (.getfield 19, 3) := by decide +kernel
theorem dX10_init_8 : decode cX10_init 8 = .ok (.dup, 1) := by decide +kernel
theorem dX10_init_80 : decode cX10_init 80 = .ok (.aload_n 0, 1) := by decide +kernel
theorem dX10_init_81 : decode cX10_init 81 = .ok (.getfield 31, 3) := by decide +kernel
theorem dX10_init_84 : decode cX10_init 84 = .ok (.invokespecial 46, 3) := by decide +kernel
theorem dX10_init_87 : decode cX10_init 87 = .ok (.putfield 47, 3) := by decide +kernel
theorem dX10_init_9 : decode cX10_init 9 = .ok (.invokespecial 11, 3) := by decide +kernel
theorem dX10_init_90 : decode cX10_init 90 = .ok (.aload_n 0, 1) := by decide +kernel
theorem dX10_init_91 : decode cX10_init 91 = .ok (.new 51, 3) := by decide +kernel
theorem dX10_init_94 : decode cX10_init 94 = .ok (.dup, 1) := by decide +kernel
theorem dX10_init_95 : decode cX10_init 95 = .ok (.aload_n 0, 1) := by decide +kernel
theorem dX10_init_96 : decode cX10_init 96 = .ok (.getfield 19, 3) := by decide +kernel
theorem dX10_init_99 : decode cX10_init 99 = .ok (.aload_n 0, 1) := by decide +kernel
theorem dX10_instance_0 : decode cX10_instance 0 = .ok (.aload_n 0, 1) := by decide +kernel
theorem dX10_instance_1 : decode cX10_instance 1 = .ok (.getfield 47, 3) := by decide +kernel
theorem dX10_instance_10 : decode cX10_instance 10 = .ok (.iconst (-1), 1) := by decide +kernel
theorem dX10_instance_11 : decode cX10_instance 11 = .ok (.ireturn, 1) := by decide +kernel
theorem dX10_instance_4 : decode cX10_instance 4 = .ok (.getfield 175, 3) := by decide +kernel
theorem dX10_instance_7 : decode cX10_instance 7 = .ok (.ifCond .ne 5, 3) := by decide +kernel
theorem dX10_isInstance_0 : decode cX10_isInstance 0 = .ok (.aload_n 0, 1) := by decide +kernel
theorem dX10_isInstance_1 : decode cX10_isInstance 1 = .ok (.getfield 47, 3) := by decide +kernel
theorem dX10_isInstance_29 : decode cX10_isInstance 29 = .ok (.iconst 0, 1) := by decide +kernel
theorem dX10_isInstance_30 : decode cX10_isInstance 30 = .ok (.ireturn, 1) := by decide +kernel
theorem dX10_isInstance_4 : decode cX10_isInstance 4 = .ok (.getfield 175, 3) := by decide +kernel
theorem dX10_isInstance_7 : decode cX10_isInstance 7 = .ok (.ifCond .eq 22, 3) := by decide +kernel
theorem dX10_look_0 : decode cX10_look 0 = .ok (.iload_n 1, 1) := by decide +kernel
theorem dX10_look_1 : decode cX10_look 1 = .ok (.tableswitch 134 0 8 #[51, 59, 67, 75, 83, 99, 108, 117, 126], 51) := by decide +kernel
theorem dX10_look_100 : decode cX10_look 100 = .ok (.aload_n 0, 1) := by decide +kernel
theorem dX10_look_101 : decode cX10_look 101 = .ok (.getfield 47, 3) := by decide +kernel
theorem dX10_look_104 : decode cX10_look 104 = .ok (.iconst 1, 1) := by decide +kernel
theorem dX10_look_105 : decode cX10_look 105 = .ok (.invokevirtual 253, 3) := by decide +kernel
theorem dX10_look_108 : decode cX10_look 108 = .ok (.ireturn, 1) := by decide +kernel
theorem dX10_look_109 : decode cX10_look 109 = .ok (.aload_n 0, 1) := by decide +kernel
theorem dX10_look_110 : decode cX10_look 110 = .ok (.getfield 47, 3) := by decide +kernel
theorem dX10_look_113 : decode cX10_look 113 = .ok (.iconst 2, 1) := by decide +kernel
theorem dX10_look_114 : decode cX10_look 114 = .ok (.invokevirtual 253, 3) := by decide +kernel
theorem dX10_look_117 : decode cX10_look 117 = .ok (.ireturn, 1) := by decide +kernel
theorem dX10_look_118 : decode cX10_look 118 = .ok (.aload_n 0, 1) := by decide +kernel
theorem dX10_look_119 : decode cX10_look 119 = .ok (.getfield 47, 3) := by decide +kernel
theorem dX10_look_122 : decode cX10_look 122 = .ok (.iconst 3, 1) := by decide +kernel
theorem dX10_look_123 : decode cX10_look 123 = .ok (.invokevirtual 253, 3) := by decide +kernel
theorem dX10_look_126 : decode cX10_look 126 = .ok (.ireturn, 1) := by decide +kernel
theorem dX10_look_127 : decode cX10_look 127 = .ok (.aload_n 0, 1) := by decide +kernel
theorem dX10_look_128 : decode cX10_look 128 = .ok (.getfield 63, 3) := by decide +kernel
theorem dX10_look_131 : decode cX10_look 131 = .ok (.getfield 256, 3) := by decide +kernel
theorem dX10_look_134 : decode cX10_look 134 = .ok (.ireturn, 1) := by decide +kernel
theorem dX10_look_135 : decode cX10_look 135 = .ok (.iconst (-1), 1) := by decide +kernel
theorem dX10_look_136 : decode cX10_look 136 = .ok (.ireturn, 1) := by decide +kernel
theorem dX10_look_52 : decode cX10_look 52 = .ok (.aload_n 0, 1) := by decide +kernel
theorem dX10_look_53 : decode cX10_look 53 = .ok (.getfield 19, 3) := by decide +kernel
theorem dX10_look_56 : decode cX10_look 56 = .ok (.getfield 84, 3) := by decide +kernel
theorem dX10_look_59 : decode cX10_look 59 = .ok (.ireturn, 1) := by decide +kernel
theorem dX10_look_60 : decode cX10_look 60 = .ok (.aload_n 0, 1) := by decide +kernel
theorem dX10_look_61 : decode cX10_look 61 = .ok (.getfield 19, 3) := by decide +kernel
theorem dX10_look_64 : decode cX10_look 64 = .ok (.invokevirtual 247, 3) := by decide +kernel
theorem dX10_look_67 : decode cX10_look 67 = .ok (.ireturn, 1) := by decide +kernel
theorem dX10_look_68 : decode cX10_look 68 = .ok (.aload_n 0, 1) := by decide +kernel
theorem dX10_look_69 : decode cX10_look 69 = .ok (.getfield 19, 3) := by decide +kernel
theorem dX10_look_72 : decode cX10_look 72 = .ok (.invokevirtual 250, 3) := by decide +kernel
theorem dX10_look_75 : decode cX10_look 75 = .ok (.ireturn, 1) := by decide +kernel
theorem dX10_look_76 : decode cX10_look 76 = .ok (.aload_n 0, 1) := by decide +kernel
theorem dX10_look_77 : decode cX10_look 77 = .ok (.getfield 12, 3) := by decide +kernel
theorem dX10_look_80 : decode cX10_look 80 = .ok (.getfield 67, 3) := by decide +kernel
theorem dX10_look_83 : decode cX10_look 83 = .ok (.ireturn, 1) := by decide +kernel
theorem dX10_look_84 : decode cX10_look 84 = .ok (.aload_n 0, 1) := by decide +kernel
theorem dX10_look_85 : decode cX10_look 85 = .ok (.getfield 47, 3) := by decide +kernel
theorem dX10_look_88 : decode cX10_look 88 = .ok (.getfield 175, 3) := by decide +kernel
theorem dX10_look_91 : decode cX10_look 91 = .ok (.ifCond .eq 7, 3) := by decide +kernel
theorem dX10_look_98 : decode cX10_look 98 = .ok (.iconst 0, 1) := by decide +kernel
theorem dX10_look_99 : decode cX10_look 99 = .ok (.ireturn, 1) := by decide +kernel
theorem dX10_meets_0 : decode cX10_meets 0 = .ok (.aload_n 0, 1) := by decide +kernel
theorem dX10_meets_1 : decode cX10_meets 1 = .ok (.getfield 19, 3) := by decide +kernel
theorem dX10_meets_25 : decode cX10_meets 25 = .ok (.iconst (-1), 1) := by decide +kernel
theorem dX10_meets_26 : decode cX10_meets 26 = .ok (.ireturn, 1) := by decide +kernel
theorem dX10_meets_4 : decode cX10_meets 4 = .ok (.iload_n 1, 1) := by decide +kernel
theorem dX10_meets_5 : decode cX10_meets 5 = .ok (.iload_n 2, 1) := by decide +kernel
theorem dX10_meets_6 : decode cX10_meets 6 = .ok (.invokevirtual 111, 3) := by decide +kernel
theorem dX10_meets_9 : decode cX10_meets 9 = .ok (.ifCond .eq 16, 3) := by decide +kernel
theorem dX10_needed_0 : decode cX10_needed 0 = .ok (.aload_n 0, 1) := by decide +kernel
theorem dX10_needed_1 : decode cX10_needed 1 = .ok (.getfield 47, 3) := by decide +kernel
theorem dX10_needed_10 : decode cX10_needed 10 = .ok (.iconst 0, 1) := by decide +kernel
theorem dX10_needed_11 : decode cX10_needed 11 = .ok (.ireturn, 1) := by decide +kernel
theorem dX10_needed_4 : decode cX10_needed 4 = .ok (.getfield 175, 3) := by decide +kernel
theorem dX10_needed_7 : decode cX10_needed 7 = .ok (.ifCond .ne 5, 3) := by decide +kernel
theorem dX10_open_0 : decode cX10_open 0 = .ok (.aload_n 0, 1) := by decide +kernel
theorem dX10_open_1 : decode cX10_open 1 = .ok (.iload_n 1, 1) := by decide +kernel
theorem dX10_open_2 : decode cX10_open 2 = .ok (.invokevirtual 220, 3) := by decide +kernel
theorem dX10_open_32 : decode cX10_open 32 = .ok (.iconst (-1), 1) := by decide +kernel
theorem dX10_open_33 : decode cX10_open 33 = .ok (.ireturn, 1) := by decide +kernel
theorem dX10_open_5 : decode cX10_open 5 = .ok (.ifCond .eq 27, 3) := by decide +kernel
theorem dX10_out_0 : decode cX10_out 0 = .ok (.iload_n 1, 1) := by decide +kernel
theorem dX10_out_1 : decode cX10_out 1 = .ok (.ifCond .lt 14, 3) := by decide +kernel
theorem dX10_out_12 : decode cX10_out 12 = .ok (.if_icmp .lt 5, 3) := by decide +kernel
theorem dX10_out_15 : decode cX10_out 15 = .ok (.iconst (-1), 1) := by decide +kernel
theorem dX10_out_16 : decode cX10_out 16 = .ok (.ireturn, 1) := by decide +kernel
theorem dX10_out_4 : decode cX10_out 4 = .ok (.iload_n 1, 1) := by decide +kernel
theorem dX10_out_5 : decode cX10_out 5 = .ok (.aload_n 0, 1) := by decide +kernel
theorem dX10_out_6 : decode cX10_out 6 = .ok (.getfield 40, 3) := by decide +kernel
theorem dX10_out_9 : decode cX10_out 9 = .ok (.getfield 132, 3) := by decide +kernel
theorem dX10_partners_0 : decode cX10_partners 0 = .ok (.aload_n 0, 1) := by decide +kernel
theorem dX10_partners_1 : decode cX10_partners 1 = .ok (.getfield 19, 3) := by decide +kernel
theorem dX10_partners_12 : decode cX10_partners 12 = .ok (.iconst (-1), 1) := by decide +kernel
theorem dX10_partners_13 : decode cX10_partners 13 = .ok (.ireturn, 1) := by decide +kernel
theorem dX10_partners_4 : decode cX10_partners 4 = .ok (.iload_n 1, 1) := by decide +kernel
theorem dX10_partners_5 : decode cX10_partners 5 = .ok (.iload_n 2, 1) := by decide +kernel
theorem dX10_partners_6 : decode cX10_partners 6 = .ok (.invokevirtual 111, 3) := by decide +kernel
theorem dX10_partners_9 : decode cX10_partners 9 = .ok (.ifCond .ne 5, 3) := by decide +kernel
theorem dX10_pure_0 : decode cX10_pure 0 = .ok (.aload_n 0, 1) := by decide +kernel
theorem dX10_pure_1 : decode cX10_pure 1 = .ok (.getfield 19, 3) := by decide +kernel
theorem dX10_pure_10 : decode cX10_pure 10 = .ok (.iload_n 2, 1) := by decide +kernel
theorem dX10_pure_11 : decode cX10_pure 11 = .ok (.bipush 16, 2) := by decide +kernel
theorem dX10_pure_13 : decode cX10_pure 13 = .ok (.if_icmp .ge 72, 3) := by decide +kernel
theorem dX10_pure_16 : decode cX10_pure 16 = .ok (.iconst 0, 1) := by decide +kernel
theorem dX10_pure_17 : decode cX10_pure 17 = .ok (.istore_n 3, 1) := by decide +kernel
theorem dX10_pure_18 : decode cX10_pure 18 = .ok (.iconst 0, 1) := by decide +kernel
theorem dX10_pure_19 : decode cX10_pure 19 = .ok (.istore 4, 2) := by decide +kernel
theorem dX10_pure_21 : decode cX10_pure 21 = .ok (.iload 4, 2) := by decide +kernel
theorem dX10_pure_23 : decode cX10_pure 23 = .ok (.aload_n 0, 1) := by decide +kernel
theorem dX10_pure_24 : decode cX10_pure 24 = .ok (.getfield 19, 3) := by decide +kernel
theorem dX10_pure_27 : decode cX10_pure 27 = .ok (.getfield 84, 3) := by decide +kernel
theorem dX10_pure_30 : decode cX10_pure 30 = .ok (.if_icmp .ge 36, 3) := by decide +kernel
theorem dX10_pure_4 : decode cX10_pure 4 = .ok (.invokevirtual 140, 3) := by decide +kernel
theorem dX10_pure_66 : decode cX10_pure 66 = .ok (.iload_n 3, 1) := by decide +kernel
theorem dX10_pure_67 : decode cX10_pure 67 = .ok (.ifCond .ne 6, 3) := by decide +kernel
theorem dX10_pure_7 : decode cX10_pure 7 = .ok (.istore_n 1, 1) := by decide +kernel
theorem dX10_pure_70 : decode cX10_pure 70 = .ok (.goto 15, 3) := by decide +kernel
theorem dX10_pure_8 : decode cX10_pure 8 = .ok (.iconst 0, 1) := by decide +kernel
theorem dX10_pure_85 : decode cX10_pure 85 = .ok (.aload_n 0, 1) := by decide +kernel
theorem dX10_pure_86 : decode cX10_pure 86 = .ok (.getfield 19, 3) := by decide +kernel
theorem dX10_pure_89 : decode cX10_pure 89 = .ok (.invokevirtual 140, 3) := by decide +kernel
theorem dX10_pure_9 : decode cX10_pure 9 = .ok (.istore_n 2, 1) := by decide +kernel
theorem dX10_pure_92 : decode cX10_pure 92 = .ok (.iload_n 1, 1) := by decide +kernel
theorem dX10_pure_93 : decode cX10_pure 93 = .ok (.iconst (-1), 1) := by decide +kernel
theorem dX10_pure_94 : decode cX10_pure 94 = .ok (.ixor, 1) := by decide +kernel
theorem dX10_pure_95 : decode cX10_pure 95 = .ok (.iand, 1) := by decide +kernel
theorem dX10_pure_96 : decode cX10_pure 96 = .ok (.ireturn, 1) := by decide +kernel
theorem dX10_show_0 : decode cX10_show 0 = .ok (.aload_n 0, 1) := by decide +kernel
theorem dX10_show_1 : decode cX10_show 1 = .ok (.getfield 19, 3) := by decide +kernel
theorem dX10_show_12 : decode cX10_show 12 = .ok (.iconst (-1), 1) := by decide +kernel
theorem dX10_show_13 : decode cX10_show 13 = .ok (.ireturn, 1) := by decide +kernel
theorem dX10_show_4 : decode cX10_show 4 = .ok (.iload_n 1, 1) := by decide +kernel
theorem dX10_show_5 : decode cX10_show 5 = .ok (.iload_n 2, 1) := by decide +kernel
theorem dX10_show_6 : decode cX10_show 6 = .ok (.invokevirtual 111, 3) := by decide +kernel
theorem dX10_show_9 : decode cX10_show 9 = .ok (.ifCond .ne 5, 3) := by decide +kernel
theorem dX10_shown_0 : decode cX10_shown 0 = .ok (.aload_n 0, 1) := by decide +kernel
theorem dX10_shown_1 : decode cX10_shown 1 = .ok (.iload_n 1, 1) := by decide +kernel
theorem dX10_shown_2 : decode cX10_shown 2 = .ok (.invokevirtual 220, 3) := by decide +kernel
theorem dX10_shown_5 : decode cX10_shown 5 = .ok (.ifCond .ne 5, 3) := by decide +kernel
theorem dX10_shown_8 : decode cX10_shown 8 = .ok (.iconst (-1), 1) := by decide +kernel
theorem dX10_shown_9 : decode cX10_shown 9 = .ok (.ireturn, 1) := by decide +kernel
theorem dX10_solve_0 : decode cX10_solve 0 = .ok (.aload_n 0, 1) := by decide +kernel
theorem dX10_solve_1 : decode cX10_solve 1 = .ok (.getfield 19, 3) := by decide +kernel
theorem dX10_solve_19 : decode cX10_solve 19 = .ok (.iconst (-1), 1) := by decide +kernel
theorem dX10_solve_20 : decode cX10_solve 20 = .ok (.ireturn, 1) := by decide +kernel
theorem dX10_solve_4 : decode cX10_solve 4 = .ok (.iload_n 1, 1) := by decide +kernel
theorem dX10_solve_5 : decode cX10_solve 5 = .ok (.invokevirtual 90, 3) := by decide +kernel
theorem dX10_solve_8 : decode cX10_solve 8 = .ok (.ifCond .eq 11, 3) := by decide +kernel
theorem dX10_step_0 : decode cX10_step 0 = .ok (.aload_n 0, 1) := by decide +kernel
theorem dX10_step_1 : decode cX10_step 1 = .ok (.getfield 47, 3) := by decide +kernel
theorem dX10_step_10 : decode cX10_step 10 = .ok (.iconst (-1), 1) := by decide +kernel
theorem dX10_step_11 : decode cX10_step 11 = .ok (.ireturn, 1) := by decide +kernel
theorem dX10_step_4 : decode cX10_step 4 = .ok (.getfield 175, 3) := by decide +kernel
theorem dX10_step_7 : decode cX10_step 7 = .ok (.ifCond .ne 5, 3) := by decide +kernel
theorem dX10_tried_0 : decode cX10_tried 0 = .ok (.iload_n 1, 1) := by decide +kernel
theorem dX10_tried_1 : decode cX10_tried 1 = .ok (.tableswitch 63 0 3 #[31, 39, 47, 55], 31) := by decide +kernel
theorem dX10_tried_32 : decode cX10_tried 32 = .ok (.aload_n 0, 1) := by decide +kernel
theorem dX10_tried_33 : decode cX10_tried 33 = .ok (.getfield 47, 3) := by decide +kernel
theorem dX10_tried_36 : decode cX10_tried 36 = .ok (.getfield 163, 3) := by decide +kernel
theorem dX10_tried_39 : decode cX10_tried 39 = .ok (.ireturn, 1) := by decide +kernel
theorem dX10_tried_40 : decode cX10_tried 40 = .ok (.aload_n 0, 1) := by decide +kernel
theorem dX10_tried_41 : decode cX10_tried 41 = .ok (.getfield 47, 3) := by decide +kernel
theorem dX10_tried_44 : decode cX10_tried 44 = .ok (.getfield 166, 3) := by decide +kernel
theorem dX10_tried_47 : decode cX10_tried 47 = .ok (.ireturn, 1) := by decide +kernel
theorem dX10_tried_48 : decode cX10_tried 48 = .ok (.aload_n 0, 1) := by decide +kernel
theorem dX10_tried_49 : decode cX10_tried 49 = .ok (.getfield 47, 3) := by decide +kernel
theorem dX10_tried_52 : decode cX10_tried 52 = .ok (.getfield 169, 3) := by decide +kernel
theorem dX10_tried_55 : decode cX10_tried 55 = .ok (.ireturn, 1) := by decide +kernel
theorem dX10_tried_56 : decode cX10_tried 56 = .ok (.aload_n 0, 1) := by decide +kernel
theorem dX10_tried_57 : decode cX10_tried 57 = .ok (.getfield 47, 3) := by decide +kernel
theorem dX10_tried_60 : decode cX10_tried 60 = .ok (.getfield 172, 3) := by decide +kernel
theorem dX10_tried_63 : decode cX10_tried 63 = .ok (.ireturn, 1) := by decide +kernel
theorem dX10_tried_64 : decode cX10_tried 64 = .ok (.iconst (-1), 1) := by decide +kernel
theorem dX10_tried_65 : decode cX10_tried 65 = .ok (.ireturn, 1) := by decide +kernel
theorem dX11_answer_0 : decode cX11_answer 0 = .ok (.aload_n 0, 1) := by decide +kernel
theorem dX11_answer_1 : decode cX11_answer 1 = .ok (.iconst 0, 1) := by decide +kernel
theorem dX11_answer_10 : decode cX11_answer 10 = .ok (.aload_n 0, 1) := by decide +kernel
theorem dX11_answer_11 : decode cX11_answer 11 = .ok (.getfield 413, 3) := by decide +kernel
theorem dX11_answer_14 : decode cX11_answer 14 = .ok (.ireturn, 1) := by decide +kernel
theorem dX11_answer_15 : decode cX11_answer 15 = .ok (.aload_n 0, 1) := by decide +kernel
theorem dX11_answer_16 : decode cX11_answer 16 = .ok (.iload_n 1, 1) := by decide +kernel
theorem dX11_answer_17 : decode cX11_answer 17 = .ok (.i2l, 1) := by decide +kernel
theorem dX11_answer_18 : decode cX11_answer 18 = .ok (.lconst 0, 1) := by decide +kernel
theorem dX11_answer_19 : decode cX11_answer 19 = .ok (.aload_n 0, 1) := by decide +kernel
theorem dX11_answer_2 : decode cX11_answer 2 = .ok (.putfield 1, 3) := by decide +kernel
theorem dX11_answer_20 : decode cX11_answer 20 = .ok (.getfield 413, 3) := by decide +kernel
theorem dX11_answer_23 : decode cX11_answer 23 = .ok (.i2l, 1) := by decide +kernel
theorem dX11_answer_24 : decode cX11_answer 24 = .ok (.lconst 1, 1) := by decide +kernel
theorem dX11_answer_25 : decode cX11_answer 25 = .ok (.lsub, 1) := by decide +kernel
theorem dX11_answer_26 : decode cX11_answer 26 = .ok (.invokevirtual 49, 3) := by decide +kernel
theorem dX11_answer_29 : decode cX11_answer 29 = .ok (.ifCond .eq 29, 3) := by decide +kernel
theorem dX11_answer_5 : decode cX11_answer 5 = .ok (.iload_n 1, 1) := by decide +kernel
theorem dX11_answer_58 : decode cX11_answer 58 = .ok (.iconst (-1), 1) := by decide +kernel
theorem dX11_answer_59 : decode cX11_answer 59 = .ok (.ireturn, 1) := by decide +kernel
theorem dX11_answer_6 : decode cX11_answer 6 = .ok (.iconst (-1), 1) := by decide +kernel
theorem dX11_answer_7 : decode cX11_answer 7 = .ok (.if_icmp .ne 8, 3) := by decide +kernel
theorem dX11_any_0 : decode cX11_any 0 = .ok (.aload_n 0, 1) := by decide +kernel
theorem dX11_any_1 : decode cX11_any 1 = .ok (.iconst 0, 1) := by decide +kernel
theorem dX11_any_11 : decode cX11_any 11 = .ok (.ifCond .ne 6, 3) := by decide +kernel
theorem dX11_any_14 : decode cX11_any 14 = .ok (.bipush (-3), 2) := by decide +kernel
theorem dX11_any_16 : decode cX11_any 16 = .ok (.ireturn, 1) := by decide +kernel
theorem dX11_any_17 : decode cX11_any 17 = .ok (.aload_n 0, 1) := by decide +kernel
theorem dX11_any_18 : decode cX11_any 18 = .ok (.invokevirtual 423, 3) := by decide +kernel
theorem dX11_any_2 : decode cX11_any 2 = .ok (.putfield 1, 3) := by decide +kernel
theorem dX11_any_21 : decode cX11_any 21 = .ok (.iconst 0, 1) := by decide +kernel
theorem dX11_any_22 : decode cX11_any 22 = .ok (.istore_n 3, 1) := by decide +kernel
theorem dX11_any_23 : decode cX11_any 23 = .ok (.iload_n 3, 1) := by decide +kernel
theorem dX11_any_24 : decode cX11_any 24 = .ok (.aload_n 0, 1) := by decide +kernel
theorem dX11_any_25 : decode cX11_any 25 = .ok (.getfield 164, 3) := by decide +kernel
theorem dX11_any_28 : decode cX11_any 28 = .ok (.if_icmp .ge 52, 3) := by decide +kernel
theorem dX11_any_5 : decode cX11_any 5 = .ok (.aload_n 0, 1) := by decide +kernel
theorem dX11_any_6 : decode cX11_any 6 = .ok (.iload_n 1, 1) := by decide +kernel
theorem dX11_any_7 : decode cX11_any 7 = .ok (.iload_n 2, 1) := by decide +kernel
theorem dX11_any_8 : decode cX11_any 8 = .ok (.invokevirtual 420, 3) := by decide +kernel
theorem dX11_any_80 : decode cX11_any 80 = .ok (.iconst (-1), 1) := by decide +kernel
theorem dX11_any_81 : decode cX11_any 81 = .ok (.ireturn, 1) := by decide +kernel
theorem dX11_begins_0 : decode cX11_begins 0 = .ok (.aload_n 0, 1) := by decide +kernel
theorem dX11_begins_1 : decode cX11_begins 1 = .ok (.iconst 0, 1) := by decide +kernel
theorem dX11_begins_10 : decode cX11_begins 10 = .ok (.aload_n 0, 1) := by decide +kernel
theorem dX11_begins_11 : decode cX11_begins 11 = .ok (.iconst 0, 1) := by decide +kernel
theorem dX11_begins_12 : decode cX11_begins 12 = .ok (.putfield 345, 3) := by decide +kernel
theorem dX11_begins_15 : decode cX11_begins 15 = .ok (.aload_n 0, 1) := by decide +kernel
theorem dX11_begins_16 : decode cX11_begins 16 = .ok (.iconst 0, 1) := by decide +kernel
theorem dX11_begins_17 : decode cX11_begins 17 = .ok (.putfield 357, 3) := by decide +kernel
theorem dX11_begins_2 : decode cX11_begins 2 = .ok (.putfield 373, 3) := by decide +kernel
theorem dX11_begins_20 : decode cX11_begins 20 = .ok (.aload_n 0, 1) := by decide +kernel
theorem dX11_begins_21 : decode cX11_begins 21 = .ok (.iconst 0, 1) := by decide +kernel
theorem dX11_begins_22 : decode cX11_begins 22 = .ok (.putfield 407, 3) := by decide +kernel
theorem dX11_begins_25 : decode cX11_begins 25 = .ok (.aload_n 0, 1) := by decide +kernel
theorem dX11_begins_26 : decode cX11_begins 26 = .ok (.iconst 0, 1) := by decide +kernel
theorem dX11_begins_27 : decode cX11_begins 27 = .ok (.putfield 410, 3) := by decide +kernel
theorem dX11_begins_30 : decode cX11_begins 30 = .ok (.return_, 1) := by decide +kernel
theorem dX11_begins_5 : decode cX11_begins 5 = .ok (.aload_n 0, 1) := by decide +kernel
theorem dX11_begins_6 : decode cX11_begins 6 = .ok (.iconst 0, 1) := by decide +kernel
theorem dX11_begins_7 : decode cX11_begins 7 = .ok (.putfield 389, 3) := by decide +kernel
theorem dX11_canAsk_0 : decode cX11_canAsk 0 = .ok (.aload_n 0, 1) := by decide +kernel
theorem dX11_canAsk_1 : decode cX11_canAsk 1 = .ok (.iload_n 1, 1) := by decide +kernel
theorem dX11_canAsk_10 : decode cX11_canAsk 10 = .ok (.ifCond .eq 20, 3) := by decide +kernel
theorem dX11_canAsk_13 : decode cX11_canAsk 13 = .ok (.aload_n 0, 1) := by decide +kernel
theorem dX11_canAsk_14 : decode cX11_canAsk 14 = .ok (.iload_n 2, 1) := by decide +kernel
theorem dX11_canAsk_15 : decode cX11_canAsk 15 = .ok (.i2l, 1) := by decide +kernel
theorem dX11_canAsk_16 : decode cX11_canAsk 16 = .ok (.lconst 0, 1) := by decide +kernel
theorem dX11_canAsk_17 : decode cX11_canAsk 17 = .ok (.ldc2_w 418, 3) := by decide +kernel
theorem dX11_canAsk_2 : decode cX11_canAsk 2 = .ok (.i2l, 1) := by decide +kernel
theorem dX11_canAsk_20 : decode cX11_canAsk 20 = .ok (.invokevirtual 49, 3) := by decide +kernel
theorem dX11_canAsk_23 : decode cX11_canAsk 23 = .ok (.ifCond .eq 7, 3) := by decide +kernel
theorem dX11_canAsk_26 : decode cX11_canAsk 26 = .ok (.iconst 1, 1) := by decide +kernel
theorem dX11_canAsk_27 : decode cX11_canAsk 27 = .ok (.goto 4, 3) := by decide +kernel
theorem dX11_canAsk_3 : decode cX11_canAsk 3 = .ok (.lconst 0, 1) := by decide +kernel
theorem dX11_canAsk_30 : decode cX11_canAsk 30 = .ok (.iconst 0, 1) := by decide +kernel
theorem dX11_canAsk_31 : decode cX11_canAsk 31 = .ok (.ireturn, 1) := by decide +kernel
theorem dX11_canAsk_4 : decode cX11_canAsk 4 = .ok (.ldc2_w 416, 3) := by decide +kernel
theorem dX11_canAsk_7 : decode cX11_canAsk 7 = .ok (.invokevirtual 49, 3) := by decide +kernel
theorem dX11_clause_0 : decode cX11_clause 0 = .ok (.aload_n 0, 1) := by decide +kernel
theorem dX11_clause_1 : decode cX11_clause 1 = .ok (.iconst 0, 1) := by decide +kernel
theorem dX11_clause_10 : decode cX11_clause 10 = .ok (.ifCond .ne 5, 3) := by decide +kernel
theorem dX11_clause_13 : decode cX11_clause 13 = .ok (.iconst (-1), 1) := by decide +kernel
theorem dX11_clause_14 : decode cX11_clause 14 = .ok (.ireturn, 1) := by decide +kernel
theorem dX11_clause_2 : decode cX11_clause 2 = .ok (.putfield 1, 3) := by decide +kernel
theorem dX11_clause_5 : decode cX11_clause 5 = .ok (.aload_n 0, 1) := by decide +kernel
theorem dX11_clause_6 : decode cX11_clause 6 = .ok (.iload_n 1, 1) := by decide +kernel
theorem dX11_clause_7 : decode cX11_clause 7 = .ok (.invokevirtual 174, 3) := by decide +kernel
theorem dX11_clauses_0 : decode cX11_clauses 0 = .ok (.aload_n 0, 1) := by decide +kernel
theorem dX11_clauses_1 : decode cX11_clauses 1 = .ok (.iconst 0, 1) := by decide +kernel
theorem dX11_clauses_10 : decode cX11_clauses 10 = .ok (.aload_n 0, 1) := by decide +kernel
theorem dX11_clauses_101 : decode cX11_clauses 101 = .ok (.iconst 0, 1) := by decide +kernel
theorem dX11_clauses_102 : decode cX11_clauses 102 = .ok (.istore_n 2, 1) := by decide +kernel
theorem dX11_clauses_103 : decode cX11_clauses 103 = .ok (.iload_n 2, 1) := by decide +kernel
theorem dX11_clauses_104 : decode cX11_clauses 104 = .ok (.aload_n 0, 1) := by decide +kernel
theorem dX11_clauses_105 : decode cX11_clauses 105 = .ok (.getfield 164, 3) := by decide +kernel
theorem dX11_clauses_108 : decode cX11_clauses 108 = .ok (.if_icmp .ge 18, 3) := by decide +kernel
theorem dX11_clauses_11 : decode cX11_clauses 11 = .ok (.iconst 0, 1) := by decide +kernel
theorem dX11_clauses_12 : decode cX11_clauses 12 = .ok (.putfield 65, 3) := by decide +kernel
theorem dX11_clauses_126 : decode cX11_clauses 126 = .ok (.aload_n 0, 1) := by decide +kernel
theorem dX11_clauses_127 : decode cX11_clauses 127 = .ok (.invokevirtual 171, 3) := by decide +kernel
theorem dX11_clauses_130 : decode cX11_clauses 130 = .ok (.aload_n 0, 1) := by decide +kernel
theorem dX11_clauses_131 : decode cX11_clauses 131 = .ok (.getfield 164, 3) := by decide +kernel
theorem dX11_clauses_134 : decode cX11_clauses 134 = .ok (.ireturn, 1) := by decide +kernel
theorem dX11_clauses_15 : decode cX11_clauses 15 = .ok (.aload_n 0, 1) := by decide +kernel
theorem dX11_clauses_16 : decode cX11_clauses 16 = .ok (.iconst (-1), 1) := by decide +kernel
theorem dX11_clauses_17 : decode cX11_clauses 17 = .ok (.putfield 71, 3) := by decide +kernel
theorem dX11_clauses_2 : decode cX11_clauses 2 = .ok (.putfield 1, 3) := by decide +kernel
theorem dX11_clauses_20 : decode cX11_clauses 20 = .ok (.aload_n 0, 1) := by decide +kernel
theorem dX11_clauses_21 : decode cX11_clauses 21 = .ok (.iconst 0, 1) := by decide +kernel
theorem dX11_clauses_22 : decode cX11_clauses 22 = .ok (.putfield 74, 3) := by decide +kernel
theorem dX11_clauses_25 : decode cX11_clauses 25 = .ok (.aload_n 0, 1) := by decide +kernel
theorem dX11_clauses_26 : decode cX11_clauses 26 = .ok (.iconst 0, 1) := by decide +kernel
theorem dX11_clauses_27 : decode cX11_clauses 27 = .ok (.putfield 130, 3) := by decide +kernel
theorem dX11_clauses_30 : decode cX11_clauses 30 = .ok (.aload_n 0, 1) := by decide +kernel
theorem dX11_clauses_31 : decode cX11_clauses 31 = .ok (.bipush 16, 2) := by decide +kernel
theorem dX11_clauses_33 : decode cX11_clauses 33 = .ok (.putfield 105, 3) := by decide +kernel
theorem dX11_clauses_36 : decode cX11_clauses 36 = .ok (.aload_n 0, 1) := by decide +kernel
theorem dX11_clauses_37 : decode cX11_clauses 37 = .ok (.getfield 20, 3) := by decide +kernel
theorem dX11_clauses_40 : decode cX11_clauses 40 = .ok (.istore_n 1, 1) := by decide +kernel
theorem dX11_clauses_41 : decode cX11_clauses 41 = .ok (.aload_n 0, 1) := by decide +kernel
theorem dX11_clauses_42 : decode cX11_clauses 42 = .ok (.invokevirtual 98, 3) := by decide +kernel
theorem dX11_clauses_45 : decode cX11_clauses 45 = .ok (.aload_n 0, 1) := by decide +kernel
theorem dX11_clauses_46 : decode cX11_clauses 46 = .ok (.getfield 61, 3) := by decide +kernel
theorem dX11_clauses_49 : decode cX11_clauses 49 = .ok (.ifCond .ne 17, 3) := by decide +kernel
theorem dX11_clauses_5 : decode cX11_clauses 5 = .ok (.aload_n 0, 1) := by decide +kernel
theorem dX11_clauses_52 : decode cX11_clauses 52 = .ok (.aload_n 0, 1) := by decide +kernel
theorem dX11_clauses_53 : decode cX11_clauses 53 = .ok (.getfield 87, 3) := by decide +kernel
theorem dX11_clauses_56 : decode cX11_clauses 56 = .ok (.ifCond .eq 10, 3) := by decide +kernel
theorem dX11_clauses_6 : decode cX11_clauses 6 = .ok (.iconst 0, 1) := by decide +kernel
theorem dX11_clauses_66 : decode cX11_clauses 66 = .ok (.aload_n 0, 1) := by decide +kernel
theorem dX11_clauses_67 : decode cX11_clauses 67 = .ok (.iconst 0, 1) := by decide +kernel
theorem dX11_clauses_68 : decode cX11_clauses 68 = .ok (.putfield 38, 3) := by decide +kernel
theorem dX11_clauses_7 : decode cX11_clauses 7 = .ok (.putfield 61, 3) := by decide +kernel
theorem dX11_clauses_71 : decode cX11_clauses 71 = .ok (.aload_n 0, 1) := by decide +kernel
theorem dX11_clauses_72 : decode cX11_clauses 72 = .ok (.getfield 61, 3) := by decide +kernel
theorem dX11_clauses_75 : decode cX11_clauses 75 = .ok (.ifCond .eq 10, 3) := by decide +kernel
theorem dX11_clauses_85 : decode cX11_clauses 85 = .ok (.aload_n 0, 1) := by decide +kernel
theorem dX11_clauses_86 : decode cX11_clauses 86 = .ok (.iload_n 1, 1) := by decide +kernel
theorem dX11_clauses_87 : decode cX11_clauses 87 = .ok (.invokevirtual 161, 3) := by decide +kernel
theorem dX11_clauses_90 : decode cX11_clauses 90 = .ok (.aload_n 0, 1) := by decide +kernel
theorem dX11_clauses_91 : decode cX11_clauses 91 = .ok (.aload_n 0, 1) := by decide +kernel
theorem dX11_clauses_92 : decode cX11_clauses 92 = .ok (.getfield 105, 3) := by decide +kernel
theorem dX11_clauses_95 : decode cX11_clauses 95 = .ok (.bipush 16, 2) := by decide +kernel
theorem dX11_clauses_97 : decode cX11_clauses 97 = .ok (.isub, 1) := by decide +kernel
theorem dX11_clauses_98 : decode cX11_clauses 98 = .ok (.putfield 164, 3) := by decide +kernel
theorem dX11_clearsBindings_0 : decode cX11_clearsBindings 0 = .ok (.iconst 0, 1) := by decide +kernel
theorem dX11_clearsBindings_1 : decode cX11_clearsBindings 1 = .ok (.istore_n 1, 1) := by decide +kernel
theorem dX11_clearsBindings_10 : decode cX11_clearsBindings 10 = .ok (.getfield 195, 3) := by decide +kernel
theorem dX11_clearsBindings_13 : decode cX11_clearsBindings 13 = .ok (.iload_n 1, 1) := by decide +kernel
theorem dX11_clearsBindings_14 : decode cX11_clearsBindings 14 = .ok (.iconst (-1), 1) := by decide +kernel
theorem dX11_clearsBindings_15 : decode cX11_clearsBindings 15 = .ok (.iastore, 1) := by decide +kernel
theorem dX11_clearsBindings_16 : decode cX11_clearsBindings 16 = .ok (.iinc 1 1, 3) := by decide +kernel
theorem dX11_clearsBindings_19 : decode cX11_clearsBindings 19 = .ok (.goto (-17), 3) := by decide +kernel
theorem dX11_clearsBindings_2 : decode cX11_clearsBindings 2 = .ok (.iload_n 1, 1) := by decide +kernel
theorem dX11_clearsBindings_22 : decode cX11_clearsBindings 22 = .ok (.aload_n 0, 1) := by decide +kernel
theorem dX11_clearsBindings_23 : decode cX11_clearsBindings 23 = .ok (.iconst 0, 1) := by decide +kernel
theorem dX11_clearsBindings_24 : decode cX11_clearsBindings 24 = .ok (.putfield 261, 3) := by decide +kernel
theorem dX11_clearsBindings_27 : decode cX11_clearsBindings 27 = .ok (.return_, 1) := by decide +kernel
theorem dX11_clearsBindings_3 : decode cX11_clearsBindings 3 = .ok (.sipush 256, 3) := by decide +kernel
theorem dX11_clearsBindings_6 : decode cX11_clearsBindings 6 = .ok (.if_icmp .ge 16, 3) := by decide +kernel
theorem dX11_clearsBindings_9 : decode cX11_clearsBindings 9 = .ok (.aload_n 0, 1) := by decide +kernel
theorem dX11_closed_0 : decode cX11_closed 0 = .ok (.aload_n 0, 1) := by decide +kernel
theorem dX11_closed_1 : decode cX11_closed 1 = .ok (.iconst 0, 1) := by decide +kernel
theorem dX11_closed_2 : decode cX11_closed 2 = .ok (.putfield 1, 3) := by decide +kernel
theorem dX11_closed_25 : decode cX11_closed 25 = .ok (.iconst (-1), 1) := by decide +kernel
theorem dX11_closed_26 : decode cX11_closed 26 = .ok (.ireturn, 1) := by decide +kernel
theorem dX11_closed_5 : decode cX11_closed 5 = .ok (.aload_n 0, 1) := by decide +kernel
theorem dX11_closed_6 : decode cX11_closed 6 = .ok (.getfield 410, 3) := by decide +kernel
theorem dX11_closed_9 : decode cX11_closed 9 = .ok (.ifCond .eq 16, 3) := by decide +kernel
theorem dX11_deepen_0 : decode cX11_deepen 0 = .ok (.aload_n 0, 1) := by decide +kernel
theorem dX11_deepen_1 : decode cX11_deepen 1 = .ok (.iconst 0, 1) := by decide +kernel
theorem dX11_deepen_10 : decode cX11_deepen 10 = .ok (.ifCond .eq 12, 3) := by decide +kernel
theorem dX11_deepen_2 : decode cX11_deepen 2 = .ok (.putfield 1, 3) := by decide +kernel
theorem dX11_deepen_22 : decode cX11_deepen 22 = .ok (.bipush (-3), 2) := by decide +kernel
theorem dX11_deepen_24 : decode cX11_deepen 24 = .ok (.ireturn, 1) := by decide +kernel
theorem dX11_deepen_5 : decode cX11_deepen 5 = .ok (.aload_n 0, 1) := by decide +kernel
theorem dX11_deepen_6 : decode cX11_deepen 6 = .ok (.iload_n 1, 1) := by decide +kernel
theorem dX11_deepen_7 : decode cX11_deepen 7 = .ok (.invokevirtual 174, 3) := by decide +kernel
theorem dX11_drop_0 : decode cX11_drop 0 = .ok (.aload_n 0, 1) := by decide +kernel
theorem dX11_drop_1 : decode cX11_drop 1 = .ok (.iconst 0, 1) := by decide +kernel
theorem dX11_drop_10 : decode cX11_drop 10 = .ok (.ifCond .ne 5, 3) := by decide +kernel
theorem dX11_drop_13 : decode cX11_drop 13 = .ok (.iconst 0, 1) := by decide +kernel
theorem dX11_drop_14 : decode cX11_drop 14 = .ok (.ireturn, 1) := by decide +kernel
theorem dX11_drop_2 : decode cX11_drop 2 = .ok (.putfield 1, 3) := by decide +kernel
theorem dX11_drop_5 : decode cX11_drop 5 = .ok (.aload_n 0, 1) := by decide +kernel
theorem dX11_drop_6 : decode cX11_drop 6 = .ok (.iload_n 1, 1) := by decide +kernel
theorem dX11_drop_7 : decode cX11_drop 7 = .ok (.invokevirtual 174, 3) := by decide +kernel
theorem dX11_end_0 : decode cX11_end 0 = .ok (.aload_n 0, 1) := by decide +kernel
theorem dX11_end_1 : decode cX11_end 1 = .ok (.iconst 0, 1) := by decide +kernel
theorem dX11_end_10 : decode cX11_end 10 = .ok (.getfield 38, 3) := by decide +kernel
theorem dX11_end_13 : decode cX11_end 13 = .ok (.i2l, 1) := by decide +kernel
theorem dX11_end_14 : decode cX11_end 14 = .ok (.invokevirtual 49, 3) := by decide +kernel
theorem dX11_end_17 : decode cX11_end 17 = .ok (.ifCond .ne 5, 3) := by decide +kernel
theorem dX11_end_2 : decode cX11_end 2 = .ok (.putfield 1, 3) := by decide +kernel
theorem dX11_end_20 : decode cX11_end 20 = .ok (.iconst 0, 1) := by decide +kernel
theorem dX11_end_21 : decode cX11_end 21 = .ok (.ireturn, 1) := by decide +kernel
theorem dX11_end_22 : decode cX11_end 22 = .ok (.aload_n 0, 1) := by decide +kernel
theorem dX11_end_23 : decode cX11_end 23 = .ok (.iload_n 1, 1) := by decide +kernel
theorem dX11_end_24 : decode cX11_end 24 = .ok (.putfield 38, 3) := by decide +kernel
theorem dX11_end_27 : decode cX11_end 27 = .ok (.iconst 1, 1) := by decide +kernel
theorem dX11_end_28 : decode cX11_end 28 = .ok (.ireturn, 1) := by decide +kernel
theorem dX11_end_5 : decode cX11_end 5 = .ok (.aload_n 0, 1) := by decide +kernel
theorem dX11_end_6 : decode cX11_end 6 = .ok (.iload_n 1, 1) := by decide +kernel
theorem dX11_end_7 : decode cX11_end 7 = .ok (.i2l, 1) := by decide +kernel
theorem dX11_end_8 : decode cX11_end 8 = .ok (.lconst 0, 1) := by decide +kernel
theorem dX11_end_9 : decode cX11_end 9 = .ok (.aload_n 0, 1) := by decide +kernel
theorem dX11_fault_0 : decode cX11_fault 0 = .ok (.aload_n 0, 1) := by decide +kernel
theorem dX11_fault_1 : decode cX11_fault 1 = .ok (.iconst 0, 1) := by decide +kernel
theorem dX11_fault_10 : decode cX11_fault 10 = .ok (.getfield 65, 3) := by decide +kernel
theorem dX11_fault_13 : decode cX11_fault 13 = .ok (.goto 16, 3) := by decide +kernel
theorem dX11_fault_16 : decode cX11_fault 16 = .ok (.iload_n 1, 1) := by decide +kernel
theorem dX11_fault_17 : decode cX11_fault 17 = .ok (.iconst 1, 1) := by decide +kernel
theorem dX11_fault_18 : decode cX11_fault 18 = .ok (.if_icmp .ne 10, 3) := by decide +kernel
theorem dX11_fault_2 : decode cX11_fault 2 = .ok (.putfield 1, 3) := by decide +kernel
theorem dX11_fault_21 : decode cX11_fault 21 = .ok (.aload_n 0, 1) := by decide +kernel
theorem dX11_fault_22 : decode cX11_fault 22 = .ok (.getfield 71, 3) := by decide +kernel
theorem dX11_fault_25 : decode cX11_fault 25 = .ok (.goto 4, 3) := by decide +kernel
theorem dX11_fault_28 : decode cX11_fault 28 = .ok (.iconst (-1), 1) := by decide +kernel
theorem dX11_fault_29 : decode cX11_fault 29 = .ok (.ireturn, 1) := by decide +kernel
theorem dX11_fault_5 : decode cX11_fault 5 = .ok (.iload_n 1, 1) := by decide +kernel
theorem dX11_fault_6 : decode cX11_fault 6 = .ok (.ifCond .ne 10, 3) := by decide +kernel
theorem dX11_fault_9 : decode cX11_fault 9 = .ok (.aload_n 0, 1) := by decide +kernel
theorem dX11_feed_0 : decode cX11_feed 0 = .ok (.aload_n 0, 1) := by decide +kernel
theorem dX11_feed_1 : decode cX11_feed 1 = .ok (.iconst 0, 1) := by decide +kernel
theorem dX11_feed_100 : decode cX11_feed 100 = .ok (.bastore, 1) := by decide +kernel
theorem dX11_feed_101 : decode cX11_feed 101 = .ok (.aload_n 0, 1) := by decide +kernel
theorem dX11_feed_102 : decode cX11_feed 102 = .ok (.aload_n 0, 1) := by decide +kernel
theorem dX11_feed_103 : decode cX11_feed 103 = .ok (.getfield 38, 3) := by decide +kernel
theorem dX11_feed_106 : decode cX11_feed 106 = .ok (.iconst 1, 1) := by decide +kernel
theorem dX11_feed_107 : decode cX11_feed 107 = .ok (.iadd, 1) := by decide +kernel
theorem dX11_feed_108 : decode cX11_feed 108 = .ok (.putfield 38, 3) := by decide +kernel
theorem dX11_feed_11 : decode cX11_feed 11 = .ok (.iadd, 1) := by decide +kernel
theorem dX11_feed_111 : decode cX11_feed 111 = .ok (.iinc 6 1, 3) := by decide +kernel
theorem dX11_feed_114 : decode cX11_feed 114 = .ok (.goto (-91), 3) := by decide +kernel
theorem dX11_feed_117 : decode cX11_feed 117 = .ok (.aload_n 0, 1) := by decide +kernel
theorem dX11_feed_118 : decode cX11_feed 118 = .ok (.getfield 38, 3) := by decide +kernel
theorem dX11_feed_12 : decode cX11_feed 12 = .ok (.sipush 600, 3) := by decide +kernel
theorem dX11_feed_121 : decode cX11_feed 121 = .ok (.ireturn, 1) := by decide +kernel
theorem dX11_feed_15 : decode cX11_feed 15 = .ok (.if_icmp .le 5, 3) := by decide +kernel
theorem dX11_feed_2 : decode cX11_feed 2 = .ok (.putfield 1, 3) := by decide +kernel
theorem dX11_feed_20 : decode cX11_feed 20 = .ok (.iconst 0, 1) := by decide +kernel
theorem dX11_feed_21 : decode cX11_feed 21 = .ok (.istore 6, 2) := by decide +kernel
theorem dX11_feed_23 : decode cX11_feed 23 = .ok (.iload 6, 2) := by decide +kernel
theorem dX11_feed_25 : decode cX11_feed 25 = .ok (.bipush 20, 2) := by decide +kernel
theorem dX11_feed_27 : decode cX11_feed 27 = .ok (.if_icmp .ge 90, 3) := by decide +kernel
theorem dX11_feed_30 : decode cX11_feed 30 = .ok (.iload 6, 2) := by decide +kernel
theorem dX11_feed_32 : decode cX11_feed 32 = .ok (.iconst 4, 1) := by decide +kernel
theorem dX11_feed_33 : decode cX11_feed 33 = .ok (.if_icmp .ge 7, 3) := by decide +kernel
theorem dX11_feed_36 : decode cX11_feed 36 = .ok (.iload_n 1, 1) := by decide +kernel
theorem dX11_feed_37 : decode cX11_feed 37 = .ok (.goto 39, 3) := by decide +kernel
theorem dX11_feed_40 : decode cX11_feed 40 = .ok (.iload 6, 2) := by decide +kernel
theorem dX11_feed_42 : decode cX11_feed 42 = .ok (.bipush 8, 2) := by decide +kernel
theorem dX11_feed_44 : decode cX11_feed 44 = .ok (.if_icmp .ge 7, 3) := by decide +kernel
theorem dX11_feed_47 : decode cX11_feed 47 = .ok (.iload_n 2, 1) := by decide +kernel
theorem dX11_feed_48 : decode cX11_feed 48 = .ok (.goto 28, 3) := by decide +kernel
theorem dX11_feed_5 : decode cX11_feed 5 = .ok (.aload_n 0, 1) := by decide +kernel
theorem dX11_feed_51 : decode cX11_feed 51 = .ok (.iload 6, 2) := by decide +kernel
theorem dX11_feed_53 : decode cX11_feed 53 = .ok (.bipush 12, 2) := by decide +kernel
theorem dX11_feed_55 : decode cX11_feed 55 = .ok (.if_icmp .ge 7, 3) := by decide +kernel
theorem dX11_feed_58 : decode cX11_feed 58 = .ok (.iload_n 3, 1) := by decide +kernel
theorem dX11_feed_59 : decode cX11_feed 59 = .ok (.goto 17, 3) := by decide +kernel
theorem dX11_feed_6 : decode cX11_feed 6 = .ok (.getfield 38, 3) := by decide +kernel
theorem dX11_feed_62 : decode cX11_feed 62 = .ok (.iload 6, 2) := by decide +kernel
theorem dX11_feed_64 : decode cX11_feed 64 = .ok (.bipush 16, 2) := by decide +kernel
theorem dX11_feed_66 : decode cX11_feed 66 = .ok (.if_icmp .ge 8, 3) := by decide +kernel
theorem dX11_feed_69 : decode cX11_feed 69 = .ok (.iload 4, 2) := by decide +kernel
theorem dX11_feed_71 : decode cX11_feed 71 = .ok (.goto 5, 3) := by decide +kernel
theorem dX11_feed_74 : decode cX11_feed 74 = .ok (.iload 5, 2) := by decide +kernel
theorem dX11_feed_76 : decode cX11_feed 76 = .ok (.istore 7, 2) := by decide +kernel
theorem dX11_feed_78 : decode cX11_feed 78 = .ok (.aload_n 0, 1) := by decide +kernel
theorem dX11_feed_79 : decode cX11_feed 79 = .ok (.getfield 41, 3) := by decide +kernel
theorem dX11_feed_82 : decode cX11_feed 82 = .ok (.aload_n 0, 1) := by decide +kernel
theorem dX11_feed_83 : decode cX11_feed 83 = .ok (.getfield 38, 3) := by decide +kernel
theorem dX11_feed_86 : decode cX11_feed 86 = .ok (.iload 7, 2) := by decide +kernel
theorem dX11_feed_88 : decode cX11_feed 88 = .ok (.bipush 24, 2) := by decide +kernel
theorem dX11_feed_9 : decode cX11_feed 9 = .ok (.bipush 20, 2) := by decide +kernel
theorem dX11_feed_90 : decode cX11_feed 90 = .ok (.bipush 8, 2) := by decide +kernel
theorem dX11_feed_92 : decode cX11_feed 92 = .ok (.iload 6, 2) := by decide +kernel
theorem dX11_feed_94 : decode cX11_feed 94 = .ok (.iconst 4, 1) := by decide +kernel
theorem dX11_feed_95 : decode cX11_feed 95 = .ok (.irem, 1) := by decide +kernel
theorem dX11_feed_96 : decode cX11_feed 96 = .ok (.imul, 1) := by decide +kernel
theorem dX11_feed_97 : decode cX11_feed 97 = .ok (.isub, 1) := by decide +kernel
theorem dX11_feed_98 : decode cX11_feed 98 = .ok (.ishr, 1) := by decide +kernel
theorem dX11_feed_99 : decode cX11_feed 99 = .ok (.i2b, 1) := by decide +kernel
theorem dX11_forgets_0 : decode cX11_forgets 0 = .ok (.aload_n 0, 1) := by decide +kernel
theorem dX11_forgets_1 : decode cX11_forgets 1 = .ok (.iconst 0, 1) := by decide +kernel
theorem dX11_forgets_10 : decode cX11_forgets 10 = .ok (.return_, 1) := by decide +kernel
theorem dX11_forgets_2 : decode cX11_forgets 2 = .ok (.putfield 410, 3) := by decide +kernel
theorem dX11_forgets_5 : decode cX11_forgets 5 = .ok (.aload_n 0, 1) := by decide +kernel
theorem dX11_forgets_6 : decode cX11_forgets 6 = .ok (.iconst 0, 1) := by decide +kernel
theorem dX11_forgets_7 : decode cX11_forgets 7 = .ok (.putfield 413, 3) := by decide +kernel
theorem dX11_init_0 : decode cX11_init 0 = .ok (.aload_n 0, 1) := by decide +kernel
theorem dX11_init_1 : decode cX11_init 1 = .ok (.invokespecial 187, 3) := by decide +kernel
theorem dX11_init_10 : decode cX11_init 10 = .ok (.putfield 17, 3) := by decide +kernel
theorem dX11_init_101 : decode cX11_init 101 = .ok (.aload_n 0, 1) := by decide +kernel
theorem dX11_init_102 : decode cX11_init 102 = .ok (.iconst (-1), 1) := by decide +kernel
theorem dX11_init_103 : decode cX11_init 103 = .ok (.putfield 71, 3) := by decide +kernel
theorem dX11_init_106 : decode cX11_init 106 = .ok (.aload_n 0, 1) := by decide +kernel
theorem dX11_init_107 : decode cX11_init 107 = .ok (.sipush 8000, 3) := by decide +kernel
theorem dX11_init_110 : decode cX11_init 110 = .ok (.newarray .int, 2) := by decide +kernel
theorem dX11_init_112 : decode cX11_init 112 = .ok (.putfield 192, 3) := by decide +kernel
theorem dX11_init_115 : decode cX11_init 115 = .ok (.aload_n 0, 1) := by decide +kernel
theorem dX11_init_116 : decode cX11_init 116 = .ok (.sipush 256, 3) := by decide +kernel
theorem dX11_init_119 : decode cX11_init 119 = .ok (.newarray .int, 2) := by decide +kernel
theorem dX11_init_121 : decode cX11_init 121 = .ok (.putfield 195, 3) := by decide +kernel
theorem dX11_init_124 : decode cX11_init 124 = .ok (.aload_n 0, 1) := by decide +kernel
theorem dX11_init_125 : decode cX11_init 125 = .ok (.sipush 256, 3) := by decide +kernel
theorem dX11_init_128 : decode cX11_init 128 = .ok (.newarray .int, 2) := by decide +kernel
theorem dX11_init_13 : decode cX11_init 13 = .ok (.aload_n 0, 1) := by decide +kernel
theorem dX11_init_130 : decode cX11_init 130 = .ok (.putfield 198, 3) := by decide +kernel
theorem dX11_init_133 : decode cX11_init 133 = .ok (.aload_n 0, 1) := by decide +kernel
theorem dX11_init_134 : decode cX11_init 134 = .ok (.sipush 256, 3) := by decide +kernel
theorem dX11_init_137 : decode cX11_init 137 = .ok (.newarray .int, 2) := by decide +kernel
theorem dX11_init_139 : decode cX11_init 139 = .ok (.putfield 201, 3) := by decide +kernel
theorem dX11_init_14 : decode cX11_init 14 = .ok (.sipush 8000, 3) := by decide +kernel
theorem dX11_init_142 : decode cX11_init 142 = .ok (.aload_n 0, 1) := by decide +kernel
theorem dX11_init_143 : decode cX11_init 143 = .ok (.bipush 31, 2) := by decide +kernel
theorem dX11_init_145 : decode cX11_init 145 = .ok (.newarray .int, 2) := by decide +kernel
theorem dX11_init_147 : decode cX11_init 147 = .ok (.putfield 204, 3) := by decide +kernel
theorem dX11_init_150 : decode cX11_init 150 = .ok (.aload_n 0, 1) := by decide +kernel
theorem dX11_init_151 : decode cX11_init 151 = .ok (.sipush 4000, 3) := by decide +kernel
theorem dX11_init_154 : decode cX11_init 154 = .ok (.newarray .int, 2) := by decide +kernel
theorem dX11_init_156 : decode cX11_init 156 = .ok (.putfield 207, 3) := by decide +kernel
theorem dX11_init_159 : decode cX11_init 159 = .ok (.aload_n 0, 1) := by decide +kernel
theorem dX11_init_160 : decode cX11_init 160 = .ok (.sipush 4000, 3) := by decide +kernel
theorem dX11_init_163 : decode cX11_init 163 = .ok (.newarray .int, 2) := by decide +kernel
theorem dX11_init_165 : decode cX11_init 165 = .ok (.putfield 210, 3) := by decide +kernel
theorem dX11_init_168 : decode cX11_init 168 = .ok (.aload_n 0, 1) := by decide +kernel
theorem dX11_init_169 : decode cX11_init 169 = .ok (.sipush 4000, 3) := by decide +kernel
theorem dX11_init_17 : decode cX11_init 17 = .ok (.newarray .long, 2) := by decide +kernel
theorem dX11_init_172 : decode cX11_init 172 = .ok (.newarray .int, 2) := by decide +kernel
theorem dX11_init_174 : decode cX11_init 174 = .ok (.putfield 213, 3) := by decide +kernel
theorem dX11_init_177 : decode cX11_init 177 = .ok (.aload_n 0, 1) := by decide +kernel
theorem dX11_init_178 : decode cX11_init 178 = .ok (.sipush 4000, 3) := by decide +kernel
theorem dX11_init_181 : decode cX11_init 181 = .ok (.newarray .int, 2) := by decide +kernel
theorem dX11_init_183 : decode cX11_init 183 = .ok (.putfield 216, 3) := by decide +kernel
theorem dX11_init_186 : decode cX11_init 186 = .ok (.aload_n 0, 1) := by decide +kernel
theorem dX11_init_187 : decode cX11_init 187 = .ok (.sipush 4000, 3) := by decide +kernel
theorem dX11_init_19 : decode cX11_init 19 = .ok (.putfield 23, 3) := by decide +kernel
theorem dX11_init_190 : decode cX11_init 190 = .ok (.newarray .int, 2) := by decide +kernel
theorem dX11_init_192 : decode cX11_init 192 = .ok (.putfield 219, 3) := by decide +kernel
theorem dX11_init_195 : decode cX11_init 195 = .ok (.aload_n 0, 1) := by decide +kernel
theorem dX11_init_196 : decode cX11_init 196 = .ok (.sipush 4000, 3) := by decide +kernel
theorem dX11_init_199 : decode cX11_init 199 = .ok (.newarray .int, 2) := by decide +kernel
theorem dX11_init_201 : decode cX11_init 201 = .ok (.putfield 222, 3) := by decide +kernel
theorem dX11_init_204 : decode cX11_init 204 = .ok (.aload_n 0, 1) := by decide +kernel
theorem dX11_init_205 : decode cX11_init 205 = .ok (.sipush 4000, 3) := by decide +kernel
theorem dX11_init_208 : decode cX11_init 208 = .ok (.newarray .int, 2) := by decide +kernel
theorem dX11_init_210 : decode cX11_init 210 = .ok (.putfield 225, 3) := by decide +kernel
theorem dX11_init_213 : decode cX11_init 213 = .ok (.aload_n 0, 1) := by decide +kernel
theorem dX11_init_214 : decode cX11_init 214 = .ok (.sipush 4000, 3) := by decide +kernel
theorem dX11_init_217 : decode cX11_init 217 = .ok (.newarray .int, 2) := by decide +kernel
theorem dX11_init_219 : decode cX11_init 219 = .ok (.putfield 228, 3) := by decide +kernel
theorem dX11_init_22 : decode cX11_init 22 = .ok (.aload_n 0, 1) := by decide +kernel
theorem dX11_init_222 : decode cX11_init 222 = .ok (.aload_n 0, 1) := by decide +kernel
theorem dX11_init_223 : decode cX11_init 223 = .ok (.sipush 4000, 3) := by decide +kernel
theorem dX11_init_226 : decode cX11_init 226 = .ok (.newarray .int, 2) := by decide +kernel
theorem dX11_init_228 : decode cX11_init 228 = .ok (.putfield 231, 3) := by decide +kernel
theorem dX11_init_23 : decode cX11_init 23 = .ok (.sipush 8000, 3) := by decide +kernel
theorem dX11_init_231 : decode cX11_init 231 = .ok (.aload_n 0, 1) := by decide +kernel
theorem dX11_init_232 : decode cX11_init 232 = .ok (.sipush 4000, 3) := by decide +kernel
theorem dX11_init_235 : decode cX11_init 235 = .ok (.newarray .boolean, 2) := by decide +kernel
theorem dX11_init_237 : decode cX11_init 237 = .ok (.putfield 234, 3) := by decide +kernel
theorem dX11_init_240 : decode cX11_init 240 = .ok (.aload_n 0, 1) := by decide +kernel
theorem dX11_init_241 : decode cX11_init 241 = .ok (.sipush 6000, 3) := by decide +kernel
theorem dX11_init_244 : decode cX11_init 244 = .ok (.newarray .int, 2) := by decide +kernel
theorem dX11_init_246 : decode cX11_init 246 = .ok (.putfield 237, 3) := by decide +kernel
theorem dX11_init_249 : decode cX11_init 249 = .ok (.aload_n 0, 1) := by decide +kernel
theorem dX11_init_250 : decode cX11_init 250 = .ok (.bipush 36, 2) := by decide +kernel
theorem dX11_init_252 : decode cX11_init 252 = .ok (.newarray .int, 2) := by decide +kernel
theorem dX11_init_254 : decode cX11_init 254 = .ok (.putfield 240, 3) := by decide +kernel
theorem dX11_init_257 : decode cX11_init 257 = .ok (.aload_n 0, 1) := by decide +kernel
theorem dX11_init_258 : decode cX11_init 258 = .ok (.sipush 1000, 3) := by decide +kernel
theorem dX11_init_26 : decode cX11_init 26 = .ok (.newarray .int, 2) := by decide +kernel
theorem dX11_init_261 : decode cX11_init 261 = .ok (.newarray .int, 2) := by decide +kernel
theorem dX11_init_263 : decode cX11_init 263 = .ok (.putfield 243, 3) := by decide +kernel
theorem dX11_init_266 : decode cX11_init 266 = .ok (.aload_n 0, 1) := by decide +kernel
theorem dX11_init_267 : decode cX11_init 267 = .ok (.sipush 1000, 3) := by decide +kernel
theorem dX11_init_270 : decode cX11_init 270 = .ok (.newarray .int, 2) := by decide +kernel
theorem dX11_init_272 : decode cX11_init 272 = .ok (.putfield 246, 3) := by decide +kernel
theorem dX11_init_275 : decode cX11_init 275 = .ok (.aload_n 0, 1) := by decide +kernel
theorem dX11_init_276 : decode cX11_init 276 = .ok (.sipush 180, 3) := by decide +kernel
theorem dX11_init_279 : decode cX11_init 279 = .ok (.newarray .boolean, 2) := by decide +kernel
theorem dX11_init_28 : decode cX11_init 28 = .ok (.putfield 7, 3) := by decide +kernel
theorem dX11_init_281 : decode cX11_init 281 = .ok (.putfield 249, 3) := by decide +kernel
theorem dX11_init_284 : decode cX11_init 284 = .ok (.aload_n 0, 1) := by decide +kernel
theorem dX11_init_285 : decode cX11_init 285 = .ok (.sipush 32400, 3) := by decide +kernel
theorem dX11_init_288 : decode cX11_init 288 = .ok (.newarray .boolean, 2) := by decide +kernel
theorem dX11_init_290 : decode cX11_init 290 = .ok (.putfield 252, 3) := by decide +kernel
theorem dX11_init_293 : decode cX11_init 293 = .ok (.aload_n 0, 1) := by decide +kernel
theorem dX11_init_294 : decode cX11_init 294 = .ok (.bipush 30, 2) := by decide +kernel
theorem dX11_init_296 : decode cX11_init 296 = .ok (.newarray .int, 2) := by decide +kernel
theorem dX11_init_298 : decode cX11_init 298 = .ok (.putfield 255, 3) := by decide +kernel
theorem dX11_init_301 : decode cX11_init 301 = .ok (.aload_n 0, 1) := by decide +kernel
theorem dX11_init_302 : decode cX11_init 302 = .ok (.invokevirtual 258, 3) := by decide +kernel
theorem dX11_init_305 : decode cX11_init 305 = .ok (.return_, 1) := by decide +kernel
theorem dX11_init_31 : decode cX11_init 31 = .ok (.aload_n 0, 1) := by decide +kernel
theorem dX11_init_32 : decode cX11_init 32 = .ok (.sipush 8000, 3) := by decide +kernel
theorem dX11_init_35 : decode cX11_init 35 = .ok (.newarray .int, 2) := by decide +kernel
theorem dX11_init_37 : decode cX11_init 37 = .ok (.putfield 11, 3) := by decide +kernel
theorem dX11_init_4 : decode cX11_init 4 = .ok (.aload_n 0, 1) := by decide +kernel
theorem dX11_init_40 : decode cX11_init 40 = .ok (.aload_n 0, 1) := by decide +kernel
theorem dX11_init_41 : decode cX11_init 41 = .ok (.sipush 8000, 3) := by decide +kernel
theorem dX11_init_44 : decode cX11_init 44 = .ok (.newarray .int, 2) := by decide +kernel
theorem dX11_init_46 : decode cX11_init 46 = .ok (.putfield 14, 3) := by decide +kernel
theorem dX11_init_49 : decode cX11_init 49 = .ok (.aload_n 0, 1) := by decide +kernel
theorem dX11_init_5 : decode cX11_init 5 = .ok (.sipush 8000, 3) := by decide +kernel
theorem dX11_init_50 : decode cX11_init 50 = .ok (.bipush 32, 2) := by decide +kernel
theorem dX11_init_52 : decode cX11_init 52 = .ok (.newarray .int, 2) := by decide +kernel
theorem dX11_init_54 : decode cX11_init 54 = .ok (.putfield 142, 3) := by decide +kernel
theorem dX11_init_57 : decode cX11_init 57 = .ok (.aload_n 0, 1) := by decide +kernel
theorem dX11_init_58 : decode cX11_init 58 = .ok (.bipush 32, 2) := by decide +kernel
theorem dX11_init_60 : decode cX11_init 60 = .ok (.newarray .int, 2) := by decide +kernel
theorem dX11_init_62 : decode cX11_init 62 = .ok (.putfield 102, 3) := by decide +kernel
theorem dX11_init_65 : decode cX11_init 65 = .ok (.aload_n 0, 1) := by decide +kernel
theorem dX11_init_66 : decode cX11_init 66 = .ok (.sipush 256, 3) := by decide +kernel
theorem dX11_init_69 : decode cX11_init 69 = .ok (.newarray .int, 2) := by decide +kernel
theorem dX11_init_71 : decode cX11_init 71 = .ok (.putfield 108, 3) := by decide +kernel
theorem dX11_init_74 : decode cX11_init 74 = .ok (.aload_n 0, 1) := by decide +kernel
theorem dX11_init_75 : decode cX11_init 75 = .ok (.sipush 192, 3) := by decide +kernel
theorem dX11_init_78 : decode cX11_init 78 = .ok (.newarray .boolean, 2) := by decide +kernel
theorem dX11_init_8 : decode cX11_init 8 = .ok (.newarray .int, 2) := by decide +kernel
theorem dX11_init_80 : decode cX11_init 80 = .ok (.putfield 145, 3) := by decide +kernel
theorem dX11_init_83 : decode cX11_init 83 = .ok (.aload_n 0, 1) := by decide +kernel
theorem dX11_init_84 : decode cX11_init 84 = .ok (.sipush 192, 3) := by decide +kernel
theorem dX11_init_87 : decode cX11_init 87 = .ok (.newarray .int, 2) := by decide +kernel
theorem dX11_init_89 : decode cX11_init 89 = .ok (.putfield 152, 3) := by decide +kernel
theorem dX11_init_92 : decode cX11_init 92 = .ok (.aload_n 0, 1) := by decide +kernel
theorem dX11_init_93 : decode cX11_init 93 = .ok (.sipush 600, 3) := by decide +kernel
theorem dX11_init_96 : decode cX11_init 96 = .ok (.newarray .byte, 2) := by decide +kernel
theorem dX11_init_98 : decode cX11_init 98 = .ok (.putfield 41, 3) := by decide +kernel
theorem dX11_instance_0 : decode cX11_instance 0 = .ok (.aload_n 0, 1) := by decide +kernel
theorem dX11_instance_1 : decode cX11_instance 1 = .ok (.iconst 0, 1) := by decide +kernel
theorem dX11_instance_2 : decode cX11_instance 2 = .ok (.putfield 1, 3) := by decide +kernel
theorem dX11_instance_22 : decode cX11_instance 22 = .ok (.aload_n 0, 1) := by decide +kernel
theorem dX11_instance_23 : decode cX11_instance 23 = .ok (.iload_n 1, 1) := by decide +kernel
theorem dX11_instance_24 : decode cX11_instance 24 = .ok (.invokevirtual 440, 3) := by decide +kernel
theorem dX11_instance_27 : decode cX11_instance 27 = .ok (.ifCond .eq 12, 3) := by decide +kernel
theorem dX11_instance_39 : decode cX11_instance 39 = .ok (.iconst (-1), 1) := by decide +kernel
theorem dX11_instance_40 : decode cX11_instance 40 = .ok (.ireturn, 1) := by decide +kernel
theorem dX11_instance_5 : decode cX11_instance 5 = .ok (.aload_n 0, 1) := by decide +kernel
theorem dX11_instance_6 : decode cX11_instance 6 = .ok (.getfield 410, 3) := by decide +kernel
theorem dX11_instance_9 : decode cX11_instance 9 = .ok (.ifCond .eq 13, 3) := by decide +kernel
theorem dX11_isClause_0 : decode cX11_isClause 0 = .ok (.aload_n 0, 1) := by decide +kernel
theorem dX11_isClause_1 : decode cX11_isClause 1 = .ok (.iload_n 1, 1) := by decide +kernel
theorem dX11_isClause_10 : decode cX11_isClause 10 = .ok (.lsub, 1) := by decide +kernel
theorem dX11_isClause_11 : decode cX11_isClause 11 = .ok (.invokevirtual 49, 3) := by decide +kernel
theorem dX11_isClause_14 : decode cX11_isClause 14 = .ok (.ireturn, 1) := by decide +kernel
theorem dX11_isClause_2 : decode cX11_isClause 2 = .ok (.i2l, 1) := by decide +kernel
theorem dX11_isClause_3 : decode cX11_isClause 3 = .ok (.lconst 0, 1) := by decide +kernel
theorem dX11_isClause_4 : decode cX11_isClause 4 = .ok (.aload_n 0, 1) := by decide +kernel
theorem dX11_isClause_5 : decode cX11_isClause 5 = .ok (.getfield 164, 3) := by decide +kernel
theorem dX11_isClause_8 : decode cX11_isClause 8 = .ok (.i2l, 1) := by decide +kernel
theorem dX11_isClause_9 : decode cX11_isClause 9 = .ok (.lconst 1, 1) := by decide +kernel
theorem dX11_isIn_0 : decode cX11_isIn 0 = .ok (.lload_n 1, 1) := by decide +kernel
theorem dX11_isIn_1 : decode cX11_isIn 1 = .ok (.lload_n 3, 1) := by decide +kernel
theorem dX11_isIn_10 : decode cX11_isIn 10 = .ok (.ifCond .gt 7, 3) := by decide +kernel
theorem dX11_isIn_13 : decode cX11_isIn 13 = .ok (.iconst 1, 1) := by decide +kernel
theorem dX11_isIn_14 : decode cX11_isIn 14 = .ok (.goto 4, 3) := by decide +kernel
theorem dX11_isIn_17 : decode cX11_isIn 17 = .ok (.iconst 0, 1) := by decide +kernel
theorem dX11_isIn_18 : decode cX11_isIn 18 = .ok (.ireturn, 1) := by decide +kernel
theorem dX11_isIn_2 : decode cX11_isIn 2 = .ok (.lcmp, 1) := by decide +kernel
theorem dX11_isIn_3 : decode cX11_isIn 3 = .ok (.ifCond .lt 14, 3) := by decide +kernel
theorem dX11_isIn_6 : decode cX11_isIn 6 = .ok (.lload_n 1, 1) := by decide +kernel
theorem dX11_isIn_7 : decode cX11_isIn 7 = .ok (.lload 5, 2) := by decide +kernel
theorem dX11_isIn_9 : decode cX11_isIn 9 = .ok (.lcmp, 1) := by decide +kernel
theorem dX11_isInstance_0 : decode cX11_isInstance 0 = .ok (.aload_n 0, 1) := by decide +kernel
theorem dX11_isInstance_1 : decode cX11_isInstance 1 = .ok (.getfield 410, 3) := by decide +kernel
theorem dX11_isInstance_28 : decode cX11_isInstance 28 = .ok (.iconst 0, 1) := by decide +kernel
theorem dX11_isInstance_29 : decode cX11_isInstance 29 = .ok (.ireturn, 1) := by decide +kernel
theorem dX11_isInstance_4 : decode cX11_isInstance 4 = .ok (.ifCond .eq 24, 3) := by decide +kernel
theorem dX11_isLiteral_0 : decode cX11_isLiteral 0 = .ok (.aload_n 0, 1) := by decide +kernel
theorem dX11_isLiteral_1 : decode cX11_isLiteral 1 = .ok (.iload_n 1, 1) := by decide +kernel
theorem dX11_isLiteral_2 : decode cX11_isLiteral 2 = .ok (.invokevirtual 174, 3) := by decide +kernel
theorem dX11_isLiteral_31 : decode cX11_isLiteral 31 = .ok (.iconst 0, 1) := by decide +kernel
theorem dX11_isLiteral_32 : decode cX11_isLiteral 32 = .ok (.ireturn, 1) := by decide +kernel
theorem dX11_isLiteral_5 : decode cX11_isLiteral 5 = .ok (.ifCond .eq 26, 3) := by decide +kernel
theorem dX11_literals_0 : decode cX11_literals 0 = .ok (.iconst 0, 1) := by decide +kernel
theorem dX11_literals_1 : decode cX11_literals 1 = .ok (.istore_n 1, 1) := by decide +kernel
theorem dX11_literals_2 : decode cX11_literals 2 = .ok (.iconst 0, 1) := by decide +kernel
theorem dX11_literals_27 : decode cX11_literals 27 = .ok (.iload_n 1, 1) := by decide +kernel
theorem dX11_literals_28 : decode cX11_literals 28 = .ok (.ireturn, 1) := by decide +kernel
theorem dX11_literals_3 : decode cX11_literals 3 = .ok (.istore_n 2, 1) := by decide +kernel
theorem dX11_literals_4 : decode cX11_literals 4 = .ok (.iload_n 2, 1) := by decide +kernel
theorem dX11_literals_5 : decode cX11_literals 5 = .ok (.aload_n 0, 1) := by decide +kernel
theorem dX11_literals_6 : decode cX11_literals 6 = .ok (.getfield 164, 3) := by decide +kernel
theorem dX11_literals_9 : decode cX11_literals 9 = .ok (.if_icmp .ge 18, 3) := by decide +kernel
theorem dX11_look_0 : decode cX11_look 0 = .ok (.aload_n 0, 1) := by decide +kernel
theorem dX11_look_1 : decode cX11_look 1 = .ok (.iconst 0, 1) := by decide +kernel
theorem dX11_look_100 : decode cX11_look 100 = .ok (.getfield 432, 3) := by decide +kernel
theorem dX11_look_103 : decode cX11_look 103 = .ok (.goto 4, 3) := by decide +kernel
theorem dX11_look_106 : decode cX11_look 106 = .ok (.iconst (-1), 1) := by decide +kernel
theorem dX11_look_107 : decode cX11_look 107 = .ok (.ireturn, 1) := by decide +kernel
theorem dX11_look_2 : decode cX11_look 2 = .ok (.putfield 1, 3) := by decide +kernel
theorem dX11_look_5 : decode cX11_look 5 = .ok (.iload_n 1, 1) := by decide +kernel
theorem dX11_look_52 : decode cX11_look 52 = .ok (.aload_n 0, 1) := by decide +kernel
theorem dX11_look_53 : decode cX11_look 53 = .ok (.getfield 164, 3) := by decide +kernel
theorem dX11_look_56 : decode cX11_look 56 = .ok (.ireturn, 1) := by decide +kernel
theorem dX11_look_57 : decode cX11_look 57 = .ok (.aload_n 0, 1) := by decide +kernel
theorem dX11_look_58 : decode cX11_look 58 = .ok (.invokevirtual 492, 3) := by decide +kernel
theorem dX11_look_6 : decode cX11_look 6 = .ok (.tableswitch 87 0 7 #[46, 51, 56, 61, 66, 79, 79, 79], 46) := by decide +kernel
theorem dX11_look_61 : decode cX11_look 61 = .ok (.ireturn, 1) := by decide +kernel
theorem dX11_look_62 : decode cX11_look 62 = .ok (.aload_n 0, 1) := by decide +kernel
theorem dX11_look_63 : decode cX11_look 63 = .ok (.invokevirtual 495, 3) := by decide +kernel
theorem dX11_look_66 : decode cX11_look 66 = .ok (.ireturn, 1) := by decide +kernel
theorem dX11_look_67 : decode cX11_look 67 = .ok (.aload_n 0, 1) := by decide +kernel
theorem dX11_look_68 : decode cX11_look 68 = .ok (.getfield 38, 3) := by decide +kernel
theorem dX11_look_71 : decode cX11_look 71 = .ok (.ireturn, 1) := by decide +kernel
theorem dX11_look_72 : decode cX11_look 72 = .ok (.aload_n 0, 1) := by decide +kernel
theorem dX11_look_73 : decode cX11_look 73 = .ok (.getfield 410, 3) := by decide +kernel
theorem dX11_look_76 : decode cX11_look 76 = .ok (.ifCond .eq 7, 3) := by decide +kernel
theorem dX11_look_83 : decode cX11_look 83 = .ok (.iconst 0, 1) := by decide +kernel
theorem dX11_look_84 : decode cX11_look 84 = .ok (.ireturn, 1) := by decide +kernel
theorem dX11_look_85 : decode cX11_look 85 = .ok (.aload_n 0, 1) := by decide +kernel
theorem dX11_look_86 : decode cX11_look 86 = .ok (.iload_n 1, 1) := by decide +kernel
theorem dX11_look_87 : decode cX11_look 87 = .ok (.iconst 4, 1) := by decide +kernel
theorem dX11_look_88 : decode cX11_look 88 = .ok (.isub, 1) := by decide +kernel
theorem dX11_look_89 : decode cX11_look 89 = .ok (.invokevirtual 498, 3) := by decide +kernel
theorem dX11_look_92 : decode cX11_look 92 = .ok (.ireturn, 1) := by decide +kernel
theorem dX11_look_93 : decode cX11_look 93 = .ok (.iload_n 1, 1) := by decide +kernel
theorem dX11_look_94 : decode cX11_look 94 = .ok (.bipush 8, 2) := by decide +kernel
theorem dX11_look_96 : decode cX11_look 96 = .ok (.if_icmp .ne 10, 3) := by decide +kernel
theorem dX11_look_99 : decode cX11_look 99 = .ok (.aload_n 0, 1) := by decide +kernel
theorem dX11_meets_0 : decode cX11_meets 0 = .ok (.aload_n 0, 1) := by decide +kernel
theorem dX11_meets_1 : decode cX11_meets 1 = .ok (.iconst 0, 1) := by decide +kernel
theorem dX11_meets_11 : decode cX11_meets 11 = .ok (.ifCond .eq 33, 3) := by decide +kernel
theorem dX11_meets_2 : decode cX11_meets 2 = .ok (.putfield 1, 3) := by decide +kernel
theorem dX11_meets_44 : decode cX11_meets 44 = .ok (.iconst (-1), 1) := by decide +kernel
theorem dX11_meets_45 : decode cX11_meets 45 = .ok (.ireturn, 1) := by decide +kernel
theorem dX11_meets_5 : decode cX11_meets 5 = .ok (.aload_n 0, 1) := by decide +kernel
theorem dX11_meets_6 : decode cX11_meets 6 = .ok (.iload_n 1, 1) := by decide +kernel
theorem dX11_meets_7 : decode cX11_meets 7 = .ok (.iload_n 2, 1) := by decide +kernel
theorem dX11_meets_8 : decode cX11_meets 8 = .ok (.invokevirtual 300, 3) := by decide +kernel
theorem dX11_movesNodes_0 : decode cX11_movesNodes 0 = .ok (.aload_n 0, 1) := by decide +kernel
theorem dX11_movesNodes_1 : decode cX11_movesNodes 1 = .ok (.getfield 20, 3) := by decide +kernel
theorem dX11_movesNodes_10 : decode cX11_movesNodes 10 = .ok (.iload_n 2, 1) := by decide +kernel
theorem dX11_movesNodes_11 : decode cX11_movesNodes 11 = .ok (.if_icmp .ge 133, 3) := by decide +kernel
theorem dX11_movesNodes_144 : decode cX11_movesNodes 144 = .ok (.aload_n 0, 1) := by decide +kernel
theorem dX11_movesNodes_145 : decode cX11_movesNodes 145 = .ok (.iload_n 2, 1) := by decide +kernel
theorem dX11_movesNodes_146 : decode cX11_movesNodes 146 = .ok (.putfield 20, 3) := by decide +kernel
theorem dX11_movesNodes_149 : decode cX11_movesNodes 149 = .ok (.bipush 16, 2) := by decide +kernel
theorem dX11_movesNodes_151 : decode cX11_movesNodes 151 = .ok (.istore_n 3, 1) := by decide +kernel
theorem dX11_movesNodes_152 : decode cX11_movesNodes 152 = .ok (.iload_n 3, 1) := by decide +kernel
theorem dX11_movesNodes_153 : decode cX11_movesNodes 153 = .ok (.aload_n 0, 1) := by decide +kernel
theorem dX11_movesNodes_154 : decode cX11_movesNodes 154 = .ok (.getfield 105, 3) := by decide +kernel
theorem dX11_movesNodes_157 : decode cX11_movesNodes 157 = .ok (.if_icmp .ge 55, 3) := by decide +kernel
theorem dX11_movesNodes_212 : decode cX11_movesNodes 212 = .ok (.return_, 1) := by decide +kernel
theorem dX11_movesNodes_4 : decode cX11_movesNodes 4 = .ok (.iload_n 1, 1) := by decide +kernel
theorem dX11_movesNodes_5 : decode cX11_movesNodes 5 = .ok (.isub, 1) := by decide +kernel
theorem dX11_movesNodes_6 : decode cX11_movesNodes 6 = .ok (.istore_n 2, 1) := by decide +kernel
theorem dX11_movesNodes_7 : decode cX11_movesNodes 7 = .ok (.iconst 0, 1) := by decide +kernel
theorem dX11_movesNodes_8 : decode cX11_movesNodes 8 = .ok (.istore_n 3, 1) := by decide +kernel
theorem dX11_movesNodes_9 : decode cX11_movesNodes 9 = .ok (.iload_n 3, 1) := by decide +kernel
theorem dX11_needed_0 : decode cX11_needed 0 = .ok (.aload_n 0, 1) := by decide +kernel
theorem dX11_needed_1 : decode cX11_needed 1 = .ok (.iconst 0, 1) := by decide +kernel
theorem dX11_needed_12 : decode cX11_needed 12 = .ok (.iconst 0, 1) := by decide +kernel
theorem dX11_needed_13 : decode cX11_needed 13 = .ok (.ireturn, 1) := by decide +kernel
theorem dX11_needed_2 : decode cX11_needed 2 = .ok (.putfield 1, 3) := by decide +kernel
theorem dX11_needed_5 : decode cX11_needed 5 = .ok (.aload_n 0, 1) := by decide +kernel
theorem dX11_needed_6 : decode cX11_needed 6 = .ok (.getfield 410, 3) := by decide +kernel
theorem dX11_needed_9 : decode cX11_needed 9 = .ok (.ifCond .ne 5, 3) := by decide +kernel
theorem dX11_open_0 : decode cX11_open 0 = .ok (.aload_n 0, 1) := by decide +kernel
theorem dX11_open_1 : decode cX11_open 1 = .ok (.iconst 0, 1) := by decide +kernel
theorem dX11_open_2 : decode cX11_open 2 = .ok (.putfield 1, 3) := by decide +kernel
theorem dX11_open_38 : decode cX11_open 38 = .ok (.iconst (-1), 1) := by decide +kernel
theorem dX11_open_39 : decode cX11_open 39 = .ok (.ireturn, 1) := by decide +kernel
theorem dX11_open_5 : decode cX11_open 5 = .ok (.aload_n 0, 1) := by decide +kernel
theorem dX11_open_6 : decode cX11_open 6 = .ok (.getfield 410, 3) := by decide +kernel
theorem dX11_open_9 : decode cX11_open 9 = .ok (.ifCond .eq 29, 3) := by decide +kernel
theorem dX11_out_0 : decode cX11_out 0 = .ok (.aload_n 0, 1) := by decide +kernel
theorem dX11_out_1 : decode cX11_out 1 = .ok (.iconst 0, 1) := by decide +kernel
theorem dX11_out_10 : decode cX11_out 10 = .ok (.getfield 462, 3) := by decide +kernel
theorem dX11_out_13 : decode cX11_out 13 = .ok (.i2l, 1) := by decide +kernel
theorem dX11_out_14 : decode cX11_out 14 = .ok (.lconst 1, 1) := by decide +kernel
theorem dX11_out_15 : decode cX11_out 15 = .ok (.lsub, 1) := by decide +kernel
theorem dX11_out_16 : decode cX11_out 16 = .ok (.invokevirtual 49, 3) := by decide +kernel
theorem dX11_out_19 : decode cX11_out 19 = .ok (.ifCond .eq 12, 3) := by decide +kernel
theorem dX11_out_2 : decode cX11_out 2 = .ok (.putfield 1, 3) := by decide +kernel
theorem dX11_out_31 : decode cX11_out 31 = .ok (.iconst (-1), 1) := by decide +kernel
theorem dX11_out_32 : decode cX11_out 32 = .ok (.ireturn, 1) := by decide +kernel
theorem dX11_out_5 : decode cX11_out 5 = .ok (.aload_n 0, 1) := by decide +kernel
theorem dX11_out_6 : decode cX11_out 6 = .ok (.iload_n 1, 1) := by decide +kernel
theorem dX11_out_7 : decode cX11_out 7 = .ok (.i2l, 1) := by decide +kernel
theorem dX11_out_8 : decode cX11_out 8 = .ok (.lconst 0, 1) := by decide +kernel
theorem dX11_out_9 : decode cX11_out 9 = .ok (.aload_n 0, 1) := by decide +kernel
theorem dX11_partners_0 : decode cX11_partners 0 = .ok (.aload_n 0, 1) := by decide +kernel
theorem dX11_partners_1 : decode cX11_partners 1 = .ok (.iconst 0, 1) := by decide +kernel
theorem dX11_partners_11 : decode cX11_partners 11 = .ok (.ifCond .eq 13, 3) := by decide +kernel
theorem dX11_partners_2 : decode cX11_partners 2 = .ok (.putfield 1, 3) := by decide +kernel
theorem dX11_partners_24 : decode cX11_partners 24 = .ok (.iconst (-1), 1) := by decide +kernel
theorem dX11_partners_25 : decode cX11_partners 25 = .ok (.ireturn, 1) := by decide +kernel
theorem dX11_partners_5 : decode cX11_partners 5 = .ok (.aload_n 0, 1) := by decide +kernel
theorem dX11_partners_6 : decode cX11_partners 6 = .ok (.iload_n 1, 1) := by decide +kernel
theorem dX11_partners_7 : decode cX11_partners 7 = .ok (.iload_n 2, 1) := by decide +kernel
theorem dX11_partners_8 : decode cX11_partners 8 = .ok (.invokevirtual 300, 3) := by decide +kernel
theorem dX11_pure_0 : decode cX11_pure 0 = .ok (.aload_n 0, 1) := by decide +kernel
theorem dX11_pure_1 : decode cX11_pure 1 = .ok (.iconst 0, 1) := by decide +kernel
theorem dX11_pure_10 : decode cX11_pure 10 = .ok (.ifCond .eq 66, 3) := by decide +kernel
theorem dX11_pure_13 : decode cX11_pure 13 = .ok (.iload_n 1, 1) := by decide +kernel
theorem dX11_pure_14 : decode cX11_pure 14 = .ok (.istore_n 3, 1) := by decide +kernel
theorem dX11_pure_15 : decode cX11_pure 15 = .ok (.iconst 0, 1) := by decide +kernel
theorem dX11_pure_16 : decode cX11_pure 16 = .ok (.istore 4, 2) := by decide +kernel
theorem dX11_pure_18 : decode cX11_pure 18 = .ok (.iload 4, 2) := by decide +kernel
theorem dX11_pure_2 : decode cX11_pure 2 = .ok (.putfield 1, 3) := by decide +kernel
theorem dX11_pure_20 : decode cX11_pure 20 = .ok (.aload_n 0, 1) := by decide +kernel
theorem dX11_pure_21 : decode cX11_pure 21 = .ok (.getfield 164, 3) := by decide +kernel
theorem dX11_pure_24 : decode cX11_pure 24 = .ok (.if_icmp .ge 36, 3) := by decide +kernel
theorem dX11_pure_5 : decode cX11_pure 5 = .ok (.iconst 0, 1) := by decide +kernel
theorem dX11_pure_6 : decode cX11_pure 6 = .ok (.istore_n 1, 1) := by decide +kernel
theorem dX11_pure_60 : decode cX11_pure 60 = .ok (.iload_n 3, 1) := by decide +kernel
theorem dX11_pure_61 : decode cX11_pure 61 = .ok (.iload_n 1, 1) := by decide +kernel
theorem dX11_pure_62 : decode cX11_pure 62 = .ok (.if_icmp .eq 7, 3) := by decide +kernel
theorem dX11_pure_69 : decode cX11_pure 69 = .ok (.iconst 0, 1) := by decide +kernel
theorem dX11_pure_7 : decode cX11_pure 7 = .ok (.iconst 1, 1) := by decide +kernel
theorem dX11_pure_70 : decode cX11_pure 70 = .ok (.istore_n 2, 1) := by decide +kernel
theorem dX11_pure_71 : decode cX11_pure 71 = .ok (.iload_n 3, 1) := by decide +kernel
theorem dX11_pure_72 : decode cX11_pure 72 = .ok (.istore_n 1, 1) := by decide +kernel
theorem dX11_pure_73 : decode cX11_pure 73 = .ok (.goto (-64), 3) := by decide +kernel
theorem dX11_pure_76 : decode cX11_pure 76 = .ok (.iload_n 1, 1) := by decide +kernel
theorem dX11_pure_77 : decode cX11_pure 77 = .ok (.ireturn, 1) := by decide +kernel
theorem dX11_pure_8 : decode cX11_pure 8 = .ok (.istore_n 2, 1) := by decide +kernel
theorem dX11_pure_9 : decode cX11_pure 9 = .ok (.iload_n 2, 1) := by decide +kernel
theorem dX11_see_0 : decode cX11_see 0 = .ok (.iload_n 1, 1) := by decide +kernel
theorem dX11_see_1 : decode cX11_see 1 = .ok (.aload_n 0, 1) := by decide +kernel
theorem dX11_see_2 : decode cX11_see 2 = .ok (.getfield 38, 3) := by decide +kernel
theorem dX11_see_21 : decode cX11_see 21 = .ok (.iconst (-1), 1) := by decide +kernel
theorem dX11_see_22 : decode cX11_see 22 = .ok (.ireturn, 1) := by decide +kernel
theorem dX11_see_5 : decode cX11_see 5 = .ok (.if_icmp .ge 16, 3) := by decide +kernel
theorem dX11_show_0 : decode cX11_show 0 = .ok (.aload_n 0, 1) := by decide +kernel
theorem dX11_show_1 : decode cX11_show 1 = .ok (.iconst 0, 1) := by decide +kernel
theorem dX11_show_11 : decode cX11_show 11 = .ok (.ifCond .eq 21, 3) := by decide +kernel
theorem dX11_show_2 : decode cX11_show 2 = .ok (.putfield 1, 3) := by decide +kernel
theorem dX11_show_32 : decode cX11_show 32 = .ok (.iconst (-1), 1) := by decide +kernel
theorem dX11_show_33 : decode cX11_show 33 = .ok (.ireturn, 1) := by decide +kernel
theorem dX11_show_5 : decode cX11_show 5 = .ok (.aload_n 0, 1) := by decide +kernel
theorem dX11_show_6 : decode cX11_show 6 = .ok (.iload_n 1, 1) := by decide +kernel
theorem dX11_show_7 : decode cX11_show 7 = .ok (.iload_n 2, 1) := by decide +kernel
theorem dX11_show_8 : decode cX11_show 8 = .ok (.invokevirtual 300, 3) := by decide +kernel
theorem dX11_shown_0 : decode cX11_shown 0 = .ok (.aload_n 0, 1) := by decide +kernel
theorem dX11_shown_1 : decode cX11_shown 1 = .ok (.iconst 0, 1) := by decide +kernel
theorem dX11_shown_10 : decode cX11_shown 10 = .ok (.ifCond .eq 45, 3) := by decide +kernel
theorem dX11_shown_2 : decode cX11_shown 2 = .ok (.putfield 1, 3) := by decide +kernel
theorem dX11_shown_5 : decode cX11_shown 5 = .ok (.aload_n 0, 1) := by decide +kernel
theorem dX11_shown_55 : decode cX11_shown 55 = .ok (.iconst (-1), 1) := by decide +kernel
theorem dX11_shown_56 : decode cX11_shown 56 = .ok (.ireturn, 1) := by decide +kernel
theorem dX11_shown_6 : decode cX11_shown 6 = .ok (.iload_n 1, 1) := by decide +kernel
theorem dX11_shown_7 : decode cX11_shown 7 = .ok (.invokevirtual 440, 3) := by decide +kernel
theorem dX11_solve_0 : decode cX11_solve 0 = .ok (.aload_n 0, 1) := by decide +kernel
theorem dX11_solve_1 : decode cX11_solve 1 = .ok (.iconst 0, 1) := by decide +kernel
theorem dX11_solve_10 : decode cX11_solve 10 = .ok (.ifCond .eq 12, 3) := by decide +kernel
theorem dX11_solve_2 : decode cX11_solve 2 = .ok (.putfield 1, 3) := by decide +kernel
theorem dX11_solve_22 : decode cX11_solve 22 = .ok (.iconst (-1), 1) := by decide +kernel
theorem dX11_solve_23 : decode cX11_solve 23 = .ok (.ireturn, 1) := by decide +kernel
theorem dX11_solve_5 : decode cX11_solve 5 = .ok (.aload_n 0, 1) := by decide +kernel
theorem dX11_solve_6 : decode cX11_solve 6 = .ok (.iload_n 1, 1) := by decide +kernel
theorem dX11_solve_7 : decode cX11_solve 7 = .ok (.invokevirtual 174, 3) := by decide +kernel
theorem dX11_step_0 : decode cX11_step 0 = .ok (.aload_n 0, 1) := by decide +kernel
theorem dX11_step_1 : decode cX11_step 1 = .ok (.aload_n 0, 1) := by decide +kernel
theorem dX11_step_10 : decode cX11_step 10 = .ok (.if_icmp .eq 16, 3) := by decide +kernel
theorem dX11_step_13 : decode cX11_step 13 = .ok (.aload_n 0, 1) := by decide +kernel
theorem dX11_step_14 : decode cX11_step 14 = .ok (.aload_n 0, 1) := by decide +kernel
theorem dX11_step_15 : decode cX11_step 15 = .ok (.getfield 74, 3) := by decide +kernel
theorem dX11_step_18 : decode cX11_step 18 = .ok (.invokevirtual 77, 3) := by decide +kernel
theorem dX11_step_2 : decode cX11_step 2 = .ok (.getfield 74, 3) := by decide +kernel
theorem dX11_step_21 : decode cX11_step 21 = .ok (.bipush 10, 2) := by decide +kernel
theorem dX11_step_23 : decode cX11_step 23 = .ok (.if_icmp .ne 16, 3) := by decide +kernel
theorem dX11_step_39 : decode cX11_step 39 = .ok (.aload_n 0, 1) := by decide +kernel
theorem dX11_step_40 : decode cX11_step 40 = .ok (.aload_n 0, 1) := by decide +kernel
theorem dX11_step_41 : decode cX11_step 41 = .ok (.getfield 74, 3) := by decide +kernel
theorem dX11_step_44 : decode cX11_step 44 = .ok (.putfield 68, 3) := by decide +kernel
theorem dX11_step_47 : decode cX11_step 47 = .ok (.aload_n 0, 1) := by decide +kernel
theorem dX11_step_48 : decode cX11_step 48 = .ok (.aload_n 0, 1) := by decide +kernel
theorem dX11_step_49 : decode cX11_step 49 = .ok (.getfield 74, 3) := by decide +kernel
theorem dX11_step_5 : decode cX11_step 5 = .ok (.invokevirtual 77, 3) := by decide +kernel
theorem dX11_step_52 : decode cX11_step 52 = .ok (.invokevirtual 77, 3) := by decide +kernel
theorem dX11_step_55 : decode cX11_step 55 = .ok (.istore_n 1, 1) := by decide +kernel
theorem dX11_step_56 : decode cX11_step 56 = .ok (.aload_n 0, 1) := by decide +kernel
theorem dX11_step_57 : decode cX11_step 57 = .ok (.iload_n 1, 1) := by decide +kernel
theorem dX11_step_58 : decode cX11_step 58 = .ok (.putfield 80, 3) := by decide +kernel
theorem dX11_step_61 : decode cX11_step 61 = .ok (.aload_n 0, 1) := by decide +kernel
theorem dX11_step_62 : decode cX11_step 62 = .ok (.lconst 0, 1) := by decide +kernel
theorem dX11_step_63 : decode cX11_step 63 = .ok (.putfield 83, 3) := by decide +kernel
theorem dX11_step_66 : decode cX11_step 66 = .ok (.iload_n 1, 1) := by decide +kernel
theorem dX11_step_67 : decode cX11_step 67 = .ok (.iconst (-1), 1) := by decide +kernel
theorem dX11_step_68 : decode cX11_step 68 = .ok (.if_icmp .ne 9, 3) := by decide +kernel
theorem dX11_step_71 : decode cX11_step 71 = .ok (.aload_n 0, 1) := by decide +kernel
theorem dX11_step_72 : decode cX11_step 72 = .ok (.iconst 0, 1) := by decide +kernel
theorem dX11_step_73 : decode cX11_step 73 = .ok (.putfield 87, 3) := by decide +kernel
theorem dX11_step_76 : decode cX11_step 76 = .ok (.return_, 1) := by decide +kernel
theorem dX11_step_8 : decode cX11_step 8 = .ok (.bipush 32, 2) := by decide +kernel
theorem dX11_step__0 : decode cX11_step_ 0 = .ok (.aload_n 0, 1) := by decide +kernel
theorem dX11_step__1 : decode cX11_step_ 1 = .ok (.iconst 0, 1) := by decide +kernel
theorem dX11_step__12 : decode cX11_step_ 12 = .ok (.iconst (-1), 1) := by decide +kernel
theorem dX11_step__13 : decode cX11_step_ 13 = .ok (.ireturn, 1) := by decide +kernel
theorem dX11_step__2 : decode cX11_step_ 2 = .ok (.putfield 1, 3) := by decide +kernel
theorem dX11_step__5 : decode cX11_step_ 5 = .ok (.aload_n 0, 1) := by decide +kernel
theorem dX11_step__6 : decode cX11_step_ 6 = .ok (.getfield 410, 3) := by decide +kernel
theorem dX11_step__9 : decode cX11_step_ 9 = .ok (.ifCond .ne 5, 3) := by decide +kernel
theorem dX11_stepsOf_0 : decode cX11_stepsOf 0 = .ok (.iconst 0, 1) := by decide +kernel
theorem dX11_stepsOf_1 : decode cX11_stepsOf 1 = .ok (.istore_n 2, 1) := by decide +kernel
theorem dX11_stepsOf_2 : decode cX11_stepsOf 2 = .ok (.iconst 0, 1) := by decide +kernel
theorem dX11_stepsOf_3 : decode cX11_stepsOf 3 = .ok (.istore_n 3, 1) := by decide +kernel
theorem dX11_stepsOf_4 : decode cX11_stepsOf 4 = .ok (.iload_n 3, 1) := by decide +kernel
theorem dX11_stepsOf_42 : decode cX11_stepsOf 42 = .ok (.iload_n 2, 1) := by decide +kernel
theorem dX11_stepsOf_43 : decode cX11_stepsOf 43 = .ok (.ireturn, 1) := by decide +kernel
theorem dX11_stepsOf_5 : decode cX11_stepsOf 5 = .ok (.aload_n 0, 1) := by decide +kernel
theorem dX11_stepsOf_6 : decode cX11_stepsOf 6 = .ok (.getfield 338, 3) := by decide +kernel
theorem dX11_stepsOf_9 : decode cX11_stepsOf 9 = .ok (.if_icmp .ge 33, 3) := by decide +kernel
theorem dX11_tried_0 : decode cX11_tried 0 = .ok (.aload_n 0, 1) := by decide +kernel
theorem dX11_tried_1 : decode cX11_tried 1 = .ok (.iconst 0, 1) := by decide +kernel
theorem dX11_tried_2 : decode cX11_tried 2 = .ok (.putfield 1, 3) := by decide +kernel
theorem dX11_tried_32 : decode cX11_tried 32 = .ok (.aload_n 0, 1) := by decide +kernel
theorem dX11_tried_33 : decode cX11_tried 33 = .ok (.getfield 389, 3) := by decide +kernel
theorem dX11_tried_36 : decode cX11_tried 36 = .ok (.ireturn, 1) := by decide +kernel
theorem dX11_tried_37 : decode cX11_tried 37 = .ok (.aload_n 0, 1) := by decide +kernel
theorem dX11_tried_38 : decode cX11_tried 38 = .ok (.getfield 345, 3) := by decide +kernel
theorem dX11_tried_41 : decode cX11_tried 41 = .ok (.ireturn, 1) := by decide +kernel
theorem dX11_tried_42 : decode cX11_tried 42 = .ok (.aload_n 0, 1) := by decide +kernel
theorem dX11_tried_43 : decode cX11_tried 43 = .ok (.getfield 357, 3) := by decide +kernel
theorem dX11_tried_46 : decode cX11_tried 46 = .ok (.ireturn, 1) := by decide +kernel
theorem dX11_tried_47 : decode cX11_tried 47 = .ok (.iload_n 1, 1) := by decide +kernel
theorem dX11_tried_48 : decode cX11_tried 48 = .ok (.iconst 3, 1) := by decide +kernel
theorem dX11_tried_49 : decode cX11_tried 49 = .ok (.if_icmp .ne 10, 3) := by decide +kernel
theorem dX11_tried_5 : decode cX11_tried 5 = .ok (.iload_n 1, 1) := by decide +kernel
theorem dX11_tried_52 : decode cX11_tried 52 = .ok (.aload_n 0, 1) := by decide +kernel
theorem dX11_tried_53 : decode cX11_tried 53 = .ok (.getfield 407, 3) := by decide +kernel
theorem dX11_tried_56 : decode cX11_tried 56 = .ok (.goto 4, 3) := by decide +kernel
theorem dX11_tried_59 : decode cX11_tried 59 = .ok (.iconst (-1), 1) := by decide +kernel
theorem dX11_tried_6 : decode cX11_tried 6 = .ok (.tableswitch 41 0 2 #[26, 31, 36], 26) := by decide +kernel
theorem dX11_tried_60 : decode cX11_tried 60 = .ok (.ireturn, 1) := by decide +kernel
theorem dX11_unlike_0 : decode cX11_unlike 0 = .ok (.iconst 0, 1) := by decide +kernel
theorem dX11_unlike_1 : decode cX11_unlike 1 = .ok (.istore_n 1, 1) := by decide +kernel
theorem dX11_unlike_2 : decode cX11_unlike 2 = .ok (.iconst 0, 1) := by decide +kernel
theorem dX11_unlike_3 : decode cX11_unlike 3 = .ok (.istore_n 2, 1) := by decide +kernel
theorem dX11_unlike_4 : decode cX11_unlike 4 = .ok (.iload_n 2, 1) := by decide +kernel
theorem dX11_unlike_49 : decode cX11_unlike 49 = .ok (.iload_n 1, 1) := by decide +kernel
theorem dX11_unlike_5 : decode cX11_unlike 5 = .ok (.aload_n 0, 1) := by decide +kernel
theorem dX11_unlike_50 : decode cX11_unlike 50 = .ok (.ireturn, 1) := by decide +kernel
theorem dX11_unlike_6 : decode cX11_unlike 6 = .ok (.getfield 164, 3) := by decide +kernel
theorem dX11_unlike_9 : decode cX11_unlike 9 = .ok (.if_icmp .ge 40, 3) := by decide +kernel
theorem dX1_init_0 : decode cX1_init 0 = .ok (.aload_n 0, 1) := by decide +kernel
theorem dX1_init_1 : decode cX1_init 1 = .ok (.invokespecial 3, 3) := by decide +kernel
theorem dX1_init_10 : decode cX1_init 10 = .ok (.putfield 9, 3) := by decide +kernel
theorem dX1_init_13 : decode cX1_init 13 = .ok (.aload_n 0, 1) := by decide +kernel
theorem dX1_init_14 : decode cX1_init 14 = .ok (.sipush 256, 3) := by decide +kernel
theorem dX1_init_17 : decode cX1_init 17 = .ok (.newarray .int, 2) := by decide +kernel
theorem dX1_init_19 : decode cX1_init 19 = .ok (.putfield 15, 3) := by decide +kernel
theorem dX1_init_22 : decode cX1_init 22 = .ok (.aload_n 0, 1) := by decide +kernel
theorem dX1_init_23 : decode cX1_init 23 = .ok (.sipush 9600, 3) := by decide +kernel
theorem dX1_init_26 : decode cX1_init 26 = .ok (.newarray .int, 2) := by decide +kernel
theorem dX1_init_28 : decode cX1_init 28 = .ok (.putfield 18, 3) := by decide +kernel
theorem dX1_init_31 : decode cX1_init 31 = .ok (.aload_n 0, 1) := by decide +kernel
theorem dX1_init_32 : decode cX1_init 32 = .ok (.sipush 1024, 3) := by decide +kernel
theorem dX1_init_35 : decode cX1_init 35 = .ok (.newarray .int, 2) := by decide +kernel
theorem dX1_init_37 : decode cX1_init 37 = .ok (.putfield 21, 3) := by decide +kernel
theorem dX1_init_4 : decode cX1_init 4 = .ok (.aload_n 0, 1) := by decide +kernel
theorem dX1_init_40 : decode cX1_init 40 = .ok (.aload_n 0, 1) := by decide +kernel
theorem dX1_init_41 : decode cX1_init 41 = .ok (.sipush 2048, 3) := by decide +kernel
theorem dX1_init_44 : decode cX1_init 44 = .ok (.newarray .int, 2) := by decide +kernel
theorem dX1_init_46 : decode cX1_init 46 = .ok (.putfield 24, 3) := by decide +kernel
theorem dX1_init_49 : decode cX1_init 49 = .ok (.aload_n 0, 1) := by decide +kernel
theorem dX1_init_5 : decode cX1_init 5 = .ok (.sipush 256, 3) := by decide +kernel
theorem dX1_init_50 : decode cX1_init 50 = .ok (.sipush 2048, 3) := by decide +kernel
theorem dX1_init_53 : decode cX1_init 53 = .ok (.newarray .int, 2) := by decide +kernel
theorem dX1_init_55 : decode cX1_init 55 = .ok (.putfield 27, 3) := by decide +kernel
theorem dX1_init_58 : decode cX1_init 58 = .ok (.aload_n 0, 1) := by decide +kernel
theorem dX1_init_59 : decode cX1_init 59 = .ok (.sipush 2048, 3) := by decide +kernel
theorem dX1_init_62 : decode cX1_init 62 = .ok (.newarray .int, 2) := by decide +kernel
theorem dX1_init_64 : decode cX1_init 64 = .ok (.putfield 30, 3) := by decide +kernel
theorem dX1_init_67 : decode cX1_init 67 = .ok (.aload_n 0, 1) := by decide +kernel
theorem dX1_init_68 : decode cX1_init 68 = .ok (.sipush 256, 3) := by decide +kernel
theorem dX1_init_71 : decode cX1_init 71 = .ok (.newarray .int, 2) := by decide +kernel
theorem dX1_init_73 : decode cX1_init 73 = .ok (.putfield 33, 3) := by decide +kernel
theorem dX1_init_76 : decode cX1_init 76 = .ok (.aload_n 0, 1) := by decide +kernel
theorem dX1_init_77 : decode cX1_init 77 = .ok (.aload_n 1, 1) := by decide +kernel
theorem dX1_init_78 : decode cX1_init 78 = .ok (.putfield 36, 3) := by decide +kernel
theorem dX1_init_8 : decode cX1_init 8 = .ok (.newarray .int, 2) := by decide +kernel
theorem dX1_init_81 : decode cX1_init 81 = .ok (.return_, 1) := by decide +kernel
theorem dX3_forget_0 : decode cX3_forget 0 = .ok (.aload_n 0, 1) := by decide +kernel
theorem dX3_forget_1 : decode cX3_forget 1 = .ok (.iconst 0, 1) := by decide +kernel
theorem dX3_forget_11 : decode cX3_forget 11 = .ok (.return_, 1) := by decide +kernel
theorem dX3_forget_2 : decode cX3_forget 2 = .ok (.putfield 43, 3) := by decide +kernel
theorem dX3_forget_5 : decode cX3_forget 5 = .ok (.aload_n 0, 1) := by decide +kernel
theorem dX3_forget_6 : decode cX3_forget 6 = .ok (.bipush (-2), 2) := by decide +kernel
theorem dX3_forget_8 : decode cX3_forget 8 = .ok (.putfield 27, 3) := by decide +kernel
theorem dX3_init_0 : decode cX3_init 0 = .ok (.aload_n 0, 1) := by decide +kernel
theorem dX3_init_1 : decode cX3_init 1 = .ok (.invokespecial 3, 3) := by decide +kernel
theorem dX3_init_10 : decode cX3_init 10 = .ok (.putfield 9, 3) := by decide +kernel
theorem dX3_init_13 : decode cX3_init 13 = .ok (.aload_n 0, 1) := by decide +kernel
theorem dX3_init_14 : decode cX3_init 14 = .ok (.bipush 30, 2) := by decide +kernel
theorem dX3_init_16 : decode cX3_init 16 = .ok (.newarray .int, 2) := by decide +kernel
theorem dX3_init_18 : decode cX3_init 18 = .ok (.putfield 15, 3) := by decide +kernel
theorem dX3_init_21 : decode cX3_init 21 = .ok (.aload_n 0, 1) := by decide +kernel
theorem dX3_init_22 : decode cX3_init 22 = .ok (.bipush 30, 2) := by decide +kernel
theorem dX3_init_24 : decode cX3_init 24 = .ok (.newarray .int, 2) := by decide +kernel
theorem dX3_init_26 : decode cX3_init 26 = .ok (.putfield 18, 3) := by decide +kernel
theorem dX3_init_29 : decode cX3_init 29 = .ok (.aload_n 0, 1) := by decide +kernel
theorem dX3_init_30 : decode cX3_init 30 = .ok (.sipush 180, 3) := by decide +kernel
theorem dX3_init_33 : decode cX3_init 33 = .ok (.newarray .int, 2) := by decide +kernel
theorem dX3_init_35 : decode cX3_init 35 = .ok (.putfield 21, 3) := by decide +kernel
theorem dX3_init_38 : decode cX3_init 38 = .ok (.aload_n 0, 1) := by decide +kernel
theorem dX3_init_39 : decode cX3_init 39 = .ok (.sipush 180, 3) := by decide +kernel
theorem dX3_init_4 : decode cX3_init 4 = .ok (.aload_n 0, 1) := by decide +kernel
theorem dX3_init_42 : decode cX3_init 42 = .ok (.newarray .int, 2) := by decide +kernel
theorem dX3_init_44 : decode cX3_init 44 = .ok (.putfield 24, 3) := by decide +kernel
theorem dX3_init_47 : decode cX3_init 47 = .ok (.aload_n 0, 1) := by decide +kernel
theorem dX3_init_48 : decode cX3_init 48 = .ok (.bipush (-2), 2) := by decide +kernel
theorem dX3_init_5 : decode cX3_init 5 = .ok (.sipush 180, 3) := by decide +kernel
theorem dX3_init_50 : decode cX3_init 50 = .ok (.putfield 27, 3) := by decide +kernel
theorem dX3_init_53 : decode cX3_init 53 = .ok (.aload_n 0, 1) := by decide +kernel
theorem dX3_init_54 : decode cX3_init 54 = .ok (.aload_n 1, 1) := by decide +kernel
theorem dX3_init_55 : decode cX3_init 55 = .ok (.putfield 31, 3) := by decide +kernel
theorem dX3_init_58 : decode cX3_init 58 = .ok (.aload_n 0, 1) := by decide +kernel
theorem dX3_init_59 : decode cX3_init 59 = .ok (.aload_n 2, 1) := by decide +kernel
theorem dX3_init_60 : decode cX3_init 60 = .ok (.putfield 35, 3) := by decide +kernel
theorem dX3_init_63 : decode cX3_init 63 = .ok (.aload_n 0, 1) := by decide +kernel
theorem dX3_init_64 : decode cX3_init 64 = .ok (.aload_n 3, 1) := by decide +kernel
theorem dX3_init_65 : decode cX3_init 65 = .ok (.putfield 39, 3) := by decide +kernel
theorem dX3_init_68 : decode cX3_init 68 = .ok (.return_, 1) := by decide +kernel
theorem dX3_init_8 : decode cX3_init 8 = .ok (.newarray .int, 2) := by decide +kernel
theorem dX4_countSteps_0 : decode cX4_countSteps 0 = .ok (.iconst 0, 1) := by decide +kernel
theorem dX4_countSteps_1 : decode cX4_countSteps 1 = .ok (.istore_n 2, 1) := by decide +kernel
theorem dX4_countSteps_2 : decode cX4_countSteps 2 = .ok (.iconst 0, 1) := by decide +kernel
theorem dX4_countSteps_3 : decode cX4_countSteps 3 = .ok (.istore_n 3, 1) := by decide +kernel
theorem dX4_countSteps_4 : decode cX4_countSteps 4 = .ok (.aload_n 0, 1) := by decide +kernel
theorem dX4_countSteps_46 : decode cX4_countSteps 46 = .ok (.iload_n 2, 1) := by decide +kernel
theorem dX4_countSteps_47 : decode cX4_countSteps 47 = .ok (.ireturn, 1) := by decide +kernel
theorem dX4_countSteps_5 : decode cX4_countSteps 5 = .ok (.getfield 41, 3) := by decide +kernel
theorem dX4_countSteps_8 : decode cX4_countSteps 8 = .ok (.ifCond .eq 38, 3) := by decide +kernel
theorem dX4_forgetCounts_0 : decode cX4_forgetCounts 0 = .ok (.aload_n 0, 1) := by decide +kernel
theorem dX4_forgetCounts_1 : decode cX4_forgetCounts 1 = .ok (.iconst 0, 1) := by decide +kernel
theorem dX4_forgetCounts_10 : decode cX4_forgetCounts 10 = .ok (.aload_n 0, 1) := by decide +kernel
theorem dX4_forgetCounts_11 : decode cX4_forgetCounts 11 = .ok (.iconst 0, 1) := by decide +kernel
theorem dX4_forgetCounts_12 : decode cX4_forgetCounts 12 = .ok (.putfield 49, 3) := by decide +kernel
theorem dX4_forgetCounts_15 : decode cX4_forgetCounts 15 = .ok (.aload_n 0, 1) := by decide +kernel
theorem dX4_forgetCounts_16 : decode cX4_forgetCounts 16 = .ok (.iconst 0, 1) := by decide +kernel
theorem dX4_forgetCounts_17 : decode cX4_forgetCounts 17 = .ok (.putfield 52, 3) := by decide +kernel
theorem dX4_forgetCounts_2 : decode cX4_forgetCounts 2 = .ok (.putfield 41, 3) := by decide +kernel
theorem dX4_forgetCounts_20 : decode cX4_forgetCounts 20 = .ok (.aload_n 0, 1) := by decide +kernel
theorem dX4_forgetCounts_21 : decode cX4_forgetCounts 21 = .ok (.iconst 0, 1) := by decide +kernel
theorem dX4_forgetCounts_22 : decode cX4_forgetCounts 22 = .ok (.putfield 55, 3) := by decide +kernel
theorem dX4_forgetCounts_25 : decode cX4_forgetCounts 25 = .ok (.return_, 1) := by decide +kernel
theorem dX4_forgetCounts_5 : decode cX4_forgetCounts 5 = .ok (.aload_n 0, 1) := by decide +kernel
theorem dX4_forgetCounts_6 : decode cX4_forgetCounts 6 = .ok (.iconst 0, 1) := by decide +kernel
theorem dX4_forgetCounts_7 : decode cX4_forgetCounts 7 = .ok (.putfield 45, 3) := by decide +kernel
theorem dX4_init_0 : decode cX4_init 0 = .ok (.aload_n 0, 1) := by decide +kernel
theorem dX4_init_1 : decode cX4_init 1 = .ok (.invokespecial 3, 3) := by decide +kernel
theorem dX4_init_11 : decode cX4_init 11 = .ok (.putfield 11, 3) := by decide +kernel
theorem dX4_init_14 : decode cX4_init 14 = .ok (.aload_n 0, 1) := by decide +kernel
theorem dX4_init_15 : decode cX4_init 15 = .ok (.sipush 210, 3) := by decide +kernel
theorem dX4_init_18 : decode cX4_init 18 = .ok (.anewarray 17, 3) := by decide +kernel
theorem dX4_init_21 : decode cX4_init 21 = .ok (.putfield 19, 3) := by decide +kernel
theorem dX4_init_24 : decode cX4_init 24 = .ok (.aload_n 0, 1) := by decide +kernel
theorem dX4_init_25 : decode cX4_init 25 = .ok (.sipush 180, 3) := by decide +kernel
theorem dX4_init_28 : decode cX4_init 28 = .ok (.anewarray 23, 3) := by decide +kernel
theorem dX4_init_31 : decode cX4_init 31 = .ok (.putfield 25, 3) := by decide +kernel
theorem dX4_init_34 : decode cX4_init 34 = .ok (.aload_n 0, 1) := by decide +kernel
theorem dX4_init_35 : decode cX4_init 35 = .ok (.bipush 30, 2) := by decide +kernel
theorem dX4_init_37 : decode cX4_init 37 = .ok (.newarray .int, 2) := by decide +kernel
theorem dX4_init_39 : decode cX4_init 39 = .ok (.putfield 29, 3) := by decide +kernel
theorem dX4_init_4 : decode cX4_init 4 = .ok (.aload_n 0, 1) := by decide +kernel
theorem dX4_init_42 : decode cX4_init 42 = .ok (.aload_n 0, 1) := by decide +kernel
theorem dX4_init_43 : decode cX4_init 43 = .ok (.aload_n 1, 1) := by decide +kernel
theorem dX4_init_44 : decode cX4_init 44 = .ok (.putfield 33, 3) := by decide +kernel
theorem dX4_init_47 : decode cX4_init 47 = .ok (.aload_n 0, 1) := by decide +kernel
theorem dX4_init_48 : decode cX4_init 48 = .ok (.aload_n 2, 1) := by decide +kernel
theorem dX4_init_49 : decode cX4_init 49 = .ok (.putfield 37, 3) := by decide +kernel
theorem dX4_init_5 : decode cX4_init 5 = .ok (.sipush 361, 3) := by decide +kernel
theorem dX4_init_52 : decode cX4_init 52 = .ok (.return_, 1) := by decide +kernel
theorem dX4_init_8 : decode cX4_init 8 = .ok (.anewarray 9, 3) := by decide +kernel
theorem dX5_init_0 : decode cX5_init 0 = .ok (.aload_n 0, 1) := by decide +kernel
theorem dX5_init_1 : decode cX5_init 1 = .ok (.invokespecial 3, 3) := by decide +kernel
theorem dX5_init_10 : decode cX5_init 10 = .ok (.putfield 9, 3) := by decide +kernel
theorem dX5_init_13 : decode cX5_init 13 = .ok (.aload_n 0, 1) := by decide +kernel
theorem dX5_init_14 : decode cX5_init 14 = .ok (.iconst (-1), 1) := by decide +kernel
theorem dX5_init_15 : decode cX5_init 15 = .ok (.putfield 15, 3) := by decide +kernel
theorem dX5_init_18 : decode cX5_init 18 = .ok (.aload_n 0, 1) := by decide +kernel
theorem dX5_init_19 : decode cX5_init 19 = .ok (.bipush 8, 2) := by decide +kernel
theorem dX5_init_21 : decode cX5_init 21 = .ok (.newarray .int, 2) := by decide +kernel
theorem dX5_init_23 : decode cX5_init 23 = .ok (.putfield 19, 3) := by decide +kernel
theorem dX5_init_26 : decode cX5_init 26 = .ok (.return_, 1) := by decide +kernel
theorem dX5_init_4 : decode cX5_init 4 = .ok (.aload_n 0, 1) := by decide +kernel
theorem dX5_init_5 : decode cX5_init 5 = .ok (.sipush 600, 3) := by decide +kernel
theorem dX5_init_8 : decode cX5_init 8 = .ok (.newarray .int, 2) := by decide +kernel
theorem dX5_nextToken_0 : decode cX5_nextToken 0 = .ok (.aload_n 0, 1) := by decide +kernel
theorem dX5_nextToken_1 : decode cX5_nextToken 1 = .ok (.aload_n 0, 1) := by decide +kernel
theorem dX5_nextToken_12 : decode cX5_nextToken 12 = .ok (.aload_n 0, 1) := by decide +kernel
theorem dX5_nextToken_13 : decode cX5_nextToken 13 = .ok (.getfield 22, 3) := by decide +kernel
theorem dX5_nextToken_139 : decode cX5_nextToken 139 = .ok (.return_, 1) := by decide +kernel
theorem dX5_nextToken_16 : decode cX5_nextToken 16 = .ok (.if_icmp .ge 44, 3) := by decide +kernel
theorem dX5_nextToken_2 : decode cX5_nextToken 2 = .ok (.getfield 37, 3) := by decide +kernel
theorem dX5_nextToken_5 : decode cX5_nextToken 5 = .ok (.putfield 49, 3) := by decide +kernel
theorem dX5_nextToken_60 : decode cX5_nextToken 60 = .ok (.aload_n 0, 1) := by decide +kernel
theorem dX5_nextToken_61 : decode cX5_nextToken 61 = .ok (.getfield 49, 3) := by decide +kernel
theorem dX5_nextToken_64 : decode cX5_nextToken 64 = .ok (.aload_n 0, 1) := by decide +kernel
theorem dX5_nextToken_65 : decode cX5_nextToken 65 = .ok (.getfield 22, 3) := by decide +kernel
theorem dX5_nextToken_68 : decode cX5_nextToken 68 = .ok (.if_icmp .lt 11, 3) := by decide +kernel
theorem dX5_nextToken_71 : decode cX5_nextToken 71 = .ok (.aload_n 0, 1) := by decide +kernel
theorem dX5_nextToken_72 : decode cX5_nextToken 72 = .ok (.iconst (-1), 1) := by decide +kernel
theorem dX5_nextToken_73 : decode cX5_nextToken 73 = .ok (.putfield 43, 3) := by decide +kernel
theorem dX5_nextToken_76 : decode cX5_nextToken 76 = .ok (.goto 63, 3) := by decide +kernel
theorem dX5_nextToken_8 : decode cX5_nextToken 8 = .ok (.aload_n 0, 1) := by decide +kernel
theorem dX5_nextToken_9 : decode cX5_nextToken 9 = .ok (.getfield 49, 3) := by decide +kernel
theorem dX5_read_0 : decode cX5_read 0 = .ok (.aload_n 0, 1) := by decide +kernel
theorem dX5_read_1 : decode cX5_read 1 = .ok (.aload_n 1, 1) := by decide +kernel
theorem dX5_read_12 : decode cX5_read 12 = .ok (.aload_n 0, 1) := by decide +kernel
theorem dX5_read_13 : decode cX5_read 13 = .ok (.iconst 0, 1) := by decide +kernel
theorem dX5_read_14 : decode cX5_read 14 = .ok (.putfield 34, 3) := by decide +kernel
theorem dX5_read_17 : decode cX5_read 17 = .ok (.aload_n 0, 1) := by decide +kernel
theorem dX5_read_18 : decode cX5_read 18 = .ok (.iconst (-1), 1) := by decide +kernel
theorem dX5_read_19 : decode cX5_read 19 = .ok (.putfield 15, 3) := by decide +kernel
theorem dX5_read_2 : decode cX5_read 2 = .ok (.putfield 25, 3) := by decide +kernel
theorem dX5_read_22 : decode cX5_read 22 = .ok (.aload_n 0, 1) := by decide +kernel
theorem dX5_read_23 : decode cX5_read 23 = .ok (.iconst 0, 1) := by decide +kernel
theorem dX5_read_24 : decode cX5_read 24 = .ok (.putfield 37, 3) := by decide +kernel
theorem dX5_read_27 : decode cX5_read 27 = .ok (.aload_n 0, 1) := by decide +kernel
theorem dX5_read_28 : decode cX5_read 28 = .ok (.invokevirtual 40, 3) := by decide +kernel
theorem dX5_read_31 : decode cX5_read 31 = .ok (.iconst 0, 1) := by decide +kernel
theorem dX5_read_32 : decode cX5_read 32 = .ok (.istore_n 2, 1) := by decide +kernel
theorem dX5_read_33 : decode cX5_read 33 = .ok (.iload_n 2, 1) := by decide +kernel
theorem dX5_read_34 : decode cX5_read 34 = .ok (.sipush 600, 3) := by decide +kernel
theorem dX5_read_37 : decode cX5_read 37 = .ok (.if_icmp .ge 28, 3) := by decide +kernel
theorem dX5_read_40 : decode cX5_read 40 = .ok (.aload_n 0, 1) := by decide +kernel
theorem dX5_read_41 : decode cX5_read 41 = .ok (.getfield 34, 3) := by decide +kernel
theorem dX5_read_44 : decode cX5_read 44 = .ok (.ifCond .ne 21, 3) := by decide +kernel
theorem dX5_read_47 : decode cX5_read 47 = .ok (.aload_n 0, 1) := by decide +kernel
theorem dX5_read_48 : decode cX5_read 48 = .ok (.getfield 43, 3) := by decide +kernel
theorem dX5_read_5 : decode cX5_read 5 = .ok (.aload_n 0, 1) := by decide +kernel
theorem dX5_read_51 : decode cX5_read 51 = .ok (.iconst (-1), 1) := by decide +kernel
theorem dX5_read_52 : decode cX5_read 52 = .ok (.if_icmp .eq 13, 3) := by decide +kernel
theorem dX5_read_6 : decode cX5_read 6 = .ok (.getfield 25, 3) := by decide +kernel
theorem dX5_read_65 : decode cX5_read 65 = .ok (.return_, 1) := by decide +kernel
theorem dX5_read_9 : decode cX5_read 9 = .ok (.invokevirtual 29, 3) := by decide +kernel
theorem dX5_take_0 : decode cX5_take 0 = .ok (.bipush 24, 2) := by decide +kernel
theorem dX5_take_11 : decode cX5_take 11 = .ok (.sipush 600, 3) := by decide +kernel
theorem dX5_take_14 : decode cX5_take 14 = .ok (.if_icmp .ge 32, 3) := by decide +kernel
theorem dX5_take_17 : decode cX5_take 17 = .ok (.aload_n 0, 1) := by decide +kernel
theorem dX5_take_18 : decode cX5_take 18 = .ok (.getfield 9, 3) := by decide +kernel
theorem dX5_take_2 : decode cX5_take 2 = .ok (.istore_n 2, 1) := by decide +kernel
theorem dX5_take_21 : decode cX5_take 21 = .ok (.aload_n 0, 1) := by decide +kernel
theorem dX5_take_22 : decode cX5_take 22 = .ok (.dup, 1) := by decide +kernel
theorem dX5_take_23 : decode cX5_take 23 = .ok (.getfield 22, 3) := by decide +kernel
theorem dX5_take_26 : decode cX5_take 26 = .ok (.dup_x1, 1) := by decide +kernel
theorem dX5_take_27 : decode cX5_take 27 = .ok (.iconst 1, 1) := by decide +kernel
theorem dX5_take_28 : decode cX5_take 28 = .ok (.iadd, 1) := by decide +kernel
theorem dX5_take_29 : decode cX5_take 29 = .ok (.putfield 22, 3) := by decide +kernel
theorem dX5_take_3 : decode cX5_take 3 = .ok (.iload_n 2, 1) := by decide +kernel
theorem dX5_take_32 : decode cX5_take 32 = .ok (.iload_n 1, 1) := by decide +kernel
theorem dX5_take_33 : decode cX5_take 33 = .ok (.iload_n 2, 1) := by decide +kernel
theorem dX5_take_34 : decode cX5_take 34 = .ok (.ishr, 1) := by decide +kernel
theorem dX5_take_35 : decode cX5_take 35 = .ok (.sipush 255, 3) := by decide +kernel
theorem dX5_take_38 : decode cX5_take 38 = .ok (.iand, 1) := by decide +kernel
theorem dX5_take_39 : decode cX5_take 39 = .ok (.iastore, 1) := by decide +kernel
theorem dX5_take_4 : decode cX5_take 4 = .ok (.ifCond .lt 42, 3) := by decide +kernel
theorem dX5_take_40 : decode cX5_take 40 = .ok (.iinc 2 (-8), 3) := by decide +kernel
theorem dX5_take_43 : decode cX5_take 43 = .ok (.goto (-40), 3) := by decide +kernel
theorem dX5_take_46 : decode cX5_take 46 = .ok (.return_, 1) := by decide +kernel
theorem dX5_take_7 : decode cX5_take 7 = .ok (.aload_n 0, 1) := by decide +kernel
theorem dX5_take_8 : decode cX5_take 8 = .ok (.getfield 22, 3) := by decide +kernel
theorem dX8_all_0 : decode cX8_all 0 = .ok (.iconst 1, 1) := by decide +kernel
theorem dX8_all_1 : decode cX8_all 1 = .ok (.aload_n 0, 1) := by decide +kernel
theorem dX8_all_2 : decode cX8_all 2 = .ok (.getfield 41, 3) := by decide +kernel
theorem dX8_all_5 : decode cX8_all 5 = .ok (.ishl, 1) := by decide +kernel
theorem dX8_all_6 : decode cX8_all 6 = .ok (.iconst 1, 1) := by decide +kernel
theorem dX8_all_7 : decode cX8_all 7 = .ok (.isub, 1) := by decide +kernel
theorem dX8_all_8 : decode cX8_all 8 = .ok (.ireturn, 1) := by decide +kernel
theorem dX8_clear_0 : decode cX8_clear 0 = .ok (.aload_n 0, 1) := by decide +kernel
theorem dX8_clear_1 : decode cX8_clear 1 = .ok (.iconst 0, 1) := by decide +kernel
theorem dX8_clear_10 : decode cX8_clear 10 = .ok (.return_, 1) := by decide +kernel
theorem dX8_clear_2 : decode cX8_clear 2 = .ok (.putfield 37, 3) := by decide +kernel
theorem dX8_clear_5 : decode cX8_clear 5 = .ok (.aload_n 0, 1) := by decide +kernel
theorem dX8_clear_6 : decode cX8_clear 6 = .ok (.iconst 0, 1) := by decide +kernel
theorem dX8_clear_7 : decode cX8_clear 7 = .ok (.putfield 41, 3) := by decide +kernel
theorem dX8_countLiterals_0 : decode cX8_countLiterals 0 = .ok (.iconst 0, 1) := by decide +kernel
theorem dX8_countLiterals_1 : decode cX8_countLiterals 1 = .ok (.istore_n 1, 1) := by decide +kernel
theorem dX8_countLiterals_2 : decode cX8_countLiterals 2 = .ok (.iconst 0, 1) := by decide +kernel
theorem dX8_countLiterals_27 : decode cX8_countLiterals 27 = .ok (.iload_n 1, 1) := by decide +kernel
theorem dX8_countLiterals_28 : decode cX8_countLiterals 28 = .ok (.ireturn, 1) := by decide +kernel
theorem dX8_countLiterals_3 : decode cX8_countLiterals 3 = .ok (.istore_n 2, 1) := by decide +kernel
theorem dX8_countLiterals_4 : decode cX8_countLiterals 4 = .ok (.iload_n 2, 1) := by decide +kernel
theorem dX8_countLiterals_5 : decode cX8_countLiterals 5 = .ok (.aload_n 0, 1) := by decide +kernel
theorem dX8_countLiterals_6 : decode cX8_countLiterals 6 = .ok (.getfield 41, 3) := by decide +kernel
theorem dX8_countLiterals_9 : decode cX8_countLiterals 9 = .ok (.if_icmp .ge 18, 3) := by decide +kernel
theorem dX8_countNames_0 : decode cX8_countNames 0 = .ok (.iconst 0, 1) := by decide +kernel
theorem dX8_countNames_1 : decode cX8_countNames 1 = .ok (.istore_n 1, 1) := by decide +kernel
theorem dX8_countNames_2 : decode cX8_countNames 2 = .ok (.iconst 0, 1) := by decide +kernel
theorem dX8_countNames_3 : decode cX8_countNames 3 = .ok (.istore_n 2, 1) := by decide +kernel
theorem dX8_countNames_4 : decode cX8_countNames 4 = .ok (.iload_n 2, 1) := by decide +kernel
theorem dX8_countNames_5 : decode cX8_countNames 5 = .ok (.aload_n 0, 1) := by decide +kernel
theorem dX8_countNames_53 : decode cX8_countNames 53 = .ok (.iload_n 1, 1) := by decide +kernel
theorem dX8_countNames_54 : decode cX8_countNames 54 = .ok (.ireturn, 1) := by decide +kernel
theorem dX8_countNames_6 : decode cX8_countNames 6 = .ok (.getfield 41, 3) := by decide +kernel
theorem dX8_countNames_9 : decode cX8_countNames 9 = .ok (.if_icmp .ge 44, 3) := by decide +kernel
theorem dX8_init_0 : decode cX8_init 0 = .ok (.aload_n 0, 1) := by decide +kernel
theorem dX8_init_1 : decode cX8_init 1 = .ok (.invokespecial 3, 3) := by decide +kernel
theorem dX8_init_10 : decode cX8_init 10 = .ok (.putfield 9, 3) := by decide +kernel
theorem dX8_init_13 : decode cX8_init 13 = .ok (.aload_n 0, 1) := by decide +kernel
theorem dX8_init_14 : decode cX8_init 14 = .ok (.sipush 300, 3) := by decide +kernel
theorem dX8_init_17 : decode cX8_init 17 = .ok (.newarray .int, 2) := by decide +kernel
theorem dX8_init_19 : decode cX8_init 19 = .ok (.putfield 15, 3) := by decide +kernel
theorem dX8_init_22 : decode cX8_init 22 = .ok (.aload_n 0, 1) := by decide +kernel
theorem dX8_init_23 : decode cX8_init 23 = .ok (.sipush 300, 3) := by decide +kernel
theorem dX8_init_26 : decode cX8_init 26 = .ok (.newarray .int, 2) := by decide +kernel
theorem dX8_init_28 : decode cX8_init 28 = .ok (.putfield 19, 3) := by decide +kernel
theorem dX8_init_31 : decode cX8_init 31 = .ok (.aload_n 0, 1) := by decide +kernel
theorem dX8_init_32 : decode cX8_init 32 = .ok (.sipush 900, 3) := by decide +kernel
theorem dX8_init_35 : decode cX8_init 35 = .ok (.newarray .int, 2) := by decide +kernel
theorem dX8_init_37 : decode cX8_init 37 = .ok (.putfield 22, 3) := by decide +kernel
theorem dX8_init_4 : decode cX8_init 4 = .ok (.aload_n 0, 1) := by decide +kernel
theorem dX8_init_40 : decode cX8_init 40 = .ok (.aload_n 0, 1) := by decide +kernel
theorem dX8_init_41 : decode cX8_init 41 = .ok (.bipush 16, 2) := by decide +kernel
theorem dX8_init_43 : decode cX8_init 43 = .ok (.newarray .int, 2) := by decide +kernel
theorem dX8_init_45 : decode cX8_init 45 = .ok (.putfield 25, 3) := by decide +kernel
theorem dX8_init_48 : decode cX8_init 48 = .ok (.aload_n 0, 1) := by decide +kernel
theorem dX8_init_49 : decode cX8_init 49 = .ok (.bipush 16, 2) := by decide +kernel
theorem dX8_init_5 : decode cX8_init 5 = .ok (.sipush 300, 3) := by decide +kernel
theorem dX8_init_51 : decode cX8_init 51 = .ok (.newarray .int, 2) := by decide +kernel
theorem dX8_init_53 : decode cX8_init 53 = .ok (.putfield 28, 3) := by decide +kernel
theorem dX8_init_56 : decode cX8_init 56 = .ok (.aload_n 0, 1) := by decide +kernel
theorem dX8_init_57 : decode cX8_init 57 = .ok (.bipush 16, 2) := by decide +kernel
theorem dX8_init_59 : decode cX8_init 59 = .ok (.newarray .int, 2) := by decide +kernel
theorem dX8_init_61 : decode cX8_init 61 = .ok (.putfield 31, 3) := by decide +kernel
theorem dX8_init_64 : decode cX8_init 64 = .ok (.aload_n 0, 1) := by decide +kernel
theorem dX8_init_65 : decode cX8_init 65 = .ok (.bipush 96, 2) := by decide +kernel
theorem dX8_init_67 : decode cX8_init 67 = .ok (.newarray .int, 2) := by decide +kernel
theorem dX8_init_69 : decode cX8_init 69 = .ok (.putfield 34, 3) := by decide +kernel
theorem dX8_init_72 : decode cX8_init 72 = .ok (.return_, 1) := by decide +kernel
theorem dX8_init_8 : decode cX8_init 8 = .ok (.newarray .long, 2) := by decide +kernel
theorem dX8_isClause_0 : decode cX8_isClause 0 = .ok (.iload_n 1, 1) := by decide +kernel
theorem dX8_isClause_1 : decode cX8_isClause 1 = .ok (.ifCond .lt 15, 3) := by decide +kernel
theorem dX8_isClause_16 : decode cX8_isClause 16 = .ok (.iconst 0, 1) := by decide +kernel
theorem dX8_isClause_17 : decode cX8_isClause 17 = .ok (.ireturn, 1) := by decide +kernel
theorem dX8_isClause_4 : decode cX8_isClause 4 = .ok (.iload_n 1, 1) := by decide +kernel
theorem dX8_isClause_5 : decode cX8_isClause 5 = .ok (.aload_n 0, 1) := by decide +kernel
theorem dX8_isClause_6 : decode cX8_isClause 6 = .ok (.getfield 41, 3) := by decide +kernel
theorem dX8_isClause_9 : decode cX8_isClause 9 = .ok (.if_icmp .ge 7, 3) := by decide +kernel
theorem dX8_isLiteral_0 : decode cX8_isLiteral 0 = .ok (.aload_n 0, 1) := by decide +kernel
theorem dX8_isLiteral_1 : decode cX8_isLiteral 1 = .ok (.iload_n 1, 1) := by decide +kernel
theorem dX8_isLiteral_2 : decode cX8_isLiteral 2 = .ok (.invokevirtual 50, 3) := by decide +kernel
theorem dX8_isLiteral_26 : decode cX8_isLiteral 26 = .ok (.iconst 0, 1) := by decide +kernel
theorem dX8_isLiteral_27 : decode cX8_isLiteral 27 = .ok (.ireturn, 1) := by decide +kernel
theorem dX8_isLiteral_5 : decode cX8_isLiteral 5 = .ok (.ifCond .eq 21, 3) := by decide +kernel
theorem dX9_init_0 : decode cX9_init 0 = .ok (.aload_n 0, 1) := by decide +kernel
theorem dX9_init_1 : decode cX9_init 1 = .ok (.invokespecial 3, 3) := by decide +kernel
theorem dX9_init_10 : decode cX9_init 10 = .ok (.putfield 9, 3) := by decide +kernel
theorem dX9_init_13 : decode cX9_init 13 = .ok (.aload_n 0, 1) := by decide +kernel
theorem dX9_init_14 : decode cX9_init 14 = .ok (.sipush 616, 3) := by decide +kernel
theorem dX9_init_17 : decode cX9_init 17 = .ok (.newarray .int, 2) := by decide +kernel
theorem dX9_init_19 : decode cX9_init 19 = .ok (.putfield 15, 3) := by decide +kernel
theorem dX9_init_22 : decode cX9_init 22 = .ok (.aload_n 0, 1) := by decide +kernel
theorem dX9_init_23 : decode cX9_init 23 = .ok (.sipush 2048, 3) := by decide +kernel
theorem dX9_init_26 : decode cX9_init 26 = .ok (.newarray .int, 2) := by decide +kernel
theorem dX9_init_28 : decode cX9_init 28 = .ok (.putfield 18, 3) := by decide +kernel
theorem dX9_init_31 : decode cX9_init 31 = .ok (.aload_n 0, 1) := by decide +kernel
theorem dX9_init_32 : decode cX9_init 32 = .ok (.aload_n 1, 1) := by decide +kernel
theorem dX9_init_33 : decode cX9_init 33 = .ok (.putfield 21, 3) := by decide +kernel
theorem dX9_init_36 : decode cX9_init 36 = .ok (.aload_n 0, 1) := by decide +kernel
theorem dX9_init_37 : decode cX9_init 37 = .ok (.aload_n 2, 1) := by decide +kernel
theorem dX9_init_38 : decode cX9_init 38 = .ok (.putfield 25, 3) := by decide +kernel
theorem dX9_init_4 : decode cX9_init 4 = .ok (.aload_n 0, 1) := by decide +kernel
theorem dX9_init_41 : decode cX9_init 41 = .ok (.return_, 1) := by decide +kernel
theorem dX9_init_5 : decode cX9_init 5 = .ok (.sipush 600, 3) := by decide +kernel
theorem dX9_init_8 : decode cX9_init 8 = .ok (.newarray .int, 2) := by decide +kernel
