theorem dX5_leastBehind_7 : decode cX5_leastBehind 7 = .ok (.if_icmp .lt 14, 3) := by decide +kernel
theorem dX5_leastBehind_10 : decode cX5_leastBehind 10 = .ok (.iload_n 2, 1) := by decide +kernel
theorem dX5_leastBehind_11 : decode cX5_leastBehind 11 = .ok (.ifCond .ne 7, 3) := by decide +kernel
theorem dX5_leastBehind_14 : decode cX5_leastBehind 14 = .ok (.iconst 0, 1) := by decide +kernel
theorem dX5_leastBehind_15 : decode cX5_leastBehind 15 = .ok (.goto 5, 3) := by decide +kernel
theorem dX5_leastBehind_18 : decode cX5_leastBehind 18 = .ok (.ldc 59, 2) := by decide +kernel
theorem dX5_leastBehind_20 : decode cX5_leastBehind 20 = .ok (.ireturn, 1) := by decide +kernel
theorem dX5_leastBehind_21 : decode cX5_leastBehind 21 = .ok (.aload_n 0, 1) := by decide +kernel
theorem dX5_leastBehind_22 : decode cX5_leastBehind 22 = .ok (.iload_n 1, 1) := by decide +kernel
theorem dX5_leastBehind_23 : decode cX5_leastBehind 23 = .ok (.iconst 1, 1) := by decide +kernel
theorem dX5_leastBehind_24 : decode cX5_leastBehind 24 = .ok (.iadd, 1) := by decide +kernel
theorem dX5_leastBehind_25 : decode cX5_leastBehind 25 = .ok (.invokevirtual 66, 3) := by decide +kernel
theorem dX5_leastBehind_28 : decode cX5_leastBehind 28 = .ok (.istore 4, 2) := by decide +kernel
theorem dX5_leastBehind_30 : decode cX5_leastBehind 30 = .ok (.ldc 59, 2) := by decide +kernel
theorem dX5_leastBehind_32 : decode cX5_leastBehind 32 = .ok (.istore 5, 2) := by decide +kernel
theorem dX5_leastBehind_34 : decode cX5_leastBehind 34 = .ok (.iconst 0, 1) := by decide +kernel
theorem dX5_leastBehind_35 : decode cX5_leastBehind 35 = .ok (.istore 6, 2) := by decide +kernel
theorem dX5_leastBehind_37 : decode cX5_leastBehind 37 = .ok (.iload 6, 2) := by decide +kernel
theorem dX5_leastBehind_39 : decode cX5_leastBehind 39 = .ok (.iload 4, 2) := by decide +kernel
theorem dX5_leastBehind_41 : decode cX5_leastBehind 41 = .ok (.if_icmp .ge 42, 3) := by decide +kernel
theorem dX5_leastBehind_44 : decode cX5_leastBehind 44 = .ok (.iload 6, 2) := by decide +kernel
theorem dX5_leastBehind_46 : decode cX5_leastBehind 46 = .ok (.iload_n 3, 1) := by decide +kernel
theorem dX5_leastBehind_47 : decode cX5_leastBehind 47 = .ok (.iand, 1) := by decide +kernel
theorem dX5_leastBehind_48 : decode cX5_leastBehind 48 = .ok (.ifCond .ne 29, 3) := by decide +kernel
theorem dX5_leastBehind_51 : decode cX5_leastBehind 51 = .ok (.iload 6, 2) := by decide +kernel
theorem dX5_leastBehind_53 : decode cX5_leastBehind 53 = .ok (.invokestatic 89, 3) := by decide +kernel
theorem dX5_leastBehind_56 : decode cX5_leastBehind 56 = .ok (.iload_n 2, 1) := by decide +kernel
theorem dX5_leastBehind_57 : decode cX5_leastBehind 57 = .ok (.if_icmp .ne 20, 3) := by decide +kernel
theorem dX5_leastBehind_60 : decode cX5_leastBehind 60 = .ok (.iload 5, 2) := by decide +kernel
theorem dX5_leastBehind_62 : decode cX5_leastBehind 62 = .ok (.aload_n 0, 1) := by decide +kernel
theorem dX5_leastBehind_63 : decode cX5_leastBehind 63 = .ok (.getfield 15, 3) := by decide +kernel
theorem dX5_leastBehind_66 : decode cX5_leastBehind 66 = .ok (.iload 4, 2) := by decide +kernel
theorem dX5_leastBehind_68 : decode cX5_leastBehind 68 = .ok (.iload 6, 2) := by decide +kernel
theorem dX5_leastBehind_70 : decode cX5_leastBehind 70 = .ok (.iadd, 1) := by decide +kernel
theorem dX5_leastBehind_71 : decode cX5_leastBehind 71 = .ok (.iaload, 1) := by decide +kernel
theorem dX5_leastBehind_72 : decode cX5_leastBehind 72 = .ok (.invokestatic 44, 3) := by decide +kernel
theorem dX5_leastBehind_75 : decode cX5_leastBehind 75 = .ok (.istore 5, 2) := by decide +kernel
theorem dX5_leastBehind_77 : decode cX5_leastBehind 77 = .ok (.iinc 6 1, 3) := by decide +kernel
theorem dX5_leastBehind_80 : decode cX5_leastBehind 80 = .ok (.goto (-43), 3) := by decide +kernel
theorem dX5_leastBehind_83 : decode cX5_leastBehind 83 = .ok (.iload 5, 2) := by decide +kernel
theorem dX5_leastBehind_85 : decode cX5_leastBehind 85 = .ok (.ireturn, 1) := by decide +kernel
theorem dX6_init_0 : decode cX6_init 0 = .ok (.aload_n 0, 1) := by decide +kernel
theorem dX6_init_1 : decode cX6_init 1 = .ok (.invokespecial 5, 3) := by decide +kernel
theorem dX6_init_4 : decode cX6_init 4 = .ok (.aload_n 0, 1) := by decide +kernel
theorem dX6_init_5 : decode cX6_init 5 = .ok (.bipush 46, 2) := by decide +kernel
theorem dX6_init_7 : decode cX6_init 7 = .ok (.newarray .int, 2) := by decide +kernel
theorem dX6_init_9 : decode cX6_init 9 = .ok (.putfield 11, 3) := by decide +kernel
theorem dX6_init_12 : decode cX6_init 12 = .ok (.getstatic 15, 3) := by decide +kernel
theorem dX6_init_15 : decode cX6_init 15 = .ok (.iconst 0, 1) := by decide +kernel
theorem dX6_init_16 : decode cX6_init 16 = .ok (.aload_n 0, 1) := by decide +kernel
theorem dX6_init_17 : decode cX6_init 17 = .ok (.getfield 11, 3) := by decide +kernel
theorem dX6_init_20 : decode cX6_init 20 = .ok (.iconst 1, 1) := by decide +kernel
theorem dX6_init_21 : decode cX6_init 21 = .ok (.iconst 5, 1) := by decide +kernel
theorem dX6_init_22 : decode cX6_init 22 = .ok (.invokestatic 18, 3) := by decide +kernel
theorem dX6_init_25 : decode cX6_init 25 = .ok (.return_, 1) := by decide +kernel
theorem dX6_canBe_0 : decode cX6_canBe 0 = .ok (.iload_n 0, 1) := by decide +kernel
theorem dX6_canBe_1 : decode cX6_canBe 1 = .ok (.ifCond .lt 34, 3) := by decide +kernel
theorem dX6_canBe_4 : decode cX6_canBe 4 = .ok (.iload_n 0, 1) := by decide +kernel
theorem dX6_canBe_5 : decode cX6_canBe 5 = .ok (.bipush 99, 2) := by decide +kernel
theorem dX6_canBe_7 : decode cX6_canBe 7 = .ok (.if_icmp .gt 28, 3) := by decide +kernel
theorem dX6_canBe_10 : decode cX6_canBe 10 = .ok (.iload_n 1, 1) := by decide +kernel
theorem dX6_canBe_11 : decode cX6_canBe 11 = .ok (.iconst 1, 1) := by decide +kernel
theorem dX6_canBe_12 : decode cX6_canBe 12 = .ok (.if_icmp .lt 23, 3) := by decide +kernel
theorem dX6_canBe_15 : decode cX6_canBe 15 = .ok (.iload_n 1, 1) := by decide +kernel
theorem dX6_canBe_16 : decode cX6_canBe 16 = .ok (.bipush 32, 2) := by decide +kernel
theorem dX6_canBe_18 : decode cX6_canBe 18 = .ok (.if_icmp .gt 17, 3) := by decide +kernel
theorem dX6_canBe_21 : decode cX6_canBe 21 = .ok (.iload_n 2, 1) := by decide +kernel
theorem dX6_canBe_22 : decode cX6_canBe 22 = .ok (.ifCond .lt 13, 3) := by decide +kernel
theorem dX6_canBe_25 : decode cX6_canBe 25 = .ok (.iload_n 2, 1) := by decide +kernel
theorem dX6_canBe_26 : decode cX6_canBe 26 = .ok (.bipush 127, 2) := by decide +kernel
theorem dX6_canBe_28 : decode cX6_canBe 28 = .ok (.if_icmp .gt 7, 3) := by decide +kernel
theorem dX6_canBe_31 : decode cX6_canBe 31 = .ok (.iconst 1, 1) := by decide +kernel
theorem dX6_canBe_32 : decode cX6_canBe 32 = .ok (.goto 4, 3) := by decide +kernel
theorem dX6_canBe_35 : decode cX6_canBe 35 = .ok (.iconst 0, 1) := by decide +kernel
theorem dX6_canBe_36 : decode cX6_canBe 36 = .ok (.ireturn, 1) := by decide +kernel
theorem dX6_canBeTerm_0 : decode cX6_canBeTerm 0 = .ok (.iload_n 0, 1) := by decide +kernel
theorem dX6_canBeTerm_1 : decode cX6_canBeTerm 1 = .ok (.ifCond .lt 25, 3) := by decide +kernel
theorem dX6_canBeTerm_4 : decode cX6_canBeTerm 4 = .ok (.iload_n 0, 1) := by decide +kernel
theorem dX6_canBeTerm_5 : decode cX6_canBeTerm 5 = .ok (.iconst 5, 1) := by decide +kernel
theorem dX6_canBeTerm_6 : decode cX6_canBeTerm 6 = .ok (.if_icmp .ge 20, 3) := by decide +kernel
theorem dX6_canBeTerm_9 : decode cX6_canBeTerm 9 = .ok (.iload_n 1, 1) := by decide +kernel
theorem dX6_canBeTerm_10 : decode cX6_canBeTerm 10 = .ok (.ifCond .lt 16, 3) := by decide +kernel
theorem dX6_canBeTerm_13 : decode cX6_canBeTerm 13 = .ok (.iload_n 1, 1) := by decide +kernel
theorem dX6_canBeTerm_14 : decode cX6_canBeTerm 14 = .ok (.getstatic 24, 3) := by decide +kernel
theorem dX6_canBeTerm_17 : decode cX6_canBeTerm 17 = .ok (.iload_n 0, 1) := by decide +kernel
theorem dX6_canBeTerm_18 : decode cX6_canBeTerm 18 = .ok (.iaload, 1) := by decide +kernel
theorem dX6_canBeTerm_19 : decode cX6_canBeTerm 19 = .ok (.if_icmp .gt 7, 3) := by decide +kernel
theorem dX6_canBeTerm_22 : decode cX6_canBeTerm 22 = .ok (.iconst 1, 1) := by decide +kernel
theorem dX6_canBeTerm_23 : decode cX6_canBeTerm 23 = .ok (.goto 4, 3) := by decide +kernel
theorem dX6_canBeTerm_26 : decode cX6_canBeTerm 26 = .ok (.iconst 0, 1) := by decide +kernel
theorem dX6_canBeTerm_27 : decode cX6_canBeTerm 27 = .ok (.ireturn, 1) := by decide +kernel
theorem dX6_count_0 : decode cX6_count 0 = .ok (.aload_n 0, 1) := by decide +kernel
theorem dX6_count_1 : decode cX6_count 1 = .ok (.getfield 11, 3) := by decide +kernel
theorem dX6_count_4 : decode cX6_count 4 = .ok (.iconst 0, 1) := by decide +kernel
theorem dX6_count_5 : decode cX6_count 5 = .ok (.iaload, 1) := by decide +kernel
theorem dX6_count_6 : decode cX6_count 6 = .ok (.ireturn, 1) := by decide +kernel
theorem dX6_edition_0 : decode cX6_edition 0 = .ok (.aload_n 0, 1) := by decide +kernel
theorem dX6_edition_1 : decode cX6_edition 1 = .ok (.getfield 27, 3) := by decide +kernel
theorem dX6_edition_4 : decode cX6_edition 4 = .ok (.ireturn, 1) := by decide +kernel
theorem dX6_isFull_0 : decode cX6_isFull 0 = .ok (.aload_n 0, 1) := by decide +kernel
theorem dX6_isFull_1 : decode cX6_isFull 1 = .ok (.getfield 11, 3) := by decide +kernel
theorem dX6_isFull_4 : decode cX6_isFull 4 = .ok (.iconst 0, 1) := by decide +kernel
theorem dX6_isFull_5 : decode cX6_isFull 5 = .ok (.iaload, 1) := by decide +kernel
theorem dX6_isFull_6 : decode cX6_isFull 6 = .ok (.bipush 10, 2) := by decide +kernel
theorem dX6_isFull_8 : decode cX6_isFull 8 = .ok (.if_icmp .lt 7, 3) := by decide +kernel
theorem dX6_isFull_11 : decode cX6_isFull 11 = .ok (.iconst 1, 1) := by decide +kernel
theorem dX6_isFull_12 : decode cX6_isFull 12 = .ok (.goto 4, 3) := by decide +kernel
theorem dX6_isFull_15 : decode cX6_isFull 15 = .ok (.iconst 0, 1) := by decide +kernel
theorem dX6_isFull_16 : decode cX6_isFull 16 = .ok (.ireturn, 1) := by decide +kernel
theorem dX6_has_0 : decode cX6_has 0 = .ok (.iload_n 1, 1) := by decide +kernel
theorem dX6_has_1 : decode cX6_has 1 = .ok (.ifCond .lt 23, 3) := by decide +kernel
theorem dX6_has_4 : decode cX6_has 4 = .ok (.iload_n 1, 1) := by decide +kernel
theorem dX6_has_5 : decode cX6_has 5 = .ok (.bipush 10, 2) := by decide +kernel
theorem dX6_has_7 : decode cX6_has 7 = .ok (.if_icmp .ge 17, 3) := by decide +kernel
theorem dX6_has_10 : decode cX6_has 10 = .ok (.iload_n 1, 1) := by decide +kernel
theorem dX6_has_11 : decode cX6_has 11 = .ok (.aload_n 0, 1) := by decide +kernel
theorem dX6_has_12 : decode cX6_has 12 = .ok (.getfield 11, 3) := by decide +kernel
theorem dX6_has_15 : decode cX6_has 15 = .ok (.iconst 0, 1) := by decide +kernel
theorem dX6_has_16 : decode cX6_has 16 = .ok (.iaload, 1) := by decide +kernel
theorem dX6_has_17 : decode cX6_has 17 = .ok (.if_icmp .ge 7, 3) := by decide +kernel
theorem dX6_has_20 : decode cX6_has 20 = .ok (.iconst 1, 1) := by decide +kernel
theorem dX6_has_21 : decode cX6_has 21 = .ok (.goto 4, 3) := by decide +kernel
theorem dX6_has_24 : decode cX6_has 24 = .ok (.iconst 0, 1) := by decide +kernel
theorem dX6_has_25 : decode cX6_has 25 = .ok (.ireturn, 1) := by decide +kernel
theorem dX6_on_0 : decode cX6_on 0 = .ok (.aload_n 0, 1) := by decide +kernel
theorem dX6_on_1 : decode cX6_on 1 = .ok (.iload_n 1, 1) := by decide +kernel
theorem dX6_on_2 : decode cX6_on 2 = .ok (.iconst 0, 1) := by decide +kernel
theorem dX6_on_3 : decode cX6_on 3 = .ok (.invokevirtual 31, 3) := by decide +kernel
theorem dX6_on_6 : decode cX6_on 6 = .ok (.ireturn, 1) := by decide +kernel
theorem dX6_length_0 : decode cX6_length 0 = .ok (.aload_n 0, 1) := by decide +kernel
theorem dX6_length_1 : decode cX6_length 1 = .ok (.iload_n 1, 1) := by decide +kernel
theorem dX6_length_2 : decode cX6_length 2 = .ok (.iconst 1, 1) := by decide +kernel
theorem dX6_length_3 : decode cX6_length 3 = .ok (.invokevirtual 31, 3) := by decide +kernel
theorem dX6_length_6 : decode cX6_length 6 = .ok (.ireturn, 1) := by decide +kernel
theorem dX6_off_0 : decode cX6_off 0 = .ok (.aload_n 0, 1) := by decide +kernel
theorem dX6_off_1 : decode cX6_off 1 = .ok (.iload_n 1, 1) := by decide +kernel
theorem dX6_off_2 : decode cX6_off 2 = .ok (.iconst 0, 1) := by decide +kernel
theorem dX6_off_3 : decode cX6_off 3 = .ok (.invokevirtual 31, 3) := by decide +kernel
theorem dX6_off_6 : decode cX6_off 6 = .ok (.aload_n 0, 1) := by decide +kernel
theorem dX6_off_7 : decode cX6_off 7 = .ok (.iload_n 1, 1) := by decide +kernel
theorem dX6_off_8 : decode cX6_off 8 = .ok (.iconst 1, 1) := by decide +kernel
theorem dX6_off_9 : decode cX6_off 9 = .ok (.invokevirtual 31, 3) := by decide +kernel
theorem dX6_off_12 : decode cX6_off 12 = .ok (.iadd, 1) := by decide +kernel
theorem dX6_off_13 : decode cX6_off 13 = .ok (.ireturn, 1) := by decide +kernel
theorem dX6_pitch_0 : decode cX6_pitch 0 = .ok (.aload_n 0, 1) := by decide +kernel
theorem dX6_pitch_1 : decode cX6_pitch 1 = .ok (.iload_n 1, 1) := by decide +kernel
theorem dX6_pitch_2 : decode cX6_pitch 2 = .ok (.iconst 2, 1) := by decide +kernel
theorem dX6_pitch_3 : decode cX6_pitch 3 = .ok (.invokevirtual 31, 3) := by decide +kernel
theorem dX6_pitch_6 : decode cX6_pitch 6 = .ok (.ireturn, 1) := by decide +kernel
theorem dX6_next_0 : decode cX6_next 0 = .ok (.aload_n 0, 1) := by decide +kernel
theorem dX6_next_1 : decode cX6_next 1 = .ok (.iload_n 1, 1) := by decide +kernel
theorem dX6_next_2 : decode cX6_next 2 = .ok (.iconst 3, 1) := by decide +kernel
theorem dX6_next_3 : decode cX6_next 3 = .ok (.invokevirtual 31, 3) := by decide +kernel
theorem dX6_next_6 : decode cX6_next 6 = .ok (.ireturn, 1) := by decide +kernel
theorem dX6_cell_0 : decode cX6_cell 0 = .ok (.iload_n 1, 1) := by decide +kernel
theorem dX6_cell_1 : decode cX6_cell 1 = .ok (.ifCond .lt 25, 3) := by decide +kernel
theorem dX6_cell_4 : decode cX6_cell 4 = .ok (.iload_n 1, 1) := by decide +kernel
theorem dX6_cell_5 : decode cX6_cell 5 = .ok (.bipush 10, 2) := by decide +kernel
theorem dX6_cell_7 : decode cX6_cell 7 = .ok (.if_icmp .ge 19, 3) := by decide +kernel
theorem dX6_cell_10 : decode cX6_cell 10 = .ok (.aload_n 0, 1) := by decide +kernel
theorem dX6_cell_11 : decode cX6_cell 11 = .ok (.getfield 11, 3) := by decide +kernel
theorem dX6_cell_14 : decode cX6_cell 14 = .ok (.bipush 6, 2) := by decide +kernel
theorem dX6_cell_16 : decode cX6_cell 16 = .ok (.iload_n 1, 1) := by decide +kernel
theorem dX6_cell_17 : decode cX6_cell 17 = .ok (.iconst 4, 1) := by decide +kernel
theorem dX6_cell_18 : decode cX6_cell 18 = .ok (.imul, 1) := by decide +kernel
theorem dX6_cell_19 : decode cX6_cell 19 = .ok (.iadd, 1) := by decide +kernel
theorem dX6_cell_20 : decode cX6_cell 20 = .ok (.iload_n 2, 1) := by decide +kernel
theorem dX6_cell_21 : decode cX6_cell 21 = .ok (.iadd, 1) := by decide +kernel
theorem dX6_cell_22 : decode cX6_cell 22 = .ok (.iaload, 1) := by decide +kernel
theorem dX6_cell_23 : decode cX6_cell 23 = .ok (.goto 4, 3) := by decide +kernel
theorem dX6_cell_26 : decode cX6_cell 26 = .ok (.iconst (-1), 1) := by decide +kernel
theorem dX6_cell_27 : decode cX6_cell 27 = .ok (.ireturn, 1) := by decide +kernel
theorem dX6_valueOf_0 : decode cX6_valueOf 0 = .ok (.iload_n 1, 1) := by decide +kernel
theorem dX6_valueOf_1 : decode cX6_valueOf 1 = .ok (.ifCond .lt 19, 3) := by decide +kernel
theorem dX6_valueOf_4 : decode cX6_valueOf 4 = .ok (.iload_n 1, 1) := by decide +kernel
theorem dX6_valueOf_5 : decode cX6_valueOf 5 = .ok (.iconst 5, 1) := by decide +kernel
theorem dX6_valueOf_6 : decode cX6_valueOf 6 = .ok (.if_icmp .ge 14, 3) := by decide +kernel
theorem dX6_valueOf_9 : decode cX6_valueOf 9 = .ok (.aload_n 0, 1) := by decide +kernel
theorem dX6_valueOf_10 : decode cX6_valueOf 10 = .ok (.getfield 11, 3) := by decide +kernel
theorem dX6_valueOf_13 : decode cX6_valueOf 13 = .ok (.iconst 1, 1) := by decide +kernel
theorem dX6_valueOf_14 : decode cX6_valueOf 14 = .ok (.iload_n 1, 1) := by decide +kernel
theorem dX6_valueOf_15 : decode cX6_valueOf 15 = .ok (.iadd, 1) := by decide +kernel
theorem dX6_valueOf_16 : decode cX6_valueOf 16 = .ok (.iaload, 1) := by decide +kernel
theorem dX6_valueOf_17 : decode cX6_valueOf 17 = .ok (.goto 4, 3) := by decide +kernel
theorem dX6_valueOf_20 : decode cX6_valueOf 20 = .ok (.iconst (-1), 1) := by decide +kernel
theorem dX6_valueOf_21 : decode cX6_valueOf 21 = .ok (.ireturn, 1) := by decide +kernel
theorem dX6_changeTerm_0 : decode cX6_changeTerm 0 = .ok (.aload_n 0, 1) := by decide +kernel
theorem dX6_changeTerm_1 : decode cX6_changeTerm 1 = .ok (.iload_n 1, 1) := by decide +kernel
theorem dX6_changeTerm_2 : decode cX6_changeTerm 2 = .ok (.invokevirtual 35, 3) := by decide +kernel
theorem dX6_changeTerm_5 : decode cX6_changeTerm 5 = .ok (.istore_n 3, 1) := by decide +kernel
theorem dX6_changeTerm_6 : decode cX6_changeTerm 6 = .ok (.iload_n 1, 1) := by decide +kernel
theorem dX6_changeTerm_7 : decode cX6_changeTerm 7 = .ok (.ifCond .lt 21, 3) := by decide +kernel
theorem dX6_changeTerm_10 : decode cX6_changeTerm 10 = .ok (.iload_n 1, 1) := by decide +kernel
theorem dX6_changeTerm_11 : decode cX6_changeTerm 11 = .ok (.iconst 5, 1) := by decide +kernel
theorem dX6_changeTerm_12 : decode cX6_changeTerm 12 = .ok (.if_icmp .ge 16, 3) := by decide +kernel
theorem dX6_changeTerm_15 : decode cX6_changeTerm 15 = .ok (.aload_n 0, 1) := by decide +kernel
theorem dX6_changeTerm_16 : decode cX6_changeTerm 16 = .ok (.getfield 11, 3) := by decide +kernel
theorem dX6_changeTerm_19 : decode cX6_changeTerm 19 = .ok (.iconst 1, 1) := by decide +kernel
theorem dX6_changeTerm_20 : decode cX6_changeTerm 20 = .ok (.iload_n 1, 1) := by decide +kernel
theorem dX6_changeTerm_21 : decode cX6_changeTerm 21 = .ok (.iadd, 1) := by decide +kernel
theorem dX6_changeTerm_22 : decode cX6_changeTerm 22 = .ok (.iload_n 2, 1) := by decide +kernel
theorem dX6_changeTerm_23 : decode cX6_changeTerm 23 = .ok (.iastore, 1) := by decide +kernel
theorem dX6_changeTerm_24 : decode cX6_changeTerm 24 = .ok (.aload_n 0, 1) := by decide +kernel
theorem dX6_changeTerm_25 : decode cX6_changeTerm 25 = .ok (.invokevirtual 39, 3) := by decide +kernel
theorem dX6_changeTerm_28 : decode cX6_changeTerm 28 = .ok (.iload_n 3, 1) := by decide +kernel
theorem dX6_changeTerm_29 : decode cX6_changeTerm 29 = .ok (.ireturn, 1) := by decide +kernel
theorem dX6_mayFollow_0 : decode cX6_mayFollow 0 = .ok (.aload_n 0, 1) := by decide +kernel
theorem dX6_mayFollow_1 : decode cX6_mayFollow 1 = .ok (.iload_n 1, 1) := by decide +kernel
theorem dX6_mayFollow_2 : decode cX6_mayFollow 2 = .ok (.invokevirtual 42, 3) := by decide +kernel
theorem dX6_mayFollow_5 : decode cX6_mayFollow 5 = .ok (.ifCond .eq 11, 3) := by decide +kernel
theorem dX6_mayFollow_8 : decode cX6_mayFollow 8 = .ok (.aload_n 0, 1) := by decide +kernel
theorem dX6_mayFollow_9 : decode cX6_mayFollow 9 = .ok (.iload_n 2, 1) := by decide +kernel
theorem dX6_mayFollow_10 : decode cX6_mayFollow 10 = .ok (.invokevirtual 42, 3) := by decide +kernel
theorem dX6_mayFollow_13 : decode cX6_mayFollow 13 = .ok (.ifCond .ne 5, 3) := by decide +kernel
theorem dX6_mayFollow_16 : decode cX6_mayFollow 16 = .ok (.iconst 0, 1) := by decide +kernel
theorem dX6_mayFollow_17 : decode cX6_mayFollow 17 = .ok (.ireturn, 1) := by decide +kernel
theorem dX6_mayFollow_18 : decode cX6_mayFollow 18 = .ok (.aload_n 0, 1) := by decide +kernel
theorem dX6_mayFollow_19 : decode cX6_mayFollow 19 = .ok (.iload_n 2, 1) := by decide +kernel
theorem dX6_mayFollow_20 : decode cX6_mayFollow 20 = .ok (.invokevirtual 46, 3) := by decide +kernel
theorem dX6_mayFollow_23 : decode cX6_mayFollow 23 = .ok (.aload_n 0, 1) := by decide +kernel
theorem dX6_mayFollow_24 : decode cX6_mayFollow 24 = .ok (.iload_n 1, 1) := by decide +kernel
theorem dX6_mayFollow_25 : decode cX6_mayFollow 25 = .ok (.invokevirtual 49, 3) := by decide +kernel
theorem dX6_mayFollow_28 : decode cX6_mayFollow 28 = .ok (.isub, 1) := by decide +kernel
theorem dX6_mayFollow_29 : decode cX6_mayFollow 29 = .ok (.istore_n 3, 1) := by decide +kernel
theorem dX6_mayFollow_30 : decode cX6_mayFollow 30 = .ok (.iload_n 3, 1) := by decide +kernel
theorem dX6_mayFollow_31 : decode cX6_mayFollow 31 = .ok (.ifCond .lt 16, 3) := by decide +kernel
theorem dX6_mayFollow_34 : decode cX6_mayFollow 34 = .ok (.iload_n 3, 1) := by decide +kernel
theorem dX6_mayFollow_35 : decode cX6_mayFollow 35 = .ok (.aload_n 0, 1) := by decide +kernel
theorem dX6_mayFollow_36 : decode cX6_mayFollow 36 = .ok (.iconst 4, 1) := by decide +kernel
theorem dX6_mayFollow_37 : decode cX6_mayFollow 37 = .ok (.invokevirtual 35, 3) := by decide +kernel
theorem dX6_mayFollow_40 : decode cX6_mayFollow 40 = .ok (.if_icmp .gt 7, 3) := by decide +kernel
theorem dX6_mayFollow_43 : decode cX6_mayFollow 43 = .ok (.iconst 1, 1) := by decide +kernel
theorem dX6_mayFollow_44 : decode cX6_mayFollow 44 = .ok (.goto 4, 3) := by decide +kernel
theorem dX6_mayFollow_47 : decode cX6_mayFollow 47 = .ok (.iconst 0, 1) := by decide +kernel
theorem dX6_mayFollow_48 : decode cX6_mayFollow 48 = .ok (.ireturn, 1) := by decide +kernel
theorem dX6_costToFollow_0 : decode cX6_costToFollow 0 = .ok (.aload_n 0, 1) := by decide +kernel
theorem dX6_costToFollow_1 : decode cX6_costToFollow 1 = .ok (.iload_n 1, 1) := by decide +kernel
theorem dX6_costToFollow_2 : decode cX6_costToFollow 2 = .ok (.iload_n 2, 1) := by decide +kernel
theorem dX6_costToFollow_3 : decode cX6_costToFollow 3 = .ok (.invokevirtual 52, 3) := by decide +kernel
theorem dX6_costToFollow_6 : decode cX6_costToFollow 6 = .ok (.ifCond .ne 5, 3) := by decide +kernel
theorem dX6_costToFollow_9 : decode cX6_costToFollow 9 = .ok (.iconst (-1), 1) := by decide +kernel
theorem dX6_costToFollow_10 : decode cX6_costToFollow 10 = .ok (.ireturn, 1) := by decide +kernel
theorem dX6_costToFollow_11 : decode cX6_costToFollow 11 = .ok (.aload_n 0, 1) := by decide +kernel
theorem dX6_costToFollow_12 : decode cX6_costToFollow 12 = .ok (.iload_n 2, 1) := by decide +kernel
theorem dX6_costToFollow_13 : decode cX6_costToFollow 13 = .ok (.invokevirtual 56, 3) := by decide +kernel
theorem dX6_costToFollow_16 : decode cX6_costToFollow 16 = .ok (.aload_n 0, 1) := by decide +kernel
theorem dX6_costToFollow_17 : decode cX6_costToFollow 17 = .ok (.iload_n 1, 1) := by decide +kernel
theorem dX6_costToFollow_18 : decode cX6_costToFollow 18 = .ok (.invokevirtual 56, 3) := by decide +kernel
theorem dX6_costToFollow_21 : decode cX6_costToFollow 21 = .ok (.isub, 1) := by decide +kernel
theorem dX6_costToFollow_22 : decode cX6_costToFollow 22 = .ok (.invokestatic 59, 3) := by decide +kernel
theorem dX6_costToFollow_25 : decode cX6_costToFollow 25 = .ok (.istore_n 3, 1) := by decide +kernel
theorem dX6_costToFollow_26 : decode cX6_costToFollow 26 = .ok (.aload_n 0, 1) := by decide +kernel
theorem dX6_costToFollow_27 : decode cX6_costToFollow 27 = .ok (.iload_n 2, 1) := by decide +kernel
theorem dX6_costToFollow_28 : decode cX6_costToFollow 28 = .ok (.invokevirtual 46, 3) := by decide +kernel
theorem dX6_costToFollow_31 : decode cX6_costToFollow 31 = .ok (.aload_n 0, 1) := by decide +kernel
theorem dX6_costToFollow_32 : decode cX6_costToFollow 32 = .ok (.iload_n 1, 1) := by decide +kernel
theorem dX6_costToFollow_33 : decode cX6_costToFollow 33 = .ok (.invokevirtual 49, 3) := by decide +kernel
theorem dX6_costToFollow_36 : decode cX6_costToFollow 36 = .ok (.isub, 1) := by decide +kernel
theorem dX6_costToFollow_37 : decode cX6_costToFollow 37 = .ok (.istore 4, 2) := by decide +kernel
theorem dX6_costToFollow_39 : decode cX6_costToFollow 39 = .ok (.iload_n 3, 1) := by decide +kernel
theorem dX6_costToFollow_40 : decode cX6_costToFollow 40 = .ok (.bipush 12, 2) := by decide +kernel
theorem dX6_costToFollow_42 : decode cX6_costToFollow 42 = .ok (.if_icmp .le 11, 3) := by decide +kernel
theorem dX6_costToFollow_45 : decode cX6_costToFollow 45 = .ok (.aload_n 0, 1) := by decide +kernel
theorem dX6_costToFollow_46 : decode cX6_costToFollow 46 = .ok (.iconst 2, 1) := by decide +kernel
theorem dX6_costToFollow_47 : decode cX6_costToFollow 47 = .ok (.invokevirtual 35, 3) := by decide +kernel
theorem dX6_costToFollow_50 : decode cX6_costToFollow 50 = .ok (.goto 4, 3) := by decide +kernel
theorem dX6_costToFollow_53 : decode cX6_costToFollow 53 = .ok (.iconst 0, 1) := by decide +kernel
theorem dX6_costToFollow_54 : decode cX6_costToFollow 54 = .ok (.istore 5, 2) := by decide +kernel
theorem dX6_costToFollow_56 : decode cX6_costToFollow 56 = .ok (.iload_n 3, 1) := by decide +kernel
theorem dX6_costToFollow_57 : decode cX6_costToFollow 57 = .ok (.aload_n 0, 1) := by decide +kernel
theorem dX6_costToFollow_58 : decode cX6_costToFollow 58 = .ok (.iconst 0, 1) := by decide +kernel
theorem dX6_costToFollow_59 : decode cX6_costToFollow 59 = .ok (.invokevirtual 35, 3) := by decide +kernel
theorem dX6_costToFollow_62 : decode cX6_costToFollow 62 = .ok (.imul, 1) := by decide +kernel
theorem dX6_costToFollow_63 : decode cX6_costToFollow 63 = .ok (.iload 4, 2) := by decide +kernel
theorem dX6_costToFollow_65 : decode cX6_costToFollow 65 = .ok (.aload_n 0, 1) := by decide +kernel
theorem dX6_costToFollow_66 : decode cX6_costToFollow 66 = .ok (.iconst 1, 1) := by decide +kernel
theorem dX6_costToFollow_67 : decode cX6_costToFollow 67 = .ok (.invokevirtual 35, 3) := by decide +kernel
theorem dX6_costToFollow_70 : decode cX6_costToFollow 70 = .ok (.imul, 1) := by decide +kernel
theorem dX6_costToFollow_71 : decode cX6_costToFollow 71 = .ok (.iadd, 1) := by decide +kernel
theorem dX6_costToFollow_72 : decode cX6_costToFollow 72 = .ok (.iload 5, 2) := by decide +kernel
theorem dX6_costToFollow_74 : decode cX6_costToFollow 74 = .ok (.iadd, 1) := by decide +kernel
theorem dX6_costToFollow_75 : decode cX6_costToFollow 75 = .ok (.ireturn, 1) := by decide +kernel
theorem dX6_countFollowers_0 : decode cX6_countFollowers 0 = .ok (.iconst 0, 1) := by decide +kernel
theorem dX6_countFollowers_1 : decode cX6_countFollowers 1 = .ok (.istore_n 2, 1) := by decide +kernel
theorem dX6_countFollowers_2 : decode cX6_countFollowers 2 = .ok (.iconst 0, 1) := by decide +kernel
theorem dX6_countFollowers_3 : decode cX6_countFollowers 3 = .ok (.istore_n 3, 1) := by decide +kernel
theorem dX6_countFollowers_4 : decode cX6_countFollowers 4 = .ok (.iload_n 3, 1) := by decide +kernel
theorem dX6_countFollowers_5 : decode cX6_countFollowers 5 = .ok (.aload_n 0, 1) := by decide +kernel
theorem dX6_countFollowers_6 : decode cX6_countFollowers 6 = .ok (.invokevirtual 64, 3) := by decide +kernel
theorem dX6_countFollowers_9 : decode cX6_countFollowers 9 = .ok (.if_icmp .ge 21, 3) := by decide +kernel
theorem dX6_countFollowers_12 : decode cX6_countFollowers 12 = .ok (.aload_n 0, 1) := by decide +kernel
theorem dX6_countFollowers_13 : decode cX6_countFollowers 13 = .ok (.iload_n 1, 1) := by decide +kernel
theorem dX6_countFollowers_14 : decode cX6_countFollowers 14 = .ok (.iload_n 3, 1) := by decide +kernel
theorem dX6_countFollowers_15 : decode cX6_countFollowers 15 = .ok (.invokevirtual 52, 3) := by decide +kernel
theorem dX6_countFollowers_18 : decode cX6_countFollowers 18 = .ok (.ifCond .eq 6, 3) := by decide +kernel
theorem dX6_countFollowers_21 : decode cX6_countFollowers 21 = .ok (.iinc 2 1, 3) := by decide +kernel
theorem dX6_countFollowers_24 : decode cX6_countFollowers 24 = .ok (.iinc 3 1, 3) := by decide +kernel
theorem dX6_countFollowers_27 : decode cX6_countFollowers 27 = .ok (.goto (-23), 3) := by decide +kernel
theorem dX6_countFollowers_30 : decode cX6_countFollowers 30 = .ok (.iload_n 2, 1) := by decide +kernel
theorem dX6_countFollowers_31 : decode cX6_countFollowers 31 = .ok (.ireturn, 1) := by decide +kernel
theorem dX6_bring_0 : decode cX6_bring 0 = .ok (.aload_n 0, 1) := by decide +kernel
theorem dX6_bring_1 : decode cX6_bring 1 = .ok (.invokevirtual 64, 3) := by decide +kernel
theorem dX6_bring_4 : decode cX6_bring 4 = .ok (.istore 4, 2) := by decide +kernel
theorem dX6_bring_6 : decode cX6_bring 6 = .ok (.iload 4, 2) := by decide +kernel
theorem dX6_bring_8 : decode cX6_bring 8 = .ok (.ifCond .lt 10, 3) := by decide +kernel
theorem dX6_bring_11 : decode cX6_bring 11 = .ok (.iload 4, 2) := by decide +kernel
theorem dX6_bring_13 : decode cX6_bring 13 = .ok (.bipush 10, 2) := by decide +kernel
theorem dX6_bring_15 : decode cX6_bring 15 = .ok (.if_icmp .lt 6, 3) := by decide +kernel
theorem dX6_bring_18 : decode cX6_bring 18 = .ok (.ldc 68, 2) := by decide +kernel
theorem dX6_bring_20 : decode cX6_bring 20 = .ok (.ireturn, 1) := by decide +kernel
theorem dX6_bring_21 : decode cX6_bring 21 = .ok (.aload_n 0, 1) := by decide +kernel
theorem dX6_bring_22 : decode cX6_bring 22 = .ok (.iload_n 1, 1) := by decide +kernel
theorem dX6_bring_23 : decode cX6_bring 23 = .ok (.iload_n 2, 1) := by decide +kernel
theorem dX6_bring_24 : decode cX6_bring 24 = .ok (.iload_n 3, 1) := by decide +kernel
theorem dX6_bring_25 : decode cX6_bring 25 = .ok (.invokevirtual 69, 3) := by decide +kernel
theorem dX6_bring_28 : decode cX6_bring 28 = .ok (.istore 5, 2) := by decide +kernel
theorem dX6_bring_30 : decode cX6_bring 30 = .ok (.bipush 6, 2) := by decide +kernel
theorem dX6_bring_32 : decode cX6_bring 32 = .ok (.iload 5, 2) := by decide +kernel
theorem dX6_bring_34 : decode cX6_bring 34 = .ok (.iconst 4, 1) := by decide +kernel
theorem dX6_bring_35 : decode cX6_bring 35 = .ok (.imul, 1) := by decide +kernel
theorem dX6_bring_36 : decode cX6_bring 36 = .ok (.iadd, 1) := by decide +kernel
theorem dX6_bring_37 : decode cX6_bring 37 = .ok (.istore 6, 2) := by decide +kernel
theorem dX6_bring_39 : decode cX6_bring 39 = .ok (.aload_n 0, 1) := by decide +kernel
theorem dX6_bring_40 : decode cX6_bring 40 = .ok (.getfield 11, 3) := by decide +kernel
theorem dX6_bring_43 : decode cX6_bring 43 = .ok (.iload 6, 2) := by decide +kernel
theorem dX6_bring_45 : decode cX6_bring 45 = .ok (.aload_n 0, 1) := by decide +kernel
theorem dX6_bring_46 : decode cX6_bring 46 = .ok (.getfield 11, 3) := by decide +kernel
theorem dX6_bring_49 : decode cX6_bring 49 = .ok (.iload 6, 2) := by decide +kernel
theorem dX6_bring_51 : decode cX6_bring 51 = .ok (.iconst 4, 1) := by decide +kernel
theorem dX6_bring_52 : decode cX6_bring 52 = .ok (.iadd, 1) := by decide +kernel
theorem dX6_bring_53 : decode cX6_bring 53 = .ok (.iload 4, 2) := by decide +kernel
theorem dX6_bring_55 : decode cX6_bring 55 = .ok (.iload 5, 2) := by decide +kernel
theorem dX6_bring_57 : decode cX6_bring 57 = .ok (.isub, 1) := by decide +kernel
theorem dX6_bring_58 : decode cX6_bring 58 = .ok (.iconst 4, 1) := by decide +kernel
theorem dX6_bring_59 : decode cX6_bring 59 = .ok (.imul, 1) := by decide +kernel
theorem dX6_bring_60 : decode cX6_bring 60 = .ok (.invokestatic 18, 3) := by decide +kernel
theorem dX6_bring_63 : decode cX6_bring 63 = .ok (.aload_n 0, 1) := by decide +kernel
theorem dX6_bring_64 : decode cX6_bring 64 = .ok (.getfield 11, 3) := by decide +kernel
theorem dX6_bring_67 : decode cX6_bring 67 = .ok (.iload 6, 2) := by decide +kernel
theorem dX6_bring_69 : decode cX6_bring 69 = .ok (.iconst 0, 1) := by decide +kernel
theorem dX6_bring_70 : decode cX6_bring 70 = .ok (.iadd, 1) := by decide +kernel
theorem dX6_bring_71 : decode cX6_bring 71 = .ok (.iload_n 1, 1) := by decide +kernel
theorem dX6_bring_72 : decode cX6_bring 72 = .ok (.iastore, 1) := by decide +kernel
theorem dX6_bring_73 : decode cX6_bring 73 = .ok (.aload_n 0, 1) := by decide +kernel
theorem dX6_bring_74 : decode cX6_bring 74 = .ok (.getfield 11, 3) := by decide +kernel
theorem dX6_bring_77 : decode cX6_bring 77 = .ok (.iload 6, 2) := by decide +kernel
theorem dX6_bring_79 : decode cX6_bring 79 = .ok (.iconst 1, 1) := by decide +kernel
theorem dX6_bring_80 : decode cX6_bring 80 = .ok (.iadd, 1) := by decide +kernel
theorem dX6_bring_81 : decode cX6_bring 81 = .ok (.iload_n 2, 1) := by decide +kernel
theorem dX6_bring_82 : decode cX6_bring 82 = .ok (.iastore, 1) := by decide +kernel
theorem dX6_bring_83 : decode cX6_bring 83 = .ok (.aload_n 0, 1) := by decide +kernel
theorem dX6_bring_84 : decode cX6_bring 84 = .ok (.getfield 11, 3) := by decide +kernel
theorem dX6_bring_87 : decode cX6_bring 87 = .ok (.iload 6, 2) := by decide +kernel
theorem dX6_bring_89 : decode cX6_bring 89 = .ok (.iconst 2, 1) := by decide +kernel
theorem dX6_bring_90 : decode cX6_bring 90 = .ok (.iadd, 1) := by decide +kernel
theorem dX6_bring_91 : decode cX6_bring 91 = .ok (.iload_n 3, 1) := by decide +kernel
theorem dX6_bring_92 : decode cX6_bring 92 = .ok (.iastore, 1) := by decide +kernel
theorem dX6_bring_93 : decode cX6_bring 93 = .ok (.aload_n 0, 1) := by decide +kernel
theorem dX6_bring_94 : decode cX6_bring 94 = .ok (.getfield 11, 3) := by decide +kernel
theorem dX6_bring_97 : decode cX6_bring 97 = .ok (.iconst 0, 1) := by decide +kernel
theorem dX6_bring_98 : decode cX6_bring 98 = .ok (.iload 4, 2) := by decide +kernel
theorem dX6_bring_100 : decode cX6_bring 100 = .ok (.iconst 1, 1) := by decide +kernel
theorem dX6_bring_101 : decode cX6_bring 101 = .ok (.iadd, 1) := by decide +kernel
theorem dX6_bring_102 : decode cX6_bring 102 = .ok (.iastore, 1) := by decide +kernel
theorem dX6_bring_103 : decode cX6_bring 103 = .ok (.aload_n 0, 1) := by decide +kernel
theorem dX6_bring_104 : decode cX6_bring 104 = .ok (.invokevirtual 39, 3) := by decide +kernel
theorem dX6_bring_107 : decode cX6_bring 107 = .ok (.iload 5, 2) := by decide +kernel
theorem dX6_bring_109 : decode cX6_bring 109 = .ok (.ireturn, 1) := by decide +kernel
theorem dX6_placeFor_0 : decode cX6_placeFor 0 = .ok (.iload_n 1, 1) := by decide +kernel
theorem dX6_placeFor_1 : decode cX6_placeFor 1 = .ok (.iload_n 2, 1) := by decide +kernel
theorem dX6_placeFor_2 : decode cX6_placeFor 2 = .ok (.iload_n 3, 1) := by decide +kernel
theorem dX6_placeFor_3 : decode cX6_placeFor 3 = .ok (.invokestatic 73, 3) := by decide +kernel
theorem dX6_placeFor_6 : decode cX6_placeFor 6 = .ok (.istore 4, 2) := by decide +kernel
theorem dX6_placeFor_8 : decode cX6_placeFor 8 = .ok (.iconst 0, 1) := by decide +kernel
theorem dX6_placeFor_9 : decode cX6_placeFor 9 = .ok (.istore 5, 2) := by decide +kernel
theorem dX6_placeFor_11 : decode cX6_placeFor 11 = .ok (.iload 5, 2) := by decide +kernel
theorem dX6_placeFor_13 : decode cX6_placeFor 13 = .ok (.aload_n 0, 1) := by decide +kernel
theorem dX6_placeFor_14 : decode cX6_placeFor 14 = .ok (.invokevirtual 64, 3) := by decide +kernel
theorem dX6_placeFor_17 : decode cX6_placeFor 17 = .ok (.if_icmp .ge 35, 3) := by decide +kernel
theorem dX6_placeFor_20 : decode cX6_placeFor 20 = .ok (.aload_n 0, 1) := by decide +kernel
theorem dX6_placeFor_21 : decode cX6_placeFor 21 = .ok (.iload 5, 2) := by decide +kernel
theorem dX6_placeFor_23 : decode cX6_placeFor 23 = .ok (.invokevirtual 46, 3) := by decide +kernel
theorem dX6_placeFor_26 : decode cX6_placeFor 26 = .ok (.aload_n 0, 1) := by decide +kernel
theorem dX6_placeFor_27 : decode cX6_placeFor 27 = .ok (.iload 5, 2) := by decide +kernel
theorem dX6_placeFor_29 : decode cX6_placeFor 29 = .ok (.invokevirtual 76, 3) := by decide +kernel
theorem dX6_placeFor_32 : decode cX6_placeFor 32 = .ok (.aload_n 0, 1) := by decide +kernel
theorem dX6_placeFor_33 : decode cX6_placeFor 33 = .ok (.iload 5, 2) := by decide +kernel
theorem dX6_placeFor_35 : decode cX6_placeFor 35 = .ok (.invokevirtual 56, 3) := by decide +kernel
theorem dX6_placeFor_38 : decode cX6_placeFor 38 = .ok (.invokestatic 73, 3) := by decide +kernel
theorem dX6_placeFor_41 : decode cX6_placeFor 41 = .ok (.iload 4, 2) := by decide +kernel
theorem dX6_placeFor_43 : decode cX6_placeFor 43 = .ok (.if_icmp .gt 9, 3) := by decide +kernel
theorem dX6_placeFor_46 : decode cX6_placeFor 46 = .ok (.iinc 5 1, 3) := by decide +kernel
theorem dX6_placeFor_49 : decode cX6_placeFor 49 = .ok (.goto (-38), 3) := by decide +kernel
theorem dX6_placeFor_52 : decode cX6_placeFor 52 = .ok (.iload 5, 2) := by decide +kernel
theorem dX6_placeFor_54 : decode cX6_placeFor 54 = .ok (.ireturn, 1) := by decide +kernel
theorem dX6_orderKey_0 : decode cX6_orderKey 0 = .ok (.iload_n 0, 1) := by decide +kernel
theorem dX6_orderKey_1 : decode cX6_orderKey 1 = .ok (.sipush 128, 3) := by decide +kernel
theorem dX6_orderKey_4 : decode cX6_orderKey 4 = .ok (.imul, 1) := by decide +kernel
theorem dX6_orderKey_5 : decode cX6_orderKey 5 = .ok (.iload_n 2, 1) := by decide +kernel
theorem dX6_orderKey_6 : decode cX6_orderKey 6 = .ok (.iadd, 1) := by decide +kernel
theorem dX6_orderKey_7 : decode cX6_orderKey 7 = .ok (.bipush 64, 2) := by decide +kernel
theorem dX6_orderKey_9 : decode cX6_orderKey 9 = .ok (.imul, 1) := by decide +kernel
theorem dX6_orderKey_10 : decode cX6_orderKey 10 = .ok (.iload_n 1, 1) := by decide +kernel
theorem dX6_orderKey_11 : decode cX6_orderKey 11 = .ok (.iadd, 1) := by decide +kernel
theorem dX6_orderKey_12 : decode cX6_orderKey 12 = .ok (.ireturn, 1) := by decide +kernel
theorem dX6_drop_0 : decode cX6_drop 0 = .ok (.aload_n 0, 1) := by decide +kernel
theorem dX6_drop_1 : decode cX6_drop 1 = .ok (.iload_n 1, 1) := by decide +kernel
theorem dX6_drop_2 : decode cX6_drop 2 = .ok (.invokevirtual 42, 3) := by decide +kernel
theorem dX6_drop_5 : decode cX6_drop 5 = .ok (.ifCond .ne 4, 3) := by decide +kernel
theorem dX6_drop_8 : decode cX6_drop 8 = .ok (.return_, 1) := by decide +kernel
theorem dX6_drop_9 : decode cX6_drop 9 = .ok (.bipush 6, 2) := by decide +kernel
theorem dX6_drop_11 : decode cX6_drop 11 = .ok (.iload_n 1, 1) := by decide +kernel
theorem dX6_drop_12 : decode cX6_drop 12 = .ok (.iconst 4, 1) := by decide +kernel
theorem dX6_drop_13 : decode cX6_drop 13 = .ok (.imul, 1) := by decide +kernel
theorem dX6_drop_14 : decode cX6_drop 14 = .ok (.iadd, 1) := by decide +kernel
theorem dX6_drop_15 : decode cX6_drop 15 = .ok (.istore_n 2, 1) := by decide +kernel
theorem dX6_drop_16 : decode cX6_drop 16 = .ok (.aload_n 0, 1) := by decide +kernel
theorem dX6_drop_17 : decode cX6_drop 17 = .ok (.invokevirtual 64, 3) := by decide +kernel
theorem dX6_drop_20 : decode cX6_drop 20 = .ok (.iconst 1, 1) := by decide +kernel
theorem dX6_drop_21 : decode cX6_drop 21 = .ok (.isub, 1) := by decide +kernel
theorem dX6_drop_22 : decode cX6_drop 22 = .ok (.iload_n 1, 1) := by decide +kernel
theorem dX6_drop_23 : decode cX6_drop 23 = .ok (.isub, 1) := by decide +kernel
theorem dX6_drop_24 : decode cX6_drop 24 = .ok (.istore_n 3, 1) := by decide +kernel
theorem dX6_drop_25 : decode cX6_drop 25 = .ok (.aload_n 0, 1) := by decide +kernel
theorem dX6_drop_26 : decode cX6_drop 26 = .ok (.getfield 11, 3) := by decide +kernel
theorem dX6_drop_29 : decode cX6_drop 29 = .ok (.iload_n 2, 1) := by decide +kernel
theorem dX6_drop_30 : decode cX6_drop 30 = .ok (.iconst 4, 1) := by decide +kernel
theorem dX6_drop_31 : decode cX6_drop 31 = .ok (.iadd, 1) := by decide +kernel
theorem dX6_drop_32 : decode cX6_drop 32 = .ok (.aload_n 0, 1) := by decide +kernel
theorem dX6_drop_33 : decode cX6_drop 33 = .ok (.getfield 11, 3) := by decide +kernel
theorem dX6_drop_36 : decode cX6_drop 36 = .ok (.iload_n 2, 1) := by decide +kernel
theorem dX6_drop_37 : decode cX6_drop 37 = .ok (.iload_n 3, 1) := by decide +kernel
theorem dX6_drop_38 : decode cX6_drop 38 = .ok (.iconst 4, 1) := by decide +kernel
theorem dX6_drop_39 : decode cX6_drop 39 = .ok (.imul, 1) := by decide +kernel
theorem dX6_drop_40 : decode cX6_drop 40 = .ok (.invokestatic 18, 3) := by decide +kernel
theorem dX6_drop_43 : decode cX6_drop 43 = .ok (.aload_n 0, 1) := by decide +kernel
theorem dX6_drop_44 : decode cX6_drop 44 = .ok (.getfield 11, 3) := by decide +kernel
theorem dX6_drop_47 : decode cX6_drop 47 = .ok (.iconst 0, 1) := by decide +kernel
theorem dX6_drop_48 : decode cX6_drop 48 = .ok (.aload_n 0, 1) := by decide +kernel
theorem dX6_drop_49 : decode cX6_drop 49 = .ok (.invokevirtual 64, 3) := by decide +kernel
theorem dX6_drop_52 : decode cX6_drop 52 = .ok (.iconst 1, 1) := by decide +kernel
theorem dX6_drop_53 : decode cX6_drop 53 = .ok (.isub, 1) := by decide +kernel
theorem dX6_drop_54 : decode cX6_drop 54 = .ok (.iastore, 1) := by decide +kernel
theorem dX6_drop_55 : decode cX6_drop 55 = .ok (.aload_n 0, 1) := by decide +kernel
theorem dX6_drop_56 : decode cX6_drop 56 = .ok (.invokevirtual 39, 3) := by decide +kernel
theorem dX6_drop_59 : decode cX6_drop 59 = .ok (.return_, 1) := by decide +kernel
theorem dX6_dropAll_0 : decode cX6_dropAll 0 = .ok (.aload_n 0, 1) := by decide +kernel
theorem dX6_dropAll_1 : decode cX6_dropAll 1 = .ok (.getfield 11, 3) := by decide +kernel
theorem dX6_dropAll_4 : decode cX6_dropAll 4 = .ok (.iconst 0, 1) := by decide +kernel
theorem dX6_dropAll_5 : decode cX6_dropAll 5 = .ok (.iconst 0, 1) := by decide +kernel
theorem dX6_dropAll_6 : decode cX6_dropAll 6 = .ok (.iastore, 1) := by decide +kernel
theorem dX6_dropAll_7 : decode cX6_dropAll 7 = .ok (.aload_n 0, 1) := by decide +kernel
theorem dX6_dropAll_8 : decode cX6_dropAll 8 = .ok (.invokevirtual 39, 3) := by decide +kernel
theorem dX6_dropAll_11 : decode cX6_dropAll 11 = .ok (.return_, 1) := by decide +kernel
theorem dX6_changed_0 : decode cX6_changed 0 = .ok (.aload_n 0, 1) := by decide +kernel
theorem dX6_changed_1 : decode cX6_changed 1 = .ok (.dup, 1) := by decide +kernel
theorem dX6_changed_2 : decode cX6_changed 2 = .ok (.getfield 27, 3) := by decide +kernel
theorem dX6_changed_5 : decode cX6_changed 5 = .ok (.iconst 1, 1) := by decide +kernel
theorem dX6_changed_6 : decode cX6_changed 6 = .ok (.iadd, 1) := by decide +kernel
theorem dX6_changed_7 : decode cX6_changed 7 = .ok (.putfield 27, 3) := by decide +kernel
theorem dX6_changed_10 : decode cX6_changed 10 = .ok (.iconst 0, 1) := by decide +kernel
theorem dX6_changed_11 : decode cX6_changed 11 = .ok (.istore_n 1, 1) := by decide +kernel
theorem dX6_changed_12 : decode cX6_changed 12 = .ok (.iload_n 1, 1) := by decide +kernel
theorem dX6_changed_13 : decode cX6_changed 13 = .ok (.aload_n 0, 1) := by decide +kernel
theorem dX6_changed_14 : decode cX6_changed 14 = .ok (.invokevirtual 64, 3) := by decide +kernel
theorem dX6_changed_17 : decode cX6_changed 17 = .ok (.if_icmp .ge 15, 3) := by decide +kernel
theorem dX6_changed_20 : decode cX6_changed 20 = .ok (.aload_n 0, 1) := by decide +kernel
theorem dX6_changed_21 : decode cX6_changed 21 = .ok (.iload_n 1, 1) := by decide +kernel
theorem dX6_changed_22 : decode cX6_changed 22 = .ok (.iconst (-1), 1) := by decide +kernel
theorem dX6_changed_23 : decode cX6_changed 23 = .ok (.invokevirtual 79, 3) := by decide +kernel
theorem dX6_changed_26 : decode cX6_changed 26 = .ok (.iinc 1 1, 3) := by decide +kernel
theorem dX6_changed_29 : decode cX6_changed 29 = .ok (.goto (-17), 3) := by decide +kernel
theorem dX6_changed_32 : decode cX6_changed 32 = .ok (.return_, 1) := by decide +kernel
theorem dX6_link_0 : decode cX6_link 0 = .ok (.aload_n 0, 1) := by decide +kernel
theorem dX6_link_1 : decode cX6_link 1 = .ok (.iload_n 1, 1) := by decide +kernel
theorem dX6_link_2 : decode cX6_link 2 = .ok (.invokevirtual 42, 3) := by decide +kernel
theorem dX6_link_5 : decode cX6_link 5 = .ok (.ifCond .eq 17, 3) := by decide +kernel
theorem dX6_link_8 : decode cX6_link 8 = .ok (.aload_n 0, 1) := by decide +kernel
theorem dX6_link_9 : decode cX6_link 9 = .ok (.getfield 11, 3) := by decide +kernel
theorem dX6_link_12 : decode cX6_link 12 = .ok (.bipush 6, 2) := by decide +kernel
theorem dX6_link_14 : decode cX6_link 14 = .ok (.iload_n 1, 1) := by decide +kernel
theorem dX6_link_15 : decode cX6_link 15 = .ok (.iconst 4, 1) := by decide +kernel
theorem dX6_link_16 : decode cX6_link 16 = .ok (.imul, 1) := by decide +kernel
theorem dX6_link_17 : decode cX6_link 17 = .ok (.iadd, 1) := by decide +kernel
theorem dX6_link_18 : decode cX6_link 18 = .ok (.iconst 3, 1) := by decide +kernel
theorem dX6_link_19 : decode cX6_link 19 = .ok (.iadd, 1) := by decide +kernel
theorem dX6_link_20 : decode cX6_link 20 = .ok (.iload_n 2, 1) := by decide +kernel
theorem dX6_link_21 : decode cX6_link 21 = .ok (.iastore, 1) := by decide +kernel
theorem dX6_link_22 : decode cX6_link 22 = .ok (.return_, 1) := by decide +kernel
theorem dX6_copyTo_0 : decode cX6_copyTo 0 = .ok (.aload_n 1, 1) := by decide +kernel
theorem dX6_copyTo_1 : decode cX6_copyTo 1 = .ok (.iload_n 2, 1) := by decide +kernel
theorem dX6_copyTo_2 : decode cX6_copyTo 2 = .ok (.invokestatic 83, 3) := by decide +kernel
theorem dX6_copyTo_5 : decode cX6_copyTo 5 = .ok (.ifCond .eq 18, 3) := by decide +kernel
theorem dX6_copyTo_8 : decode cX6_copyTo 8 = .ok (.aload_n 0, 1) := by decide +kernel
theorem dX6_copyTo_9 : decode cX6_copyTo 9 = .ok (.getfield 11, 3) := by decide +kernel
theorem dX6_copyTo_12 : decode cX6_copyTo 12 = .ok (.iconst 0, 1) := by decide +kernel
theorem dX6_copyTo_13 : decode cX6_copyTo 13 = .ok (.aload_n 1, 1) := by decide +kernel
theorem dX6_copyTo_14 : decode cX6_copyTo 14 = .ok (.iload_n 2, 1) := by decide +kernel
theorem dX6_copyTo_15 : decode cX6_copyTo 15 = .ok (.bipush 46, 2) := by decide +kernel
theorem dX6_copyTo_17 : decode cX6_copyTo 17 = .ok (.imul, 1) := by decide +kernel
theorem dX6_copyTo_18 : decode cX6_copyTo 18 = .ok (.bipush 46, 2) := by decide +kernel
theorem dX6_copyTo_20 : decode cX6_copyTo 20 = .ok (.invokestatic 18, 3) := by decide +kernel
theorem dX6_copyTo_23 : decode cX6_copyTo 23 = .ok (.return_, 1) := by decide +kernel
theorem dX6_copyFrom_0 : decode cX6_copyFrom 0 = .ok (.aload_n 1, 1) := by decide +kernel
theorem dX6_copyFrom_1 : decode cX6_copyFrom 1 = .ok (.iload_n 2, 1) := by decide +kernel
theorem dX6_copyFrom_2 : decode cX6_copyFrom 2 = .ok (.invokestatic 83, 3) := by decide +kernel
theorem dX6_copyFrom_5 : decode cX6_copyFrom 5 = .ok (.ifCond .ne 4, 3) := by decide +kernel
theorem dX6_copyFrom_8 : decode cX6_copyFrom 8 = .ok (.return_, 1) := by decide +kernel
theorem dX6_copyFrom_9 : decode cX6_copyFrom 9 = .ok (.aload_n 1, 1) := by decide +kernel
theorem dX6_copyFrom_10 : decode cX6_copyFrom 10 = .ok (.iload_n 2, 1) := by decide +kernel
theorem dX6_copyFrom_11 : decode cX6_copyFrom 11 = .ok (.bipush 46, 2) := by decide +kernel
theorem dX6_copyFrom_13 : decode cX6_copyFrom 13 = .ok (.imul, 1) := by decide +kernel
theorem dX6_copyFrom_14 : decode cX6_copyFrom 14 = .ok (.aload_n 0, 1) := by decide +kernel
theorem dX6_copyFrom_15 : decode cX6_copyFrom 15 = .ok (.getfield 11, 3) := by decide +kernel
theorem dX6_copyFrom_18 : decode cX6_copyFrom 18 = .ok (.iconst 0, 1) := by decide +kernel
theorem dX6_copyFrom_19 : decode cX6_copyFrom 19 = .ok (.bipush 46, 2) := by decide +kernel
theorem dX6_copyFrom_21 : decode cX6_copyFrom 21 = .ok (.invokestatic 18, 3) := by decide +kernel
theorem dX6_copyFrom_24 : decode cX6_copyFrom 24 = .ok (.aload_n 0, 1) := by decide +kernel
theorem dX6_copyFrom_25 : decode cX6_copyFrom 25 = .ok (.dup, 1) := by decide +kernel
theorem dX6_copyFrom_26 : decode cX6_copyFrom 26 = .ok (.getfield 27, 3) := by decide +kernel
theorem dX6_copyFrom_29 : decode cX6_copyFrom 29 = .ok (.iconst 1, 1) := by decide +kernel
theorem dX6_copyFrom_30 : decode cX6_copyFrom 30 = .ok (.iadd, 1) := by decide +kernel
theorem dX6_copyFrom_31 : decode cX6_copyFrom 31 = .ok (.putfield 27, 3) := by decide +kernel
theorem dX6_copyFrom_34 : decode cX6_copyFrom 34 = .ok (.return_, 1) := by decide +kernel
theorem dX6_fitsOn_0 : decode cX6_fitsOn 0 = .ok (.aload_n 0, 1) := by decide +kernel
theorem dX6_fitsOn_1 : decode cX6_fitsOn 1 = .ok (.ifnull 20, 3) := by decide +kernel
theorem dX6_fitsOn_4 : decode cX6_fitsOn 4 = .ok (.iload_n 1, 1) := by decide +kernel
theorem dX6_fitsOn_5 : decode cX6_fitsOn 5 = .ok (.ifCond .lt 16, 3) := by decide +kernel
theorem dX6_fitsOn_8 : decode cX6_fitsOn 8 = .ok (.iload_n 1, 1) := by decide +kernel
theorem dX6_fitsOn_9 : decode cX6_fitsOn 9 = .ok (.aload_n 0, 1) := by decide +kernel
theorem dX6_fitsOn_10 : decode cX6_fitsOn 10 = .ok (.arraylength, 1) := by decide +kernel
theorem dX6_fitsOn_11 : decode cX6_fitsOn 11 = .ok (.bipush 46, 2) := by decide +kernel
theorem dX6_fitsOn_13 : decode cX6_fitsOn 13 = .ok (.idiv, 1) := by decide +kernel
theorem dX6_fitsOn_14 : decode cX6_fitsOn 14 = .ok (.if_icmp .ge 7, 3) := by decide +kernel
theorem dX6_fitsOn_17 : decode cX6_fitsOn 17 = .ok (.iconst 1, 1) := by decide +kernel
theorem dX6_fitsOn_18 : decode cX6_fitsOn 18 = .ok (.goto 4, 3) := by decide +kernel
theorem dX6_fitsOn_21 : decode cX6_fitsOn 21 = .ok (.iconst 0, 1) := by decide +kernel
theorem dX6_fitsOn_22 : decode cX6_fitsOn 22 = .ok (.ireturn, 1) := by decide +kernel
theorem dX7_init_0 : decode cX7_init 0 = .ok (.aload_n 0, 1) := by decide +kernel
theorem dX7_init_1 : decode cX7_init 1 = .ok (.invokespecial 1, 3) := by decide +kernel
theorem dX7_init_4 : decode cX7_init 4 = .ok (.aload_n 0, 1) := by decide +kernel
theorem dX7_init_5 : decode cX7_init 5 = .ok (.new 7, 3) := by decide +kernel
theorem dX7_init_8 : decode cX7_init 8 = .ok (.dup, 1) := by decide +kernel
theorem dX7_init_9 : decode cX7_init 9 = .ok (.invokespecial 9, 3) := by decide +kernel
theorem dX7_init_12 : decode cX7_init 12 = .ok (.putfield 10, 3) := by decide +kernel
theorem dX7_init_15 : decode cX7_init 15 = .ok (.aload_n 0, 1) := by decide +kernel
theorem dX7_init_16 : decode cX7_init 16 = .ok (.new 16, 3) := by decide +kernel
theorem dX7_init_19 : decode cX7_init 19 = .ok (.dup, 1) := by decide +kernel
theorem dX7_init_20 : decode cX7_init 20 = .ok (.aload_n 0, 1) := by decide +kernel
theorem dX7_init_21 : decode cX7_init 21 = .ok (.getfield 10, 3) := by decide +kernel
theorem dX7_init_24 : decode cX7_init 24 = .ok (.invokespecial 18, 3) := by decide +kernel
theorem dX7_init_27 : decode cX7_init 27 = .ok (.putfield 21, 3) := by decide +kernel
theorem dX7_init_30 : decode cX7_init 30 = .ok (.aload_n 0, 1) := by decide +kernel
theorem dX7_init_31 : decode cX7_init 31 = .ok (.new 25, 3) := by decide +kernel
theorem dX7_init_34 : decode cX7_init 34 = .ok (.dup, 1) := by decide +kernel
theorem dX7_init_35 : decode cX7_init 35 = .ok (.aload_n 0, 1) := by decide +kernel
theorem dX7_init_36 : decode cX7_init 36 = .ok (.getfield 10, 3) := by decide +kernel
theorem dX7_init_39 : decode cX7_init 39 = .ok (.invokespecial 27, 3) := by decide +kernel
theorem dX7_init_42 : decode cX7_init 42 = .ok (.putfield 28, 3) := by decide +kernel
theorem dX7_init_45 : decode cX7_init 45 = .ok (.aload_n 0, 1) := by decide +kernel
theorem dX7_init_46 : decode cX7_init 46 = .ok (.new 32, 3) := by decide +kernel
theorem dX7_init_49 : decode cX7_init 49 = .ok (.dup, 1) := by decide +kernel
theorem dX7_init_50 : decode cX7_init 50 = .ok (.invokespecial 34, 3) := by decide +kernel
theorem dX7_init_53 : decode cX7_init 53 = .ok (.putfield 35, 3) := by decide +kernel
theorem dX7_init_56 : decode cX7_init 56 = .ok (.aload_n 0, 1) := by decide +kernel
theorem dX7_init_57 : decode cX7_init 57 = .ok (.new 39, 3) := by decide +kernel
theorem dX7_init_60 : decode cX7_init 60 = .ok (.dup, 1) := by decide +kernel
theorem dX7_init_61 : decode cX7_init 61 = .ok (.invokespecial 41, 3) := by decide +kernel
theorem dX7_init_64 : decode cX7_init 64 = .ok (.putfield 42, 3) := by decide +kernel
theorem dX7_init_67 : decode cX7_init 67 = .ok (.aload_n 0, 1) := by decide +kernel
theorem dX7_init_68 : decode cX7_init 68 = .ok (.new 46, 3) := by decide +kernel
theorem dX7_init_71 : decode cX7_init 71 = .ok (.dup, 1) := by decide +kernel
theorem dX7_init_72 : decode cX7_init 72 = .ok (.invokespecial 48, 3) := by decide +kernel
theorem dX7_init_75 : decode cX7_init 75 = .ok (.putfield 49, 3) := by decide +kernel
theorem dX7_init_78 : decode cX7_init 78 = .ok (.aload_n 0, 1) := by decide +kernel
theorem dX7_init_79 : decode cX7_init 79 = .ok (.new 53, 3) := by decide +kernel
theorem dX7_init_82 : decode cX7_init 82 = .ok (.dup, 1) := by decide +kernel
theorem dX7_init_83 : decode cX7_init 83 = .ok (.invokespecial 55, 3) := by decide +kernel
theorem dX7_init_86 : decode cX7_init 86 = .ok (.putfield 56, 3) := by decide +kernel
theorem dX7_init_89 : decode cX7_init 89 = .ok (.return_, 1) := by decide +kernel
theorem dX7_told_0 : decode cX7_told 0 = .ok (.iload_n 1, 1) := by decide +kernel
theorem dX7_told_1 : decode cX7_told 1 = .ok (.tableswitch 183 0 15 #[79, 87, 95, 103, 111, 119, 127, 135, 135, 135, 135, 135, 147, 155, 167, 175], 79) := by decide +kernel
theorem dX7_told_80 : decode cX7_told 80 = .ok (.aload_n 0, 1) := by decide +kernel
theorem dX7_told_81 : decode cX7_told 81 = .ok (.getfield 10, 3) := by decide +kernel
theorem dX7_told_84 : decode cX7_told 84 = .ok (.invokevirtual 60, 3) := by decide +kernel
theorem dX7_told_87 : decode cX7_told 87 = .ok (.ireturn, 1) := by decide +kernel
theorem dX7_told_88 : decode cX7_told 88 = .ok (.aload_n 0, 1) := by decide +kernel
theorem dX7_told_89 : decode cX7_told 89 = .ok (.invokevirtual 64, 3) := by decide +kernel
theorem dX7_told_92 : decode cX7_told 92 = .ok (.invokevirtual 68, 3) := by decide +kernel
theorem dX7_told_95 : decode cX7_told 95 = .ok (.ireturn, 1) := by decide +kernel
theorem dX7_told_96 : decode cX7_told 96 = .ok (.aload_n 0, 1) := by decide +kernel
theorem dX7_told_97 : decode cX7_told 97 = .ok (.invokevirtual 64, 3) := by decide +kernel
theorem dX7_told_100 : decode cX7_told 100 = .ok (.invokevirtual 71, 3) := by decide +kernel
theorem dX7_told_103 : decode cX7_told 103 = .ok (.ireturn, 1) := by decide +kernel
theorem dX7_told_104 : decode cX7_told 104 = .ok (.aload_n 0, 1) := by decide +kernel
theorem dX7_told_105 : decode cX7_told 105 = .ok (.invokevirtual 74, 3) := by decide +kernel
theorem dX7_told_108 : decode cX7_told 108 = .ok (.invokevirtual 78, 3) := by decide +kernel
theorem dX7_told_111 : decode cX7_told 111 = .ok (.ireturn, 1) := by decide +kernel
theorem dX7_told_112 : decode cX7_told 112 = .ok (.aload_n 0, 1) := by decide +kernel
theorem dX7_told_113 : decode cX7_told 113 = .ok (.invokevirtual 74, 3) := by decide +kernel
theorem dX7_told_116 : decode cX7_told 116 = .ok (.invokevirtual 81, 3) := by decide +kernel
theorem dX7_told_119 : decode cX7_told 119 = .ok (.ireturn, 1) := by decide +kernel
theorem dX7_told_120 : decode cX7_told 120 = .ok (.aload_n 0, 1) := by decide +kernel
theorem dX7_told_121 : decode cX7_told 121 = .ok (.invokevirtual 74, 3) := by decide +kernel
theorem dX7_told_124 : decode cX7_told 124 = .ok (.invokevirtual 84, 3) := by decide +kernel
theorem dX7_told_127 : decode cX7_told 127 = .ok (.ireturn, 1) := by decide +kernel
theorem dX7_told_128 : decode cX7_told 128 = .ok (.aload_n 0, 1) := by decide +kernel
theorem dX7_told_129 : decode cX7_told 129 = .ok (.getfield 21, 3) := by decide +kernel
theorem dX7_told_132 : decode cX7_told 132 = .ok (.invokevirtual 87, 3) := by decide +kernel
theorem dX7_told_135 : decode cX7_told 135 = .ok (.ireturn, 1) := by decide +kernel
theorem dX7_told_136 : decode cX7_told 136 = .ok (.aload_n 0, 1) := by decide +kernel
theorem dX7_told_137 : decode cX7_told 137 = .ok (.getfield 10, 3) := by decide +kernel
theorem dX7_told_140 : decode cX7_told 140 = .ok (.iload_n 1, 1) := by decide +kernel
theorem dX7_told_141 : decode cX7_told 141 = .ok (.bipush 7, 2) := by decide +kernel
theorem dX7_told_143 : decode cX7_told 143 = .ok (.isub, 1) := by decide +kernel
theorem dX7_told_144 : decode cX7_told 144 = .ok (.invokevirtual 90, 3) := by decide +kernel
theorem dX7_told_147 : decode cX7_told 147 = .ok (.ireturn, 1) := by decide +kernel
theorem dX7_told_148 : decode cX7_told 148 = .ok (.aload_n 0, 1) := by decide +kernel
theorem dX7_told_149 : decode cX7_told 149 = .ok (.getfield 49, 3) := by decide +kernel
theorem dX7_told_152 : decode cX7_told 152 = .ok (.invokevirtual 94, 3) := by decide +kernel
theorem dX7_told_155 : decode cX7_told 155 = .ok (.ireturn, 1) := by decide +kernel
theorem dX7_told_156 : decode cX7_told 156 = .ok (.aload_n 0, 1) := by decide +kernel
theorem dX7_told_157 : decode cX7_told 157 = .ok (.getfield 49, 3) := by decide +kernel
theorem dX7_told_160 : decode cX7_told 160 = .ok (.aload_n 0, 1) := by decide +kernel
theorem dX7_told_161 : decode cX7_told 161 = .ok (.invokevirtual 74, 3) := by decide +kernel
theorem dX7_told_164 : decode cX7_told 164 = .ok (.invokevirtual 97, 3) := by decide +kernel
theorem dX7_told_167 : decode cX7_told 167 = .ok (.ireturn, 1) := by decide +kernel
theorem dX7_told_168 : decode cX7_told 168 = .ok (.aload_n 0, 1) := by decide +kernel
theorem dX7_told_169 : decode cX7_told 169 = .ok (.getfield 35, 3) := by decide +kernel
theorem dX7_told_172 : decode cX7_told 172 = .ok (.invokevirtual 101, 3) := by decide +kernel
theorem dX7_told_175 : decode cX7_told 175 = .ok (.ireturn, 1) := by decide +kernel
theorem dX7_told_176 : decode cX7_told 176 = .ok (.aload_n 0, 1) := by decide +kernel
theorem dX7_told_177 : decode cX7_told 177 = .ok (.getfield 56, 3) := by decide +kernel
theorem dX7_told_180 : decode cX7_told 180 = .ok (.invokevirtual 104, 3) := by decide +kernel
theorem dX7_told_183 : decode cX7_told 183 = .ok (.ireturn, 1) := by decide +kernel
theorem dX7_told_184 : decode cX7_told 184 = .ok (.ldc 107, 2) := by decide +kernel
theorem dX7_told_186 : decode cX7_told 186 = .ok (.ireturn, 1) := by decide +kernel
theorem dX7_at_0 : decode cX7_at 0 = .ok (.aload_n 0, 1) := by decide +kernel
theorem dX7_at_1 : decode cX7_at 1 = .ok (.getfield 10, 3) := by decide +kernel
theorem dX7_at_4 : decode cX7_at 4 = .ok (.iload_n 1, 1) := by decide +kernel
theorem dX7_at_5 : decode cX7_at 5 = .ok (.invokevirtual 108, 3) := by decide +kernel
theorem dX7_at_8 : decode cX7_at 8 = .ok (.ifCond .ne 6, 3) := by decide +kernel
theorem dX7_at_11 : decode cX7_at 11 = .ok (.ldc 112, 2) := by decide +kernel
theorem dX7_at_13 : decode cX7_at 13 = .ok (.ireturn, 1) := by decide +kernel
theorem dX7_at_14 : decode cX7_at 14 = .ok (.iload_n 2, 1) := by decide +kernel
theorem dX7_at_15 : decode cX7_at 15 = .ok (.tableswitch 117 0 7 #[45, 54, 63, 72, 81, 90, 99, 108], 45) := by decide +kernel
theorem dX7_at_60 : decode cX7_at 60 = .ok (.aload_n 0, 1) := by decide +kernel
theorem dX7_at_61 : decode cX7_at 61 = .ok (.getfield 10, 3) := by decide +kernel
theorem dX7_at_64 : decode cX7_at 64 = .ok (.iload_n 1, 1) := by decide +kernel
theorem dX7_at_65 : decode cX7_at 65 = .ok (.invokevirtual 113, 3) := by decide +kernel
theorem dX7_at_68 : decode cX7_at 68 = .ok (.ireturn, 1) := by decide +kernel
theorem dX7_at_69 : decode cX7_at 69 = .ok (.aload_n 0, 1) := by decide +kernel
theorem dX7_at_70 : decode cX7_at 70 = .ok (.getfield 10, 3) := by decide +kernel
theorem dX7_at_73 : decode cX7_at 73 = .ok (.iload_n 1, 1) := by decide +kernel
theorem dX7_at_74 : decode cX7_at 74 = .ok (.invokevirtual 116, 3) := by decide +kernel
theorem dX7_at_77 : decode cX7_at 77 = .ok (.ireturn, 1) := by decide +kernel
theorem dX7_at_78 : decode cX7_at 78 = .ok (.aload_n 0, 1) := by decide +kernel
theorem dX7_at_79 : decode cX7_at 79 = .ok (.getfield 10, 3) := by decide +kernel
theorem dX7_at_82 : decode cX7_at 82 = .ok (.iload_n 1, 1) := by decide +kernel
theorem dX7_at_83 : decode cX7_at 83 = .ok (.invokevirtual 119, 3) := by decide +kernel
theorem dX7_at_86 : decode cX7_at 86 = .ok (.ireturn, 1) := by decide +kernel
theorem dX7_at_87 : decode cX7_at 87 = .ok (.aload_n 0, 1) := by decide +kernel
theorem dX7_at_88 : decode cX7_at 88 = .ok (.getfield 10, 3) := by decide +kernel
theorem dX7_at_91 : decode cX7_at 91 = .ok (.iload_n 1, 1) := by decide +kernel
theorem dX7_at_92 : decode cX7_at 92 = .ok (.invokevirtual 122, 3) := by decide +kernel
theorem dX7_at_95 : decode cX7_at 95 = .ok (.ireturn, 1) := by decide +kernel
theorem dX7_at_96 : decode cX7_at 96 = .ok (.aload_n 0, 1) := by decide +kernel
theorem dX7_at_97 : decode cX7_at 97 = .ok (.invokevirtual 64, 3) := by decide +kernel
theorem dX7_at_100 : decode cX7_at 100 = .ok (.iload_n 1, 1) := by decide +kernel
theorem dX7_at_101 : decode cX7_at 101 = .ok (.invokevirtual 125, 3) := by decide +kernel
theorem dX7_at_104 : decode cX7_at 104 = .ok (.ireturn, 1) := by decide +kernel
theorem dX7_at_105 : decode cX7_at 105 = .ok (.aload_n 0, 1) := by decide +kernel
theorem dX7_at_106 : decode cX7_at 106 = .ok (.invokevirtual 64, 3) := by decide +kernel
theorem dX7_at_109 : decode cX7_at 109 = .ok (.iload_n 1, 1) := by decide +kernel
theorem dX7_at_110 : decode cX7_at 110 = .ok (.invokevirtual 128, 3) := by decide +kernel
theorem dX7_at_113 : decode cX7_at 113 = .ok (.ireturn, 1) := by decide +kernel
theorem dX7_at_114 : decode cX7_at 114 = .ok (.aload_n 0, 1) := by decide +kernel
theorem dX7_at_115 : decode cX7_at 115 = .ok (.getfield 28, 3) := by decide +kernel
theorem dX7_at_118 : decode cX7_at 118 = .ok (.iload_n 1, 1) := by decide +kernel
theorem dX7_at_119 : decode cX7_at 119 = .ok (.invokevirtual 131, 3) := by decide +kernel
theorem dX7_at_122 : decode cX7_at 122 = .ok (.ireturn, 1) := by decide +kernel
theorem dX7_at_123 : decode cX7_at 123 = .ok (.aload_n 0, 1) := by decide +kernel
theorem dX7_at_124 : decode cX7_at 124 = .ok (.getfield 10, 3) := by decide +kernel
theorem dX7_at_127 : decode cX7_at 127 = .ok (.iload_n 1, 1) := by decide +kernel
theorem dX7_at_128 : decode cX7_at 128 = .ok (.invokevirtual 134, 3) := by decide +kernel
theorem dX7_at_131 : decode cX7_at 131 = .ok (.ireturn, 1) := by decide +kernel
theorem dX7_at_132 : decode cX7_at 132 = .ok (.ldc 107, 2) := by decide +kernel
theorem dX7_at_134 : decode cX7_at 134 = .ok (.ireturn, 1) := by decide +kernel
theorem dX7_cost_0 : decode cX7_cost 0 = .ok (.aload_n 0, 1) := by decide +kernel
theorem dX7_cost_1 : decode cX7_cost 1 = .ok (.getfield 10, 3) := by decide +kernel
theorem dX7_cost_4 : decode cX7_cost 4 = .ok (.iload_n 1, 1) := by decide +kernel
theorem dX7_cost_5 : decode cX7_cost 5 = .ok (.invokevirtual 108, 3) := by decide +kernel
theorem dX7_cost_8 : decode cX7_cost 8 = .ok (.ifCond .eq 14, 3) := by decide +kernel
theorem dX7_cost_11 : decode cX7_cost 11 = .ok (.aload_n 0, 1) := by decide +kernel
theorem dX7_cost_12 : decode cX7_cost 12 = .ok (.getfield 10, 3) := by decide +kernel
theorem dX7_cost_15 : decode cX7_cost 15 = .ok (.iload_n 2, 1) := by decide +kernel
theorem dX7_cost_16 : decode cX7_cost 16 = .ok (.invokevirtual 108, 3) := by decide +kernel
theorem dX7_cost_19 : decode cX7_cost 19 = .ok (.ifCond .ne 6, 3) := by decide +kernel
theorem dX7_cost_22 : decode cX7_cost 22 = .ok (.ldc 112, 2) := by decide +kernel
theorem dX7_cost_24 : decode cX7_cost 24 = .ok (.ireturn, 1) := by decide +kernel
theorem dX7_cost_25 : decode cX7_cost 25 = .ok (.aload_n 0, 1) := by decide +kernel
theorem dX7_cost_26 : decode cX7_cost 26 = .ok (.getfield 10, 3) := by decide +kernel
theorem dX7_cost_29 : decode cX7_cost 29 = .ok (.iload_n 1, 1) := by decide +kernel
theorem dX7_cost_30 : decode cX7_cost 30 = .ok (.iload_n 2, 1) := by decide +kernel
theorem dX7_cost_31 : decode cX7_cost 31 = .ok (.invokevirtual 137, 3) := by decide +kernel
theorem dX7_cost_34 : decode cX7_cost 34 = .ok (.ireturn, 1) := by decide +kernel
theorem dX7_least_0 : decode cX7_least 0 = .ok (.iload_n 1, 1) := by decide +kernel
theorem dX7_least_1 : decode cX7_least 1 = .ok (.invokestatic 141, 3) := by decide +kernel
theorem dX7_least_4 : decode cX7_least 4 = .ok (.ifCond .ne 6, 3) := by decide +kernel
theorem dX7_least_7 : decode cX7_least 7 = .ok (.ldc 107, 2) := by decide +kernel
theorem dX7_least_9 : decode cX7_least 9 = .ok (.ireturn, 1) := by decide +kernel
theorem dX7_least_10 : decode cX7_least 10 = .ok (.aload_n 0, 1) := by decide +kernel
theorem dX7_least_11 : decode cX7_least 11 = .ok (.invokevirtual 74, 3) := by decide +kernel
theorem dX7_least_14 : decode cX7_least 14 = .ok (.iload_n 1, 1) := by decide +kernel
theorem dX7_least_15 : decode cX7_least 15 = .ok (.invokevirtual 144, 3) := by decide +kernel
theorem dX7_least_18 : decode cX7_least 18 = .ok (.ireturn, 1) := by decide +kernel
theorem dX7_first_0 : decode cX7_first 0 = .ok (.aload_n 0, 1) := by decide +kernel
theorem dX7_first_1 : decode cX7_first 1 = .ok (.getfield 10, 3) := by decide +kernel
theorem dX7_first_4 : decode cX7_first 4 = .ok (.iload_n 2, 1) := by decide +kernel
theorem dX7_first_5 : decode cX7_first 5 = .ok (.invokevirtual 108, 3) := by decide +kernel
theorem dX7_first_8 : decode cX7_first 8 = .ok (.ifCond .ne 6, 3) := by decide +kernel
theorem dX7_first_11 : decode cX7_first 11 = .ok (.ldc 112, 2) := by decide +kernel
theorem dX7_first_13 : decode cX7_first 13 = .ok (.ireturn, 1) := by decide +kernel
theorem dX7_first_14 : decode cX7_first 14 = .ok (.iload_n 1, 1) := by decide +kernel
theorem dX7_first_15 : decode cX7_first 15 = .ok (.invokestatic 141, 3) := by decide +kernel
theorem dX7_first_18 : decode cX7_first 18 = .ok (.ifCond .ne 6, 3) := by decide +kernel
theorem dX7_first_21 : decode cX7_first 21 = .ok (.ldc 107, 2) := by decide +kernel
theorem dX7_first_23 : decode cX7_first 23 = .ok (.ireturn, 1) := by decide +kernel
theorem dX7_first_24 : decode cX7_first 24 = .ok (.aload_n 0, 1) := by decide +kernel
theorem dX7_first_25 : decode cX7_first 25 = .ok (.invokevirtual 74, 3) := by decide +kernel
theorem dX7_first_28 : decode cX7_first 28 = .ok (.astore_n 3, 1) := by decide +kernel
theorem dX7_first_29 : decode cX7_first 29 = .ok (.aload_n 3, 1) := by decide +kernel
theorem dX7_first_30 : decode cX7_first 30 = .ok (.iload_n 1, 1) := by decide +kernel
theorem dX7_first_31 : decode cX7_first 31 = .ok (.invokevirtual 147, 3) := by decide +kernel
theorem dX7_first_34 : decode cX7_first 34 = .ok (.ifCond .eq 11, 3) := by decide +kernel
theorem dX7_first_37 : decode cX7_first 37 = .ok (.aload_n 3, 1) := by decide +kernel
theorem dX7_first_38 : decode cX7_first 38 = .ok (.iload_n 2, 1) := by decide +kernel
theorem dX7_first_39 : decode cX7_first 39 = .ok (.invokevirtual 150, 3) := by decide +kernel
theorem dX7_first_42 : decode cX7_first 42 = .ok (.goto 5, 3) := by decide +kernel
theorem dX7_first_45 : decode cX7_first 45 = .ok (.ldc 153, 2) := by decide +kernel
theorem dX7_first_47 : decode cX7_first 47 = .ok (.ireturn, 1) := by decide +kernel
theorem dX7_voice_0 : decode cX7_voice 0 = .ok (.aload_n 0, 1) := by decide +kernel
theorem dX7_voice_1 : decode cX7_voice 1 = .ok (.invokevirtual 64, 3) := by decide +kernel
theorem dX7_voice_4 : decode cX7_voice 4 = .ok (.astore_n 3, 1) := by decide +kernel
theorem dX7_voice_5 : decode cX7_voice 5 = .ok (.aload_n 3, 1) := by decide +kernel
theorem dX7_voice_6 : decode cX7_voice 6 = .ok (.iload_n 1, 1) := by decide +kernel
theorem dX7_voice_7 : decode cX7_voice 7 = .ok (.invokevirtual 154, 3) := by decide +kernel
theorem dX7_voice_10 : decode cX7_voice 10 = .ok (.ifCond .ne 6, 3) := by decide +kernel
theorem dX7_voice_13 : decode cX7_voice 13 = .ok (.ldc 112, 2) := by decide +kernel
theorem dX7_voice_15 : decode cX7_voice 15 = .ok (.ireturn, 1) := by decide +kernel
theorem dX7_voice_16 : decode cX7_voice 16 = .ok (.iload_n 2, 1) := by decide +kernel
theorem dX7_voice_17 : decode cX7_voice 17 = .ok (.tableswitch 93 0 6 #[43, 49, 56, 69, 75, 81, 87], 43) := by decide +kernel
theorem dX7_voice_60 : decode cX7_voice 60 = .ok (.aload_n 3, 1) := by decide +kernel
theorem dX7_voice_61 : decode cX7_voice 61 = .ok (.iload_n 1, 1) := by decide +kernel
theorem dX7_voice_62 : decode cX7_voice 62 = .ok (.invokevirtual 157, 3) := by decide +kernel
theorem dX7_voice_65 : decode cX7_voice 65 = .ok (.ireturn, 1) := by decide +kernel
theorem dX7_voice_66 : decode cX7_voice 66 = .ok (.aload_n 3, 1) := by decide +kernel
theorem dX7_voice_67 : decode cX7_voice 67 = .ok (.iload_n 1, 1) := by decide +kernel
theorem dX7_voice_68 : decode cX7_voice 68 = .ok (.iconst 0, 1) := by decide +kernel
theorem dX7_voice_69 : decode cX7_voice 69 = .ok (.invokevirtual 159, 3) := by decide +kernel
theorem dX7_voice_72 : decode cX7_voice 72 = .ok (.ireturn, 1) := by decide +kernel
theorem dX7_voice_73 : decode cX7_voice 73 = .ok (.aload_n 3, 1) := by decide +kernel
theorem dX7_voice_74 : decode cX7_voice 74 = .ok (.iload_n 1, 1) := by decide +kernel
theorem dX7_voice_75 : decode cX7_voice 75 = .ok (.aload_n 3, 1) := by decide +kernel
theorem dX7_voice_76 : decode cX7_voice 76 = .ok (.iload_n 1, 1) := by decide +kernel
theorem dX7_voice_77 : decode cX7_voice 77 = .ok (.invokevirtual 157, 3) := by decide +kernel
theorem dX7_voice_80 : decode cX7_voice 80 = .ok (.iconst 1, 1) := by decide +kernel
theorem dX7_voice_81 : decode cX7_voice 81 = .ok (.isub, 1) := by decide +kernel
theorem dX7_voice_82 : decode cX7_voice 82 = .ok (.invokevirtual 159, 3) := by decide +kernel
theorem dX7_voice_85 : decode cX7_voice 85 = .ok (.ireturn, 1) := by decide +kernel
theorem dX7_voice_86 : decode cX7_voice 86 = .ok (.aload_n 3, 1) := by decide +kernel
theorem dX7_voice_87 : decode cX7_voice 87 = .ok (.iload_n 1, 1) := by decide +kernel
theorem dX7_voice_88 : decode cX7_voice 88 = .ok (.invokevirtual 162, 3) := by decide +kernel
theorem dX7_voice_91 : decode cX7_voice 91 = .ok (.ireturn, 1) := by decide +kernel
theorem dX7_voice_92 : decode cX7_voice 92 = .ok (.aload_n 3, 1) := by decide +kernel
theorem dX7_voice_93 : decode cX7_voice 93 = .ok (.iload_n 1, 1) := by decide +kernel
theorem dX7_voice_94 : decode cX7_voice 94 = .ok (.invokevirtual 165, 3) := by decide +kernel
theorem dX7_voice_97 : decode cX7_voice 97 = .ok (.ireturn, 1) := by decide +kernel
theorem dX7_voice_98 : decode cX7_voice 98 = .ok (.aload_n 3, 1) := by decide +kernel
theorem dX7_voice_99 : decode cX7_voice 99 = .ok (.iload_n 1, 1) := by decide +kernel
theorem dX7_voice_100 : decode cX7_voice 100 = .ok (.invokevirtual 168, 3) := by decide +kernel
theorem dX7_voice_103 : decode cX7_voice 103 = .ok (.ireturn, 1) := by decide +kernel
theorem dX7_voice_104 : decode cX7_voice 104 = .ok (.aload_n 3, 1) := by decide +kernel
theorem dX7_voice_105 : decode cX7_voice 105 = .ok (.iload_n 1, 1) := by decide +kernel
theorem dX7_voice_106 : decode cX7_voice 106 = .ok (.invokevirtual 171, 3) := by decide +kernel
theorem dX7_voice_109 : decode cX7_voice 109 = .ok (.ireturn, 1) := by decide +kernel
theorem dX7_voice_110 : decode cX7_voice 110 = .ok (.ldc 107, 2) := by decide +kernel
theorem dX7_voice_112 : decode cX7_voice 112 = .ok (.ireturn, 1) := by decide +kernel
theorem dX7_member_0 : decode cX7_member 0 = .ok (.aload_n 0, 1) := by decide +kernel
theorem dX7_member_1 : decode cX7_member 1 = .ok (.invokevirtual 64, 3) := by decide +kernel
theorem dX7_member_4 : decode cX7_member 4 = .ok (.astore_n 3, 1) := by decide +kernel
theorem dX7_member_5 : decode cX7_member 5 = .ok (.aload_n 3, 1) := by decide +kernel
theorem dX7_member_6 : decode cX7_member 6 = .ok (.iload_n 1, 1) := by decide +kernel
theorem dX7_member_7 : decode cX7_member 7 = .ok (.invokevirtual 154, 3) := by decide +kernel
theorem dX7_member_10 : decode cX7_member 10 = .ok (.ifCond .ne 6, 3) := by decide +kernel
theorem dX7_member_13 : decode cX7_member 13 = .ok (.ldc 112, 2) := by decide +kernel
theorem dX7_member_15 : decode cX7_member 15 = .ok (.ireturn, 1) := by decide +kernel
theorem dX7_member_16 : decode cX7_member 16 = .ok (.iload_n 2, 1) := by decide +kernel
theorem dX7_member_17 : decode cX7_member 17 = .ok (.ifCond .ge 6, 3) := by decide +kernel
theorem dX7_member_20 : decode cX7_member 20 = .ok (.ldc 107, 2) := by decide +kernel
theorem dX7_member_22 : decode cX7_member 22 = .ok (.ireturn, 1) := by decide +kernel
theorem dX7_member_23 : decode cX7_member 23 = .ok (.aload_n 3, 1) := by decide +kernel
theorem dX7_member_24 : decode cX7_member 24 = .ok (.iload_n 1, 1) := by decide +kernel
theorem dX7_member_25 : decode cX7_member 25 = .ok (.iload_n 2, 1) := by decide +kernel
theorem dX7_member_26 : decode cX7_member 26 = .ok (.invokevirtual 159, 3) := by decide +kernel
theorem dX7_member_29 : decode cX7_member 29 = .ok (.ireturn, 1) := by decide +kernel
theorem dX7_note_0 : decode cX7_note 0 = .ok (.iload_n 1, 1) := by decide +kernel
theorem dX7_note_1 : decode cX7_note 1 = .ok (.iload_n 2, 1) := by decide +kernel
theorem dX7_note_2 : decode cX7_note 2 = .ok (.iload_n 3, 1) := by decide +kernel
theorem dX7_note_3 : decode cX7_note 3 = .ok (.invokestatic 174, 3) := by decide +kernel
theorem dX7_note_6 : decode cX7_note 6 = .ok (.ifCond .ne 6, 3) := by decide +kernel
theorem dX7_note_9 : decode cX7_note 9 = .ok (.ldc 107, 2) := by decide +kernel
theorem dX7_note_11 : decode cX7_note 11 = .ok (.ireturn, 1) := by decide +kernel
theorem dX7_note_12 : decode cX7_note 12 = .ok (.aload_n 0, 1) := by decide +kernel
theorem dX7_note_13 : decode cX7_note 13 = .ok (.getfield 10, 3) := by decide +kernel
theorem dX7_note_16 : decode cX7_note 16 = .ok (.invokevirtual 178, 3) := by decide +kernel
theorem dX7_note_19 : decode cX7_note 19 = .ok (.ifCond .eq 6, 3) := by decide +kernel
theorem dX7_note_22 : decode cX7_note 22 = .ok (.ldc 182, 2) := by decide +kernel
theorem dX7_note_24 : decode cX7_note 24 = .ok (.ireturn, 1) := by decide +kernel
theorem dX7_note_25 : decode cX7_note 25 = .ok (.aload_n 0, 1) := by decide +kernel
theorem dX7_note_26 : decode cX7_note 26 = .ok (.getfield 35, 3) := by decide +kernel
theorem dX7_note_29 : decode cX7_note 29 = .ok (.aload_n 0, 1) := by decide +kernel
theorem dX7_note_30 : decode cX7_note 30 = .ok (.getfield 10, 3) := by decide +kernel
theorem dX7_note_33 : decode cX7_note 33 = .ok (.invokevirtual 183, 3) := by decide +kernel
theorem dX7_note_36 : decode cX7_note 36 = .ok (.aload_n 0, 1) := by decide +kernel
theorem dX7_note_37 : decode cX7_note 37 = .ok (.getfield 10, 3) := by decide +kernel
theorem dX7_note_40 : decode cX7_note 40 = .ok (.iload_n 1, 1) := by decide +kernel
theorem dX7_note_41 : decode cX7_note 41 = .ok (.iload_n 2, 1) := by decide +kernel
theorem dX7_note_42 : decode cX7_note 42 = .ok (.iload_n 3, 1) := by decide +kernel
theorem dX7_note_43 : decode cX7_note 43 = .ok (.invokevirtual 186, 3) := by decide +kernel
theorem dX7_note_46 : decode cX7_note 46 = .ok (.ireturn, 1) := by decide +kernel
theorem dX7_take_0 : decode cX7_take 0 = .ok (.aload_n 0, 1) := by decide +kernel
theorem dX7_take_1 : decode cX7_take 1 = .ok (.getfield 10, 3) := by decide +kernel
theorem dX7_take_4 : decode cX7_take 4 = .ok (.iload_n 1, 1) := by decide +kernel
theorem dX7_take_5 : decode cX7_take 5 = .ok (.invokevirtual 108, 3) := by decide +kernel
theorem dX7_take_8 : decode cX7_take 8 = .ok (.ifCond .ne 6, 3) := by decide +kernel
theorem dX7_take_11 : decode cX7_take 11 = .ok (.ldc 112, 2) := by decide +kernel
theorem dX7_take_13 : decode cX7_take 13 = .ok (.ireturn, 1) := by decide +kernel
theorem dX7_take_14 : decode cX7_take 14 = .ok (.aload_n 0, 1) := by decide +kernel
theorem dX7_take_15 : decode cX7_take 15 = .ok (.getfield 35, 3) := by decide +kernel
theorem dX7_take_18 : decode cX7_take 18 = .ok (.aload_n 0, 1) := by decide +kernel
theorem dX7_take_19 : decode cX7_take 19 = .ok (.getfield 10, 3) := by decide +kernel
theorem dX7_take_22 : decode cX7_take 22 = .ok (.invokevirtual 183, 3) := by decide +kernel
theorem dX7_take_25 : decode cX7_take 25 = .ok (.aload_n 0, 1) := by decide +kernel
theorem dX7_take_26 : decode cX7_take 26 = .ok (.getfield 10, 3) := by decide +kernel
theorem dX7_take_29 : decode cX7_take 29 = .ok (.iload_n 1, 1) := by decide +kernel
theorem dX7_take_30 : decode cX7_take 30 = .ok (.invokevirtual 190, 3) := by decide +kernel
theorem dX7_take_33 : decode cX7_take 33 = .ok (.aload_n 0, 1) := by decide +kernel
theorem dX7_take_34 : decode cX7_take 34 = .ok (.getfield 10, 3) := by decide +kernel
theorem dX7_take_37 : decode cX7_take 37 = .ok (.invokevirtual 60, 3) := by decide +kernel
theorem dX7_take_40 : decode cX7_take 40 = .ok (.ireturn, 1) := by decide +kernel
theorem dX7_move_0 : decode cX7_move 0 = .ok (.aload_n 0, 1) := by decide +kernel
theorem dX7_move_1 : decode cX7_move 1 = .ok (.getfield 10, 3) := by decide +kernel
theorem dX7_move_4 : decode cX7_move 4 = .ok (.iload_n 1, 1) := by decide +kernel
theorem dX7_move_5 : decode cX7_move 5 = .ok (.invokevirtual 108, 3) := by decide +kernel
theorem dX7_move_8 : decode cX7_move 8 = .ok (.ifCond .ne 6, 3) := by decide +kernel
theorem dX7_move_11 : decode cX7_move 11 = .ok (.ldc 112, 2) := by decide +kernel
theorem dX7_move_13 : decode cX7_move 13 = .ok (.ireturn, 1) := by decide +kernel
theorem dX7_move_14 : decode cX7_move 14 = .ok (.iload_n 2, 1) := by decide +kernel
theorem dX7_move_15 : decode cX7_move 15 = .ok (.iload_n 3, 1) := by decide +kernel
theorem dX7_move_16 : decode cX7_move 16 = .ok (.iload 4, 2) := by decide +kernel
theorem dX7_move_18 : decode cX7_move 18 = .ok (.invokestatic 174, 3) := by decide +kernel
theorem dX7_move_21 : decode cX7_move 21 = .ok (.ifCond .ne 6, 3) := by decide +kernel
theorem dX7_move_24 : decode cX7_move 24 = .ok (.ldc 107, 2) := by decide +kernel
theorem dX7_move_26 : decode cX7_move 26 = .ok (.ireturn, 1) := by decide +kernel
theorem dX7_move_27 : decode cX7_move 27 = .ok (.aload_n 0, 1) := by decide +kernel
theorem dX7_move_28 : decode cX7_move 28 = .ok (.getfield 35, 3) := by decide +kernel
theorem dX7_move_31 : decode cX7_move 31 = .ok (.aload_n 0, 1) := by decide +kernel
theorem dX7_move_32 : decode cX7_move 32 = .ok (.getfield 10, 3) := by decide +kernel
theorem dX7_move_35 : decode cX7_move 35 = .ok (.invokevirtual 183, 3) := by decide +kernel
theorem dX7_move_38 : decode cX7_move 38 = .ok (.aload_n 0, 1) := by decide +kernel
theorem dX7_move_39 : decode cX7_move 39 = .ok (.getfield 10, 3) := by decide +kernel
theorem dX7_move_42 : decode cX7_move 42 = .ok (.iload_n 1, 1) := by decide +kernel
theorem dX7_move_43 : decode cX7_move 43 = .ok (.invokevirtual 190, 3) := by decide +kernel
theorem dX7_move_46 : decode cX7_move 46 = .ok (.aload_n 0, 1) := by decide +kernel
theorem dX7_move_47 : decode cX7_move 47 = .ok (.getfield 10, 3) := by decide +kernel
theorem dX7_move_50 : decode cX7_move 50 = .ok (.iload_n 2, 1) := by decide +kernel
theorem dX7_move_51 : decode cX7_move 51 = .ok (.iload_n 3, 1) := by decide +kernel
theorem dX7_move_52 : decode cX7_move 52 = .ok (.iload 4, 2) := by decide +kernel
theorem dX7_move_54 : decode cX7_move 54 = .ok (.invokevirtual 186, 3) := by decide +kernel
theorem dX7_move_57 : decode cX7_move 57 = .ok (.ireturn, 1) := by decide +kernel
theorem dX7_share_0 : decode cX7_share 0 = .ok (.aload_n 0, 1) := by decide +kernel
theorem dX7_share_1 : decode cX7_share 1 = .ok (.getfield 10, 3) := by decide +kernel
theorem dX7_share_4 : decode cX7_share 4 = .ok (.iload_n 1, 1) := by decide +kernel
theorem dX7_share_5 : decode cX7_share 5 = .ok (.invokevirtual 108, 3) := by decide +kernel
theorem dX7_share_8 : decode cX7_share 8 = .ok (.ifCond .ne 6, 3) := by decide +kernel
theorem dX7_share_11 : decode cX7_share 11 = .ok (.ldc 112, 2) := by decide +kernel
theorem dX7_share_13 : decode cX7_share 13 = .ok (.ireturn, 1) := by decide +kernel
theorem dX7_share_14 : decode cX7_share 14 = .ok (.aload_n 0, 1) := by decide +kernel
theorem dX7_share_15 : decode cX7_share 15 = .ok (.getfield 10, 3) := by decide +kernel
theorem dX7_share_18 : decode cX7_share 18 = .ok (.invokevirtual 178, 3) := by decide +kernel
theorem dX7_share_21 : decode cX7_share 21 = .ok (.ifCond .eq 6, 3) := by decide +kernel
theorem dX7_share_24 : decode cX7_share 24 = .ok (.ldc 182, 2) := by decide +kernel
theorem dX7_share_26 : decode cX7_share 26 = .ok (.ireturn, 1) := by decide +kernel
theorem dX7_share_27 : decode cX7_share 27 = .ok (.aload_n 0, 1) := by decide +kernel
theorem dX7_share_28 : decode cX7_share 28 = .ok (.getfield 35, 3) := by decide +kernel
theorem dX7_share_31 : decode cX7_share 31 = .ok (.aload_n 0, 1) := by decide +kernel
theorem dX7_share_32 : decode cX7_share 32 = .ok (.getfield 10, 3) := by decide +kernel
theorem dX7_share_35 : decode cX7_share 35 = .ok (.invokevirtual 183, 3) := by decide +kernel
theorem dX7_share_38 : decode cX7_share 38 = .ok (.aload_n 0, 1) := by decide +kernel
theorem dX7_share_39 : decode cX7_share 39 = .ok (.getfield 10, 3) := by decide +kernel
theorem dX7_share_42 : decode cX7_share 42 = .ok (.aload_n 0, 1) := by decide +kernel
theorem dX7_share_43 : decode cX7_share 43 = .ok (.getfield 10, 3) := by decide +kernel
theorem dX7_share_46 : decode cX7_share 46 = .ok (.iload_n 1, 1) := by decide +kernel
theorem dX7_share_47 : decode cX7_share 47 = .ok (.invokevirtual 113, 3) := by decide +kernel
theorem dX7_share_50 : decode cX7_share 50 = .ok (.aload_n 0, 1) := by decide +kernel
theorem dX7_share_51 : decode cX7_share 51 = .ok (.getfield 10, 3) := by decide +kernel
theorem dX7_share_54 : decode cX7_share 54 = .ok (.iload_n 1, 1) := by decide +kernel
theorem dX7_share_55 : decode cX7_share 55 = .ok (.invokevirtual 194, 3) := by decide +kernel
theorem dX7_share_58 : decode cX7_share 58 = .ok (.aload_n 0, 1) := by decide +kernel
theorem dX7_share_59 : decode cX7_share 59 = .ok (.getfield 10, 3) := by decide +kernel
theorem dX7_share_62 : decode cX7_share 62 = .ok (.iload_n 1, 1) := by decide +kernel
theorem dX7_share_63 : decode cX7_share 63 = .ok (.invokevirtual 119, 3) := by decide +kernel
theorem dX7_share_66 : decode cX7_share 66 = .ok (.invokevirtual 186, 3) := by decide +kernel
theorem dX7_share_69 : decode cX7_share 69 = .ok (.ireturn, 1) := by decide +kernel
theorem dX7_term_0 : decode cX7_term 0 = .ok (.iload_n 1, 1) := by decide +kernel
theorem dX7_term_1 : decode cX7_term 1 = .ok (.iload_n 2, 1) := by decide +kernel
theorem dX7_term_2 : decode cX7_term 2 = .ok (.invokestatic 197, 3) := by decide +kernel
theorem dX7_term_5 : decode cX7_term 5 = .ok (.ifCond .ne 6, 3) := by decide +kernel
theorem dX7_term_8 : decode cX7_term 8 = .ok (.ldc 107, 2) := by decide +kernel
theorem dX7_term_10 : decode cX7_term 10 = .ok (.ireturn, 1) := by decide +kernel
theorem dX7_term_11 : decode cX7_term 11 = .ok (.aload_n 0, 1) := by decide +kernel
theorem dX7_term_12 : decode cX7_term 12 = .ok (.getfield 35, 3) := by decide +kernel
theorem dX7_term_15 : decode cX7_term 15 = .ok (.aload_n 0, 1) := by decide +kernel
theorem dX7_term_16 : decode cX7_term 16 = .ok (.getfield 10, 3) := by decide +kernel
theorem dX7_term_19 : decode cX7_term 19 = .ok (.invokevirtual 183, 3) := by decide +kernel
theorem dX7_term_22 : decode cX7_term 22 = .ok (.aload_n 0, 1) := by decide +kernel
theorem dX7_term_23 : decode cX7_term 23 = .ok (.getfield 10, 3) := by decide +kernel
theorem dX7_term_26 : decode cX7_term 26 = .ok (.iload_n 1, 1) := by decide +kernel
theorem dX7_term_27 : decode cX7_term 27 = .ok (.iload_n 2, 1) := by decide +kernel
theorem dX7_term_28 : decode cX7_term 28 = .ok (.invokevirtual 201, 3) := by decide +kernel
theorem dX7_term_31 : decode cX7_term 31 = .ok (.ireturn, 1) := by decide +kernel
theorem dX7_follow_0 : decode cX7_follow 0 = .ok (.aload_n 0, 1) := by decide +kernel
theorem dX7_follow_1 : decode cX7_follow 1 = .ok (.getfield 10, 3) := by decide +kernel
theorem dX7_follow_4 : decode cX7_follow 4 = .ok (.iload_n 1, 1) := by decide +kernel
theorem dX7_follow_5 : decode cX7_follow 5 = .ok (.invokevirtual 108, 3) := by decide +kernel
theorem dX7_follow_8 : decode cX7_follow 8 = .ok (.ifCond .eq 14, 3) := by decide +kernel
theorem dX7_follow_11 : decode cX7_follow 11 = .ok (.aload_n 0, 1) := by decide +kernel
theorem dX7_follow_12 : decode cX7_follow 12 = .ok (.getfield 10, 3) := by decide +kernel
theorem dX7_follow_15 : decode cX7_follow 15 = .ok (.iload_n 2, 1) := by decide +kernel
theorem dX7_follow_16 : decode cX7_follow 16 = .ok (.invokevirtual 108, 3) := by decide +kernel
theorem dX7_follow_19 : decode cX7_follow 19 = .ok (.ifCond .ne 6, 3) := by decide +kernel
theorem dX7_follow_22 : decode cX7_follow 22 = .ok (.ldc 112, 2) := by decide +kernel
theorem dX7_follow_24 : decode cX7_follow 24 = .ok (.ireturn, 1) := by decide +kernel
theorem dX7_follow_25 : decode cX7_follow 25 = .ok (.aload_n 0, 1) := by decide +kernel
theorem dX7_follow_26 : decode cX7_follow 26 = .ok (.getfield 10, 3) := by decide +kernel
theorem dX7_follow_29 : decode cX7_follow 29 = .ok (.iload_n 1, 1) := by decide +kernel
theorem dX7_follow_30 : decode cX7_follow 30 = .ok (.iload_n 2, 1) := by decide +kernel
theorem dX7_follow_31 : decode cX7_follow 31 = .ok (.invokevirtual 204, 3) := by decide +kernel
theorem dX7_follow_34 : decode cX7_follow 34 = .ok (.ifCond .ne 6, 3) := by decide +kernel
theorem dX7_follow_37 : decode cX7_follow 37 = .ok (.ldc 153, 2) := by decide +kernel
theorem dX7_follow_39 : decode cX7_follow 39 = .ok (.ireturn, 1) := by decide +kernel
theorem dX7_follow_40 : decode cX7_follow 40 = .ok (.aload_n 0, 1) := by decide +kernel
theorem dX7_follow_41 : decode cX7_follow 41 = .ok (.getfield 35, 3) := by decide +kernel
theorem dX7_follow_44 : decode cX7_follow 44 = .ok (.aload_n 0, 1) := by decide +kernel
theorem dX7_follow_45 : decode cX7_follow 45 = .ok (.getfield 10, 3) := by decide +kernel
theorem dX7_follow_48 : decode cX7_follow 48 = .ok (.invokevirtual 183, 3) := by decide +kernel
theorem dX7_follow_51 : decode cX7_follow 51 = .ok (.aload_n 0, 1) := by decide +kernel
theorem dX7_follow_52 : decode cX7_follow 52 = .ok (.getfield 10, 3) := by decide +kernel
theorem dX7_follow_55 : decode cX7_follow 55 = .ok (.aload_n 0, 1) := by decide +kernel
theorem dX7_follow_56 : decode cX7_follow 56 = .ok (.invokevirtual 64, 3) := by decide +kernel
theorem dX7_follow_59 : decode cX7_follow 59 = .ok (.iload_n 2, 1) := by decide +kernel
theorem dX7_follow_60 : decode cX7_follow 60 = .ok (.invokevirtual 125, 3) := by decide +kernel
theorem dX7_follow_63 : decode cX7_follow 63 = .ok (.iconst (-1), 1) := by decide +kernel
theorem dX7_follow_64 : decode cX7_follow 64 = .ok (.invokevirtual 207, 3) := by decide +kernel
theorem dX7_follow_67 : decode cX7_follow 67 = .ok (.aload_n 0, 1) := by decide +kernel
theorem dX7_follow_68 : decode cX7_follow 68 = .ok (.getfield 10, 3) := by decide +kernel
theorem dX7_follow_71 : decode cX7_follow 71 = .ok (.iload_n 1, 1) := by decide +kernel
theorem dX7_follow_72 : decode cX7_follow 72 = .ok (.iload_n 2, 1) := by decide +kernel
theorem dX7_follow_73 : decode cX7_follow 73 = .ok (.invokevirtual 207, 3) := by decide +kernel
theorem dX7_follow_76 : decode cX7_follow 76 = .ok (.aload_n 0, 1) := by decide +kernel
theorem dX7_follow_77 : decode cX7_follow 77 = .ok (.getfield 10, 3) := by decide +kernel
theorem dX7_follow_80 : decode cX7_follow 80 = .ok (.iload_n 1, 1) := by decide +kernel
theorem dX7_follow_81 : decode cX7_follow 81 = .ok (.iload_n 2, 1) := by decide +kernel
theorem dX7_follow_82 : decode cX7_follow 82 = .ok (.invokevirtual 137, 3) := by decide +kernel
theorem dX7_follow_85 : decode cX7_follow 85 = .ok (.ireturn, 1) := by decide +kernel
theorem dX7_cut_0 : decode cX7_cut 0 = .ok (.aload_n 0, 1) := by decide +kernel
theorem dX7_cut_1 : decode cX7_cut 1 = .ok (.getfield 10, 3) := by decide +kernel
theorem dX7_cut_4 : decode cX7_cut 4 = .ok (.iload_n 1, 1) := by decide +kernel
theorem dX7_cut_5 : decode cX7_cut 5 = .ok (.invokevirtual 108, 3) := by decide +kernel
theorem dX7_cut_8 : decode cX7_cut 8 = .ok (.ifCond .ne 6, 3) := by decide +kernel
theorem dX7_cut_11 : decode cX7_cut 11 = .ok (.ldc 112, 2) := by decide +kernel
theorem dX7_cut_13 : decode cX7_cut 13 = .ok (.ireturn, 1) := by decide +kernel
theorem dX7_cut_14 : decode cX7_cut 14 = .ok (.aload_n 0, 1) := by decide +kernel
theorem dX7_cut_15 : decode cX7_cut 15 = .ok (.getfield 35, 3) := by decide +kernel
theorem dX7_cut_18 : decode cX7_cut 18 = .ok (.aload_n 0, 1) := by decide +kernel
theorem dX7_cut_19 : decode cX7_cut 19 = .ok (.getfield 10, 3) := by decide +kernel
theorem dX7_cut_22 : decode cX7_cut 22 = .ok (.invokevirtual 183, 3) := by decide +kernel
theorem dX7_cut_25 : decode cX7_cut 25 = .ok (.aload_n 0, 1) := by decide +kernel
theorem dX7_cut_26 : decode cX7_cut 26 = .ok (.getfield 10, 3) := by decide +kernel
theorem dX7_cut_29 : decode cX7_cut 29 = .ok (.iload_n 1, 1) := by decide +kernel
theorem dX7_cut_30 : decode cX7_cut 30 = .ok (.invokevirtual 122, 3) := by decide +kernel
theorem dX7_cut_33 : decode cX7_cut 33 = .ok (.istore_n 2, 1) := by decide +kernel
theorem dX7_cut_34 : decode cX7_cut 34 = .ok (.aload_n 0, 1) := by decide +kernel
theorem dX7_cut_35 : decode cX7_cut 35 = .ok (.getfield 10, 3) := by decide +kernel
theorem dX7_cut_38 : decode cX7_cut 38 = .ok (.iload_n 1, 1) := by decide +kernel
theorem dX7_cut_39 : decode cX7_cut 39 = .ok (.iconst (-1), 1) := by decide +kernel
theorem dX7_cut_40 : decode cX7_cut 40 = .ok (.invokevirtual 207, 3) := by decide +kernel
theorem dX7_cut_43 : decode cX7_cut 43 = .ok (.iload_n 2, 1) := by decide +kernel
theorem dX7_cut_44 : decode cX7_cut 44 = .ok (.ireturn, 1) := by decide +kernel
theorem dX7_part_0 : decode cX7_part 0 = .ok (.iload_n 1, 1) := by decide +kernel
theorem dX7_part_1 : decode cX7_part 1 = .ok (.iconst (-1), 1) := by decide +kernel
theorem dX7_part_2 : decode cX7_part 2 = .ok (.if_icmp .eq 13, 3) := by decide +kernel
theorem dX7_part_5 : decode cX7_part 5 = .ok (.iload_n 1, 1) := by decide +kernel
theorem dX7_part_6 : decode cX7_part 6 = .ok (.invokestatic 141, 3) := by decide +kernel
theorem dX7_part_9 : decode cX7_part 9 = .ok (.ifCond .ne 6, 3) := by decide +kernel
theorem dX7_part_12 : decode cX7_part 12 = .ok (.ldc 107, 2) := by decide +kernel
theorem dX7_part_14 : decode cX7_part 14 = .ok (.ireturn, 1) := by decide +kernel
theorem dX7_part_15 : decode cX7_part 15 = .ok (.aload_n 0, 1) := by decide +kernel
theorem dX7_part_16 : decode cX7_part 16 = .ok (.invokevirtual 74, 3) := by decide +kernel
theorem dX7_part_19 : decode cX7_part 19 = .ok (.astore_n 2, 1) := by decide +kernel
theorem dX7_part_20 : decode cX7_part 20 = .ok (.iload_n 1, 1) := by decide +kernel
theorem dX7_part_21 : decode cX7_part 21 = .ok (.iconst (-1), 1) := by decide +kernel
theorem dX7_part_22 : decode cX7_part 22 = .ok (.if_icmp .ne 10, 3) := by decide +kernel
theorem dX7_part_25 : decode cX7_part 25 = .ok (.aload_n 2, 1) := by decide +kernel
theorem dX7_part_26 : decode cX7_part 26 = .ok (.invokevirtual 81, 3) := by decide +kernel
theorem dX7_part_29 : decode cX7_part 29 = .ok (.goto 4, 3) := by decide +kernel
theorem dX7_part_32 : decode cX7_part 32 = .ok (.iload_n 1, 1) := by decide +kernel
theorem dX7_part_33 : decode cX7_part 33 = .ok (.istore_n 3, 1) := by decide +kernel
theorem dX7_part_34 : decode cX7_part 34 = .ok (.aload_n 2, 1) := by decide +kernel
theorem dX7_part_35 : decode cX7_part 35 = .ok (.iload_n 3, 1) := by decide +kernel
theorem dX7_part_36 : decode cX7_part 36 = .ok (.invokevirtual 147, 3) := by decide +kernel
theorem dX7_part_39 : decode cX7_part 39 = .ok (.ifCond .ne 6, 3) := by decide +kernel
theorem dX7_part_42 : decode cX7_part 42 = .ok (.ldc 153, 2) := by decide +kernel
theorem dX7_part_44 : decode cX7_part 44 = .ok (.ireturn, 1) := by decide +kernel
theorem dX7_part_45 : decode cX7_part 45 = .ok (.aload_n 0, 1) := by decide +kernel
theorem dX7_part_46 : decode cX7_part 46 = .ok (.getfield 35, 3) := by decide +kernel
theorem dX7_part_49 : decode cX7_part 49 = .ok (.aload_n 0, 1) := by decide +kernel
theorem dX7_part_50 : decode cX7_part 50 = .ok (.getfield 10, 3) := by decide +kernel
theorem dX7_part_53 : decode cX7_part 53 = .ok (.invokevirtual 183, 3) := by decide +kernel
theorem dX7_part_56 : decode cX7_part 56 = .ok (.iconst 0, 1) := by decide +kernel
theorem dX7_part_57 : decode cX7_part 57 = .ok (.istore 4, 2) := by decide +kernel
theorem dX7_part_59 : decode cX7_part 59 = .ok (.iload 4, 2) := by decide +kernel
theorem dX7_part_61 : decode cX7_part 61 = .ok (.aload_n 0, 1) := by decide +kernel
theorem dX7_part_62 : decode cX7_part 62 = .ok (.getfield 10, 3) := by decide +kernel
theorem dX7_part_65 : decode cX7_part 65 = .ok (.invokevirtual 60, 3) := by decide +kernel
theorem dX7_part_68 : decode cX7_part 68 = .ok (.if_icmp .ge 24, 3) := by decide +kernel
theorem dX7_part_71 : decode cX7_part 71 = .ok (.aload_n 0, 1) := by decide +kernel
theorem dX7_part_72 : decode cX7_part 72 = .ok (.getfield 10, 3) := by decide +kernel
theorem dX7_part_75 : decode cX7_part 75 = .ok (.iload 4, 2) := by decide +kernel
theorem dX7_part_77 : decode cX7_part 77 = .ok (.aload_n 2, 1) := by decide +kernel
theorem dX7_part_78 : decode cX7_part 78 = .ok (.iload 4, 2) := by decide +kernel
theorem dX7_part_80 : decode cX7_part 80 = .ok (.invokevirtual 150, 3) := by decide +kernel
theorem dX7_part_83 : decode cX7_part 83 = .ok (.invokevirtual 207, 3) := by decide +kernel
theorem dX7_part_86 : decode cX7_part 86 = .ok (.iinc 4 1, 3) := by decide +kernel
theorem dX7_part_89 : decode cX7_part 89 = .ok (.goto (-30), 3) := by decide +kernel
theorem dX7_part_92 : decode cX7_part 92 = .ok (.aload_n 0, 1) := by decide +kernel
theorem dX7_part_93 : decode cX7_part 93 = .ok (.invokevirtual 64, 3) := by decide +kernel
theorem dX7_part_96 : decode cX7_part 96 = .ok (.invokevirtual 71, 3) := by decide +kernel
theorem dX7_part_99 : decode cX7_part 99 = .ok (.ireturn, 1) := by decide +kernel
theorem dX7_mend_0 : decode cX7_mend 0 = .ok (.aload_n 0, 1) := by decide +kernel
theorem dX7_mend_1 : decode cX7_mend 1 = .ok (.getfield 35, 3) := by decide +kernel
theorem dX7_mend_4 : decode cX7_mend 4 = .ok (.aload_n 0, 1) := by decide +kernel
theorem dX7_mend_5 : decode cX7_mend 5 = .ok (.getfield 10, 3) := by decide +kernel
theorem dX7_mend_8 : decode cX7_mend 8 = .ok (.invokevirtual 183, 3) := by decide +kernel
theorem dX7_mend_11 : decode cX7_mend 11 = .ok (.aload_n 0, 1) := by decide +kernel
theorem dX7_mend_12 : decode cX7_mend 12 = .ok (.getfield 21, 3) := by decide +kernel
theorem dX7_mend_15 : decode cX7_mend 15 = .ok (.invokevirtual 211, 3) := by decide +kernel
theorem dX7_mend_18 : decode cX7_mend 18 = .ok (.ireturn, 1) := by decide +kernel
theorem dX7_clear_0 : decode cX7_clear 0 = .ok (.aload_n 0, 1) := by decide +kernel
theorem dX7_clear_1 : decode cX7_clear 1 = .ok (.getfield 35, 3) := by decide +kernel
theorem dX7_clear_4 : decode cX7_clear 4 = .ok (.aload_n 0, 1) := by decide +kernel
theorem dX7_clear_5 : decode cX7_clear 5 = .ok (.getfield 10, 3) := by decide +kernel
theorem dX7_clear_8 : decode cX7_clear 8 = .ok (.invokevirtual 183, 3) := by decide +kernel
theorem dX7_clear_11 : decode cX7_clear 11 = .ok (.aload_n 0, 1) := by decide +kernel
theorem dX7_clear_12 : decode cX7_clear 12 = .ok (.getfield 10, 3) := by decide +kernel
theorem dX7_clear_15 : decode cX7_clear 15 = .ok (.invokevirtual 60, 3) := by decide +kernel
theorem dX7_clear_18 : decode cX7_clear 18 = .ok (.istore_n 1, 1) := by decide +kernel
theorem dX7_clear_19 : decode cX7_clear 19 = .ok (.aload_n 0, 1) := by decide +kernel
theorem dX7_clear_20 : decode cX7_clear 20 = .ok (.getfield 10, 3) := by decide +kernel
theorem dX7_clear_23 : decode cX7_clear 23 = .ok (.invokevirtual 214, 3) := by decide +kernel
theorem dX7_clear_26 : decode cX7_clear 26 = .ok (.iload_n 1, 1) := by decide +kernel
theorem dX7_clear_27 : decode cX7_clear 27 = .ok (.ireturn, 1) := by decide +kernel
theorem dX7_drift_0 : decode cX7_drift 0 = .ok (.iload_n 1, 1) := by decide +kernel
theorem dX7_drift_1 : decode cX7_drift 1 = .ok (.iconst 1, 1) := by decide +kernel
theorem dX7_drift_2 : decode cX7_drift 2 = .ok (.if_icmp .lt 9, 3) := by decide +kernel
theorem dX7_drift_5 : decode cX7_drift 5 = .ok (.iload_n 1, 1) := by decide +kernel
theorem dX7_drift_6 : decode cX7_drift 6 = .ok (.bipush 10, 2) := by decide +kernel
theorem dX7_drift_8 : decode cX7_drift 8 = .ok (.if_icmp .le 6, 3) := by decide +kernel
theorem dX7_drift_11 : decode cX7_drift 11 = .ok (.ldc 107, 2) := by decide +kernel
theorem dX7_drift_13 : decode cX7_drift 13 = .ok (.ireturn, 1) := by decide +kernel
theorem dX7_drift_14 : decode cX7_drift 14 = .ok (.iconst 0, 1) := by decide +kernel
theorem dX7_drift_15 : decode cX7_drift 15 = .ok (.istore_n 2, 1) := by decide +kernel
theorem dX7_drift_16 : decode cX7_drift 16 = .ok (.iload_n 2, 1) := by decide +kernel
theorem dX7_drift_17 : decode cX7_drift 17 = .ok (.iload_n 1, 1) := by decide +kernel
theorem dX7_drift_18 : decode cX7_drift 18 = .ok (.if_icmp .ge 34, 3) := by decide +kernel
theorem dX7_drift_21 : decode cX7_drift 21 = .ok (.aload_n 0, 1) := by decide +kernel
theorem dX7_drift_22 : decode cX7_drift 22 = .ok (.getfield 10, 3) := by decide +kernel
theorem dX7_drift_25 : decode cX7_drift 25 = .ok (.invokevirtual 178, 3) := by decide +kernel
theorem dX7_drift_28 : decode cX7_drift 28 = .ok (.ifCond .ne 24, 3) := by decide +kernel
theorem dX7_drift_31 : decode cX7_drift 31 = .ok (.aload_n 0, 1) := by decide +kernel
theorem dX7_drift_32 : decode cX7_drift 32 = .ok (.getfield 35, 3) := by decide +kernel
theorem dX7_drift_35 : decode cX7_drift 35 = .ok (.aload_n 0, 1) := by decide +kernel
theorem dX7_drift_36 : decode cX7_drift 36 = .ok (.getfield 10, 3) := by decide +kernel
theorem dX7_drift_39 : decode cX7_drift 39 = .ok (.invokevirtual 183, 3) := by decide +kernel
theorem dX7_drift_42 : decode cX7_drift 42 = .ok (.aload_n 0, 1) := by decide +kernel
theorem dX7_drift_43 : decode cX7_drift 43 = .ok (.invokevirtual 217, 3) := by decide +kernel
theorem dX7_drift_46 : decode cX7_drift 46 = .ok (.iinc 2 1, 3) := by decide +kernel
theorem dX7_drift_49 : decode cX7_drift 49 = .ok (.goto (-33), 3) := by decide +kernel
theorem dX7_drift_52 : decode cX7_drift 52 = .ok (.aload_n 0, 1) := by decide +kernel
theorem dX7_drift_53 : decode cX7_drift 53 = .ok (.getfield 10, 3) := by decide +kernel
theorem dX7_drift_56 : decode cX7_drift 56 = .ok (.invokevirtual 60, 3) := by decide +kernel
theorem dX7_drift_59 : decode cX7_drift 59 = .ok (.ireturn, 1) := by decide +kernel
theorem dX7_undo_0 : decode cX7_undo 0 = .ok (.iload_n 1, 1) := by decide +kernel
theorem dX7_undo_1 : decode cX7_undo 1 = .ok (.iconst 1, 1) := by decide +kernel
theorem dX7_undo_2 : decode cX7_undo 2 = .ok (.if_icmp .lt 9, 3) := by decide +kernel
theorem dX7_undo_5 : decode cX7_undo 5 = .ok (.iload_n 1, 1) := by decide +kernel
theorem dX7_undo_6 : decode cX7_undo 6 = .ok (.bipush 16, 2) := by decide +kernel
theorem dX7_undo_8 : decode cX7_undo 8 = .ok (.if_icmp .le 6, 3) := by decide +kernel
theorem dX7_undo_11 : decode cX7_undo 11 = .ok (.ldc 107, 2) := by decide +kernel
theorem dX7_undo_13 : decode cX7_undo 13 = .ok (.ireturn, 1) := by decide +kernel
theorem dX7_undo_14 : decode cX7_undo 14 = .ok (.iload_n 1, 1) := by decide +kernel
theorem dX7_undo_15 : decode cX7_undo 15 = .ok (.aload_n 0, 1) := by decide +kernel
theorem dX7_undo_16 : decode cX7_undo 16 = .ok (.getfield 35, 3) := by decide +kernel
theorem dX7_undo_19 : decode cX7_undo 19 = .ok (.invokevirtual 101, 3) := by decide +kernel
theorem dX7_undo_22 : decode cX7_undo 22 = .ok (.if_icmp .le 6, 3) := by decide +kernel
theorem dX7_undo_25 : decode cX7_undo 25 = .ok (.ldc 153, 2) := by decide +kernel
theorem dX7_undo_27 : decode cX7_undo 27 = .ok (.ireturn, 1) := by decide +kernel
theorem dX7_undo_28 : decode cX7_undo 28 = .ok (.aload_n 0, 1) := by decide +kernel
theorem dX7_undo_29 : decode cX7_undo 29 = .ok (.getfield 35, 3) := by decide +kernel
theorem dX7_undo_32 : decode cX7_undo 32 = .ok (.iload_n 1, 1) := by decide +kernel
theorem dX7_undo_33 : decode cX7_undo 33 = .ok (.aload_n 0, 1) := by decide +kernel
theorem dX7_undo_34 : decode cX7_undo 34 = .ok (.getfield 10, 3) := by decide +kernel
theorem dX7_undo_37 : decode cX7_undo 37 = .ok (.invokevirtual 220, 3) := by decide +kernel
theorem dX7_undo_40 : decode cX7_undo 40 = .ok (.aload_n 0, 1) := by decide +kernel
theorem dX7_undo_41 : decode cX7_undo 41 = .ok (.getfield 10, 3) := by decide +kernel
theorem dX7_undo_44 : decode cX7_undo 44 = .ok (.invokevirtual 60, 3) := by decide +kernel
theorem dX7_undo_47 : decode cX7_undo 47 = .ok (.ireturn, 1) := by decide +kernel
theorem dX7_write_0 : decode cX7_write 0 = .ok (.iload_n 1, 1) := by decide +kernel
theorem dX7_write_1 : decode cX7_write 1 = .ok (.invokestatic 141, 3) := by decide +kernel
theorem dX7_write_4 : decode cX7_write 4 = .ok (.ifCond .ne 6, 3) := by decide +kernel
theorem dX7_write_7 : decode cX7_write 7 = .ok (.ldc 107, 2) := by decide +kernel
theorem dX7_write_9 : decode cX7_write 9 = .ok (.ireturn, 1) := by decide +kernel
theorem dX7_write_10 : decode cX7_write 10 = .ok (.aload_n 0, 1) := by decide +kernel
theorem dX7_write_11 : decode cX7_write 11 = .ok (.getfield 49, 3) := by decide +kernel
theorem dX7_write_14 : decode cX7_write 14 = .ok (.invokevirtual 224, 3) := by decide +kernel
theorem dX7_write_17 : decode cX7_write 17 = .ok (.ifCond .eq 6, 3) := by decide +kernel
theorem dX7_write_20 : decode cX7_write 20 = .ok (.ldc 182, 2) := by decide +kernel
theorem dX7_write_22 : decode cX7_write 22 = .ok (.ireturn, 1) := by decide +kernel
theorem dX7_write_23 : decode cX7_write 23 = .ok (.aload_n 0, 1) := by decide +kernel
theorem dX7_write_24 : decode cX7_write 24 = .ok (.getfield 49, 3) := by decide +kernel
theorem dX7_write_27 : decode cX7_write 27 = .ok (.iload_n 1, 1) := by decide +kernel
theorem dX7_write_28 : decode cX7_write 28 = .ok (.iload_n 2, 1) := by decide +kernel
theorem dX7_write_29 : decode cX7_write 29 = .ok (.invokevirtual 225, 3) := by decide +kernel
theorem dX7_write_32 : decode cX7_write 32 = .ok (.aload_n 0, 1) := by decide +kernel
theorem dX7_write_33 : decode cX7_write 33 = .ok (.getfield 49, 3) := by decide +kernel
theorem dX7_write_36 : decode cX7_write 36 = .ok (.invokevirtual 94, 3) := by decide +kernel
theorem dX7_write_39 : decode cX7_write 39 = .ok (.ireturn, 1) := by decide +kernel
theorem dX7_tear_0 : decode cX7_tear 0 = .ok (.aload_n 0, 1) := by decide +kernel
theorem dX7_tear_1 : decode cX7_tear 1 = .ok (.getfield 49, 3) := by decide +kernel
theorem dX7_tear_4 : decode cX7_tear 4 = .ok (.invokevirtual 94, 3) := by decide +kernel
theorem dX7_tear_7 : decode cX7_tear 7 = .ok (.istore_n 1, 1) := by decide +kernel
theorem dX7_tear_8 : decode cX7_tear 8 = .ok (.aload_n 0, 1) := by decide +kernel
theorem dX7_tear_9 : decode cX7_tear 9 = .ok (.getfield 49, 3) := by decide +kernel
theorem dX7_tear_12 : decode cX7_tear 12 = .ok (.invokevirtual 228, 3) := by decide +kernel
theorem dX7_tear_15 : decode cX7_tear 15 = .ok (.iload_n 1, 1) := by decide +kernel
theorem dX7_tear_16 : decode cX7_tear 16 = .ok (.ireturn, 1) := by decide +kernel
theorem dX7_seed_0 : decode cX7_seed 0 = .ok (.iload_n 1, 1) := by decide +kernel
theorem dX7_seed_1 : decode cX7_seed 1 = .ok (.ifCond .ge 6, 3) := by decide +kernel
theorem dX7_seed_4 : decode cX7_seed 4 = .ok (.ldc 107, 2) := by decide +kernel
theorem dX7_seed_6 : decode cX7_seed 6 = .ok (.ireturn, 1) := by decide +kernel
theorem dX7_seed_7 : decode cX7_seed 7 = .ok (.aload_n 0, 1) := by decide +kernel
theorem dX7_seed_8 : decode cX7_seed 8 = .ok (.getfield 56, 3) := by decide +kernel
theorem dX7_seed_11 : decode cX7_seed 11 = .ok (.invokevirtual 104, 3) := by decide +kernel
theorem dX7_seed_14 : decode cX7_seed 14 = .ok (.istore_n 2, 1) := by decide +kernel
theorem dX7_seed_15 : decode cX7_seed 15 = .ok (.aload_n 0, 1) := by decide +kernel
theorem dX7_seed_16 : decode cX7_seed 16 = .ok (.getfield 56, 3) := by decide +kernel
theorem dX7_seed_19 : decode cX7_seed 19 = .ok (.iload_n 1, 1) := by decide +kernel
theorem dX7_seed_20 : decode cX7_seed 20 = .ok (.invokevirtual 231, 3) := by decide +kernel
theorem dX7_seed_23 : decode cX7_seed 23 = .ok (.iload_n 2, 1) := by decide +kernel
theorem dX7_seed_24 : decode cX7_seed 24 = .ok (.ireturn, 1) := by decide +kernel
theorem dX7_keep_0 : decode cX7_keep 0 = .ok (.iload_n 1, 1) := by decide +kernel
theorem dX7_keep_1 : decode cX7_keep 1 = .ok (.invokestatic 234, 3) := by decide +kernel
theorem dX7_keep_4 : decode cX7_keep 4 = .ok (.ifCond .ne 6, 3) := by decide +kernel
theorem dX7_keep_7 : decode cX7_keep 7 = .ok (.ldc 112, 2) := by decide +kernel
theorem dX7_keep_9 : decode cX7_keep 9 = .ok (.ireturn, 1) := by decide +kernel
theorem dX7_keep_10 : decode cX7_keep 10 = .ok (.aload_n 0, 1) := by decide +kernel
theorem dX7_keep_11 : decode cX7_keep 11 = .ok (.getfield 42, 3) := by decide +kernel
theorem dX7_keep_14 : decode cX7_keep 14 = .ok (.iload_n 1, 1) := by decide +kernel
theorem dX7_keep_15 : decode cX7_keep 15 = .ok (.aload_n 0, 1) := by decide +kernel
theorem dX7_keep_16 : decode cX7_keep 16 = .ok (.getfield 10, 3) := by decide +kernel
theorem dX7_keep_19 : decode cX7_keep 19 = .ok (.aload_n 0, 1) := by decide +kernel
theorem dX7_keep_20 : decode cX7_keep 20 = .ok (.getfield 56, 3) := by decide +kernel
theorem dX7_keep_23 : decode cX7_keep 23 = .ok (.invokevirtual 237, 3) := by decide +kernel
theorem dX7_keep_26 : decode cX7_keep 26 = .ok (.aload_n 0, 1) := by decide +kernel
theorem dX7_keep_27 : decode cX7_keep 27 = .ok (.getfield 35, 3) := by decide +kernel
theorem dX7_keep_30 : decode cX7_keep 30 = .ok (.invokevirtual 241, 3) := by decide +kernel
theorem dX7_keep_33 : decode cX7_keep 33 = .ok (.iconst 1, 1) := by decide +kernel
theorem dX7_keep_34 : decode cX7_keep 34 = .ok (.ireturn, 1) := by decide +kernel
theorem dX7_goBack_0 : decode cX7_goBack 0 = .ok (.iload_n 1, 1) := by decide +kernel
theorem dX7_goBack_1 : decode cX7_goBack 1 = .ok (.invokestatic 234, 3) := by decide +kernel
theorem dX7_goBack_4 : decode cX7_goBack 4 = .ok (.ifCond .ne 6, 3) := by decide +kernel
theorem dX7_goBack_7 : decode cX7_goBack 7 = .ok (.ldc 112, 2) := by decide +kernel
theorem dX7_goBack_9 : decode cX7_goBack 9 = .ok (.ireturn, 1) := by decide +kernel
theorem dX7_goBack_10 : decode cX7_goBack 10 = .ok (.aload_n 0, 1) := by decide +kernel
theorem dX7_goBack_11 : decode cX7_goBack 11 = .ok (.getfield 42, 3) := by decide +kernel
theorem dX7_goBack_14 : decode cX7_goBack 14 = .ok (.iload_n 1, 1) := by decide +kernel
theorem dX7_goBack_15 : decode cX7_goBack 15 = .ok (.invokevirtual 244, 3) := by decide +kernel
theorem dX7_goBack_18 : decode cX7_goBack 18 = .ok (.ifCond .ne 6, 3) := by decide +kernel
theorem dX7_goBack_21 : decode cX7_goBack 21 = .ok (.ldc 153, 2) := by decide +kernel
theorem dX7_goBack_23 : decode cX7_goBack 23 = .ok (.ireturn, 1) := by decide +kernel
theorem dX7_goBack_24 : decode cX7_goBack 24 = .ok (.aload_n 0, 1) := by decide +kernel
theorem dX7_goBack_25 : decode cX7_goBack 25 = .ok (.getfield 42, 3) := by decide +kernel
theorem dX7_goBack_28 : decode cX7_goBack 28 = .ok (.iload_n 1, 1) := by decide +kernel
theorem dX7_goBack_29 : decode cX7_goBack 29 = .ok (.aload_n 0, 1) := by decide +kernel
theorem dX7_goBack_30 : decode cX7_goBack 30 = .ok (.getfield 10, 3) := by decide +kernel
theorem dX7_goBack_33 : decode cX7_goBack 33 = .ok (.aload_n 0, 1) := by decide +kernel
theorem dX7_goBack_34 : decode cX7_goBack 34 = .ok (.getfield 56, 3) := by decide +kernel
theorem dX7_goBack_37 : decode cX7_goBack 37 = .ok (.invokevirtual 247, 3) := by decide +kernel
theorem dX7_goBack_40 : decode cX7_goBack 40 = .ok (.aload_n 0, 1) := by decide +kernel
theorem dX7_goBack_41 : decode cX7_goBack 41 = .ok (.getfield 35, 3) := by decide +kernel
theorem dX7_goBack_44 : decode cX7_goBack 44 = .ok (.invokevirtual 241, 3) := by decide +kernel
theorem dX7_goBack_47 : decode cX7_goBack 47 = .ok (.iconst 1, 1) := by decide +kernel
theorem dX7_goBack_48 : decode cX7_goBack 48 = .ok (.ireturn, 1) := by decide +kernel
theorem dX7_isVoiceCount_0 : decode cX7_isVoiceCount 0 = .ok (.iload_n 0, 1) := by decide +kernel
theorem dX7_isVoiceCount_1 : decode cX7_isVoiceCount 1 = .ok (.ifCond .lt 13, 3) := by decide +kernel
theorem dX7_isVoiceCount_4 : decode cX7_isVoiceCount 4 = .ok (.iload_n 0, 1) := by decide +kernel
theorem dX7_isVoiceCount_5 : decode cX7_isVoiceCount 5 = .ok (.bipush 10, 2) := by decide +kernel
theorem dX7_isVoiceCount_7 : decode cX7_isVoiceCount 7 = .ok (.if_icmp .gt 7, 3) := by decide +kernel
theorem dX7_isVoiceCount_10 : decode cX7_isVoiceCount 10 = .ok (.iconst 1, 1) := by decide +kernel
theorem dX7_isVoiceCount_11 : decode cX7_isVoiceCount 11 = .ok (.goto 4, 3) := by decide +kernel
theorem dX7_isVoiceCount_14 : decode cX7_isVoiceCount 14 = .ok (.iconst 0, 1) := by decide +kernel
theorem dX7_isVoiceCount_15 : decode cX7_isVoiceCount 15 = .ok (.ireturn, 1) := by decide +kernel
theorem dX7_standing_0 : decode cX7_standing 0 = .ok (.aload_n 0, 1) := by decide +kernel
theorem dX7_standing_1 : decode cX7_standing 1 = .ok (.getfield 21, 3) := by decide +kernel
theorem dX7_standing_4 : decode cX7_standing 4 = .ok (.invokevirtual 250, 3) := by decide +kernel
theorem dX7_standing_7 : decode cX7_standing 7 = .ok (.aload_n 0, 1) := by decide +kernel
theorem dX7_standing_8 : decode cX7_standing 8 = .ok (.getfield 21, 3) := by decide +kernel
theorem dX7_standing_11 : decode cX7_standing 11 = .ok (.areturn, 1) := by decide +kernel
theorem dX7_weighed_0 : decode cX7_weighed 0 = .ok (.aload_n 0, 1) := by decide +kernel
theorem dX7_weighed_1 : decode cX7_weighed 1 = .ok (.getfield 28, 3) := by decide +kernel
theorem dX7_weighed_4 : decode cX7_weighed 4 = .ok (.iconst (-1), 1) := by decide +kernel
theorem dX7_weighed_5 : decode cX7_weighed 5 = .ok (.invokevirtual 253, 3) := by decide +kernel
theorem dX7_weighed_8 : decode cX7_weighed 8 = .ok (.aload_n 0, 1) := by decide +kernel
theorem dX7_weighed_9 : decode cX7_weighed 9 = .ok (.getfield 28, 3) := by decide +kernel
theorem dX7_weighed_12 : decode cX7_weighed 12 = .ok (.areturn, 1) := by decide +kernel
theorem dX7_bringDrawn_0 : decode cX7_bringDrawn 0 = .ok (.aload_n 0, 1) := by decide +kernel
theorem dX7_bringDrawn_1 : decode cX7_bringDrawn 1 = .ok (.getfield 56, 3) := by decide +kernel
theorem dX7_bringDrawn_4 : decode cX7_bringDrawn 4 = .ok (.bipush 24, 2) := by decide +kernel
theorem dX7_bringDrawn_6 : decode cX7_bringDrawn 6 = .ok (.invokevirtual 256, 3) := by decide +kernel
theorem dX7_bringDrawn_9 : decode cX7_bringDrawn 9 = .ok (.istore_n 1, 1) := by decide +kernel
theorem dX7_bringDrawn_10 : decode cX7_bringDrawn 10 = .ok (.aload_n 0, 1) := by decide +kernel
theorem dX7_bringDrawn_11 : decode cX7_bringDrawn 11 = .ok (.getfield 56, 3) := by decide +kernel
theorem dX7_bringDrawn_14 : decode cX7_bringDrawn 14 = .ok (.bipush 6, 2) := by decide +kernel
theorem dX7_bringDrawn_16 : decode cX7_bringDrawn 16 = .ok (.invokevirtual 256, 3) := by decide +kernel
theorem dX7_bringDrawn_19 : decode cX7_bringDrawn 19 = .ok (.iconst 1, 1) := by decide +kernel
theorem dX7_bringDrawn_20 : decode cX7_bringDrawn 20 = .ok (.iadd, 1) := by decide +kernel
theorem dX7_bringDrawn_21 : decode cX7_bringDrawn 21 = .ok (.istore_n 2, 1) := by decide +kernel
theorem dX7_bringDrawn_22 : decode cX7_bringDrawn 22 = .ok (.aload_n 0, 1) := by decide +kernel
theorem dX7_bringDrawn_23 : decode cX7_bringDrawn 23 = .ok (.getfield 56, 3) := by decide +kernel
theorem dX7_bringDrawn_26 : decode cX7_bringDrawn 26 = .ok (.bipush 25, 2) := by decide +kernel
theorem dX7_bringDrawn_28 : decode cX7_bringDrawn 28 = .ok (.invokevirtual 256, 3) := by decide +kernel
theorem dX7_bringDrawn_31 : decode cX7_bringDrawn 31 = .ok (.bipush 48, 2) := by decide +kernel
theorem dX7_bringDrawn_33 : decode cX7_bringDrawn 33 = .ok (.iadd, 1) := by decide +kernel
theorem dX7_bringDrawn_34 : decode cX7_bringDrawn 34 = .ok (.istore_n 3, 1) := by decide +kernel
theorem dX7_bringDrawn_35 : decode cX7_bringDrawn 35 = .ok (.aload_n 0, 1) := by decide +kernel
theorem dX7_bringDrawn_36 : decode cX7_bringDrawn 36 = .ok (.getfield 10, 3) := by decide +kernel
theorem dX7_bringDrawn_39 : decode cX7_bringDrawn 39 = .ok (.iload_n 1, 1) := by decide +kernel
theorem dX7_bringDrawn_40 : decode cX7_bringDrawn 40 = .ok (.iload_n 2, 1) := by decide +kernel
theorem dX7_bringDrawn_41 : decode cX7_bringDrawn 41 = .ok (.iload_n 3, 1) := by decide +kernel
theorem dX7_bringDrawn_42 : decode cX7_bringDrawn 42 = .ok (.invokevirtual 186, 3) := by decide +kernel
theorem dX7_bringDrawn_45 : decode cX7_bringDrawn 45 = .ok (.pop, 1) := by decide +kernel
theorem dX7_bringDrawn_46 : decode cX7_bringDrawn 46 = .ok (.return_, 1) := by decide +kernel
theorem dX8_init_0 : decode cX8_init 0 = .ok (.aload_n 0, 1) := by decide +kernel
theorem dX8_init_1 : decode cX8_init 1 = .ok (.invokespecial 1, 3) := by decide +kernel
theorem dX8_init_4 : decode cX8_init 4 = .ok (.aload_n 0, 1) := by decide +kernel
theorem dX8_init_5 : decode cX8_init 5 = .ok (.sipush 874, 3) := by decide +kernel
theorem dX8_init_8 : decode cX8_init 8 = .ok (.newarray .int, 2) := by decide +kernel
theorem dX8_init_10 : decode cX8_init 10 = .ok (.putfield 7, 3) := by decide +kernel
theorem dX8_init_13 : decode cX8_init 13 = .ok (.aload_n 0, 1) := by decide +kernel
theorem dX8_init_14 : decode cX8_init 14 = .ok (.iconst 2, 1) := by decide +kernel
theorem dX8_init_15 : decode cX8_init 15 = .ok (.newarray .int, 2) := by decide +kernel
theorem dX8_init_17 : decode cX8_init 17 = .ok (.putfield 13, 3) := by decide +kernel
theorem dX8_init_20 : decode cX8_init 20 = .ok (.aload_n 0, 1) := by decide +kernel
theorem dX8_init_21 : decode cX8_init 21 = .ok (.bipush 20, 2) := by decide +kernel
theorem dX8_init_23 : decode cX8_init 23 = .ok (.newarray .int, 2) := by decide +kernel
theorem dX8_init_25 : decode cX8_init 25 = .ok (.putfield 16, 3) := by decide +kernel
theorem dX8_init_28 : decode cX8_init 28 = .ok (.aload_n 0, 1) := by decide +kernel
theorem dX8_init_29 : decode cX8_init 29 = .ok (.bipush 20, 2) := by decide +kernel
theorem dX8_init_31 : decode cX8_init 31 = .ok (.newarray .int, 2) := by decide +kernel
theorem dX8_init_33 : decode cX8_init 33 = .ok (.putfield 19, 3) := by decide +kernel
theorem dX8_init_36 : decode cX8_init 36 = .ok (.aload_n 0, 1) := by decide +kernel
theorem dX8_init_37 : decode cX8_init 37 = .ok (.sipush 11264, 3) := by decide +kernel
theorem dX8_init_40 : decode cX8_init 40 = .ok (.newarray .int, 2) := by decide +kernel
theorem dX8_init_42 : decode cX8_init 42 = .ok (.putfield 22, 3) := by decide +kernel
theorem dX8_init_45 : decode cX8_init 45 = .ok (.aload_n 0, 1) := by decide +kernel
theorem dX8_init_46 : decode cX8_init 46 = .ok (.bipush 10, 2) := by decide +kernel
theorem dX8_init_48 : decode cX8_init 48 = .ok (.newarray .int, 2) := by decide +kernel
theorem dX8_init_50 : decode cX8_init 50 = .ok (.putfield 25, 3) := by decide +kernel
theorem dX8_init_53 : decode cX8_init 53 = .ok (.aload_n 0, 1) := by decide +kernel
theorem dX8_init_54 : decode cX8_init 54 = .ok (.getfield 7, 3) := by decide +kernel
theorem dX8_init_57 : decode cX8_init 57 = .ok (.iconst 1, 1) := by decide +kernel
theorem dX8_init_58 : decode cX8_init 58 = .ok (.iconst 1, 1) := by decide +kernel
theorem dX8_init_59 : decode cX8_init 59 = .ok (.iastore, 1) := by decide +kernel
theorem dX8_init_60 : decode cX8_init 60 = .ok (.aload_n 0, 1) := by decide +kernel
theorem dX8_init_61 : decode cX8_init 61 = .ok (.getfield 7, 3) := by decide +kernel
theorem dX8_init_64 : decode cX8_init 64 = .ok (.iconst 2, 1) := by decide +kernel
theorem dX8_init_65 : decode cX8_init 65 = .ok (.iconst 1, 1) := by decide +kernel
theorem dX8_init_66 : decode cX8_init 66 = .ok (.iastore, 1) := by decide +kernel
theorem dX8_init_67 : decode cX8_init 67 = .ok (.aload_n 0, 1) := by decide +kernel
theorem dX8_init_68 : decode cX8_init 68 = .ok (.getfield 7, 3) := by decide +kernel
theorem dX8_init_71 : decode cX8_init 71 = .ok (.iconst 3, 1) := by decide +kernel
theorem dX8_init_72 : decode cX8_init 72 = .ok (.bipush 10, 2) := by decide +kernel
theorem dX8_init_74 : decode cX8_init 74 = .ok (.iastore, 1) := by decide +kernel
theorem dX8_init_75 : decode cX8_init 75 = .ok (.aload_n 0, 1) := by decide +kernel
theorem dX8_init_76 : decode cX8_init 76 = .ok (.getfield 7, 3) := by decide +kernel
theorem dX8_init_79 : decode cX8_init 79 = .ok (.iconst 4, 1) := by decide +kernel
theorem dX8_init_80 : decode cX8_init 80 = .ok (.bipush 20, 2) := by decide +kernel
theorem dX8_init_82 : decode cX8_init 82 = .ok (.iastore, 1) := by decide +kernel
theorem dX8_init_83 : decode cX8_init 83 = .ok (.aload_n 0, 1) := by decide +kernel
theorem dX8_init_84 : decode cX8_init 84 = .ok (.getfield 7, 3) := by decide +kernel
theorem dX8_init_87 : decode cX8_init 87 = .ok (.iconst 5, 1) := by decide +kernel
theorem dX8_init_88 : decode cX8_init 88 = .ok (.bipush 16, 2) := by decide +kernel
theorem dX8_init_90 : decode cX8_init 90 = .ok (.iastore, 1) := by decide +kernel
theorem dX8_init_91 : decode cX8_init 91 = .ok (.return_, 1) := by decide +kernel
theorem dX8_in_0 : decode cX8_in 0 = .ok (.lload_n 0, 1) := by decide +kernel
theorem dX8_in_1 : decode cX8_in 1 = .ok (.lload_n 2, 1) := by decide +kernel
theorem dX8_in_2 : decode cX8_in 2 = .ok (.lcmp, 1) := by decide +kernel
theorem dX8_in_3 : decode cX8_in 3 = .ok (.ifCond .lt 14, 3) := by decide +kernel
theorem dX8_in_6 : decode cX8_in 6 = .ok (.lload_n 0, 1) := by decide +kernel
theorem dX8_in_7 : decode cX8_in 7 = .ok (.lload 4, 2) := by decide +kernel
theorem dX8_in_9 : decode cX8_in 9 = .ok (.lcmp, 1) := by decide +kernel
theorem dX8_in_10 : decode cX8_in 10 = .ok (.ifCond .gt 7, 3) := by decide +kernel
theorem dX8_in_13 : decode cX8_in 13 = .ok (.iconst 1, 1) := by decide +kernel
theorem dX8_in_14 : decode cX8_in 14 = .ok (.goto 4, 3) := by decide +kernel
theorem dX8_in_17 : decode cX8_in 17 = .ok (.iconst 0, 1) := by decide +kernel
