theorem dX8_in_18 : decode cX8_in 18 = .ok (.ireturn, 1) := by decide +kernel
theorem dX8_copyRow_0 : decode cX8_copyRow 0 = .ok (.iconst 0, 1) := by decide +kernel
theorem dX8_copyRow_1 : decode cX8_copyRow 1 = .ok (.istore_n 3, 1) := by decide +kernel
theorem dX8_copyRow_2 : decode cX8_copyRow 2 = .ok (.iload_n 3, 1) := by decide +kernel
theorem dX8_copyRow_3 : decode cX8_copyRow 3 = .ok (.bipush 46, 2) := by decide +kernel
theorem dX8_copyRow_5 : decode cX8_copyRow 5 = .ok (.if_icmp .ge 25, 3) := by decide +kernel
theorem dX8_copyRow_8 : decode cX8_copyRow 8 = .ok (.aload_n 0, 1) := by decide +kernel
theorem dX8_copyRow_9 : decode cX8_copyRow 9 = .ok (.getfield 7, 3) := by decide +kernel
theorem dX8_copyRow_12 : decode cX8_copyRow 12 = .ok (.iload_n 2, 1) := by decide +kernel
theorem dX8_copyRow_13 : decode cX8_copyRow 13 = .ok (.iload_n 3, 1) := by decide +kernel
theorem dX8_copyRow_14 : decode cX8_copyRow 14 = .ok (.iadd, 1) := by decide +kernel
theorem dX8_copyRow_15 : decode cX8_copyRow 15 = .ok (.aload_n 0, 1) := by decide +kernel
theorem dX8_copyRow_16 : decode cX8_copyRow 16 = .ok (.getfield 7, 3) := by decide +kernel
theorem dX8_copyRow_19 : decode cX8_copyRow 19 = .ok (.iload_n 1, 1) := by decide +kernel
theorem dX8_copyRow_20 : decode cX8_copyRow 20 = .ok (.iload_n 3, 1) := by decide +kernel
theorem dX8_copyRow_21 : decode cX8_copyRow 21 = .ok (.iadd, 1) := by decide +kernel
theorem dX8_copyRow_22 : decode cX8_copyRow 22 = .ok (.iaload, 1) := by decide +kernel
theorem dX8_copyRow_23 : decode cX8_copyRow 23 = .ok (.iastore, 1) := by decide +kernel
theorem dX8_copyRow_24 : decode cX8_copyRow 24 = .ok (.iinc 3 1, 3) := by decide +kernel
theorem dX8_copyRow_27 : decode cX8_copyRow 27 = .ok (.goto (-25), 3) := by decide +kernel
theorem dX8_copyRow_30 : decode cX8_copyRow 30 = .ok (.return_, 1) := by decide +kernel
theorem dX8_remember_0 : decode cX8_remember 0 = .ok (.bipush 16, 2) := by decide +kernel
theorem dX8_remember_2 : decode cX8_remember 2 = .ok (.istore_n 1, 1) := by decide +kernel
theorem dX8_remember_3 : decode cX8_remember 3 = .ok (.iload_n 1, 1) := by decide +kernel
theorem dX8_remember_4 : decode cX8_remember 4 = .ok (.ifCond .le 23, 3) := by decide +kernel
theorem dX8_remember_7 : decode cX8_remember 7 = .ok (.aload_n 0, 1) := by decide +kernel
theorem dX8_remember_8 : decode cX8_remember 8 = .ok (.bipush 46, 2) := by decide +kernel
theorem dX8_remember_10 : decode cX8_remember 10 = .ok (.iload_n 1, 1) := by decide +kernel
theorem dX8_remember_11 : decode cX8_remember 11 = .ok (.iconst 1, 1) := by decide +kernel
theorem dX8_remember_12 : decode cX8_remember 12 = .ok (.isub, 1) := by decide +kernel
theorem dX8_remember_13 : decode cX8_remember 13 = .ok (.imul, 1) := by decide +kernel
theorem dX8_remember_14 : decode cX8_remember 14 = .ok (.bipush 46, 2) := by decide +kernel
theorem dX8_remember_16 : decode cX8_remember 16 = .ok (.iload_n 1, 1) := by decide +kernel
theorem dX8_remember_17 : decode cX8_remember 17 = .ok (.imul, 1) := by decide +kernel
theorem dX8_remember_18 : decode cX8_remember 18 = .ok (.invokevirtual 28, 3) := by decide +kernel
theorem dX8_remember_21 : decode cX8_remember 21 = .ok (.iinc 1 (-1), 3) := by decide +kernel
theorem dX8_remember_24 : decode cX8_remember 24 = .ok (.goto (-21), 3) := by decide +kernel
theorem dX8_remember_27 : decode cX8_remember 27 = .ok (.aload_n 0, 1) := by decide +kernel
theorem dX8_remember_28 : decode cX8_remember 28 = .ok (.aload_n 0, 1) := by decide +kernel
theorem dX8_remember_29 : decode cX8_remember 29 = .ok (.getfield 32, 3) := by decide +kernel
theorem dX8_remember_32 : decode cX8_remember 32 = .ok (.bipush 16, 2) := by decide +kernel
theorem dX8_remember_34 : decode cX8_remember 34 = .ok (.if_icmp .ge 12, 3) := by decide +kernel
theorem dX8_remember_37 : decode cX8_remember 37 = .ok (.aload_n 0, 1) := by decide +kernel
theorem dX8_remember_38 : decode cX8_remember 38 = .ok (.getfield 32, 3) := by decide +kernel
theorem dX8_remember_41 : decode cX8_remember 41 = .ok (.iconst 1, 1) := by decide +kernel
theorem dX8_remember_42 : decode cX8_remember 42 = .ok (.iadd, 1) := by decide +kernel
theorem dX8_remember_43 : decode cX8_remember 43 = .ok (.goto 5, 3) := by decide +kernel
theorem dX8_remember_46 : decode cX8_remember 46 = .ok (.bipush 16, 2) := by decide +kernel
theorem dX8_remember_48 : decode cX8_remember 48 = .ok (.putfield 32, 3) := by decide +kernel
theorem dX8_remember_51 : decode cX8_remember 51 = .ok (.return_, 1) := by decide +kernel
theorem dX8_part0_0 : decode cX8_part0 0 = .ok (.iconst 0, 1) := by decide +kernel
theorem dX8_part0_1 : decode cX8_part0 1 = .ok (.istore_n 1, 1) := by decide +kernel
theorem dX8_part0_2 : decode cX8_part0 2 = .ok (.iload_n 1, 1) := by decide +kernel
theorem dX8_part0_3 : decode cX8_part0 3 = .ok (.bipush 10, 2) := by decide +kernel
theorem dX8_part0_5 : decode cX8_part0 5 = .ok (.if_icmp .ge 19, 3) := by decide +kernel
theorem dX8_part0_8 : decode cX8_part0 8 = .ok (.aload_n 0, 1) := by decide +kernel
theorem dX8_part0_9 : decode cX8_part0 9 = .ok (.getfield 7, 3) := by decide +kernel
theorem dX8_part0_12 : decode cX8_part0 12 = .ok (.bipush 36, 2) := by decide +kernel
theorem dX8_part0_14 : decode cX8_part0 14 = .ok (.iload_n 1, 1) := by decide +kernel
theorem dX8_part0_15 : decode cX8_part0 15 = .ok (.iadd, 1) := by decide +kernel
theorem dX8_part0_16 : decode cX8_part0 16 = .ok (.iconst (-1), 1) := by decide +kernel
theorem dX8_part0_17 : decode cX8_part0 17 = .ok (.iastore, 1) := by decide +kernel
theorem dX8_part0_18 : decode cX8_part0 18 = .ok (.iinc 1 1, 3) := by decide +kernel
theorem dX8_part0_21 : decode cX8_part0 21 = .ok (.goto (-19), 3) := by decide +kernel
theorem dX8_part0_24 : decode cX8_part0 24 = .ok (.return_, 1) := by decide +kernel
theorem dX8_off_0 : decode cX8_off 0 = .ok (.aload_n 0, 1) := by decide +kernel
theorem dX8_off_1 : decode cX8_off 1 = .ok (.getfield 7, 3) := by decide +kernel
theorem dX8_off_4 : decode cX8_off 4 = .ok (.bipush 6, 2) := by decide +kernel
theorem dX8_off_6 : decode cX8_off 6 = .ok (.iload_n 1, 1) := by decide +kernel
theorem dX8_off_7 : decode cX8_off 7 = .ok (.iadd, 1) := by decide +kernel
theorem dX8_off_8 : decode cX8_off 8 = .ok (.iaload, 1) := by decide +kernel
theorem dX8_off_9 : decode cX8_off 9 = .ok (.aload_n 0, 1) := by decide +kernel
theorem dX8_off_10 : decode cX8_off 10 = .ok (.getfield 7, 3) := by decide +kernel
theorem dX8_off_13 : decode cX8_off 13 = .ok (.bipush 16, 2) := by decide +kernel
theorem dX8_off_15 : decode cX8_off 15 = .ok (.iload_n 1, 1) := by decide +kernel
theorem dX8_off_16 : decode cX8_off 16 = .ok (.iadd, 1) := by decide +kernel
theorem dX8_off_17 : decode cX8_off 17 = .ok (.iaload, 1) := by decide +kernel
theorem dX8_off_18 : decode cX8_off 18 = .ok (.iadd, 1) := by decide +kernel
theorem dX8_off_19 : decode cX8_off 19 = .ok (.ireturn, 1) := by decide +kernel
theorem dX8_may_0 : decode cX8_may 0 = .ok (.aload_n 0, 1) := by decide +kernel
theorem dX8_may_1 : decode cX8_may 1 = .ok (.getfield 7, 3) := by decide +kernel
theorem dX8_may_4 : decode cX8_may 4 = .ok (.bipush 6, 2) := by decide +kernel
theorem dX8_may_6 : decode cX8_may 6 = .ok (.iload_n 2, 1) := by decide +kernel
theorem dX8_may_7 : decode cX8_may 7 = .ok (.iadd, 1) := by decide +kernel
theorem dX8_may_8 : decode cX8_may 8 = .ok (.iaload, 1) := by decide +kernel
theorem dX8_may_9 : decode cX8_may 9 = .ok (.i2l, 1) := by decide +kernel
theorem dX8_may_10 : decode cX8_may 10 = .ok (.aload_n 0, 1) := by decide +kernel
theorem dX8_may_11 : decode cX8_may 11 = .ok (.iload_n 1, 1) := by decide +kernel
theorem dX8_may_12 : decode cX8_may 12 = .ok (.invokevirtual 36, 3) := by decide +kernel
theorem dX8_may_15 : decode cX8_may 15 = .ok (.i2l, 1) := by decide +kernel
theorem dX8_may_16 : decode cX8_may 16 = .ok (.aload_n 0, 1) := by decide +kernel
theorem dX8_may_17 : decode cX8_may 17 = .ok (.iload_n 1, 1) := by decide +kernel
theorem dX8_may_18 : decode cX8_may 18 = .ok (.invokevirtual 36, 3) := by decide +kernel
theorem dX8_may_21 : decode cX8_may 21 = .ok (.aload_n 0, 1) := by decide +kernel
theorem dX8_may_22 : decode cX8_may 22 = .ok (.getfield 7, 3) := by decide +kernel
theorem dX8_may_25 : decode cX8_may 25 = .ok (.iconst 5, 1) := by decide +kernel
theorem dX8_may_26 : decode cX8_may 26 = .ok (.iaload, 1) := by decide +kernel
theorem dX8_may_27 : decode cX8_may 27 = .ok (.iadd, 1) := by decide +kernel
theorem dX8_may_28 : decode cX8_may 28 = .ok (.i2l, 1) := by decide +kernel
theorem dX8_may_29 : decode cX8_may 29 = .ok (.invokestatic 40, 3) := by decide +kernel
theorem dX8_may_32 : decode cX8_may 32 = .ok (.ireturn, 1) := by decide +kernel
theorem dX8_costOf_0 : decode cX8_costOf 0 = .ok (.aload_n 0, 1) := by decide +kernel
theorem dX8_costOf_1 : decode cX8_costOf 1 = .ok (.getfield 7, 3) := by decide +kernel
theorem dX8_costOf_4 : decode cX8_costOf 4 = .ok (.bipush 26, 2) := by decide +kernel
theorem dX8_costOf_6 : decode cX8_costOf 6 = .ok (.iload_n 1, 1) := by decide +kernel
theorem dX8_costOf_7 : decode cX8_costOf 7 = .ok (.iadd, 1) := by decide +kernel
theorem dX8_costOf_8 : decode cX8_costOf 8 = .ok (.iaload, 1) := by decide +kernel
theorem dX8_costOf_9 : decode cX8_costOf 9 = .ok (.aload_n 0, 1) := by decide +kernel
theorem dX8_costOf_10 : decode cX8_costOf 10 = .ok (.getfield 7, 3) := by decide +kernel
theorem dX8_costOf_13 : decode cX8_costOf 13 = .ok (.bipush 26, 2) := by decide +kernel
theorem dX8_costOf_15 : decode cX8_costOf 15 = .ok (.iload_n 2, 1) := by decide +kernel
theorem dX8_costOf_16 : decode cX8_costOf 16 = .ok (.iadd, 1) := by decide +kernel
theorem dX8_costOf_17 : decode cX8_costOf 17 = .ok (.iaload, 1) := by decide +kernel
theorem dX8_costOf_18 : decode cX8_costOf 18 = .ok (.isub, 1) := by decide +kernel
theorem dX8_costOf_19 : decode cX8_costOf 19 = .ok (.istore_n 3, 1) := by decide +kernel
theorem dX8_costOf_20 : decode cX8_costOf 20 = .ok (.iload_n 3, 1) := by decide +kernel
theorem dX8_costOf_21 : decode cX8_costOf 21 = .ok (.ifCond .ge 8, 3) := by decide +kernel
theorem dX8_costOf_24 : decode cX8_costOf 24 = .ok (.iload_n 3, 1) := by decide +kernel
theorem dX8_costOf_25 : decode cX8_costOf 25 = .ok (.ineg, 1) := by decide +kernel
theorem dX8_costOf_26 : decode cX8_costOf 26 = .ok (.goto 4, 3) := by decide +kernel
theorem dX8_costOf_29 : decode cX8_costOf 29 = .ok (.iload_n 3, 1) := by decide +kernel
theorem dX8_costOf_30 : decode cX8_costOf 30 = .ok (.istore_n 3, 1) := by decide +kernel
theorem dX8_costOf_31 : decode cX8_costOf 31 = .ok (.aload_n 0, 1) := by decide +kernel
theorem dX8_costOf_32 : decode cX8_costOf 32 = .ok (.getfield 7, 3) := by decide +kernel
theorem dX8_costOf_35 : decode cX8_costOf 35 = .ok (.iconst 1, 1) := by decide +kernel
theorem dX8_costOf_36 : decode cX8_costOf 36 = .ok (.iaload, 1) := by decide +kernel
theorem dX8_costOf_37 : decode cX8_costOf 37 = .ok (.iload_n 3, 1) := by decide +kernel
theorem dX8_costOf_38 : decode cX8_costOf 38 = .ok (.imul, 1) := by decide +kernel
theorem dX8_costOf_39 : decode cX8_costOf 39 = .ok (.aload_n 0, 1) := by decide +kernel
theorem dX8_costOf_40 : decode cX8_costOf 40 = .ok (.getfield 7, 3) := by decide +kernel
theorem dX8_costOf_43 : decode cX8_costOf 43 = .ok (.iconst 2, 1) := by decide +kernel
theorem dX8_costOf_44 : decode cX8_costOf 44 = .ok (.iaload, 1) := by decide +kernel
theorem dX8_costOf_45 : decode cX8_costOf 45 = .ok (.aload_n 0, 1) := by decide +kernel
theorem dX8_costOf_46 : decode cX8_costOf 46 = .ok (.getfield 7, 3) := by decide +kernel
theorem dX8_costOf_49 : decode cX8_costOf 49 = .ok (.bipush 6, 2) := by decide +kernel
theorem dX8_costOf_51 : decode cX8_costOf 51 = .ok (.iload_n 2, 1) := by decide +kernel
theorem dX8_costOf_52 : decode cX8_costOf 52 = .ok (.iadd, 1) := by decide +kernel
theorem dX8_costOf_53 : decode cX8_costOf 53 = .ok (.iaload, 1) := by decide +kernel
theorem dX8_costOf_54 : decode cX8_costOf 54 = .ok (.aload_n 0, 1) := by decide +kernel
theorem dX8_costOf_55 : decode cX8_costOf 55 = .ok (.iload_n 1, 1) := by decide +kernel
theorem dX8_costOf_56 : decode cX8_costOf 56 = .ok (.invokevirtual 36, 3) := by decide +kernel
theorem dX8_costOf_59 : decode cX8_costOf 59 = .ok (.isub, 1) := by decide +kernel
theorem dX8_costOf_60 : decode cX8_costOf 60 = .ok (.imul, 1) := by decide +kernel
theorem dX8_costOf_61 : decode cX8_costOf 61 = .ok (.iadd, 1) := by decide +kernel
theorem dX8_costOf_62 : decode cX8_costOf 62 = .ok (.iload_n 3, 1) := by decide +kernel
theorem dX8_costOf_63 : decode cX8_costOf 63 = .ok (.bipush 12, 2) := by decide +kernel
theorem dX8_costOf_65 : decode cX8_costOf 65 = .ok (.if_icmp .le 12, 3) := by decide +kernel
theorem dX8_costOf_68 : decode cX8_costOf 68 = .ok (.aload_n 0, 1) := by decide +kernel
theorem dX8_costOf_69 : decode cX8_costOf 69 = .ok (.getfield 7, 3) := by decide +kernel
theorem dX8_costOf_72 : decode cX8_costOf 72 = .ok (.iconst 3, 1) := by decide +kernel
theorem dX8_costOf_73 : decode cX8_costOf 73 = .ok (.iaload, 1) := by decide +kernel
theorem dX8_costOf_74 : decode cX8_costOf 74 = .ok (.goto 4, 3) := by decide +kernel
theorem dX8_costOf_77 : decode cX8_costOf 77 = .ok (.iconst 0, 1) := by decide +kernel
theorem dX8_costOf_78 : decode cX8_costOf 78 = .ok (.iadd, 1) := by decide +kernel
theorem dX8_costOf_79 : decode cX8_costOf 79 = .ok (.ireturn, 1) := by decide +kernel
theorem dX8_ones_0 : decode cX8_ones 0 = .ok (.iconst 0, 1) := by decide +kernel
theorem dX8_ones_1 : decode cX8_ones 1 = .ok (.istore_n 1, 1) := by decide +kernel
theorem dX8_ones_2 : decode cX8_ones 2 = .ok (.iconst 0, 1) := by decide +kernel
theorem dX8_ones_3 : decode cX8_ones 3 = .ok (.istore_n 2, 1) := by decide +kernel
theorem dX8_ones_4 : decode cX8_ones 4 = .ok (.iload_n 2, 1) := by decide +kernel
theorem dX8_ones_5 : decode cX8_ones 5 = .ok (.bipush 10, 2) := by decide +kernel
theorem dX8_ones_7 : decode cX8_ones 7 = .ok (.if_icmp .ge 17, 3) := by decide +kernel
theorem dX8_ones_10 : decode cX8_ones 10 = .ok (.iload_n 1, 1) := by decide +kernel
theorem dX8_ones_11 : decode cX8_ones 11 = .ok (.iload_n 0, 1) := by decide +kernel
theorem dX8_ones_12 : decode cX8_ones 12 = .ok (.iload_n 2, 1) := by decide +kernel
theorem dX8_ones_13 : decode cX8_ones 13 = .ok (.ishr, 1) := by decide +kernel
theorem dX8_ones_14 : decode cX8_ones 14 = .ok (.iconst 1, 1) := by decide +kernel
theorem dX8_ones_15 : decode cX8_ones 15 = .ok (.iand, 1) := by decide +kernel
theorem dX8_ones_16 : decode cX8_ones 16 = .ok (.iadd, 1) := by decide +kernel
theorem dX8_ones_17 : decode cX8_ones 17 = .ok (.istore_n 1, 1) := by decide +kernel
theorem dX8_ones_18 : decode cX8_ones 18 = .ok (.iinc 2 1, 3) := by decide +kernel
theorem dX8_ones_21 : decode cX8_ones 21 = .ok (.goto (-17), 3) := by decide +kernel
theorem dX8_ones_24 : decode cX8_ones 24 = .ok (.iload_n 1, 1) := by decide +kernel
theorem dX8_ones_25 : decode cX8_ones 25 = .ok (.ireturn, 1) := by decide +kernel
theorem dX8_bestAt_0 : decode cX8_bestAt 0 = .ok (.aload_n 0, 1) := by decide +kernel
theorem dX8_bestAt_1 : decode cX8_bestAt 1 = .ok (.getfield 22, 3) := by decide +kernel
theorem dX8_bestAt_4 : decode cX8_bestAt 4 = .ok (.sipush 1024, 3) := by decide +kernel
theorem dX8_bestAt_7 : decode cX8_bestAt 7 = .ok (.iload_n 1, 1) := by decide +kernel
theorem dX8_bestAt_8 : decode cX8_bestAt 8 = .ok (.imul, 1) := by decide +kernel
theorem dX8_bestAt_9 : decode cX8_bestAt 9 = .ok (.iload_n 2, 1) := by decide +kernel
theorem dX8_bestAt_10 : decode cX8_bestAt 10 = .ok (.iadd, 1) := by decide +kernel
theorem dX8_bestAt_11 : decode cX8_bestAt 11 = .ok (.iaload, 1) := by decide +kernel
theorem dX8_bestAt_12 : decode cX8_bestAt 12 = .ok (.ireturn, 1) := by decide +kernel
theorem dX8_through_0 : decode cX8_through 0 = .ok (.iload_n 3, 1) := by decide +kernel
theorem dX8_through_1 : decode cX8_through 1 = .ok (.iconst (-1), 1) := by decide +kernel
theorem dX8_through_2 : decode cX8_through 2 = .ok (.if_icmp .ne 12, 3) := by decide +kernel
theorem dX8_through_5 : decode cX8_through 5 = .ok (.aload_n 0, 1) := by decide +kernel
theorem dX8_through_6 : decode cX8_through 6 = .ok (.iload_n 1, 1) := by decide +kernel
theorem dX8_through_7 : decode cX8_through 7 = .ok (.iconst 1, 1) := by decide +kernel
theorem dX8_through_8 : decode cX8_through 8 = .ok (.iadd, 1) := by decide +kernel
theorem dX8_through_9 : decode cX8_through 9 = .ok (.iload_n 2, 1) := by decide +kernel
theorem dX8_through_10 : decode cX8_through 10 = .ok (.invokevirtual 44, 3) := by decide +kernel
theorem dX8_through_13 : decode cX8_through 13 = .ok (.ireturn, 1) := by decide +kernel
theorem dX8_through_14 : decode cX8_through 14 = .ok (.iload_n 2, 1) := by decide +kernel
theorem dX8_through_15 : decode cX8_through 15 = .ok (.iload_n 3, 1) := by decide +kernel
theorem dX8_through_16 : decode cX8_through 16 = .ok (.ishr, 1) := by decide +kernel
theorem dX8_through_17 : decode cX8_through 17 = .ok (.iconst 1, 1) := by decide +kernel
theorem dX8_through_18 : decode cX8_through 18 = .ok (.iand, 1) := by decide +kernel
theorem dX8_through_19 : decode cX8_through 19 = .ok (.ifCond .ne 16, 3) := by decide +kernel
theorem dX8_through_22 : decode cX8_through 22 = .ok (.aload_n 0, 1) := by decide +kernel
theorem dX8_through_23 : decode cX8_through 23 = .ok (.iload_n 1, 1) := by decide +kernel
theorem dX8_through_24 : decode cX8_through 24 = .ok (.iload_n 3, 1) := by decide +kernel
theorem dX8_through_25 : decode cX8_through 25 = .ok (.invokevirtual 48, 3) := by decide +kernel
theorem dX8_through_28 : decode cX8_through 28 = .ok (.ifCond .eq 7, 3) := by decide +kernel
theorem dX8_through_31 : decode cX8_through 31 = .ok (.iconst 1, 1) := by decide +kernel
theorem dX8_through_32 : decode cX8_through 32 = .ok (.goto 4, 3) := by decide +kernel
theorem dX8_through_35 : decode cX8_through 35 = .ok (.iconst 0, 1) := by decide +kernel
theorem dX8_through_36 : decode cX8_through 36 = .ok (.istore 4, 2) := by decide +kernel
theorem dX8_through_38 : decode cX8_through 38 = .ok (.iload 4, 2) := by decide +kernel
theorem dX8_through_40 : decode cX8_through 40 = .ok (.ifCond .eq 25, 3) := by decide +kernel
theorem dX8_through_43 : decode cX8_through 43 = .ok (.aload_n 0, 1) := by decide +kernel
theorem dX8_through_44 : decode cX8_through 44 = .ok (.iload_n 1, 1) := by decide +kernel
theorem dX8_through_45 : decode cX8_through 45 = .ok (.iconst 1, 1) := by decide +kernel
theorem dX8_through_46 : decode cX8_through 46 = .ok (.iadd, 1) := by decide +kernel
theorem dX8_through_47 : decode cX8_through 47 = .ok (.iload_n 2, 1) := by decide +kernel
theorem dX8_through_48 : decode cX8_through 48 = .ok (.iconst 1, 1) := by decide +kernel
theorem dX8_through_49 : decode cX8_through 49 = .ok (.iload_n 3, 1) := by decide +kernel
theorem dX8_through_50 : decode cX8_through 50 = .ok (.ishl, 1) := by decide +kernel
theorem dX8_through_51 : decode cX8_through 51 = .ok (.ior, 1) := by decide +kernel
theorem dX8_through_52 : decode cX8_through 52 = .ok (.invokevirtual 44, 3) := by decide +kernel
theorem dX8_through_55 : decode cX8_through 55 = .ok (.aload_n 0, 1) := by decide +kernel
theorem dX8_through_56 : decode cX8_through 56 = .ok (.iload_n 1, 1) := by decide +kernel
theorem dX8_through_57 : decode cX8_through 57 = .ok (.iload_n 3, 1) := by decide +kernel
theorem dX8_through_58 : decode cX8_through 58 = .ok (.invokevirtual 52, 3) := by decide +kernel
theorem dX8_through_61 : decode cX8_through 61 = .ok (.iadd, 1) := by decide +kernel
theorem dX8_through_62 : decode cX8_through 62 = .ok (.goto 5, 3) := by decide +kernel
theorem dX8_through_65 : decode cX8_through 65 = .ok (.ldc 55, 2) := by decide +kernel
theorem dX8_through_67 : decode cX8_through 67 = .ok (.ireturn, 1) := by decide +kernel
theorem dX8_lay_0 : decode cX8_lay 0 = .ok (.aload_n 0, 1) := by decide +kernel
theorem dX8_lay_1 : decode cX8_lay 1 = .ok (.getfield 7, 3) := by decide +kernel
theorem dX8_lay_4 : decode cX8_lay 4 = .ok (.iconst 0, 1) := by decide +kernel
theorem dX8_lay_5 : decode cX8_lay 5 = .ok (.iaload, 1) := by decide +kernel
theorem dX8_lay_6 : decode cX8_lay 6 = .ok (.istore_n 3, 1) := by decide +kernel
theorem dX8_lay_7 : decode cX8_lay 7 = .ok (.iconst 0, 1) := by decide +kernel
theorem dX8_lay_8 : decode cX8_lay 8 = .ok (.istore 4, 2) := by decide +kernel
theorem dX8_lay_10 : decode cX8_lay 10 = .ok (.iload 4, 2) := by decide +kernel
theorem dX8_lay_12 : decode cX8_lay 12 = .ok (.iconst 1, 1) := by decide +kernel
theorem dX8_lay_13 : decode cX8_lay 13 = .ok (.iload_n 3, 1) := by decide +kernel
theorem dX8_lay_14 : decode cX8_lay 14 = .ok (.ishl, 1) := by decide +kernel
theorem dX8_lay_15 : decode cX8_lay 15 = .ok (.if_icmp .ge 37, 3) := by decide +kernel
theorem dX8_lay_18 : decode cX8_lay 18 = .ok (.aload_n 0, 1) := by decide +kernel
theorem dX8_lay_19 : decode cX8_lay 19 = .ok (.getfield 22, 3) := by decide +kernel
theorem dX8_lay_22 : decode cX8_lay 22 = .ok (.sipush 1024, 3) := by decide +kernel
theorem dX8_lay_25 : decode cX8_lay 25 = .ok (.iload_n 3, 1) := by decide +kernel
theorem dX8_lay_26 : decode cX8_lay 26 = .ok (.imul, 1) := by decide +kernel
theorem dX8_lay_27 : decode cX8_lay 27 = .ok (.iload 4, 2) := by decide +kernel
theorem dX8_lay_29 : decode cX8_lay 29 = .ok (.iadd, 1) := by decide +kernel
theorem dX8_lay_30 : decode cX8_lay 30 = .ok (.iload 4, 2) := by decide +kernel
theorem dX8_lay_32 : decode cX8_lay 32 = .ok (.invokestatic 56, 3) := by decide +kernel
theorem dX8_lay_35 : decode cX8_lay 35 = .ok (.iload_n 1, 1) := by decide +kernel
theorem dX8_lay_36 : decode cX8_lay 36 = .ok (.if_icmp .ne 7, 3) := by decide +kernel
theorem dX8_lay_39 : decode cX8_lay 39 = .ok (.iconst 0, 1) := by decide +kernel
theorem dX8_lay_40 : decode cX8_lay 40 = .ok (.goto 5, 3) := by decide +kernel
theorem dX8_lay_43 : decode cX8_lay 43 = .ok (.ldc 55, 2) := by decide +kernel
theorem dX8_lay_45 : decode cX8_lay 45 = .ok (.iastore, 1) := by decide +kernel
theorem dX8_lay_46 : decode cX8_lay 46 = .ok (.iinc 4 1, 3) := by decide +kernel
theorem dX8_lay_49 : decode cX8_lay 49 = .ok (.goto (-39), 3) := by decide +kernel
theorem dX8_lay_52 : decode cX8_lay 52 = .ok (.iload_n 3, 1) := by decide +kernel
theorem dX8_lay_53 : decode cX8_lay 53 = .ok (.iconst 1, 1) := by decide +kernel
theorem dX8_lay_54 : decode cX8_lay 54 = .ok (.isub, 1) := by decide +kernel
theorem dX8_lay_55 : decode cX8_lay 55 = .ok (.istore 4, 2) := by decide +kernel
theorem dX8_lay_57 : decode cX8_lay 57 = .ok (.iload 4, 2) := by decide +kernel
theorem dX8_lay_59 : decode cX8_lay 59 = .ok (.ifCond .lt 125, 3) := by decide +kernel
theorem dX8_lay_62 : decode cX8_lay 62 = .ok (.iconst 0, 1) := by decide +kernel
theorem dX8_lay_63 : decode cX8_lay 63 = .ok (.istore 5, 2) := by decide +kernel
theorem dX8_lay_65 : decode cX8_lay 65 = .ok (.iload 5, 2) := by decide +kernel
theorem dX8_lay_67 : decode cX8_lay 67 = .ok (.iconst 1, 1) := by decide +kernel
theorem dX8_lay_68 : decode cX8_lay 68 = .ok (.iload_n 3, 1) := by decide +kernel
theorem dX8_lay_69 : decode cX8_lay 69 = .ok (.ishl, 1) := by decide +kernel
theorem dX8_lay_70 : decode cX8_lay 70 = .ok (.if_icmp .ge 108, 3) := by decide +kernel
theorem dX8_lay_73 : decode cX8_lay 73 = .ok (.aload_n 0, 1) := by decide +kernel
theorem dX8_lay_74 : decode cX8_lay 74 = .ok (.iload 4, 2) := by decide +kernel
theorem dX8_lay_76 : decode cX8_lay 76 = .ok (.iload 5, 2) := by decide +kernel
theorem dX8_lay_78 : decode cX8_lay 78 = .ok (.iconst (-1), 1) := by decide +kernel
theorem dX8_lay_79 : decode cX8_lay 79 = .ok (.invokevirtual 59, 3) := by decide +kernel
theorem dX8_lay_82 : decode cX8_lay 82 = .ok (.istore 6, 2) := by decide +kernel
theorem dX8_lay_84 : decode cX8_lay 84 = .ok (.iconst 0, 1) := by decide +kernel
theorem dX8_lay_85 : decode cX8_lay 85 = .ok (.istore 7, 2) := by decide +kernel
theorem dX8_lay_87 : decode cX8_lay 87 = .ok (.iload 7, 2) := by decide +kernel
theorem dX8_lay_89 : decode cX8_lay 89 = .ok (.iload_n 3, 1) := by decide +kernel
theorem dX8_lay_90 : decode cX8_lay 90 = .ok (.if_icmp .ge 54, 3) := by decide +kernel
theorem dX8_lay_93 : decode cX8_lay 93 = .ok (.iload 4, 2) := by decide +kernel
theorem dX8_lay_95 : decode cX8_lay 95 = .ok (.iload_n 2, 1) := by decide +kernel
theorem dX8_lay_96 : decode cX8_lay 96 = .ok (.if_icmp .eq 48, 3) := by decide +kernel
theorem dX8_lay_99 : decode cX8_lay 99 = .ok (.iload 7, 2) := by decide +kernel
theorem dX8_lay_101 : decode cX8_lay 101 = .ok (.iload_n 2, 1) := by decide +kernel
theorem dX8_lay_102 : decode cX8_lay 102 = .ok (.if_icmp .ne 8, 3) := by decide +kernel
theorem dX8_lay_105 : decode cX8_lay 105 = .ok (.ldc 55, 2) := by decide +kernel
theorem dX8_lay_107 : decode cX8_lay 107 = .ok (.goto 13, 3) := by decide +kernel
theorem dX8_lay_110 : decode cX8_lay 110 = .ok (.aload_n 0, 1) := by decide +kernel
theorem dX8_lay_111 : decode cX8_lay 111 = .ok (.iload 4, 2) := by decide +kernel
theorem dX8_lay_113 : decode cX8_lay 113 = .ok (.iload 5, 2) := by decide +kernel
theorem dX8_lay_115 : decode cX8_lay 115 = .ok (.iload 7, 2) := by decide +kernel
theorem dX8_lay_117 : decode cX8_lay 117 = .ok (.invokevirtual 59, 3) := by decide +kernel
theorem dX8_lay_120 : decode cX8_lay 120 = .ok (.istore 8, 2) := by decide +kernel
theorem dX8_lay_122 : decode cX8_lay 122 = .ok (.iload 8, 2) := by decide +kernel
theorem dX8_lay_124 : decode cX8_lay 124 = .ok (.iload 6, 2) := by decide +kernel
theorem dX8_lay_126 : decode cX8_lay 126 = .ok (.if_icmp .ge 8, 3) := by decide +kernel
theorem dX8_lay_129 : decode cX8_lay 129 = .ok (.iload 8, 2) := by decide +kernel
theorem dX8_lay_131 : decode cX8_lay 131 = .ok (.goto 5, 3) := by decide +kernel
theorem dX8_lay_134 : decode cX8_lay 134 = .ok (.iload 6, 2) := by decide +kernel
theorem dX8_lay_136 : decode cX8_lay 136 = .ok (.istore 6, 2) := by decide +kernel
theorem dX8_lay_138 : decode cX8_lay 138 = .ok (.iinc 7 1, 3) := by decide +kernel
theorem dX8_lay_141 : decode cX8_lay 141 = .ok (.goto (-54), 3) := by decide +kernel
theorem dX8_lay_144 : decode cX8_lay 144 = .ok (.aload_n 0, 1) := by decide +kernel
theorem dX8_lay_145 : decode cX8_lay 145 = .ok (.getfield 22, 3) := by decide +kernel
theorem dX8_lay_148 : decode cX8_lay 148 = .ok (.sipush 1024, 3) := by decide +kernel
theorem dX8_lay_151 : decode cX8_lay 151 = .ok (.iload 4, 2) := by decide +kernel
theorem dX8_lay_153 : decode cX8_lay 153 = .ok (.imul, 1) := by decide +kernel
theorem dX8_lay_154 : decode cX8_lay 154 = .ok (.iload 5, 2) := by decide +kernel
theorem dX8_lay_156 : decode cX8_lay 156 = .ok (.iadd, 1) := by decide +kernel
theorem dX8_lay_157 : decode cX8_lay 157 = .ok (.iload 6, 2) := by decide +kernel
theorem dX8_lay_159 : decode cX8_lay 159 = .ok (.ldc 55, 2) := by decide +kernel
theorem dX8_lay_161 : decode cX8_lay 161 = .ok (.if_icmp .ge 8, 3) := by decide +kernel
theorem dX8_lay_164 : decode cX8_lay 164 = .ok (.iload 6, 2) := by decide +kernel
theorem dX8_lay_166 : decode cX8_lay 166 = .ok (.goto 5, 3) := by decide +kernel
theorem dX8_lay_169 : decode cX8_lay 169 = .ok (.ldc 55, 2) := by decide +kernel
theorem dX8_lay_171 : decode cX8_lay 171 = .ok (.iastore, 1) := by decide +kernel
theorem dX8_lay_172 : decode cX8_lay 172 = .ok (.iinc 5 1, 3) := by decide +kernel
theorem dX8_lay_175 : decode cX8_lay 175 = .ok (.goto (-110), 3) := by decide +kernel
theorem dX8_lay_178 : decode cX8_lay 178 = .ok (.iinc 4 (-1), 3) := by decide +kernel
theorem dX8_lay_181 : decode cX8_lay 181 = .ok (.goto (-124), 3) := by decide +kernel
theorem dX8_lay_184 : decode cX8_lay 184 = .ok (.return_, 1) := by decide +kernel
theorem dX8_leastOf_0 : decode cX8_leastOf 0 = .ok (.aload_n 0, 1) := by decide +kernel
theorem dX8_leastOf_1 : decode cX8_leastOf 1 = .ok (.getfield 7, 3) := by decide +kernel
theorem dX8_leastOf_4 : decode cX8_leastOf 4 = .ok (.iconst 0, 1) := by decide +kernel
theorem dX8_leastOf_5 : decode cX8_leastOf 5 = .ok (.iaload, 1) := by decide +kernel
theorem dX8_leastOf_6 : decode cX8_leastOf 6 = .ok (.iload_n 2, 1) := by decide +kernel
theorem dX8_leastOf_7 : decode cX8_leastOf 7 = .ok (.ifCond .ge 7, 3) := by decide +kernel
theorem dX8_leastOf_10 : decode cX8_leastOf 10 = .ok (.iconst 0, 1) := by decide +kernel
theorem dX8_leastOf_11 : decode cX8_leastOf 11 = .ok (.goto 4, 3) := by decide +kernel
theorem dX8_leastOf_14 : decode cX8_leastOf 14 = .ok (.iconst 1, 1) := by decide +kernel
theorem dX8_leastOf_15 : decode cX8_leastOf 15 = .ok (.isub, 1) := by decide +kernel
theorem dX8_leastOf_16 : decode cX8_leastOf 16 = .ok (.istore_n 3, 1) := by decide +kernel
theorem dX8_leastOf_17 : decode cX8_leastOf 17 = .ok (.iload_n 1, 1) := by decide +kernel
theorem dX8_leastOf_18 : decode cX8_leastOf 18 = .ok (.i2l, 1) := by decide +kernel
theorem dX8_leastOf_19 : decode cX8_leastOf 19 = .ok (.iload_n 3, 1) := by decide +kernel
theorem dX8_leastOf_20 : decode cX8_leastOf 20 = .ok (.ifCond .le 7, 3) := by decide +kernel
theorem dX8_leastOf_23 : decode cX8_leastOf 23 = .ok (.lconst 1, 1) := by decide +kernel
theorem dX8_leastOf_24 : decode cX8_leastOf 24 = .ok (.goto 4, 3) := by decide +kernel
theorem dX8_leastOf_27 : decode cX8_leastOf 27 = .ok (.lconst 0, 1) := by decide +kernel
theorem dX8_leastOf_28 : decode cX8_leastOf 28 = .ok (.iload_n 3, 1) := by decide +kernel
theorem dX8_leastOf_29 : decode cX8_leastOf 29 = .ok (.i2l, 1) := by decide +kernel
theorem dX8_leastOf_30 : decode cX8_leastOf 30 = .ok (.invokestatic 40, 3) := by decide +kernel
theorem dX8_leastOf_33 : decode cX8_leastOf 33 = .ok (.ifCond .ne 5, 3) := by decide +kernel
theorem dX8_leastOf_36 : decode cX8_leastOf 36 = .ok (.iconst (-1), 1) := by decide +kernel
theorem dX8_leastOf_37 : decode cX8_leastOf 37 = .ok (.ireturn, 1) := by decide +kernel
theorem dX8_leastOf_38 : decode cX8_leastOf 38 = .ok (.aload_n 0, 1) := by decide +kernel
theorem dX8_leastOf_39 : decode cX8_leastOf 39 = .ok (.iload_n 3, 1) := by decide +kernel
theorem dX8_leastOf_40 : decode cX8_leastOf 40 = .ok (.iload_n 1, 1) := by decide +kernel
theorem dX8_leastOf_41 : decode cX8_leastOf 41 = .ok (.isub, 1) := by decide +kernel
theorem dX8_leastOf_42 : decode cX8_leastOf 42 = .ok (.iload_n 2, 1) := by decide +kernel
theorem dX8_leastOf_43 : decode cX8_leastOf 43 = .ok (.invokevirtual 63, 3) := by decide +kernel
theorem dX8_leastOf_46 : decode cX8_leastOf 46 = .ok (.aload_n 0, 1) := by decide +kernel
theorem dX8_leastOf_47 : decode cX8_leastOf 47 = .ok (.iconst 0, 1) := by decide +kernel
theorem dX8_leastOf_48 : decode cX8_leastOf 48 = .ok (.iconst 0, 1) := by decide +kernel
theorem dX8_leastOf_49 : decode cX8_leastOf 49 = .ok (.invokevirtual 44, 3) := by decide +kernel
theorem dX8_leastOf_52 : decode cX8_leastOf 52 = .ok (.ldc 55, 2) := by decide +kernel
theorem dX8_leastOf_54 : decode cX8_leastOf 54 = .ok (.if_icmp .ge 21, 3) := by decide +kernel
theorem dX8_leastOf_57 : decode cX8_leastOf 57 = .ok (.aload_n 0, 1) := by decide +kernel
theorem dX8_leastOf_58 : decode cX8_leastOf 58 = .ok (.iconst 0, 1) := by decide +kernel
theorem dX8_leastOf_59 : decode cX8_leastOf 59 = .ok (.iconst 0, 1) := by decide +kernel
theorem dX8_leastOf_60 : decode cX8_leastOf 60 = .ok (.invokevirtual 44, 3) := by decide +kernel
theorem dX8_leastOf_63 : decode cX8_leastOf 63 = .ok (.iload_n 1, 1) := by decide +kernel
theorem dX8_leastOf_64 : decode cX8_leastOf 64 = .ok (.aload_n 0, 1) := by decide +kernel
theorem dX8_leastOf_65 : decode cX8_leastOf 65 = .ok (.getfield 7, 3) := by decide +kernel
theorem dX8_leastOf_68 : decode cX8_leastOf 68 = .ok (.iconst 4, 1) := by decide +kernel
theorem dX8_leastOf_69 : decode cX8_leastOf 69 = .ok (.iaload, 1) := by decide +kernel
theorem dX8_leastOf_70 : decode cX8_leastOf 70 = .ok (.imul, 1) := by decide +kernel
theorem dX8_leastOf_71 : decode cX8_leastOf 71 = .ok (.iadd, 1) := by decide +kernel
theorem dX8_leastOf_72 : decode cX8_leastOf 72 = .ok (.goto 4, 3) := by decide +kernel
theorem dX8_leastOf_75 : decode cX8_leastOf 75 = .ok (.iconst (-1), 1) := by decide +kernel
theorem dX8_leastOf_76 : decode cX8_leastOf 76 = .ok (.ireturn, 1) := by decide +kernel
theorem dX8_cheapest_0 : decode cX8_cheapest 0 = .ok (.iconst 0, 1) := by decide +kernel
theorem dX8_cheapest_1 : decode cX8_cheapest 1 = .ok (.istore_n 2, 1) := by decide +kernel
theorem dX8_cheapest_2 : decode cX8_cheapest 2 = .ok (.ldc 55, 2) := by decide +kernel
theorem dX8_cheapest_4 : decode cX8_cheapest 4 = .ok (.istore_n 3, 1) := by decide +kernel
theorem dX8_cheapest_5 : decode cX8_cheapest 5 = .ok (.iconst 0, 1) := by decide +kernel
theorem dX8_cheapest_6 : decode cX8_cheapest 6 = .ok (.istore 4, 2) := by decide +kernel
theorem dX8_cheapest_8 : decode cX8_cheapest 8 = .ok (.iload 4, 2) := by decide +kernel
theorem dX8_cheapest_10 : decode cX8_cheapest 10 = .ok (.aload_n 0, 1) := by decide +kernel
theorem dX8_cheapest_11 : decode cX8_cheapest 11 = .ok (.getfield 7, 3) := by decide +kernel
theorem dX8_cheapest_14 : decode cX8_cheapest 14 = .ok (.iconst 0, 1) := by decide +kernel
theorem dX8_cheapest_15 : decode cX8_cheapest 15 = .ok (.iaload, 1) := by decide +kernel
theorem dX8_cheapest_16 : decode cX8_cheapest 16 = .ok (.if_icmp .gt 60, 3) := by decide +kernel
theorem dX8_cheapest_19 : decode cX8_cheapest 19 = .ok (.aload_n 0, 1) := by decide +kernel
theorem dX8_cheapest_20 : decode cX8_cheapest 20 = .ok (.iload 4, 2) := by decide +kernel
theorem dX8_cheapest_22 : decode cX8_cheapest 22 = .ok (.iload_n 1, 1) := by decide +kernel
theorem dX8_cheapest_23 : decode cX8_cheapest 23 = .ok (.invokevirtual 66, 3) := by decide +kernel
theorem dX8_cheapest_26 : decode cX8_cheapest 26 = .ok (.istore 5, 2) := by decide +kernel
theorem dX8_cheapest_28 : decode cX8_cheapest 28 = .ok (.iload 5, 2) := by decide +kernel
theorem dX8_cheapest_30 : decode cX8_cheapest 30 = .ok (.ifCond .lt 13, 3) := by decide +kernel
theorem dX8_cheapest_33 : decode cX8_cheapest 33 = .ok (.iload 5, 2) := by decide +kernel
theorem dX8_cheapest_35 : decode cX8_cheapest 35 = .ok (.iload_n 3, 1) := by decide +kernel
theorem dX8_cheapest_36 : decode cX8_cheapest 36 = .ok (.if_icmp .ge 7, 3) := by decide +kernel
theorem dX8_cheapest_39 : decode cX8_cheapest 39 = .ok (.iconst 1, 1) := by decide +kernel
theorem dX8_cheapest_40 : decode cX8_cheapest 40 = .ok (.goto 4, 3) := by decide +kernel
theorem dX8_cheapest_43 : decode cX8_cheapest 43 = .ok (.iconst 0, 1) := by decide +kernel
theorem dX8_cheapest_44 : decode cX8_cheapest 44 = .ok (.istore 6, 2) := by decide +kernel
theorem dX8_cheapest_46 : decode cX8_cheapest 46 = .ok (.iload 6, 2) := by decide +kernel
theorem dX8_cheapest_48 : decode cX8_cheapest 48 = .ok (.ifCond .eq 8, 3) := by decide +kernel
theorem dX8_cheapest_51 : decode cX8_cheapest 51 = .ok (.iload 4, 2) := by decide +kernel
theorem dX8_cheapest_53 : decode cX8_cheapest 53 = .ok (.goto 4, 3) := by decide +kernel
theorem dX8_cheapest_56 : decode cX8_cheapest 56 = .ok (.iload_n 2, 1) := by decide +kernel
theorem dX8_cheapest_57 : decode cX8_cheapest 57 = .ok (.istore_n 2, 1) := by decide +kernel
theorem dX8_cheapest_58 : decode cX8_cheapest 58 = .ok (.iload 6, 2) := by decide +kernel
theorem dX8_cheapest_60 : decode cX8_cheapest 60 = .ok (.ifCond .eq 8, 3) := by decide +kernel
theorem dX8_cheapest_63 : decode cX8_cheapest 63 = .ok (.iload 5, 2) := by decide +kernel
theorem dX8_cheapest_65 : decode cX8_cheapest 65 = .ok (.goto 4, 3) := by decide +kernel
theorem dX8_cheapest_68 : decode cX8_cheapest 68 = .ok (.iload_n 3, 1) := by decide +kernel
theorem dX8_cheapest_69 : decode cX8_cheapest 69 = .ok (.istore_n 3, 1) := by decide +kernel
theorem dX8_cheapest_70 : decode cX8_cheapest 70 = .ok (.iinc 4 1, 3) := by decide +kernel
theorem dX8_cheapest_73 : decode cX8_cheapest 73 = .ok (.goto (-65), 3) := by decide +kernel
theorem dX8_cheapest_76 : decode cX8_cheapest 76 = .ok (.iload_n 2, 1) := by decide +kernel
theorem dX8_cheapest_77 : decode cX8_cheapest 77 = .ok (.ireturn, 1) := by decide +kernel
theorem dX8_leastOfAll_0 : decode cX8_leastOfAll 0 = .ok (.aload_n 0, 1) := by decide +kernel
theorem dX8_leastOfAll_1 : decode cX8_leastOfAll 1 = .ok (.aload_n 0, 1) := by decide +kernel
theorem dX8_leastOfAll_2 : decode cX8_leastOfAll 2 = .ok (.iload_n 1, 1) := by decide +kernel
theorem dX8_leastOfAll_3 : decode cX8_leastOfAll 3 = .ok (.invokevirtual 69, 3) := by decide +kernel
theorem dX8_leastOfAll_6 : decode cX8_leastOfAll 6 = .ok (.iload_n 1, 1) := by decide +kernel
theorem dX8_leastOfAll_7 : decode cX8_leastOfAll 7 = .ok (.invokevirtual 66, 3) := by decide +kernel
theorem dX8_leastOfAll_10 : decode cX8_leastOfAll 10 = .ok (.ireturn, 1) := by decide +kernel
theorem dX8_fewest_0 : decode cX8_fewest 0 = .ok (.iconst 0, 1) := by decide +kernel
theorem dX8_fewest_1 : decode cX8_fewest 1 = .ok (.istore_n 1, 1) := by decide +kernel
theorem dX8_fewest_2 : decode cX8_fewest 2 = .ok (.aload_n 0, 1) := by decide +kernel
theorem dX8_fewest_3 : decode cX8_fewest 3 = .ok (.iload_n 1, 1) := by decide +kernel
theorem dX8_fewest_4 : decode cX8_fewest 4 = .ok (.iconst (-1), 1) := by decide +kernel
theorem dX8_fewest_5 : decode cX8_fewest 5 = .ok (.invokevirtual 66, 3) := by decide +kernel
theorem dX8_fewest_8 : decode cX8_fewest 8 = .ok (.ifCond .ge 9, 3) := by decide +kernel
theorem dX8_fewest_11 : decode cX8_fewest 11 = .ok (.iinc 1 1, 3) := by decide +kernel
theorem dX8_fewest_14 : decode cX8_fewest 14 = .ok (.goto (-12), 3) := by decide +kernel
theorem dX8_fewest_17 : decode cX8_fewest 17 = .ok (.iload_n 1, 1) := by decide +kernel
theorem dX8_fewest_18 : decode cX8_fewest 18 = .ok (.ireturn, 1) := by decide +kernel
theorem dX8_layFirst_0 : decode cX8_layFirst 0 = .ok (.aload_n 0, 1) := by decide +kernel
theorem dX8_layFirst_1 : decode cX8_layFirst 1 = .ok (.iload_n 1, 1) := by decide +kernel
theorem dX8_layFirst_2 : decode cX8_layFirst 2 = .ok (.iconst (-1), 1) := by decide +kernel
theorem dX8_layFirst_3 : decode cX8_layFirst 3 = .ok (.invokevirtual 66, 3) := by decide +kernel
theorem dX8_layFirst_6 : decode cX8_layFirst 6 = .ok (.ifCond .ge 5, 3) := by decide +kernel
theorem dX8_layFirst_9 : decode cX8_layFirst 9 = .ok (.iconst 0, 1) := by decide +kernel
theorem dX8_layFirst_10 : decode cX8_layFirst 10 = .ok (.ireturn, 1) := by decide +kernel
theorem dX8_layFirst_11 : decode cX8_layFirst 11 = .ok (.iconst 0, 1) := by decide +kernel
theorem dX8_layFirst_12 : decode cX8_layFirst 12 = .ok (.istore_n 2, 1) := by decide +kernel
theorem dX8_layFirst_13 : decode cX8_layFirst 13 = .ok (.iconst 0, 1) := by decide +kernel
theorem dX8_layFirst_14 : decode cX8_layFirst 14 = .ok (.istore_n 3, 1) := by decide +kernel
theorem dX8_layFirst_15 : decode cX8_layFirst 15 = .ok (.iload_n 3, 1) := by decide +kernel
theorem dX8_layFirst_16 : decode cX8_layFirst 16 = .ok (.aload_n 0, 1) := by decide +kernel
theorem dX8_layFirst_17 : decode cX8_layFirst 17 = .ok (.getfield 7, 3) := by decide +kernel
theorem dX8_layFirst_20 : decode cX8_layFirst 20 = .ok (.iconst 0, 1) := by decide +kernel
theorem dX8_layFirst_21 : decode cX8_layFirst 21 = .ok (.iaload, 1) := by decide +kernel
theorem dX8_layFirst_22 : decode cX8_layFirst 22 = .ok (.if_icmp .ge 59, 3) := by decide +kernel
theorem dX8_layFirst_25 : decode cX8_layFirst 25 = .ok (.iconst (-1), 1) := by decide +kernel
theorem dX8_layFirst_26 : decode cX8_layFirst 26 = .ok (.istore 4, 2) := by decide +kernel
theorem dX8_layFirst_28 : decode cX8_layFirst 28 = .ok (.aload_n 0, 1) := by decide +kernel
theorem dX8_layFirst_29 : decode cX8_layFirst 29 = .ok (.iload_n 3, 1) := by decide +kernel
theorem dX8_layFirst_30 : decode cX8_layFirst 30 = .ok (.iload_n 2, 1) := by decide +kernel
theorem dX8_layFirst_31 : decode cX8_layFirst 31 = .ok (.iload 4, 2) := by decide +kernel
theorem dX8_layFirst_33 : decode cX8_layFirst 33 = .ok (.invokevirtual 59, 3) := by decide +kernel
theorem dX8_layFirst_36 : decode cX8_layFirst 36 = .ok (.aload_n 0, 1) := by decide +kernel
theorem dX8_layFirst_37 : decode cX8_layFirst 37 = .ok (.iload_n 3, 1) := by decide +kernel
theorem dX8_layFirst_38 : decode cX8_layFirst 38 = .ok (.iload_n 2, 1) := by decide +kernel
theorem dX8_layFirst_39 : decode cX8_layFirst 39 = .ok (.invokevirtual 44, 3) := by decide +kernel
theorem dX8_layFirst_42 : decode cX8_layFirst 42 = .ok (.if_icmp .eq 9, 3) := by decide +kernel
theorem dX8_layFirst_45 : decode cX8_layFirst 45 = .ok (.iinc 4 1, 3) := by decide +kernel
theorem dX8_layFirst_48 : decode cX8_layFirst 48 = .ok (.goto (-20), 3) := by decide +kernel
theorem dX8_layFirst_51 : decode cX8_layFirst 51 = .ok (.aload_n 0, 1) := by decide +kernel
theorem dX8_layFirst_52 : decode cX8_layFirst 52 = .ok (.getfield 25, 3) := by decide +kernel
theorem dX8_layFirst_55 : decode cX8_layFirst 55 = .ok (.iload_n 3, 1) := by decide +kernel
theorem dX8_layFirst_56 : decode cX8_layFirst 56 = .ok (.iload 4, 2) := by decide +kernel
theorem dX8_layFirst_58 : decode cX8_layFirst 58 = .ok (.iastore, 1) := by decide +kernel
theorem dX8_layFirst_59 : decode cX8_layFirst 59 = .ok (.iload_n 2, 1) := by decide +kernel
theorem dX8_layFirst_60 : decode cX8_layFirst 60 = .ok (.iload 4, 2) := by decide +kernel
theorem dX8_layFirst_62 : decode cX8_layFirst 62 = .ok (.ifCond .ge 7, 3) := by decide +kernel
theorem dX8_layFirst_65 : decode cX8_layFirst 65 = .ok (.iconst 0, 1) := by decide +kernel
theorem dX8_layFirst_66 : decode cX8_layFirst 66 = .ok (.goto 7, 3) := by decide +kernel
theorem dX8_layFirst_69 : decode cX8_layFirst 69 = .ok (.iconst 1, 1) := by decide +kernel
theorem dX8_layFirst_70 : decode cX8_layFirst 70 = .ok (.iload 4, 2) := by decide +kernel
theorem dX8_layFirst_72 : decode cX8_layFirst 72 = .ok (.ishl, 1) := by decide +kernel
theorem dX8_layFirst_73 : decode cX8_layFirst 73 = .ok (.ior, 1) := by decide +kernel
theorem dX8_layFirst_74 : decode cX8_layFirst 74 = .ok (.istore_n 2, 1) := by decide +kernel
theorem dX8_layFirst_75 : decode cX8_layFirst 75 = .ok (.iinc 3 1, 3) := by decide +kernel
theorem dX8_layFirst_78 : decode cX8_layFirst 78 = .ok (.goto (-63), 3) := by decide +kernel
theorem dX8_layFirst_81 : decode cX8_layFirst 81 = .ok (.iconst 1, 1) := by decide +kernel
theorem dX8_layFirst_82 : decode cX8_layFirst 82 = .ok (.ireturn, 1) := by decide +kernel
theorem dX8_prior_0 : decode cX8_prior 0 = .ok (.iconst (-1), 1) := by decide +kernel
theorem dX8_prior_1 : decode cX8_prior 1 = .ok (.istore_n 2, 1) := by decide +kernel
theorem dX8_prior_2 : decode cX8_prior 2 = .ok (.iconst 0, 1) := by decide +kernel
theorem dX8_prior_3 : decode cX8_prior 3 = .ok (.istore_n 3, 1) := by decide +kernel
theorem dX8_prior_4 : decode cX8_prior 4 = .ok (.iload_n 3, 1) := by decide +kernel
theorem dX8_prior_5 : decode cX8_prior 5 = .ok (.aload_n 0, 1) := by decide +kernel
theorem dX8_prior_6 : decode cX8_prior 6 = .ok (.getfield 7, 3) := by decide +kernel
theorem dX8_prior_9 : decode cX8_prior 9 = .ok (.iconst 0, 1) := by decide +kernel
theorem dX8_prior_10 : decode cX8_prior 10 = .ok (.iaload, 1) := by decide +kernel
theorem dX8_prior_11 : decode cX8_prior 11 = .ok (.if_icmp .ge 28, 3) := by decide +kernel
theorem dX8_prior_14 : decode cX8_prior 14 = .ok (.aload_n 0, 1) := by decide +kernel
theorem dX8_prior_15 : decode cX8_prior 15 = .ok (.getfield 7, 3) := by decide +kernel
theorem dX8_prior_18 : decode cX8_prior 18 = .ok (.bipush 36, 2) := by decide +kernel
theorem dX8_prior_20 : decode cX8_prior 20 = .ok (.iload_n 3, 1) := by decide +kernel
theorem dX8_prior_21 : decode cX8_prior 21 = .ok (.iadd, 1) := by decide +kernel
theorem dX8_prior_22 : decode cX8_prior 22 = .ok (.iaload, 1) := by decide +kernel
theorem dX8_prior_23 : decode cX8_prior 23 = .ok (.iload_n 1, 1) := by decide +kernel
theorem dX8_prior_24 : decode cX8_prior 24 = .ok (.if_icmp .ne 7, 3) := by decide +kernel
theorem dX8_prior_27 : decode cX8_prior 27 = .ok (.iload_n 3, 1) := by decide +kernel
theorem dX8_prior_28 : decode cX8_prior 28 = .ok (.goto 4, 3) := by decide +kernel
theorem dX8_prior_31 : decode cX8_prior 31 = .ok (.iload_n 2, 1) := by decide +kernel
theorem dX8_prior_32 : decode cX8_prior 32 = .ok (.istore_n 2, 1) := by decide +kernel
theorem dX8_prior_33 : decode cX8_prior 33 = .ok (.iinc 3 1, 3) := by decide +kernel
theorem dX8_prior_36 : decode cX8_prior 36 = .ok (.goto (-32), 3) := by decide +kernel
theorem dX8_prior_39 : decode cX8_prior 39 = .ok (.iload_n 2, 1) := by decide +kernel
theorem dX8_prior_40 : decode cX8_prior 40 = .ok (.ireturn, 1) := by decide +kernel
theorem dX8_firstOf_0 : decode cX8_firstOf 0 = .ok (.iconst 0, 1) := by decide +kernel
theorem dX8_firstOf_1 : decode cX8_firstOf 1 = .ok (.istore_n 2, 1) := by decide +kernel
theorem dX8_firstOf_2 : decode cX8_firstOf 2 = .ok (.iconst 0, 1) := by decide +kernel
theorem dX8_firstOf_3 : decode cX8_firstOf 3 = .ok (.istore_n 3, 1) := by decide +kernel
theorem dX8_firstOf_4 : decode cX8_firstOf 4 = .ok (.iload_n 3, 1) := by decide +kernel
theorem dX8_firstOf_5 : decode cX8_firstOf 5 = .ok (.aload_n 0, 1) := by decide +kernel
theorem dX8_firstOf_6 : decode cX8_firstOf 6 = .ok (.getfield 7, 3) := by decide +kernel
theorem dX8_firstOf_9 : decode cX8_firstOf 9 = .ok (.iconst 0, 1) := by decide +kernel
theorem dX8_firstOf_10 : decode cX8_firstOf 10 = .ok (.iaload, 1) := by decide +kernel
theorem dX8_firstOf_11 : decode cX8_firstOf 11 = .ok (.if_icmp .ge 28, 3) := by decide +kernel
theorem dX8_firstOf_14 : decode cX8_firstOf 14 = .ok (.aload_n 0, 1) := by decide +kernel
theorem dX8_firstOf_15 : decode cX8_firstOf 15 = .ok (.iload_n 3, 1) := by decide +kernel
theorem dX8_firstOf_16 : decode cX8_firstOf 16 = .ok (.invokevirtual 72, 3) := by decide +kernel
theorem dX8_firstOf_19 : decode cX8_firstOf 19 = .ok (.iconst (-1), 1) := by decide +kernel
theorem dX8_firstOf_20 : decode cX8_firstOf 20 = .ok (.if_icmp .ne 13, 3) := by decide +kernel
theorem dX8_firstOf_23 : decode cX8_firstOf 23 = .ok (.iload_n 2, 1) := by decide +kernel
theorem dX8_firstOf_24 : decode cX8_firstOf 24 = .ok (.iload_n 1, 1) := by decide +kernel
theorem dX8_firstOf_25 : decode cX8_firstOf 25 = .ok (.if_icmp .ne 5, 3) := by decide +kernel
theorem dX8_firstOf_28 : decode cX8_firstOf 28 = .ok (.iload_n 3, 1) := by decide +kernel
theorem dX8_firstOf_29 : decode cX8_firstOf 29 = .ok (.ireturn, 1) := by decide +kernel
theorem dX8_firstOf_30 : decode cX8_firstOf 30 = .ok (.iinc 2 1, 3) := by decide +kernel
theorem dX8_firstOf_33 : decode cX8_firstOf 33 = .ok (.iinc 3 1, 3) := by decide +kernel
theorem dX8_firstOf_36 : decode cX8_firstOf 36 = .ok (.goto (-32), 3) := by decide +kernel
theorem dX8_firstOf_39 : decode cX8_firstOf 39 = .ok (.iconst (-1), 1) := by decide +kernel
theorem dX8_firstOf_40 : decode cX8_firstOf 40 = .ok (.ireturn, 1) := by decide +kernel
theorem dX8_voices_0 : decode cX8_voices 0 = .ok (.iconst 0, 1) := by decide +kernel
theorem dX8_voices_1 : decode cX8_voices 1 = .ok (.istore_n 1, 1) := by decide +kernel
theorem dX8_voices_2 : decode cX8_voices 2 = .ok (.iconst 0, 1) := by decide +kernel
theorem dX8_voices_3 : decode cX8_voices 3 = .ok (.istore_n 2, 1) := by decide +kernel
theorem dX8_voices_4 : decode cX8_voices 4 = .ok (.iload_n 2, 1) := by decide +kernel
theorem dX8_voices_5 : decode cX8_voices 5 = .ok (.aload_n 0, 1) := by decide +kernel
theorem dX8_voices_6 : decode cX8_voices 6 = .ok (.getfield 7, 3) := by decide +kernel
theorem dX8_voices_9 : decode cX8_voices 9 = .ok (.iconst 0, 1) := by decide +kernel
theorem dX8_voices_10 : decode cX8_voices 10 = .ok (.iaload, 1) := by decide +kernel
theorem dX8_voices_11 : decode cX8_voices 11 = .ok (.if_icmp .ge 26, 3) := by decide +kernel
theorem dX8_voices_14 : decode cX8_voices 14 = .ok (.iload_n 1, 1) := by decide +kernel
theorem dX8_voices_15 : decode cX8_voices 15 = .ok (.aload_n 0, 1) := by decide +kernel
theorem dX8_voices_16 : decode cX8_voices 16 = .ok (.iload_n 2, 1) := by decide +kernel
theorem dX8_voices_17 : decode cX8_voices 17 = .ok (.invokevirtual 72, 3) := by decide +kernel
theorem dX8_voices_20 : decode cX8_voices 20 = .ok (.iconst (-1), 1) := by decide +kernel
theorem dX8_voices_21 : decode cX8_voices 21 = .ok (.if_icmp .ne 7, 3) := by decide +kernel
theorem dX8_voices_24 : decode cX8_voices 24 = .ok (.iconst 1, 1) := by decide +kernel
theorem dX8_voices_25 : decode cX8_voices 25 = .ok (.goto 4, 3) := by decide +kernel
theorem dX8_voices_28 : decode cX8_voices 28 = .ok (.iconst 0, 1) := by decide +kernel
theorem dX8_voices_29 : decode cX8_voices 29 = .ok (.iadd, 1) := by decide +kernel
theorem dX8_voices_30 : decode cX8_voices 30 = .ok (.istore_n 1, 1) := by decide +kernel
theorem dX8_voices_31 : decode cX8_voices 31 = .ok (.iinc 2 1, 3) := by decide +kernel
theorem dX8_voices_34 : decode cX8_voices 34 = .ok (.goto (-30), 3) := by decide +kernel
theorem dX8_voices_37 : decode cX8_voices 37 = .ok (.iload_n 1, 1) := by decide +kernel
theorem dX8_voices_38 : decode cX8_voices 38 = .ok (.ireturn, 1) := by decide +kernel
theorem dX8_costNow_0 : decode cX8_costNow 0 = .ok (.aload_n 0, 1) := by decide +kernel
theorem dX8_costNow_1 : decode cX8_costNow 1 = .ok (.invokevirtual 75, 3) := by decide +kernel
theorem dX8_costNow_4 : decode cX8_costNow 4 = .ok (.aload_n 0, 1) := by decide +kernel
theorem dX8_costNow_5 : decode cX8_costNow 5 = .ok (.getfield 7, 3) := by decide +kernel
theorem dX8_costNow_8 : decode cX8_costNow 8 = .ok (.iconst 4, 1) := by decide +kernel
theorem dX8_costNow_9 : decode cX8_costNow 9 = .ok (.iaload, 1) := by decide +kernel
theorem dX8_costNow_10 : decode cX8_costNow 10 = .ok (.imul, 1) := by decide +kernel
theorem dX8_costNow_11 : decode cX8_costNow 11 = .ok (.istore_n 1, 1) := by decide +kernel
theorem dX8_costNow_12 : decode cX8_costNow 12 = .ok (.iconst 0, 1) := by decide +kernel
theorem dX8_costNow_13 : decode cX8_costNow 13 = .ok (.istore_n 2, 1) := by decide +kernel
theorem dX8_costNow_14 : decode cX8_costNow 14 = .ok (.iload_n 2, 1) := by decide +kernel
theorem dX8_costNow_15 : decode cX8_costNow 15 = .ok (.aload_n 0, 1) := by decide +kernel
theorem dX8_costNow_16 : decode cX8_costNow 16 = .ok (.getfield 7, 3) := by decide +kernel
theorem dX8_costNow_19 : decode cX8_costNow 19 = .ok (.iconst 0, 1) := by decide +kernel
theorem dX8_costNow_20 : decode cX8_costNow 20 = .ok (.iaload, 1) := by decide +kernel
theorem dX8_costNow_21 : decode cX8_costNow 21 = .ok (.if_icmp .ge 42, 3) := by decide +kernel
theorem dX8_costNow_24 : decode cX8_costNow 24 = .ok (.iload_n 1, 1) := by decide +kernel
theorem dX8_costNow_25 : decode cX8_costNow 25 = .ok (.aload_n 0, 1) := by decide +kernel
theorem dX8_costNow_26 : decode cX8_costNow 26 = .ok (.getfield 7, 3) := by decide +kernel
theorem dX8_costNow_29 : decode cX8_costNow 29 = .ok (.bipush 36, 2) := by decide +kernel
theorem dX8_costNow_31 : decode cX8_costNow 31 = .ok (.iload_n 2, 1) := by decide +kernel
theorem dX8_costNow_32 : decode cX8_costNow 32 = .ok (.iadd, 1) := by decide +kernel
theorem dX8_costNow_33 : decode cX8_costNow 33 = .ok (.iaload, 1) := by decide +kernel
theorem dX8_costNow_34 : decode cX8_costNow 34 = .ok (.ifCond .ge 7, 3) := by decide +kernel
theorem dX8_costNow_37 : decode cX8_costNow 37 = .ok (.iconst 0, 1) := by decide +kernel
theorem dX8_costNow_38 : decode cX8_costNow 38 = .ok (.goto 17, 3) := by decide +kernel
theorem dX8_costNow_41 : decode cX8_costNow 41 = .ok (.aload_n 0, 1) := by decide +kernel
theorem dX8_costNow_42 : decode cX8_costNow 42 = .ok (.iload_n 2, 1) := by decide +kernel
theorem dX8_costNow_43 : decode cX8_costNow 43 = .ok (.aload_n 0, 1) := by decide +kernel
theorem dX8_costNow_44 : decode cX8_costNow 44 = .ok (.getfield 7, 3) := by decide +kernel
theorem dX8_costNow_47 : decode cX8_costNow 47 = .ok (.bipush 36, 2) := by decide +kernel
theorem dX8_costNow_49 : decode cX8_costNow 49 = .ok (.iload_n 2, 1) := by decide +kernel
theorem dX8_costNow_50 : decode cX8_costNow 50 = .ok (.iadd, 1) := by decide +kernel
theorem dX8_costNow_51 : decode cX8_costNow 51 = .ok (.iaload, 1) := by decide +kernel
theorem dX8_costNow_52 : decode cX8_costNow 52 = .ok (.invokevirtual 52, 3) := by decide +kernel
theorem dX8_costNow_55 : decode cX8_costNow 55 = .ok (.iadd, 1) := by decide +kernel
theorem dX8_costNow_56 : decode cX8_costNow 56 = .ok (.istore_n 1, 1) := by decide +kernel
theorem dX8_costNow_57 : decode cX8_costNow 57 = .ok (.iinc 2 1, 3) := by decide +kernel
theorem dX8_costNow_60 : decode cX8_costNow 60 = .ok (.goto (-46), 3) := by decide +kernel
theorem dX8_costNow_63 : decode cX8_costNow 63 = .ok (.iload_n 1, 1) := by decide +kernel
theorem dX8_costNow_64 : decode cX8_costNow 64 = .ok (.ireturn, 1) := by decide +kernel
theorem dX8_voiceOf_0 : decode cX8_voiceOf 0 = .ok (.iload_n 1, 1) := by decide +kernel
theorem dX8_voiceOf_1 : decode cX8_voiceOf 1 = .ok (.istore_n 2, 1) := by decide +kernel
theorem dX8_voiceOf_2 : decode cX8_voiceOf 2 = .ok (.aload_n 0, 1) := by decide +kernel
theorem dX8_voiceOf_3 : decode cX8_voiceOf 3 = .ok (.iload_n 2, 1) := by decide +kernel
theorem dX8_voiceOf_4 : decode cX8_voiceOf 4 = .ok (.invokevirtual 72, 3) := by decide +kernel
theorem dX8_voiceOf_7 : decode cX8_voiceOf 7 = .ok (.iconst (-1), 1) := by decide +kernel
theorem dX8_voiceOf_8 : decode cX8_voiceOf 8 = .ok (.if_icmp .eq 12, 3) := by decide +kernel
theorem dX8_voiceOf_11 : decode cX8_voiceOf 11 = .ok (.aload_n 0, 1) := by decide +kernel
theorem dX8_voiceOf_12 : decode cX8_voiceOf 12 = .ok (.iload_n 2, 1) := by decide +kernel
theorem dX8_voiceOf_13 : decode cX8_voiceOf 13 = .ok (.invokevirtual 72, 3) := by decide +kernel
theorem dX8_voiceOf_16 : decode cX8_voiceOf 16 = .ok (.istore_n 2, 1) := by decide +kernel
theorem dX8_voiceOf_17 : decode cX8_voiceOf 17 = .ok (.goto (-15), 3) := by decide +kernel
theorem dX8_voiceOf_20 : decode cX8_voiceOf 20 = .ok (.iconst 0, 1) := by decide +kernel
theorem dX8_voiceOf_21 : decode cX8_voiceOf 21 = .ok (.istore_n 3, 1) := by decide +kernel
theorem dX8_voiceOf_22 : decode cX8_voiceOf 22 = .ok (.iconst 0, 1) := by decide +kernel
theorem dX8_voiceOf_23 : decode cX8_voiceOf 23 = .ok (.istore 4, 2) := by decide +kernel
theorem dX8_voiceOf_25 : decode cX8_voiceOf 25 = .ok (.iload 4, 2) := by decide +kernel
theorem dX8_voiceOf_27 : decode cX8_voiceOf 27 = .ok (.iload_n 2, 1) := by decide +kernel
theorem dX8_voiceOf_28 : decode cX8_voiceOf 28 = .ok (.if_icmp .ge 27, 3) := by decide +kernel
theorem dX8_voiceOf_31 : decode cX8_voiceOf 31 = .ok (.iload_n 3, 1) := by decide +kernel
theorem dX8_voiceOf_32 : decode cX8_voiceOf 32 = .ok (.aload_n 0, 1) := by decide +kernel
theorem dX8_voiceOf_33 : decode cX8_voiceOf 33 = .ok (.iload 4, 2) := by decide +kernel
theorem dX8_voiceOf_35 : decode cX8_voiceOf 35 = .ok (.invokevirtual 72, 3) := by decide +kernel
theorem dX8_voiceOf_38 : decode cX8_voiceOf 38 = .ok (.iconst (-1), 1) := by decide +kernel
theorem dX8_voiceOf_39 : decode cX8_voiceOf 39 = .ok (.if_icmp .ne 7, 3) := by decide +kernel
theorem dX8_voiceOf_42 : decode cX8_voiceOf 42 = .ok (.iconst 1, 1) := by decide +kernel
theorem dX8_voiceOf_43 : decode cX8_voiceOf 43 = .ok (.goto 4, 3) := by decide +kernel
theorem dX8_voiceOf_46 : decode cX8_voiceOf 46 = .ok (.iconst 0, 1) := by decide +kernel
theorem dX8_voiceOf_47 : decode cX8_voiceOf 47 = .ok (.iadd, 1) := by decide +kernel
theorem dX8_voiceOf_48 : decode cX8_voiceOf 48 = .ok (.istore_n 3, 1) := by decide +kernel
theorem dX8_voiceOf_49 : decode cX8_voiceOf 49 = .ok (.iinc 4 1, 3) := by decide +kernel
theorem dX8_voiceOf_52 : decode cX8_voiceOf 52 = .ok (.goto (-27), 3) := by decide +kernel
theorem dX8_voiceOf_55 : decode cX8_voiceOf 55 = .ok (.iload_n 3, 1) := by decide +kernel
theorem dX8_voiceOf_56 : decode cX8_voiceOf 56 = .ok (.ireturn, 1) := by decide +kernel
theorem dX8_cross_0 : decode cX8_cross 0 = .ok (.aload_n 0, 1) := by decide +kernel
theorem dX8_cross_1 : decode cX8_cross 1 = .ok (.getfield 7, 3) := by decide +kernel
theorem dX8_cross_4 : decode cX8_cross 4 = .ok (.bipush 36, 2) := by decide +kernel
theorem dX8_cross_6 : decode cX8_cross 6 = .ok (.iload_n 1, 1) := by decide +kernel
theorem dX8_cross_7 : decode cX8_cross 7 = .ok (.iadd, 1) := by decide +kernel
theorem dX8_cross_8 : decode cX8_cross 8 = .ok (.iaload, 1) := by decide +kernel
theorem dX8_cross_9 : decode cX8_cross 9 = .ok (.istore_n 3, 1) := by decide +kernel
theorem dX8_cross_10 : decode cX8_cross 10 = .ok (.aload_n 0, 1) := by decide +kernel
theorem dX8_cross_11 : decode cX8_cross 11 = .ok (.getfield 7, 3) := by decide +kernel
theorem dX8_cross_14 : decode cX8_cross 14 = .ok (.bipush 36, 2) := by decide +kernel
theorem dX8_cross_16 : decode cX8_cross 16 = .ok (.iload_n 2, 1) := by decide +kernel
theorem dX8_cross_17 : decode cX8_cross 17 = .ok (.iadd, 1) := by decide +kernel
theorem dX8_cross_18 : decode cX8_cross 18 = .ok (.iaload, 1) := by decide +kernel
theorem dX8_cross_19 : decode cX8_cross 19 = .ok (.istore 4, 2) := by decide +kernel
theorem dX8_cross_21 : decode cX8_cross 21 = .ok (.iload_n 1, 1) := by decide +kernel
theorem dX8_cross_22 : decode cX8_cross 22 = .ok (.iload_n 2, 1) := by decide +kernel
theorem dX8_cross_23 : decode cX8_cross 23 = .ok (.if_icmp .eq 55, 3) := by decide +kernel
theorem dX8_cross_26 : decode cX8_cross 26 = .ok (.iload_n 3, 1) := by decide +kernel
theorem dX8_cross_27 : decode cX8_cross 27 = .ok (.ifCond .lt 51, 3) := by decide +kernel
theorem dX8_cross_30 : decode cX8_cross 30 = .ok (.iload 4, 2) := by decide +kernel
theorem dX8_cross_32 : decode cX8_cross 32 = .ok (.ifCond .lt 46, 3) := by decide +kernel
theorem dX8_cross_35 : decode cX8_cross 35 = .ok (.aload_n 0, 1) := by decide +kernel
theorem dX8_cross_36 : decode cX8_cross 36 = .ok (.getfield 7, 3) := by decide +kernel
theorem dX8_cross_39 : decode cX8_cross 39 = .ok (.bipush 6, 2) := by decide +kernel
theorem dX8_cross_41 : decode cX8_cross 41 = .ok (.iload_n 1, 1) := by decide +kernel
theorem dX8_cross_42 : decode cX8_cross 42 = .ok (.iadd, 1) := by decide +kernel
theorem dX8_cross_43 : decode cX8_cross 43 = .ok (.iaload, 1) := by decide +kernel
theorem dX8_cross_44 : decode cX8_cross 44 = .ok (.aload_n 0, 1) := by decide +kernel
theorem dX8_cross_45 : decode cX8_cross 45 = .ok (.getfield 7, 3) := by decide +kernel
theorem dX8_cross_48 : decode cX8_cross 48 = .ok (.bipush 6, 2) := by decide +kernel
theorem dX8_cross_50 : decode cX8_cross 50 = .ok (.iload 4, 2) := by decide +kernel
theorem dX8_cross_52 : decode cX8_cross 52 = .ok (.iadd, 1) := by decide +kernel
theorem dX8_cross_53 : decode cX8_cross 53 = .ok (.iaload, 1) := by decide +kernel
theorem dX8_cross_54 : decode cX8_cross 54 = .ok (.if_icmp .ge 24, 3) := by decide +kernel
theorem dX8_cross_57 : decode cX8_cross 57 = .ok (.aload_n 0, 1) := by decide +kernel
theorem dX8_cross_58 : decode cX8_cross 58 = .ok (.getfield 7, 3) := by decide +kernel
theorem dX8_cross_61 : decode cX8_cross 61 = .ok (.bipush 6, 2) := by decide +kernel
theorem dX8_cross_63 : decode cX8_cross 63 = .ok (.iload_n 2, 1) := by decide +kernel
theorem dX8_cross_64 : decode cX8_cross 64 = .ok (.iadd, 1) := by decide +kernel
theorem dX8_cross_65 : decode cX8_cross 65 = .ok (.iaload, 1) := by decide +kernel
theorem dX8_cross_66 : decode cX8_cross 66 = .ok (.aload_n 0, 1) := by decide +kernel
theorem dX8_cross_67 : decode cX8_cross 67 = .ok (.getfield 7, 3) := by decide +kernel
theorem dX8_cross_70 : decode cX8_cross 70 = .ok (.bipush 6, 2) := by decide +kernel
theorem dX8_cross_72 : decode cX8_cross 72 = .ok (.iload_n 3, 1) := by decide +kernel
theorem dX8_cross_73 : decode cX8_cross 73 = .ok (.iadd, 1) := by decide +kernel
theorem dX8_cross_74 : decode cX8_cross 74 = .ok (.iaload, 1) := by decide +kernel
theorem dX8_cross_75 : decode cX8_cross 75 = .ok (.if_icmp .lt 5, 3) := by decide +kernel
theorem dX8_cross_78 : decode cX8_cross 78 = .ok (.iconst 0, 1) := by decide +kernel
theorem dX8_cross_79 : decode cX8_cross 79 = .ok (.ireturn, 1) := by decide +kernel
theorem dX8_cross_80 : decode cX8_cross 80 = .ok (.aload_n 0, 1) := by decide +kernel
theorem dX8_cross_81 : decode cX8_cross 81 = .ok (.getfield 7, 3) := by decide +kernel
theorem dX8_cross_84 : decode cX8_cross 84 = .ok (.bipush 26, 2) := by decide +kernel
theorem dX8_cross_86 : decode cX8_cross 86 = .ok (.iload_n 1, 1) := by decide +kernel
theorem dX8_cross_87 : decode cX8_cross 87 = .ok (.iadd, 1) := by decide +kernel
theorem dX8_cross_88 : decode cX8_cross 88 = .ok (.iaload, 1) := by decide +kernel
theorem dX8_cross_89 : decode cX8_cross 89 = .ok (.aload_n 0, 1) := by decide +kernel
theorem dX8_cross_90 : decode cX8_cross 90 = .ok (.getfield 7, 3) := by decide +kernel
theorem dX8_cross_93 : decode cX8_cross 93 = .ok (.bipush 26, 2) := by decide +kernel
theorem dX8_cross_95 : decode cX8_cross 95 = .ok (.iload_n 2, 1) := by decide +kernel
theorem dX8_cross_96 : decode cX8_cross 96 = .ok (.iadd, 1) := by decide +kernel
theorem dX8_cross_97 : decode cX8_cross 97 = .ok (.iaload, 1) := by decide +kernel
theorem dX8_cross_98 : decode cX8_cross 98 = .ok (.if_icmp .ge 29, 3) := by decide +kernel
theorem dX8_cross_101 : decode cX8_cross 101 = .ok (.aload_n 0, 1) := by decide +kernel
theorem dX8_cross_102 : decode cX8_cross 102 = .ok (.getfield 7, 3) := by decide +kernel
theorem dX8_cross_105 : decode cX8_cross 105 = .ok (.bipush 26, 2) := by decide +kernel
theorem dX8_cross_107 : decode cX8_cross 107 = .ok (.iload_n 3, 1) := by decide +kernel
theorem dX8_cross_108 : decode cX8_cross 108 = .ok (.iadd, 1) := by decide +kernel
theorem dX8_cross_109 : decode cX8_cross 109 = .ok (.iaload, 1) := by decide +kernel
theorem dX8_cross_110 : decode cX8_cross 110 = .ok (.aload_n 0, 1) := by decide +kernel
theorem dX8_cross_111 : decode cX8_cross 111 = .ok (.getfield 7, 3) := by decide +kernel
theorem dX8_cross_114 : decode cX8_cross 114 = .ok (.bipush 26, 2) := by decide +kernel
theorem dX8_cross_116 : decode cX8_cross 116 = .ok (.iload 4, 2) := by decide +kernel
theorem dX8_cross_118 : decode cX8_cross 118 = .ok (.iadd, 1) := by decide +kernel
theorem dX8_cross_119 : decode cX8_cross 119 = .ok (.iaload, 1) := by decide +kernel
theorem dX8_cross_120 : decode cX8_cross 120 = .ok (.if_icmp .le 7, 3) := by decide +kernel
theorem dX8_cross_123 : decode cX8_cross 123 = .ok (.iconst 1, 1) := by decide +kernel
theorem dX8_cross_124 : decode cX8_cross 124 = .ok (.goto 4, 3) := by decide +kernel
theorem dX8_cross_127 : decode cX8_cross 127 = .ok (.iconst 0, 1) := by decide +kernel
theorem dX8_cross_128 : decode cX8_cross 128 = .ok (.istore 5, 2) := by decide +kernel
theorem dX8_cross_130 : decode cX8_cross 130 = .ok (.iload 5, 2) := by decide +kernel
theorem dX8_cross_132 : decode cX8_cross 132 = .ok (.ifCond .ne 46, 3) := by decide +kernel
theorem dX8_cross_135 : decode cX8_cross 135 = .ok (.aload_n 0, 1) := by decide +kernel
theorem dX8_cross_136 : decode cX8_cross 136 = .ok (.getfield 7, 3) := by decide +kernel
theorem dX8_cross_139 : decode cX8_cross 139 = .ok (.bipush 26, 2) := by decide +kernel
theorem dX8_cross_141 : decode cX8_cross 141 = .ok (.iload_n 1, 1) := by decide +kernel
theorem dX8_cross_142 : decode cX8_cross 142 = .ok (.iadd, 1) := by decide +kernel
theorem dX8_cross_143 : decode cX8_cross 143 = .ok (.iaload, 1) := by decide +kernel
theorem dX8_cross_144 : decode cX8_cross 144 = .ok (.aload_n 0, 1) := by decide +kernel
theorem dX8_cross_145 : decode cX8_cross 145 = .ok (.getfield 7, 3) := by decide +kernel
theorem dX8_cross_148 : decode cX8_cross 148 = .ok (.bipush 26, 2) := by decide +kernel
theorem dX8_cross_150 : decode cX8_cross 150 = .ok (.iload_n 2, 1) := by decide +kernel
theorem dX8_cross_151 : decode cX8_cross 151 = .ok (.iadd, 1) := by decide +kernel
theorem dX8_cross_152 : decode cX8_cross 152 = .ok (.iaload, 1) := by decide +kernel
theorem dX8_cross_153 : decode cX8_cross 153 = .ok (.if_icmp .le 29, 3) := by decide +kernel
theorem dX8_cross_156 : decode cX8_cross 156 = .ok (.aload_n 0, 1) := by decide +kernel
theorem dX8_cross_157 : decode cX8_cross 157 = .ok (.getfield 7, 3) := by decide +kernel
theorem dX8_cross_160 : decode cX8_cross 160 = .ok (.bipush 26, 2) := by decide +kernel
theorem dX8_cross_162 : decode cX8_cross 162 = .ok (.iload_n 3, 1) := by decide +kernel
theorem dX8_cross_163 : decode cX8_cross 163 = .ok (.iadd, 1) := by decide +kernel
theorem dX8_cross_164 : decode cX8_cross 164 = .ok (.iaload, 1) := by decide +kernel
theorem dX8_cross_165 : decode cX8_cross 165 = .ok (.aload_n 0, 1) := by decide +kernel
theorem dX8_cross_166 : decode cX8_cross 166 = .ok (.getfield 7, 3) := by decide +kernel
theorem dX8_cross_169 : decode cX8_cross 169 = .ok (.bipush 26, 2) := by decide +kernel
theorem dX8_cross_171 : decode cX8_cross 171 = .ok (.iload 4, 2) := by decide +kernel
theorem dX8_cross_173 : decode cX8_cross 173 = .ok (.iadd, 1) := by decide +kernel
theorem dX8_cross_174 : decode cX8_cross 174 = .ok (.iaload, 1) := by decide +kernel
theorem dX8_cross_175 : decode cX8_cross 175 = .ok (.if_icmp .ge 7, 3) := by decide +kernel
theorem dX8_cross_178 : decode cX8_cross 178 = .ok (.iconst 1, 1) := by decide +kernel
theorem dX8_cross_179 : decode cX8_cross 179 = .ok (.goto 4, 3) := by decide +kernel
theorem dX8_cross_182 : decode cX8_cross 182 = .ok (.iconst 0, 1) := by decide +kernel
theorem dX8_cross_183 : decode cX8_cross 183 = .ok (.ireturn, 1) := by decide +kernel
theorem dX8_crossings_0 : decode cX8_crossings 0 = .ok (.iconst 0, 1) := by decide +kernel
theorem dX8_crossings_1 : decode cX8_crossings 1 = .ok (.istore_n 1, 1) := by decide +kernel
theorem dX8_crossings_2 : decode cX8_crossings 2 = .ok (.iconst 0, 1) := by decide +kernel
theorem dX8_crossings_3 : decode cX8_crossings 3 = .ok (.istore_n 2, 1) := by decide +kernel
theorem dX8_crossings_4 : decode cX8_crossings 4 = .ok (.iload_n 2, 1) := by decide +kernel
theorem dX8_crossings_5 : decode cX8_crossings 5 = .ok (.aload_n 0, 1) := by decide +kernel
theorem dX8_crossings_6 : decode cX8_crossings 6 = .ok (.getfield 7, 3) := by decide +kernel
theorem dX8_crossings_9 : decode cX8_crossings 9 = .ok (.iconst 0, 1) := by decide +kernel
theorem dX8_crossings_10 : decode cX8_crossings 10 = .ok (.iaload, 1) := by decide +kernel
theorem dX8_crossings_11 : decode cX8_crossings 11 = .ok (.if_icmp .ge 46, 3) := by decide +kernel
theorem dX8_crossings_14 : decode cX8_crossings 14 = .ok (.iload_n 2, 1) := by decide +kernel
theorem dX8_crossings_15 : decode cX8_crossings 15 = .ok (.iconst 1, 1) := by decide +kernel
theorem dX8_crossings_16 : decode cX8_crossings 16 = .ok (.iadd, 1) := by decide +kernel
theorem dX8_crossings_17 : decode cX8_crossings 17 = .ok (.istore_n 3, 1) := by decide +kernel
theorem dX8_crossings_18 : decode cX8_crossings 18 = .ok (.iload_n 3, 1) := by decide +kernel
theorem dX8_crossings_19 : decode cX8_crossings 19 = .ok (.aload_n 0, 1) := by decide +kernel
theorem dX8_crossings_20 : decode cX8_crossings 20 = .ok (.getfield 7, 3) := by decide +kernel
theorem dX8_crossings_23 : decode cX8_crossings 23 = .ok (.iconst 0, 1) := by decide +kernel
theorem dX8_crossings_24 : decode cX8_crossings 24 = .ok (.iaload, 1) := by decide +kernel
theorem dX8_crossings_25 : decode cX8_crossings 25 = .ok (.if_icmp .ge 26, 3) := by decide +kernel
theorem dX8_crossings_28 : decode cX8_crossings 28 = .ok (.iload_n 1, 1) := by decide +kernel
theorem dX8_crossings_29 : decode cX8_crossings 29 = .ok (.aload_n 0, 1) := by decide +kernel
theorem dX8_crossings_30 : decode cX8_crossings 30 = .ok (.iload_n 2, 1) := by decide +kernel
theorem dX8_crossings_31 : decode cX8_crossings 31 = .ok (.iload_n 3, 1) := by decide +kernel
theorem dX8_crossings_32 : decode cX8_crossings 32 = .ok (.invokevirtual 79, 3) := by decide +kernel
theorem dX8_crossings_35 : decode cX8_crossings 35 = .ok (.ifCond .eq 7, 3) := by decide +kernel
theorem dX8_crossings_38 : decode cX8_crossings 38 = .ok (.iconst 1, 1) := by decide +kernel
theorem dX8_crossings_39 : decode cX8_crossings 39 = .ok (.goto 4, 3) := by decide +kernel
theorem dX8_crossings_42 : decode cX8_crossings 42 = .ok (.iconst 0, 1) := by decide +kernel
theorem dX8_crossings_43 : decode cX8_crossings 43 = .ok (.iadd, 1) := by decide +kernel
theorem dX8_crossings_44 : decode cX8_crossings 44 = .ok (.istore_n 1, 1) := by decide +kernel
theorem dX8_crossings_45 : decode cX8_crossings 45 = .ok (.iinc 3 1, 3) := by decide +kernel
theorem dX8_crossings_48 : decode cX8_crossings 48 = .ok (.goto (-30), 3) := by decide +kernel
theorem dX8_crossings_51 : decode cX8_crossings 51 = .ok (.iinc 2 1, 3) := by decide +kernel
theorem dX8_crossings_54 : decode cX8_crossings 54 = .ok (.goto (-50), 3) := by decide +kernel
theorem dX8_crossings_57 : decode cX8_crossings 57 = .ok (.iload_n 1, 1) := by decide +kernel
theorem dX8_crossings_58 : decode cX8_crossings 58 = .ok (.ireturn, 1) := by decide +kernel
theorem dX8_mendOne_0 : decode cX8_mendOne 0 = .ok (.iconst 0, 1) := by decide +kernel
theorem dX8_mendOne_1 : decode cX8_mendOne 1 = .ok (.istore_n 1, 1) := by decide +kernel
theorem dX8_mendOne_2 : decode cX8_mendOne 2 = .ok (.iload_n 1, 1) := by decide +kernel
theorem dX8_mendOne_3 : decode cX8_mendOne 3 = .ok (.aload_n 0, 1) := by decide +kernel
theorem dX8_mendOne_4 : decode cX8_mendOne 4 = .ok (.getfield 7, 3) := by decide +kernel
theorem dX8_mendOne_7 : decode cX8_mendOne 7 = .ok (.iconst 0, 1) := by decide +kernel
theorem dX8_mendOne_8 : decode cX8_mendOne 8 = .ok (.iaload, 1) := by decide +kernel
theorem dX8_mendOne_9 : decode cX8_mendOne 9 = .ok (.if_icmp .ge 112, 3) := by decide +kernel
theorem dX8_mendOne_12 : decode cX8_mendOne 12 = .ok (.iload_n 1, 1) := by decide +kernel
theorem dX8_mendOne_13 : decode cX8_mendOne 13 = .ok (.iconst 1, 1) := by decide +kernel
theorem dX8_mendOne_14 : decode cX8_mendOne 14 = .ok (.iadd, 1) := by decide +kernel
theorem dX8_mendOne_15 : decode cX8_mendOne 15 = .ok (.istore_n 2, 1) := by decide +kernel
theorem dX8_mendOne_16 : decode cX8_mendOne 16 = .ok (.iload_n 2, 1) := by decide +kernel
theorem dX8_mendOne_17 : decode cX8_mendOne 17 = .ok (.aload_n 0, 1) := by decide +kernel
theorem dX8_mendOne_18 : decode cX8_mendOne 18 = .ok (.getfield 7, 3) := by decide +kernel
theorem dX8_mendOne_21 : decode cX8_mendOne 21 = .ok (.iconst 0, 1) := by decide +kernel
theorem dX8_mendOne_22 : decode cX8_mendOne 22 = .ok (.iaload, 1) := by decide +kernel
theorem dX8_mendOne_23 : decode cX8_mendOne 23 = .ok (.if_icmp .ge 92, 3) := by decide +kernel
theorem dX8_mendOne_26 : decode cX8_mendOne 26 = .ok (.aload_n 0, 1) := by decide +kernel
theorem dX8_mendOne_27 : decode cX8_mendOne 27 = .ok (.iload_n 1, 1) := by decide +kernel
theorem dX8_mendOne_28 : decode cX8_mendOne 28 = .ok (.iload_n 2, 1) := by decide +kernel
theorem dX8_mendOne_29 : decode cX8_mendOne 29 = .ok (.invokevirtual 79, 3) := by decide +kernel
theorem dX8_mendOne_32 : decode cX8_mendOne 32 = .ok (.ifCond .eq 77, 3) := by decide +kernel
theorem dX8_mendOne_35 : decode cX8_mendOne 35 = .ok (.aload_n 0, 1) := by decide +kernel
theorem dX8_mendOne_36 : decode cX8_mendOne 36 = .ok (.iload_n 1, 1) := by decide +kernel
theorem dX8_mendOne_37 : decode cX8_mendOne 37 = .ok (.aload_n 0, 1) := by decide +kernel
theorem dX8_mendOne_38 : decode cX8_mendOne 38 = .ok (.getfield 7, 3) := by decide +kernel
theorem dX8_mendOne_41 : decode cX8_mendOne 41 = .ok (.bipush 36, 2) := by decide +kernel
theorem dX8_mendOne_43 : decode cX8_mendOne 43 = .ok (.iload_n 2, 1) := by decide +kernel
theorem dX8_mendOne_44 : decode cX8_mendOne 44 = .ok (.iadd, 1) := by decide +kernel
theorem dX8_mendOne_45 : decode cX8_mendOne 45 = .ok (.iaload, 1) := by decide +kernel
theorem dX8_mendOne_46 : decode cX8_mendOne 46 = .ok (.invokevirtual 48, 3) := by decide +kernel
theorem dX8_mendOne_49 : decode cX8_mendOne 49 = .ok (.ifCond .eq 60, 3) := by decide +kernel
theorem dX8_mendOne_52 : decode cX8_mendOne 52 = .ok (.aload_n 0, 1) := by decide +kernel
theorem dX8_mendOne_53 : decode cX8_mendOne 53 = .ok (.iload_n 2, 1) := by decide +kernel
theorem dX8_mendOne_54 : decode cX8_mendOne 54 = .ok (.aload_n 0, 1) := by decide +kernel
theorem dX8_mendOne_55 : decode cX8_mendOne 55 = .ok (.getfield 7, 3) := by decide +kernel
theorem dX8_mendOne_58 : decode cX8_mendOne 58 = .ok (.bipush 36, 2) := by decide +kernel
theorem dX8_mendOne_60 : decode cX8_mendOne 60 = .ok (.iload_n 1, 1) := by decide +kernel
theorem dX8_mendOne_61 : decode cX8_mendOne 61 = .ok (.iadd, 1) := by decide +kernel
theorem dX8_mendOne_62 : decode cX8_mendOne 62 = .ok (.iaload, 1) := by decide +kernel
theorem dX8_mendOne_63 : decode cX8_mendOne 63 = .ok (.invokevirtual 48, 3) := by decide +kernel
theorem dX8_mendOne_66 : decode cX8_mendOne 66 = .ok (.ifCond .eq 43, 3) := by decide +kernel
theorem dX8_mendOne_69 : decode cX8_mendOne 69 = .ok (.aload_n 0, 1) := by decide +kernel
theorem dX8_mendOne_70 : decode cX8_mendOne 70 = .ok (.getfield 7, 3) := by decide +kernel
theorem dX8_mendOne_73 : decode cX8_mendOne 73 = .ok (.bipush 36, 2) := by decide +kernel
theorem dX8_mendOne_75 : decode cX8_mendOne 75 = .ok (.iload_n 1, 1) := by decide +kernel
theorem dX8_mendOne_76 : decode cX8_mendOne 76 = .ok (.iadd, 1) := by decide +kernel
theorem dX8_mendOne_77 : decode cX8_mendOne 77 = .ok (.iaload, 1) := by decide +kernel
theorem dX8_mendOne_78 : decode cX8_mendOne 78 = .ok (.istore_n 3, 1) := by decide +kernel
theorem dX8_mendOne_79 : decode cX8_mendOne 79 = .ok (.aload_n 0, 1) := by decide +kernel
theorem dX8_mendOne_80 : decode cX8_mendOne 80 = .ok (.getfield 7, 3) := by decide +kernel
theorem dX8_mendOne_83 : decode cX8_mendOne 83 = .ok (.bipush 36, 2) := by decide +kernel
theorem dX8_mendOne_85 : decode cX8_mendOne 85 = .ok (.iload_n 1, 1) := by decide +kernel
theorem dX8_mendOne_86 : decode cX8_mendOne 86 = .ok (.iadd, 1) := by decide +kernel
theorem dX8_mendOne_87 : decode cX8_mendOne 87 = .ok (.aload_n 0, 1) := by decide +kernel
theorem dX8_mendOne_88 : decode cX8_mendOne 88 = .ok (.getfield 7, 3) := by decide +kernel
theorem dX8_mendOne_91 : decode cX8_mendOne 91 = .ok (.bipush 36, 2) := by decide +kernel
theorem dX8_mendOne_93 : decode cX8_mendOne 93 = .ok (.iload_n 2, 1) := by decide +kernel
theorem dX8_mendOne_94 : decode cX8_mendOne 94 = .ok (.iadd, 1) := by decide +kernel
theorem dX8_mendOne_95 : decode cX8_mendOne 95 = .ok (.iaload, 1) := by decide +kernel
theorem dX8_mendOne_96 : decode cX8_mendOne 96 = .ok (.iastore, 1) := by decide +kernel
theorem dX8_mendOne_97 : decode cX8_mendOne 97 = .ok (.aload_n 0, 1) := by decide +kernel
theorem dX8_mendOne_98 : decode cX8_mendOne 98 = .ok (.getfield 7, 3) := by decide +kernel
theorem dX8_mendOne_101 : decode cX8_mendOne 101 = .ok (.bipush 36, 2) := by decide +kernel
theorem dX8_mendOne_103 : decode cX8_mendOne 103 = .ok (.iload_n 2, 1) := by decide +kernel
theorem dX8_mendOne_104 : decode cX8_mendOne 104 = .ok (.iadd, 1) := by decide +kernel
theorem dX8_mendOne_105 : decode cX8_mendOne 105 = .ok (.iload_n 3, 1) := by decide +kernel
theorem dX8_mendOne_106 : decode cX8_mendOne 106 = .ok (.iastore, 1) := by decide +kernel
theorem dX8_mendOne_107 : decode cX8_mendOne 107 = .ok (.iconst 1, 1) := by decide +kernel
theorem dX8_mendOne_108 : decode cX8_mendOne 108 = .ok (.ireturn, 1) := by decide +kernel
theorem dX8_mendOne_109 : decode cX8_mendOne 109 = .ok (.iinc 2 1, 3) := by decide +kernel
theorem dX8_mendOne_112 : decode cX8_mendOne 112 = .ok (.goto (-96), 3) := by decide +kernel
theorem dX8_mendOne_115 : decode cX8_mendOne 115 = .ok (.iinc 1 1, 3) := by decide +kernel
theorem dX8_mendOne_118 : decode cX8_mendOne 118 = .ok (.goto (-116), 3) := by decide +kernel
theorem dX8_mendOne_121 : decode cX8_mendOne 121 = .ok (.iconst 0, 1) := by decide +kernel
theorem dX8_mendOne_122 : decode cX8_mendOne 122 = .ok (.ireturn, 1) := by decide +kernel
theorem dX8_wrong_0 : decode cX8_wrong 0 = .ok (.iconst 0, 1) := by decide +kernel
theorem dX8_wrong_1 : decode cX8_wrong 1 = .ok (.istore_n 1, 1) := by decide +kernel
theorem dX8_wrong_2 : decode cX8_wrong 2 = .ok (.iload_n 1, 1) := by decide +kernel
theorem dX8_wrong_3 : decode cX8_wrong 3 = .ok (.aload_n 0, 1) := by decide +kernel
theorem dX8_wrong_4 : decode cX8_wrong 4 = .ok (.getfield 82, 3) := by decide +kernel
theorem dX8_wrong_7 : decode cX8_wrong 7 = .ok (.if_icmp .ge 31, 3) := by decide +kernel
theorem dX8_wrong_10 : decode cX8_wrong 10 = .ok (.aload_n 0, 1) := by decide +kernel
theorem dX8_wrong_11 : decode cX8_wrong 11 = .ok (.aload_n 0, 1) := by decide +kernel
theorem dX8_wrong_12 : decode cX8_wrong 12 = .ok (.getfield 16, 3) := by decide +kernel
theorem dX8_wrong_15 : decode cX8_wrong 15 = .ok (.iload_n 1, 1) := by decide +kernel
theorem dX8_wrong_16 : decode cX8_wrong 16 = .ok (.iaload, 1) := by decide +kernel
theorem dX8_wrong_17 : decode cX8_wrong 17 = .ok (.iconst (-1), 1) := by decide +kernel
theorem dX8_wrong_18 : decode cX8_wrong 18 = .ok (.invokevirtual 66, 3) := by decide +kernel
theorem dX8_wrong_21 : decode cX8_wrong 21 = .ok (.aload_n 0, 1) := by decide +kernel
theorem dX8_wrong_22 : decode cX8_wrong 22 = .ok (.getfield 19, 3) := by decide +kernel
theorem dX8_wrong_25 : decode cX8_wrong 25 = .ok (.iload_n 1, 1) := by decide +kernel
theorem dX8_wrong_26 : decode cX8_wrong 26 = .ok (.iaload, 1) := by decide +kernel
theorem dX8_wrong_27 : decode cX8_wrong 27 = .ok (.if_icmp .eq 5, 3) := by decide +kernel
theorem dX8_wrong_30 : decode cX8_wrong 30 = .ok (.iload_n 1, 1) := by decide +kernel
theorem dX8_wrong_31 : decode cX8_wrong 31 = .ok (.ireturn, 1) := by decide +kernel
theorem dX8_wrong_32 : decode cX8_wrong 32 = .ok (.iinc 1 1, 3) := by decide +kernel
theorem dX8_wrong_35 : decode cX8_wrong 35 = .ok (.goto (-33), 3) := by decide +kernel
theorem dX8_wrong_38 : decode cX8_wrong 38 = .ok (.iconst (-1), 1) := by decide +kernel
theorem dX8_wrong_39 : decode cX8_wrong 39 = .ok (.ireturn, 1) := by decide +kernel
theorem dX8_toldMore_0 : decode cX8_toldMore 0 = .ok (.iload_n 1, 1) := by decide +kernel
theorem dX8_toldMore_1 : decode cX8_toldMore 1 = .ok (.tableswitch 83 7 15 #[51, 51, 51, 51, 51, 63, 68, 73, 78], 51) := by decide +kernel
theorem dX8_toldMore_52 : decode cX8_toldMore 52 = .ok (.aload_n 0, 1) := by decide +kernel
theorem dX8_toldMore_53 : decode cX8_toldMore 53 = .ok (.getfield 7, 3) := by decide +kernel
theorem dX8_toldMore_56 : decode cX8_toldMore 56 = .ok (.iconst 1, 1) := by decide +kernel
theorem dX8_toldMore_57 : decode cX8_toldMore 57 = .ok (.iload_n 1, 1) := by decide +kernel
theorem dX8_toldMore_58 : decode cX8_toldMore 58 = .ok (.iadd, 1) := by decide +kernel
theorem dX8_toldMore_59 : decode cX8_toldMore 59 = .ok (.bipush 7, 2) := by decide +kernel
theorem dX8_toldMore_61 : decode cX8_toldMore 61 = .ok (.isub, 1) := by decide +kernel
theorem dX8_toldMore_62 : decode cX8_toldMore 62 = .ok (.iaload, 1) := by decide +kernel
theorem dX8_toldMore_63 : decode cX8_toldMore 63 = .ok (.ireturn, 1) := by decide +kernel
theorem dX8_toldMore_64 : decode cX8_toldMore 64 = .ok (.aload_n 0, 1) := by decide +kernel
theorem dX8_toldMore_65 : decode cX8_toldMore 65 = .ok (.getfield 82, 3) := by decide +kernel
theorem dX8_toldMore_68 : decode cX8_toldMore 68 = .ok (.ireturn, 1) := by decide +kernel
theorem dX8_toldMore_69 : decode cX8_toldMore 69 = .ok (.aload_n 0, 1) := by decide +kernel
theorem dX8_toldMore_70 : decode cX8_toldMore 70 = .ok (.invokevirtual 85, 3) := by decide +kernel
theorem dX8_toldMore_73 : decode cX8_toldMore 73 = .ok (.ireturn, 1) := by decide +kernel
theorem dX8_toldMore_74 : decode cX8_toldMore 74 = .ok (.aload_n 0, 1) := by decide +kernel
theorem dX8_toldMore_75 : decode cX8_toldMore 75 = .ok (.getfield 32, 3) := by decide +kernel
theorem dX8_toldMore_78 : decode cX8_toldMore 78 = .ok (.ireturn, 1) := by decide +kernel
theorem dX8_toldMore_79 : decode cX8_toldMore 79 = .ok (.aload_n 0, 1) := by decide +kernel
theorem dX8_toldMore_80 : decode cX8_toldMore 80 = .ok (.getfield 88, 3) := by decide +kernel
theorem dX8_toldMore_83 : decode cX8_toldMore 83 = .ok (.ireturn, 1) := by decide +kernel
theorem dX8_toldMore_84 : decode cX8_toldMore 84 = .ok (.ldc 91, 2) := by decide +kernel
theorem dX8_toldMore_86 : decode cX8_toldMore 86 = .ok (.ireturn, 1) := by decide +kernel
theorem dX8_told_0 : decode cX8_told 0 = .ok (.iload_n 1, 1) := by decide +kernel
theorem dX8_told_1 : decode cX8_told 1 = .ok (.tableswitch 82 0 6 #[43, 50, 55, 60, 65, 71, 77], 43) := by decide +kernel
theorem dX8_told_44 : decode cX8_told 44 = .ok (.aload_n 0, 1) := by decide +kernel
theorem dX8_told_45 : decode cX8_told 45 = .ok (.getfield 7, 3) := by decide +kernel
theorem dX8_told_48 : decode cX8_told 48 = .ok (.iconst 0, 1) := by decide +kernel
theorem dX8_told_49 : decode cX8_told 49 = .ok (.iaload, 1) := by decide +kernel
theorem dX8_told_50 : decode cX8_told 50 = .ok (.ireturn, 1) := by decide +kernel
theorem dX8_told_51 : decode cX8_told 51 = .ok (.aload_n 0, 1) := by decide +kernel
theorem dX8_told_52 : decode cX8_told 52 = .ok (.invokevirtual 75, 3) := by decide +kernel
theorem dX8_told_55 : decode cX8_told 55 = .ok (.ireturn, 1) := by decide +kernel
theorem dX8_told_56 : decode cX8_told 56 = .ok (.aload_n 0, 1) := by decide +kernel
theorem dX8_told_57 : decode cX8_told 57 = .ok (.invokevirtual 92, 3) := by decide +kernel
theorem dX8_told_60 : decode cX8_told 60 = .ok (.ireturn, 1) := by decide +kernel
theorem dX8_told_61 : decode cX8_told 61 = .ok (.aload_n 0, 1) := by decide +kernel
theorem dX8_told_62 : decode cX8_told 62 = .ok (.invokevirtual 95, 3) := by decide +kernel
theorem dX8_told_65 : decode cX8_told 65 = .ok (.ireturn, 1) := by decide +kernel
theorem dX8_told_66 : decode cX8_told 66 = .ok (.aload_n 0, 1) := by decide +kernel
theorem dX8_told_67 : decode cX8_told 67 = .ok (.iconst (-1), 1) := by decide +kernel
theorem dX8_told_68 : decode cX8_told 68 = .ok (.invokevirtual 69, 3) := by decide +kernel
theorem dX8_told_71 : decode cX8_told 71 = .ok (.ireturn, 1) := by decide +kernel
theorem dX8_told_72 : decode cX8_told 72 = .ok (.aload_n 0, 1) := by decide +kernel
theorem dX8_told_73 : decode cX8_told 73 = .ok (.iconst (-1), 1) := by decide +kernel
theorem dX8_told_74 : decode cX8_told 74 = .ok (.invokevirtual 98, 3) := by decide +kernel
theorem dX8_told_77 : decode cX8_told 77 = .ok (.ireturn, 1) := by decide +kernel
theorem dX8_told_78 : decode cX8_told 78 = .ok (.aload_n 0, 1) := by decide +kernel
theorem dX8_told_79 : decode cX8_told 79 = .ok (.invokevirtual 101, 3) := by decide +kernel
theorem dX8_told_82 : decode cX8_told 82 = .ok (.ireturn, 1) := by decide +kernel
theorem dX8_told_83 : decode cX8_told 83 = .ok (.aload_n 0, 1) := by decide +kernel
theorem dX8_told_84 : decode cX8_told 84 = .ok (.iload_n 1, 1) := by decide +kernel
theorem dX8_told_85 : decode cX8_told 85 = .ok (.invokevirtual 104, 3) := by decide +kernel
theorem dX8_told_88 : decode cX8_told 88 = .ok (.ireturn, 1) := by decide +kernel
theorem dX8_isNote_0 : decode cX8_isNote 0 = .ok (.iload_n 1, 1) := by decide +kernel
theorem dX8_isNote_1 : decode cX8_isNote 1 = .ok (.i2l, 1) := by decide +kernel
theorem dX8_isNote_2 : decode cX8_isNote 2 = .ok (.lconst 0, 1) := by decide +kernel
theorem dX8_isNote_3 : decode cX8_isNote 3 = .ok (.aload_n 0, 1) := by decide +kernel
theorem dX8_isNote_4 : decode cX8_isNote 4 = .ok (.getfield 7, 3) := by decide +kernel
theorem dX8_isNote_7 : decode cX8_isNote 7 = .ok (.iconst 0, 1) := by decide +kernel
theorem dX8_isNote_8 : decode cX8_isNote 8 = .ok (.iaload, 1) := by decide +kernel
theorem dX8_isNote_9 : decode cX8_isNote 9 = .ok (.iconst 1, 1) := by decide +kernel
theorem dX8_isNote_10 : decode cX8_isNote 10 = .ok (.isub, 1) := by decide +kernel
theorem dX8_isNote_11 : decode cX8_isNote 11 = .ok (.i2l, 1) := by decide +kernel
theorem dX8_isNote_12 : decode cX8_isNote 12 = .ok (.invokestatic 40, 3) := by decide +kernel
theorem dX8_isNote_15 : decode cX8_isNote 15 = .ok (.ireturn, 1) := by decide +kernel
theorem dX8_followers_0 : decode cX8_followers 0 = .ok (.iconst 0, 1) := by decide +kernel
theorem dX8_followers_1 : decode cX8_followers 1 = .ok (.istore_n 2, 1) := by decide +kernel
theorem dX8_followers_2 : decode cX8_followers 2 = .ok (.iconst 0, 1) := by decide +kernel
theorem dX8_followers_3 : decode cX8_followers 3 = .ok (.istore_n 3, 1) := by decide +kernel
theorem dX8_followers_4 : decode cX8_followers 4 = .ok (.iload_n 3, 1) := by decide +kernel
theorem dX8_followers_5 : decode cX8_followers 5 = .ok (.aload_n 0, 1) := by decide +kernel
theorem dX8_followers_6 : decode cX8_followers 6 = .ok (.getfield 7, 3) := by decide +kernel
theorem dX8_followers_9 : decode cX8_followers 9 = .ok (.iconst 0, 1) := by decide +kernel
theorem dX8_followers_10 : decode cX8_followers 10 = .ok (.iaload, 1) := by decide +kernel
theorem dX8_followers_11 : decode cX8_followers 11 = .ok (.if_icmp .ge 26, 3) := by decide +kernel
theorem dX8_followers_14 : decode cX8_followers 14 = .ok (.iload_n 2, 1) := by decide +kernel
theorem dX8_followers_15 : decode cX8_followers 15 = .ok (.aload_n 0, 1) := by decide +kernel
theorem dX8_followers_16 : decode cX8_followers 16 = .ok (.iload_n 1, 1) := by decide +kernel
theorem dX8_followers_17 : decode cX8_followers 17 = .ok (.iload_n 3, 1) := by decide +kernel
theorem dX8_followers_18 : decode cX8_followers 18 = .ok (.invokevirtual 48, 3) := by decide +kernel
theorem dX8_followers_21 : decode cX8_followers 21 = .ok (.ifCond .eq 7, 3) := by decide +kernel
theorem dX8_followers_24 : decode cX8_followers 24 = .ok (.iconst 1, 1) := by decide +kernel
theorem dX8_followers_25 : decode cX8_followers 25 = .ok (.goto 4, 3) := by decide +kernel
theorem dX8_followers_28 : decode cX8_followers 28 = .ok (.iconst 0, 1) := by decide +kernel
theorem dX8_followers_29 : decode cX8_followers 29 = .ok (.iadd, 1) := by decide +kernel
theorem dX8_followers_30 : decode cX8_followers 30 = .ok (.istore_n 2, 1) := by decide +kernel
theorem dX8_followers_31 : decode cX8_followers 31 = .ok (.iinc 3 1, 3) := by decide +kernel
theorem dX8_followers_34 : decode cX8_followers 34 = .ok (.goto (-30), 3) := by decide +kernel
theorem dX8_followers_37 : decode cX8_followers 37 = .ok (.iload_n 2, 1) := by decide +kernel
theorem dX8_followers_38 : decode cX8_followers 38 = .ok (.ireturn, 1) := by decide +kernel
theorem dX8_at_0 : decode cX8_at 0 = .ok (.aload_n 0, 1) := by decide +kernel
theorem dX8_at_1 : decode cX8_at 1 = .ok (.iload_n 1, 1) := by decide +kernel
theorem dX8_at_2 : decode cX8_at 2 = .ok (.invokevirtual 107, 3) := by decide +kernel
theorem dX8_at_5 : decode cX8_at 5 = .ok (.ifCond .ne 6, 3) := by decide +kernel
theorem dX8_at_8 : decode cX8_at 8 = .ok (.ldc 111, 2) := by decide +kernel
theorem dX8_at_10 : decode cX8_at 10 = .ok (.ireturn, 1) := by decide +kernel
theorem dX8_at_11 : decode cX8_at 11 = .ok (.iload_n 2, 1) := by decide +kernel
theorem dX8_at_12 : decode cX8_at 12 = .ok (.tableswitch 114 0 7 #[48, 58, 64, 74, 84, 90, 96, 108], 48) := by decide +kernel
theorem dX8_at_60 : decode cX8_at 60 = .ok (.aload_n 0, 1) := by decide +kernel
theorem dX8_at_61 : decode cX8_at 61 = .ok (.getfield 7, 3) := by decide +kernel
theorem dX8_at_64 : decode cX8_at 64 = .ok (.bipush 6, 2) := by decide +kernel
theorem dX8_at_66 : decode cX8_at 66 = .ok (.iload_n 1, 1) := by decide +kernel
theorem dX8_at_67 : decode cX8_at 67 = .ok (.iadd, 1) := by decide +kernel
theorem dX8_at_68 : decode cX8_at 68 = .ok (.iaload, 1) := by decide +kernel
theorem dX8_at_69 : decode cX8_at 69 = .ok (.ireturn, 1) := by decide +kernel
theorem dX8_at_70 : decode cX8_at 70 = .ok (.aload_n 0, 1) := by decide +kernel
theorem dX8_at_71 : decode cX8_at 71 = .ok (.iload_n 1, 1) := by decide +kernel
theorem dX8_at_72 : decode cX8_at 72 = .ok (.invokevirtual 36, 3) := by decide +kernel
theorem dX8_at_75 : decode cX8_at 75 = .ok (.ireturn, 1) := by decide +kernel
theorem dX8_at_76 : decode cX8_at 76 = .ok (.aload_n 0, 1) := by decide +kernel
theorem dX8_at_77 : decode cX8_at 77 = .ok (.getfield 7, 3) := by decide +kernel
theorem dX8_at_80 : decode cX8_at 80 = .ok (.bipush 26, 2) := by decide +kernel
theorem dX8_at_82 : decode cX8_at 82 = .ok (.iload_n 1, 1) := by decide +kernel
theorem dX8_at_83 : decode cX8_at 83 = .ok (.iadd, 1) := by decide +kernel
theorem dX8_at_84 : decode cX8_at 84 = .ok (.iaload, 1) := by decide +kernel
theorem dX8_at_85 : decode cX8_at 85 = .ok (.ireturn, 1) := by decide +kernel
theorem dX8_at_86 : decode cX8_at 86 = .ok (.aload_n 0, 1) := by decide +kernel
theorem dX8_at_87 : decode cX8_at 87 = .ok (.getfield 7, 3) := by decide +kernel
theorem dX8_at_90 : decode cX8_at 90 = .ok (.bipush 36, 2) := by decide +kernel
theorem dX8_at_92 : decode cX8_at 92 = .ok (.iload_n 1, 1) := by decide +kernel
theorem dX8_at_93 : decode cX8_at 93 = .ok (.iadd, 1) := by decide +kernel
theorem dX8_at_94 : decode cX8_at 94 = .ok (.iaload, 1) := by decide +kernel
theorem dX8_at_95 : decode cX8_at 95 = .ok (.ireturn, 1) := by decide +kernel
theorem dX8_at_96 : decode cX8_at 96 = .ok (.aload_n 0, 1) := by decide +kernel
theorem dX8_at_97 : decode cX8_at 97 = .ok (.iload_n 1, 1) := by decide +kernel
theorem dX8_at_98 : decode cX8_at 98 = .ok (.invokevirtual 72, 3) := by decide +kernel
theorem dX8_at_101 : decode cX8_at 101 = .ok (.ireturn, 1) := by decide +kernel
theorem dX8_at_102 : decode cX8_at 102 = .ok (.aload_n 0, 1) := by decide +kernel
theorem dX8_at_103 : decode cX8_at 103 = .ok (.iload_n 1, 1) := by decide +kernel
theorem dX8_at_104 : decode cX8_at 104 = .ok (.invokevirtual 112, 3) := by decide +kernel
theorem dX8_at_107 : decode cX8_at 107 = .ok (.ireturn, 1) := by decide +kernel
theorem dX8_at_108 : decode cX8_at 108 = .ok (.aload_n 0, 1) := by decide +kernel
theorem dX8_at_109 : decode cX8_at 109 = .ok (.iconst (-1), 1) := by decide +kernel
theorem dX8_at_110 : decode cX8_at 110 = .ok (.invokevirtual 98, 3) := by decide +kernel
theorem dX8_at_113 : decode cX8_at 113 = .ok (.aload_n 0, 1) := by decide +kernel
theorem dX8_at_114 : decode cX8_at 114 = .ok (.iload_n 1, 1) := by decide +kernel
theorem dX8_at_115 : decode cX8_at 115 = .ok (.invokevirtual 98, 3) := by decide +kernel
theorem dX8_at_118 : decode cX8_at 118 = .ok (.isub, 1) := by decide +kernel
theorem dX8_at_119 : decode cX8_at 119 = .ok (.ireturn, 1) := by decide +kernel
theorem dX8_at_120 : decode cX8_at 120 = .ok (.aload_n 0, 1) := by decide +kernel
theorem dX8_at_121 : decode cX8_at 121 = .ok (.iload_n 1, 1) := by decide +kernel
theorem dX8_at_122 : decode cX8_at 122 = .ok (.invokevirtual 115, 3) := by decide +kernel
theorem dX8_at_125 : decode cX8_at 125 = .ok (.ireturn, 1) := by decide +kernel
theorem dX8_at_126 : decode cX8_at 126 = .ok (.ldc 91, 2) := by decide +kernel
theorem dX8_at_128 : decode cX8_at 128 = .ok (.ireturn, 1) := by decide +kernel
theorem dX8_cost_0 : decode cX8_cost 0 = .ok (.aload_n 0, 1) := by decide +kernel
theorem dX8_cost_1 : decode cX8_cost 1 = .ok (.iload_n 1, 1) := by decide +kernel
theorem dX8_cost_2 : decode cX8_cost 2 = .ok (.invokevirtual 107, 3) := by decide +kernel
theorem dX8_cost_5 : decode cX8_cost 5 = .ok (.ifCond .eq 11, 3) := by decide +kernel
theorem dX8_cost_8 : decode cX8_cost 8 = .ok (.aload_n 0, 1) := by decide +kernel
theorem dX8_cost_9 : decode cX8_cost 9 = .ok (.iload_n 2, 1) := by decide +kernel
theorem dX8_cost_10 : decode cX8_cost 10 = .ok (.invokevirtual 107, 3) := by decide +kernel
theorem dX8_cost_13 : decode cX8_cost 13 = .ok (.ifCond .ne 6, 3) := by decide +kernel
theorem dX8_cost_16 : decode cX8_cost 16 = .ok (.ldc 111, 2) := by decide +kernel
theorem dX8_cost_18 : decode cX8_cost 18 = .ok (.ireturn, 1) := by decide +kernel
theorem dX8_cost_19 : decode cX8_cost 19 = .ok (.aload_n 0, 1) := by decide +kernel
theorem dX8_cost_20 : decode cX8_cost 20 = .ok (.iload_n 1, 1) := by decide +kernel
theorem dX8_cost_21 : decode cX8_cost 21 = .ok (.iload_n 2, 1) := by decide +kernel
theorem dX8_cost_22 : decode cX8_cost 22 = .ok (.invokevirtual 48, 3) := by decide +kernel
theorem dX8_cost_25 : decode cX8_cost 25 = .ok (.ifCond .eq 12, 3) := by decide +kernel
theorem dX8_cost_28 : decode cX8_cost 28 = .ok (.aload_n 0, 1) := by decide +kernel
theorem dX8_cost_29 : decode cX8_cost 29 = .ok (.iload_n 1, 1) := by decide +kernel
theorem dX8_cost_30 : decode cX8_cost 30 = .ok (.iload_n 2, 1) := by decide +kernel
theorem dX8_cost_31 : decode cX8_cost 31 = .ok (.invokevirtual 52, 3) := by decide +kernel
theorem dX8_cost_34 : decode cX8_cost 34 = .ok (.goto 4, 3) := by decide +kernel
theorem dX8_cost_37 : decode cX8_cost 37 = .ok (.iconst (-1), 1) := by decide +kernel
theorem dX8_cost_38 : decode cX8_cost 38 = .ok (.ireturn, 1) := by decide +kernel
theorem dX8_least_0 : decode cX8_least 0 = .ok (.iload_n 1, 1) := by decide +kernel
theorem dX8_least_1 : decode cX8_least 1 = .ok (.i2l, 1) := by decide +kernel
theorem dX8_least_2 : decode cX8_least 2 = .ok (.lconst 0, 1) := by decide +kernel
theorem dX8_least_3 : decode cX8_least 3 = .ok (.ldc2_w 118, 3) := by decide +kernel
theorem dX8_least_6 : decode cX8_least 6 = .ok (.invokestatic 40, 3) := by decide +kernel
theorem dX8_least_9 : decode cX8_least 9 = .ok (.ifCond .eq 12, 3) := by decide +kernel
theorem dX8_least_12 : decode cX8_least 12 = .ok (.aload_n 0, 1) := by decide +kernel
theorem dX8_least_13 : decode cX8_least 13 = .ok (.iload_n 1, 1) := by decide +kernel
theorem dX8_least_14 : decode cX8_least 14 = .ok (.iconst (-1), 1) := by decide +kernel
theorem dX8_least_15 : decode cX8_least 15 = .ok (.invokevirtual 66, 3) := by decide +kernel
theorem dX8_least_18 : decode cX8_least 18 = .ok (.goto 5, 3) := by decide +kernel
theorem dX8_least_21 : decode cX8_least 21 = .ok (.ldc 91, 2) := by decide +kernel
theorem dX8_least_23 : decode cX8_least 23 = .ok (.ireturn, 1) := by decide +kernel
theorem dX8_first_0 : decode cX8_first 0 = .ok (.aload_n 0, 1) := by decide +kernel
theorem dX8_first_1 : decode cX8_first 1 = .ok (.iload_n 2, 1) := by decide +kernel
theorem dX8_first_2 : decode cX8_first 2 = .ok (.invokevirtual 107, 3) := by decide +kernel
theorem dX8_first_5 : decode cX8_first 5 = .ok (.ifCond .ne 6, 3) := by decide +kernel
theorem dX8_first_8 : decode cX8_first 8 = .ok (.ldc 111, 2) := by decide +kernel
theorem dX8_first_10 : decode cX8_first 10 = .ok (.ireturn, 1) := by decide +kernel
theorem dX8_first_11 : decode cX8_first 11 = .ok (.iload_n 1, 1) := by decide +kernel
theorem dX8_first_12 : decode cX8_first 12 = .ok (.i2l, 1) := by decide +kernel
theorem dX8_first_13 : decode cX8_first 13 = .ok (.lconst 0, 1) := by decide +kernel
theorem dX8_first_14 : decode cX8_first 14 = .ok (.ldc2_w 118, 3) := by decide +kernel
theorem dX8_first_17 : decode cX8_first 17 = .ok (.invokestatic 40, 3) := by decide +kernel
theorem dX8_first_20 : decode cX8_first 20 = .ok (.ifCond .ne 6, 3) := by decide +kernel
theorem dX8_first_23 : decode cX8_first 23 = .ok (.ldc 91, 2) := by decide +kernel
theorem dX8_first_25 : decode cX8_first 25 = .ok (.ireturn, 1) := by decide +kernel
theorem dX8_first_26 : decode cX8_first 26 = .ok (.aload_n 0, 1) := by decide +kernel
theorem dX8_first_27 : decode cX8_first 27 = .ok (.iload_n 1, 1) := by decide +kernel
theorem dX8_first_28 : decode cX8_first 28 = .ok (.invokevirtual 120, 3) := by decide +kernel
theorem dX8_first_31 : decode cX8_first 31 = .ok (.ifCond .eq 12, 3) := by decide +kernel
theorem dX8_first_34 : decode cX8_first 34 = .ok (.aload_n 0, 1) := by decide +kernel
theorem dX8_first_35 : decode cX8_first 35 = .ok (.getfield 25, 3) := by decide +kernel
theorem dX8_first_38 : decode cX8_first 38 = .ok (.iload_n 2, 1) := by decide +kernel
theorem dX8_first_39 : decode cX8_first 39 = .ok (.iaload, 1) := by decide +kernel
theorem dX8_first_40 : decode cX8_first 40 = .ok (.goto 5, 3) := by decide +kernel
theorem dX8_first_43 : decode cX8_first 43 = .ok (.ldc 123, 2) := by decide +kernel
theorem dX8_first_45 : decode cX8_first 45 = .ok (.ireturn, 1) := by decide +kernel
theorem dX8_ofVoice_0 : decode cX8_ofVoice 0 = .ok (.iconst 0, 1) := by decide +kernel
theorem dX8_ofVoice_1 : decode cX8_ofVoice 1 = .ok (.istore_n 3, 1) := by decide +kernel
theorem dX8_ofVoice_2 : decode cX8_ofVoice 2 = .ok (.iload_n 1, 1) := by decide +kernel
theorem dX8_ofVoice_3 : decode cX8_ofVoice 3 = .ok (.istore 4, 2) := by decide +kernel
theorem dX8_ofVoice_5 : decode cX8_ofVoice 5 = .ok (.aload_n 0, 1) := by decide +kernel
theorem dX8_ofVoice_6 : decode cX8_ofVoice 6 = .ok (.getfield 7, 3) := by decide +kernel
theorem dX8_ofVoice_9 : decode cX8_ofVoice 9 = .ok (.bipush 26, 2) := by decide +kernel
theorem dX8_ofVoice_11 : decode cX8_ofVoice 11 = .ok (.iload_n 1, 1) := by decide +kernel
theorem dX8_ofVoice_12 : decode cX8_ofVoice 12 = .ok (.iadd, 1) := by decide +kernel
theorem dX8_ofVoice_13 : decode cX8_ofVoice 13 = .ok (.iaload, 1) := by decide +kernel
theorem dX8_ofVoice_14 : decode cX8_ofVoice 14 = .ok (.istore 5, 2) := by decide +kernel
theorem dX8_ofVoice_16 : decode cX8_ofVoice 16 = .ok (.iload 5, 2) := by decide +kernel
theorem dX8_ofVoice_18 : decode cX8_ofVoice 18 = .ok (.istore 6, 2) := by decide +kernel
theorem dX8_ofVoice_20 : decode cX8_ofVoice 20 = .ok (.iconst 0, 1) := by decide +kernel
theorem dX8_ofVoice_21 : decode cX8_ofVoice 21 = .ok (.istore 7, 2) := by decide +kernel
theorem dX8_ofVoice_23 : decode cX8_ofVoice 23 = .ok (.aload_n 0, 1) := by decide +kernel
theorem dX8_ofVoice_24 : decode cX8_ofVoice 24 = .ok (.getfield 7, 3) := by decide +kernel
theorem dX8_ofVoice_27 : decode cX8_ofVoice 27 = .ok (.iconst 4, 1) := by decide +kernel
theorem dX8_ofVoice_28 : decode cX8_ofVoice 28 = .ok (.iaload, 1) := by decide +kernel
theorem dX8_ofVoice_29 : decode cX8_ofVoice 29 = .ok (.istore 8, 2) := by decide +kernel
theorem dX8_ofVoice_31 : decode cX8_ofVoice 31 = .ok (.iload_n 1, 1) := by decide +kernel
theorem dX8_ofVoice_32 : decode cX8_ofVoice 32 = .ok (.istore 9, 2) := by decide +kernel
theorem dX8_ofVoice_34 : decode cX8_ofVoice 34 = .ok (.iload 9, 2) := by decide +kernel
theorem dX8_ofVoice_36 : decode cX8_ofVoice 36 = .ok (.ifCond .lt 154, 3) := by decide +kernel
theorem dX8_ofVoice_39 : decode cX8_ofVoice 39 = .ok (.aload_n 0, 1) := by decide +kernel
theorem dX8_ofVoice_40 : decode cX8_ofVoice 40 = .ok (.getfield 7, 3) := by decide +kernel
theorem dX8_ofVoice_43 : decode cX8_ofVoice 43 = .ok (.bipush 36, 2) := by decide +kernel
theorem dX8_ofVoice_45 : decode cX8_ofVoice 45 = .ok (.iload 9, 2) := by decide +kernel
theorem dX8_ofVoice_47 : decode cX8_ofVoice 47 = .ok (.iadd, 1) := by decide +kernel
theorem dX8_ofVoice_48 : decode cX8_ofVoice 48 = .ok (.iaload, 1) := by decide +kernel
theorem dX8_ofVoice_49 : decode cX8_ofVoice 49 = .ok (.istore 10, 2) := by decide +kernel
theorem dX8_ofVoice_51 : decode cX8_ofVoice 51 = .ok (.iinc 3 1, 3) := by decide +kernel
theorem dX8_ofVoice_54 : decode cX8_ofVoice 54 = .ok (.iload 9, 2) := by decide +kernel
theorem dX8_ofVoice_56 : decode cX8_ofVoice 56 = .ok (.istore 4, 2) := by decide +kernel
theorem dX8_ofVoice_58 : decode cX8_ofVoice 58 = .ok (.aload_n 0, 1) := by decide +kernel
theorem dX8_ofVoice_59 : decode cX8_ofVoice 59 = .ok (.getfield 7, 3) := by decide +kernel
theorem dX8_ofVoice_62 : decode cX8_ofVoice 62 = .ok (.bipush 26, 2) := by decide +kernel
theorem dX8_ofVoice_64 : decode cX8_ofVoice 64 = .ok (.iload 9, 2) := by decide +kernel
theorem dX8_ofVoice_66 : decode cX8_ofVoice 66 = .ok (.iadd, 1) := by decide +kernel
theorem dX8_ofVoice_67 : decode cX8_ofVoice 67 = .ok (.iaload, 1) := by decide +kernel
theorem dX8_ofVoice_68 : decode cX8_ofVoice 68 = .ok (.iload 5, 2) := by decide +kernel
theorem dX8_ofVoice_70 : decode cX8_ofVoice 70 = .ok (.if_icmp .ge 16, 3) := by decide +kernel
theorem dX8_ofVoice_73 : decode cX8_ofVoice 73 = .ok (.aload_n 0, 1) := by decide +kernel
theorem dX8_ofVoice_74 : decode cX8_ofVoice 74 = .ok (.getfield 7, 3) := by decide +kernel
theorem dX8_ofVoice_77 : decode cX8_ofVoice 77 = .ok (.bipush 26, 2) := by decide +kernel
theorem dX8_ofVoice_79 : decode cX8_ofVoice 79 = .ok (.iload 9, 2) := by decide +kernel
theorem dX8_ofVoice_81 : decode cX8_ofVoice 81 = .ok (.iadd, 1) := by decide +kernel
theorem dX8_ofVoice_82 : decode cX8_ofVoice 82 = .ok (.iaload, 1) := by decide +kernel
theorem dX8_ofVoice_83 : decode cX8_ofVoice 83 = .ok (.goto 5, 3) := by decide +kernel
theorem dX8_ofVoice_86 : decode cX8_ofVoice 86 = .ok (.iload 5, 2) := by decide +kernel
theorem dX8_ofVoice_88 : decode cX8_ofVoice 88 = .ok (.istore 5, 2) := by decide +kernel
theorem dX8_ofVoice_90 : decode cX8_ofVoice 90 = .ok (.aload_n 0, 1) := by decide +kernel
theorem dX8_ofVoice_91 : decode cX8_ofVoice 91 = .ok (.getfield 7, 3) := by decide +kernel
theorem dX8_ofVoice_94 : decode cX8_ofVoice 94 = .ok (.bipush 26, 2) := by decide +kernel
theorem dX8_ofVoice_96 : decode cX8_ofVoice 96 = .ok (.iload 9, 2) := by decide +kernel
theorem dX8_ofVoice_98 : decode cX8_ofVoice 98 = .ok (.iadd, 1) := by decide +kernel
theorem dX8_ofVoice_99 : decode cX8_ofVoice 99 = .ok (.iaload, 1) := by decide +kernel
theorem dX8_ofVoice_100 : decode cX8_ofVoice 100 = .ok (.iload 6, 2) := by decide +kernel
theorem dX8_ofVoice_102 : decode cX8_ofVoice 102 = .ok (.if_icmp .le 16, 3) := by decide +kernel
theorem dX8_ofVoice_105 : decode cX8_ofVoice 105 = .ok (.aload_n 0, 1) := by decide +kernel
theorem dX8_ofVoice_106 : decode cX8_ofVoice 106 = .ok (.getfield 7, 3) := by decide +kernel
theorem dX8_ofVoice_109 : decode cX8_ofVoice 109 = .ok (.bipush 26, 2) := by decide +kernel
theorem dX8_ofVoice_111 : decode cX8_ofVoice 111 = .ok (.iload 9, 2) := by decide +kernel
theorem dX8_ofVoice_113 : decode cX8_ofVoice 113 = .ok (.iadd, 1) := by decide +kernel
theorem dX8_ofVoice_114 : decode cX8_ofVoice 114 = .ok (.iaload, 1) := by decide +kernel
theorem dX8_ofVoice_115 : decode cX8_ofVoice 115 = .ok (.goto 5, 3) := by decide +kernel
theorem dX8_ofVoice_118 : decode cX8_ofVoice 118 = .ok (.iload 6, 2) := by decide +kernel
theorem dX8_ofVoice_120 : decode cX8_ofVoice 120 = .ok (.istore 6, 2) := by decide +kernel
theorem dX8_ofVoice_122 : decode cX8_ofVoice 122 = .ok (.iload 7, 2) := by decide +kernel
theorem dX8_ofVoice_124 : decode cX8_ofVoice 124 = .ok (.iload 10, 2) := by decide +kernel
theorem dX8_ofVoice_126 : decode cX8_ofVoice 126 = .ok (.ifCond .ge 7, 3) := by decide +kernel
theorem dX8_ofVoice_129 : decode cX8_ofVoice 129 = .ok (.iconst 0, 1) := by decide +kernel
theorem dX8_ofVoice_130 : decode cX8_ofVoice 130 = .ok (.goto 20, 3) := by decide +kernel
theorem dX8_ofVoice_133 : decode cX8_ofVoice 133 = .ok (.aload_n 0, 1) := by decide +kernel
theorem dX8_ofVoice_134 : decode cX8_ofVoice 134 = .ok (.getfield 7, 3) := by decide +kernel
theorem dX8_ofVoice_137 : decode cX8_ofVoice 137 = .ok (.bipush 6, 2) := by decide +kernel
theorem dX8_ofVoice_139 : decode cX8_ofVoice 139 = .ok (.iload 10, 2) := by decide +kernel
theorem dX8_ofVoice_141 : decode cX8_ofVoice 141 = .ok (.iadd, 1) := by decide +kernel
theorem dX8_ofVoice_142 : decode cX8_ofVoice 142 = .ok (.iaload, 1) := by decide +kernel
theorem dX8_ofVoice_143 : decode cX8_ofVoice 143 = .ok (.aload_n 0, 1) := by decide +kernel
theorem dX8_ofVoice_144 : decode cX8_ofVoice 144 = .ok (.iload 9, 2) := by decide +kernel
theorem dX8_ofVoice_146 : decode cX8_ofVoice 146 = .ok (.invokevirtual 36, 3) := by decide +kernel
theorem dX8_ofVoice_149 : decode cX8_ofVoice 149 = .ok (.isub, 1) := by decide +kernel
theorem dX8_ofVoice_150 : decode cX8_ofVoice 150 = .ok (.iadd, 1) := by decide +kernel
theorem dX8_ofVoice_151 : decode cX8_ofVoice 151 = .ok (.istore 7, 2) := by decide +kernel
theorem dX8_ofVoice_153 : decode cX8_ofVoice 153 = .ok (.iload 8, 2) := by decide +kernel
theorem dX8_ofVoice_155 : decode cX8_ofVoice 155 = .ok (.iload 10, 2) := by decide +kernel
theorem dX8_ofVoice_157 : decode cX8_ofVoice 157 = .ok (.ifCond .ge 7, 3) := by decide +kernel
theorem dX8_ofVoice_160 : decode cX8_ofVoice 160 = .ok (.iconst 0, 1) := by decide +kernel
theorem dX8_ofVoice_161 : decode cX8_ofVoice 161 = .ok (.goto 11, 3) := by decide +kernel
theorem dX8_ofVoice_164 : decode cX8_ofVoice 164 = .ok (.aload_n 0, 1) := by decide +kernel
theorem dX8_ofVoice_165 : decode cX8_ofVoice 165 = .ok (.iload 9, 2) := by decide +kernel
theorem dX8_ofVoice_167 : decode cX8_ofVoice 167 = .ok (.iload 10, 2) := by decide +kernel
theorem dX8_ofVoice_169 : decode cX8_ofVoice 169 = .ok (.invokevirtual 52, 3) := by decide +kernel
theorem dX8_ofVoice_172 : decode cX8_ofVoice 172 = .ok (.iadd, 1) := by decide +kernel
theorem dX8_ofVoice_173 : decode cX8_ofVoice 173 = .ok (.istore 8, 2) := by decide +kernel
theorem dX8_ofVoice_175 : decode cX8_ofVoice 175 = .ok (.aload_n 0, 1) := by decide +kernel
theorem dX8_ofVoice_176 : decode cX8_ofVoice 176 = .ok (.getfield 7, 3) := by decide +kernel
theorem dX8_ofVoice_179 : decode cX8_ofVoice 179 = .ok (.bipush 36, 2) := by decide +kernel
theorem dX8_ofVoice_181 : decode cX8_ofVoice 181 = .ok (.iload 9, 2) := by decide +kernel
theorem dX8_ofVoice_183 : decode cX8_ofVoice 183 = .ok (.iadd, 1) := by decide +kernel
theorem dX8_ofVoice_184 : decode cX8_ofVoice 184 = .ok (.iaload, 1) := by decide +kernel
theorem dX8_ofVoice_185 : decode cX8_ofVoice 185 = .ok (.istore 9, 2) := by decide +kernel
theorem dX8_ofVoice_187 : decode cX8_ofVoice 187 = .ok (.goto (-153), 3) := by decide +kernel
theorem dX8_ofVoice_190 : decode cX8_ofVoice 190 = .ok (.iload_n 2, 1) := by decide +kernel
theorem dX8_ofVoice_191 : decode cX8_ofVoice 191 = .ok (.tableswitch 53 0 5 #[37, 39, 41, 44, 47, 50], 37) := by decide +kernel
theorem dX8_ofVoice_228 : decode cX8_ofVoice 228 = .ok (.iload_n 3, 1) := by decide +kernel
theorem dX8_ofVoice_229 : decode cX8_ofVoice 229 = .ok (.ireturn, 1) := by decide +kernel
theorem dX8_ofVoice_230 : decode cX8_ofVoice 230 = .ok (.iload_n 1, 1) := by decide +kernel
theorem dX8_ofVoice_231 : decode cX8_ofVoice 231 = .ok (.ireturn, 1) := by decide +kernel
theorem dX8_ofVoice_232 : decode cX8_ofVoice 232 = .ok (.iload 4, 2) := by decide +kernel
theorem dX8_ofVoice_234 : decode cX8_ofVoice 234 = .ok (.ireturn, 1) := by decide +kernel
theorem dX8_ofVoice_235 : decode cX8_ofVoice 235 = .ok (.iload 5, 2) := by decide +kernel
theorem dX8_ofVoice_237 : decode cX8_ofVoice 237 = .ok (.ireturn, 1) := by decide +kernel
theorem dX8_ofVoice_238 : decode cX8_ofVoice 238 = .ok (.iload 6, 2) := by decide +kernel
theorem dX8_ofVoice_240 : decode cX8_ofVoice 240 = .ok (.ireturn, 1) := by decide +kernel
theorem dX8_ofVoice_241 : decode cX8_ofVoice 241 = .ok (.iload 7, 2) := by decide +kernel
theorem dX8_ofVoice_243 : decode cX8_ofVoice 243 = .ok (.ireturn, 1) := by decide +kernel
theorem dX8_ofVoice_244 : decode cX8_ofVoice 244 = .ok (.iload 8, 2) := by decide +kernel
theorem dX8_ofVoice_246 : decode cX8_ofVoice 246 = .ok (.ireturn, 1) := by decide +kernel
theorem dX8_voice_0 : decode cX8_voice 0 = .ok (.iload_n 1, 1) := by decide +kernel
theorem dX8_voice_1 : decode cX8_voice 1 = .ok (.i2l, 1) := by decide +kernel
theorem dX8_voice_2 : decode cX8_voice 2 = .ok (.lconst 0, 1) := by decide +kernel
theorem dX8_voice_3 : decode cX8_voice 3 = .ok (.aload_n 0, 1) := by decide +kernel
theorem dX8_voice_4 : decode cX8_voice 4 = .ok (.invokevirtual 75, 3) := by decide +kernel
theorem dX8_voice_7 : decode cX8_voice 7 = .ok (.iconst 1, 1) := by decide +kernel
theorem dX8_voice_8 : decode cX8_voice 8 = .ok (.isub, 1) := by decide +kernel
theorem dX8_voice_9 : decode cX8_voice 9 = .ok (.i2l, 1) := by decide +kernel
theorem dX8_voice_10 : decode cX8_voice 10 = .ok (.invokestatic 40, 3) := by decide +kernel
theorem dX8_voice_13 : decode cX8_voice 13 = .ok (.ifCond .ne 6, 3) := by decide +kernel
theorem dX8_voice_16 : decode cX8_voice 16 = .ok (.ldc 111, 2) := by decide +kernel
theorem dX8_voice_18 : decode cX8_voice 18 = .ok (.ireturn, 1) := by decide +kernel
theorem dX8_voice_19 : decode cX8_voice 19 = .ok (.iload_n 2, 1) := by decide +kernel
theorem dX8_voice_20 : decode cX8_voice 20 = .ok (.i2l, 1) := by decide +kernel
theorem dX8_voice_21 : decode cX8_voice 21 = .ok (.lconst 0, 1) := by decide +kernel
theorem dX8_voice_22 : decode cX8_voice 22 = .ok (.ldc2_w 124, 3) := by decide +kernel
theorem dX8_voice_25 : decode cX8_voice 25 = .ok (.invokestatic 40, 3) := by decide +kernel
theorem dX8_voice_28 : decode cX8_voice 28 = .ok (.ifCond .eq 16, 3) := by decide +kernel
theorem dX8_voice_31 : decode cX8_voice 31 = .ok (.aload_n 0, 1) := by decide +kernel
theorem dX8_voice_32 : decode cX8_voice 32 = .ok (.aload_n 0, 1) := by decide +kernel
theorem dX8_voice_33 : decode cX8_voice 33 = .ok (.iload_n 1, 1) := by decide +kernel
theorem dX8_voice_34 : decode cX8_voice 34 = .ok (.invokevirtual 126, 3) := by decide +kernel
theorem dX8_voice_37 : decode cX8_voice 37 = .ok (.iload_n 2, 1) := by decide +kernel
theorem dX8_voice_38 : decode cX8_voice 38 = .ok (.invokevirtual 129, 3) := by decide +kernel
theorem dX8_voice_41 : decode cX8_voice 41 = .ok (.goto 5, 3) := by decide +kernel
theorem dX8_voice_44 : decode cX8_voice 44 = .ok (.ldc 91, 2) := by decide +kernel
theorem dX8_voice_46 : decode cX8_voice 46 = .ok (.ireturn, 1) := by decide +kernel
theorem dX8_member_0 : decode cX8_member 0 = .ok (.iload_n 1, 1) := by decide +kernel
theorem dX8_member_1 : decode cX8_member 1 = .ok (.i2l, 1) := by decide +kernel
theorem dX8_member_2 : decode cX8_member 2 = .ok (.lconst 0, 1) := by decide +kernel
theorem dX8_member_3 : decode cX8_member 3 = .ok (.aload_n 0, 1) := by decide +kernel
theorem dX8_member_4 : decode cX8_member 4 = .ok (.invokevirtual 75, 3) := by decide +kernel
theorem dX8_member_7 : decode cX8_member 7 = .ok (.iconst 1, 1) := by decide +kernel
theorem dX8_member_8 : decode cX8_member 8 = .ok (.isub, 1) := by decide +kernel
theorem dX8_member_9 : decode cX8_member 9 = .ok (.i2l, 1) := by decide +kernel
theorem dX8_member_10 : decode cX8_member 10 = .ok (.invokestatic 40, 3) := by decide +kernel
theorem dX8_member_13 : decode cX8_member 13 = .ok (.ifCond .ne 6, 3) := by decide +kernel
theorem dX8_member_16 : decode cX8_member 16 = .ok (.ldc 111, 2) := by decide +kernel
theorem dX8_member_18 : decode cX8_member 18 = .ok (.ireturn, 1) := by decide +kernel
theorem dX8_member_19 : decode cX8_member 19 = .ok (.iload_n 2, 1) := by decide +kernel
theorem dX8_member_20 : decode cX8_member 20 = .ok (.ifCond .ge 6, 3) := by decide +kernel
theorem dX8_member_23 : decode cX8_member 23 = .ok (.ldc 91, 2) := by decide +kernel
theorem dX8_member_25 : decode cX8_member 25 = .ok (.ireturn, 1) := by decide +kernel
theorem dX8_member_26 : decode cX8_member 26 = .ok (.aload_n 0, 1) := by decide +kernel
theorem dX8_member_27 : decode cX8_member 27 = .ok (.iload_n 1, 1) := by decide +kernel
theorem dX8_member_28 : decode cX8_member 28 = .ok (.invokevirtual 126, 3) := by decide +kernel
theorem dX8_member_31 : decode cX8_member 31 = .ok (.istore_n 3, 1) := by decide +kernel
theorem dX8_member_32 : decode cX8_member 32 = .ok (.iconst 0, 1) := by decide +kernel
theorem dX8_member_33 : decode cX8_member 33 = .ok (.istore 4, 2) := by decide +kernel
theorem dX8_member_35 : decode cX8_member 35 = .ok (.iload 4, 2) := by decide +kernel
theorem dX8_member_37 : decode cX8_member 37 = .ok (.iload_n 2, 1) := by decide +kernel
theorem dX8_member_38 : decode cX8_member 38 = .ok (.if_icmp .ge 23, 3) := by decide +kernel
theorem dX8_member_41 : decode cX8_member 41 = .ok (.iload_n 3, 1) := by decide +kernel
theorem dX8_member_42 : decode cX8_member 42 = .ok (.ifCond .lt 19, 3) := by decide +kernel
theorem dX8_member_45 : decode cX8_member 45 = .ok (.aload_n 0, 1) := by decide +kernel
theorem dX8_member_46 : decode cX8_member 46 = .ok (.getfield 7, 3) := by decide +kernel
theorem dX8_member_49 : decode cX8_member 49 = .ok (.bipush 36, 2) := by decide +kernel
theorem dX8_member_51 : decode cX8_member 51 = .ok (.iload_n 3, 1) := by decide +kernel
theorem dX8_member_52 : decode cX8_member 52 = .ok (.iadd, 1) := by decide +kernel
theorem dX8_member_53 : decode cX8_member 53 = .ok (.iaload, 1) := by decide +kernel
theorem dX8_member_54 : decode cX8_member 54 = .ok (.istore_n 3, 1) := by decide +kernel
theorem dX8_member_55 : decode cX8_member 55 = .ok (.iinc 4 1, 3) := by decide +kernel
theorem dX8_member_58 : decode cX8_member 58 = .ok (.goto (-23), 3) := by decide +kernel
theorem dX8_member_61 : decode cX8_member 61 = .ok (.iload_n 3, 1) := by decide +kernel
theorem dX8_member_62 : decode cX8_member 62 = .ok (.ireturn, 1) := by decide +kernel
theorem dX8_isNoteOf_0 : decode cX8_isNoteOf 0 = .ok (.iload_n 1, 1) := by decide +kernel
theorem dX8_isNoteOf_1 : decode cX8_isNoteOf 1 = .ok (.i2l, 1) := by decide +kernel
theorem dX8_isNoteOf_2 : decode cX8_isNoteOf 2 = .ok (.lconst 0, 1) := by decide +kernel
theorem dX8_isNoteOf_3 : decode cX8_isNoteOf 3 = .ok (.ldc2_w 132, 3) := by decide +kernel
theorem dX8_isNoteOf_6 : decode cX8_isNoteOf 6 = .ok (.invokestatic 40, 3) := by decide +kernel
theorem dX8_isNoteOf_9 : decode cX8_isNoteOf 9 = .ok (.ifCond .eq 31, 3) := by decide +kernel
theorem dX8_isNoteOf_12 : decode cX8_isNoteOf 12 = .ok (.iload_n 2, 1) := by decide +kernel
theorem dX8_isNoteOf_13 : decode cX8_isNoteOf 13 = .ok (.i2l, 1) := by decide +kernel
theorem dX8_isNoteOf_14 : decode cX8_isNoteOf 14 = .ok (.lconst 1, 1) := by decide +kernel
theorem dX8_isNoteOf_15 : decode cX8_isNoteOf 15 = .ok (.ldc2_w 134, 3) := by decide +kernel
theorem dX8_isNoteOf_18 : decode cX8_isNoteOf 18 = .ok (.invokestatic 40, 3) := by decide +kernel
theorem dX8_isNoteOf_21 : decode cX8_isNoteOf 21 = .ok (.ifCond .eq 19, 3) := by decide +kernel
theorem dX8_isNoteOf_24 : decode cX8_isNoteOf 24 = .ok (.iload_n 3, 1) := by decide +kernel
theorem dX8_isNoteOf_25 : decode cX8_isNoteOf 25 = .ok (.i2l, 1) := by decide +kernel
theorem dX8_isNoteOf_26 : decode cX8_isNoteOf 26 = .ok (.lconst 0, 1) := by decide +kernel
theorem dX8_isNoteOf_27 : decode cX8_isNoteOf 27 = .ok (.ldc2_w 136, 3) := by decide +kernel
theorem dX8_isNoteOf_30 : decode cX8_isNoteOf 30 = .ok (.invokestatic 40, 3) := by decide +kernel
theorem dX8_isNoteOf_33 : decode cX8_isNoteOf 33 = .ok (.ifCond .eq 7, 3) := by decide +kernel
theorem dX8_isNoteOf_36 : decode cX8_isNoteOf 36 = .ok (.iconst 1, 1) := by decide +kernel
theorem dX8_isNoteOf_37 : decode cX8_isNoteOf 37 = .ok (.goto 4, 3) := by decide +kernel
theorem dX8_isNoteOf_40 : decode cX8_isNoteOf 40 = .ok (.iconst 0, 1) := by decide +kernel
theorem dX8_isNoteOf_41 : decode cX8_isNoteOf 41 = .ok (.ireturn, 1) := by decide +kernel
theorem dX8_stays_0 : decode cX8_stays 0 = .ok (.aload_n 0, 1) := by decide +kernel
theorem dX8_stays_1 : decode cX8_stays 1 = .ok (.getfield 7, 3) := by decide +kernel
theorem dX8_stays_4 : decode cX8_stays 4 = .ok (.bipush 6, 2) := by decide +kernel
theorem dX8_stays_6 : decode cX8_stays 6 = .ok (.iload_n 1, 1) := by decide +kernel
theorem dX8_stays_7 : decode cX8_stays 7 = .ok (.iadd, 1) := by decide +kernel
theorem dX8_stays_8 : decode cX8_stays 8 = .ok (.iaload, 1) := by decide +kernel
theorem dX8_stays_9 : decode cX8_stays 9 = .ok (.iload_n 2, 1) := by decide +kernel
theorem dX8_stays_10 : decode cX8_stays 10 = .ok (.if_icmp .eq 22, 3) := by decide +kernel
theorem dX8_stays_13 : decode cX8_stays 13 = .ok (.aload_n 0, 1) := by decide +kernel
theorem dX8_stays_14 : decode cX8_stays 14 = .ok (.getfield 7, 3) := by decide +kernel
theorem dX8_stays_17 : decode cX8_stays 17 = .ok (.bipush 6, 2) := by decide +kernel
theorem dX8_stays_19 : decode cX8_stays 19 = .ok (.iload_n 1, 1) := by decide +kernel
theorem dX8_stays_20 : decode cX8_stays 20 = .ok (.iadd, 1) := by decide +kernel
theorem dX8_stays_21 : decode cX8_stays 21 = .ok (.iaload, 1) := by decide +kernel
theorem dX8_stays_22 : decode cX8_stays 22 = .ok (.iload_n 2, 1) := by decide +kernel
theorem dX8_stays_23 : decode cX8_stays 23 = .ok (.if_icmp .ge 7, 3) := by decide +kernel
theorem dX8_stays_26 : decode cX8_stays 26 = .ok (.iconst 1, 1) := by decide +kernel
theorem dX8_stays_27 : decode cX8_stays 27 = .ok (.goto 4, 3) := by decide +kernel
theorem dX8_stays_30 : decode cX8_stays 30 = .ok (.iconst 0, 1) := by decide +kernel
theorem dX8_stays_31 : decode cX8_stays 31 = .ok (.ireturn, 1) := by decide +kernel
theorem dX8_stays_32 : decode cX8_stays 32 = .ok (.aload_n 0, 1) := by decide +kernel
theorem dX8_stays_33 : decode cX8_stays 33 = .ok (.getfield 7, 3) := by decide +kernel
theorem dX8_stays_36 : decode cX8_stays 36 = .ok (.bipush 26, 2) := by decide +kernel
theorem dX8_stays_38 : decode cX8_stays 38 = .ok (.iload_n 1, 1) := by decide +kernel
theorem dX8_stays_39 : decode cX8_stays 39 = .ok (.iadd, 1) := by decide +kernel
theorem dX8_stays_40 : decode cX8_stays 40 = .ok (.iaload, 1) := by decide +kernel
theorem dX8_stays_41 : decode cX8_stays 41 = .ok (.iload 4, 2) := by decide +kernel
theorem dX8_stays_43 : decode cX8_stays 43 = .ok (.if_icmp .eq 25, 3) := by decide +kernel
