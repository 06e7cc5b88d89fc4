theorem dX0_init_0 : decode cX0_init 0 = .ok (.aload_n 0, 1) := by decide +kernel
theorem dX0_init_1 : decode cX0_init 1 = .ok (.invokespecial 3, 3) := by decide +kernel
theorem dX0_init_4 : decode cX0_init 4 = .ok (.aload_n 0, 1) := by decide +kernel
theorem dX0_init_5 : decode cX0_init 5 = .ok (.bipush 20, 2) := by decide +kernel
theorem dX0_init_7 : decode cX0_init 7 = .ok (.newarray .int, 2) := by decide +kernel
theorem dX0_init_9 : decode cX0_init 9 = .ok (.putfield 11, 3) := by decide +kernel
theorem dX0_init_12 : decode cX0_init 12 = .ok (.aload_n 0, 1) := by decide +kernel
theorem dX0_init_13 : decode cX0_init 13 = .ok (.bipush 20, 2) := by decide +kernel
theorem dX0_init_15 : decode cX0_init 15 = .ok (.newarray .int, 2) := by decide +kernel
theorem dX0_init_17 : decode cX0_init 17 = .ok (.putfield 15, 3) := by decide +kernel
theorem dX0_init_20 : decode cX0_init 20 = .ok (.return_, 1) := by decide +kernel
theorem dX0_size_0 : decode cX0_size 0 = .ok (.aload_n 0, 1) := by decide +kernel
theorem dX0_size_1 : decode cX0_size 1 = .ok (.getfield 18, 3) := by decide +kernel
theorem dX0_size_4 : decode cX0_size 4 = .ok (.ireturn, 1) := by decide +kernel
theorem dX0_isFull_0 : decode cX0_isFull 0 = .ok (.aload_n 0, 1) := by decide +kernel
theorem dX0_isFull_1 : decode cX0_isFull 1 = .ok (.getfield 18, 3) := by decide +kernel
theorem dX0_isFull_4 : decode cX0_isFull 4 = .ok (.bipush 20, 2) := by decide +kernel
theorem dX0_isFull_6 : decode cX0_isFull 6 = .ok (.if_icmp .lt 7, 3) := by decide +kernel
theorem dX0_isFull_9 : decode cX0_isFull 9 = .ok (.iconst 1, 1) := by decide +kernel
theorem dX0_isFull_10 : decode cX0_isFull 10 = .ok (.goto 4, 3) := by decide +kernel
theorem dX0_isFull_13 : decode cX0_isFull 13 = .ok (.iconst 0, 1) := by decide +kernel
theorem dX0_isFull_14 : decode cX0_isFull 14 = .ok (.ireturn, 1) := by decide +kernel
theorem dX0_add_0 : decode cX0_add 0 = .ok (.aload_n 0, 1) := by decide +kernel
theorem dX0_add_1 : decode cX0_add 1 = .ok (.invokevirtual 22, 3) := by decide +kernel
theorem dX0_add_4 : decode cX0_add 4 = .ok (.ifCond .eq 4, 3) := by decide +kernel
theorem dX0_add_7 : decode cX0_add 7 = .ok (.return_, 1) := by decide +kernel
theorem dX0_add_8 : decode cX0_add 8 = .ok (.aload_n 0, 1) := by decide +kernel
theorem dX0_add_9 : decode cX0_add 9 = .ok (.getfield 11, 3) := by decide +kernel
theorem dX0_add_12 : decode cX0_add 12 = .ok (.aload_n 0, 1) := by decide +kernel
theorem dX0_add_13 : decode cX0_add 13 = .ok (.getfield 18, 3) := by decide +kernel
theorem dX0_add_16 : decode cX0_add 16 = .ok (.iload_n 1, 1) := by decide +kernel
theorem dX0_add_17 : decode cX0_add 17 = .ok (.iastore, 1) := by decide +kernel
theorem dX0_add_18 : decode cX0_add 18 = .ok (.aload_n 0, 1) := by decide +kernel
theorem dX0_add_19 : decode cX0_add 19 = .ok (.getfield 15, 3) := by decide +kernel
theorem dX0_add_22 : decode cX0_add 22 = .ok (.aload_n 0, 1) := by decide +kernel
theorem dX0_add_23 : decode cX0_add 23 = .ok (.getfield 18, 3) := by decide +kernel
theorem dX0_add_26 : decode cX0_add 26 = .ok (.iload_n 2, 1) := by decide +kernel
theorem dX0_add_27 : decode cX0_add 27 = .ok (.iastore, 1) := by decide +kernel
theorem dX0_add_28 : decode cX0_add 28 = .ok (.aload_n 0, 1) := by decide +kernel
theorem dX0_add_29 : decode cX0_add 29 = .ok (.dup, 1) := by decide +kernel
theorem dX0_add_30 : decode cX0_add 30 = .ok (.getfield 18, 3) := by decide +kernel
theorem dX0_add_33 : decode cX0_add 33 = .ok (.iconst 1, 1) := by decide +kernel
theorem dX0_add_34 : decode cX0_add 34 = .ok (.iadd, 1) := by decide +kernel
theorem dX0_add_35 : decode cX0_add 35 = .ok (.putfield 18, 3) := by decide +kernel
theorem dX0_add_38 : decode cX0_add 38 = .ok (.return_, 1) := by decide +kernel
theorem dX0_empty_0 : decode cX0_empty 0 = .ok (.aload_n 0, 1) := by decide +kernel
theorem dX0_empty_1 : decode cX0_empty 1 = .ok (.iconst 0, 1) := by decide +kernel
theorem dX0_empty_2 : decode cX0_empty 2 = .ok (.putfield 18, 3) := by decide +kernel
theorem dX0_empty_5 : decode cX0_empty 5 = .ok (.return_, 1) := by decide +kernel
theorem dX0_wrong_0 : decode cX0_wrong 0 = .ok (.iconst 0, 1) := by decide +kernel
theorem dX0_wrong_1 : decode cX0_wrong 1 = .ok (.istore_n 2, 1) := by decide +kernel
theorem dX0_wrong_2 : decode cX0_wrong 2 = .ok (.iload_n 2, 1) := by decide +kernel
theorem dX0_wrong_3 : decode cX0_wrong 3 = .ok (.aload_n 0, 1) := by decide +kernel
theorem dX0_wrong_4 : decode cX0_wrong 4 = .ok (.getfield 18, 3) := by decide +kernel
theorem dX0_wrong_7 : decode cX0_wrong 7 = .ok (.if_icmp .ge 36, 3) := by decide +kernel
theorem dX0_wrong_10 : decode cX0_wrong 10 = .ok (.iload_n 2, 1) := by decide +kernel
theorem dX0_wrong_11 : decode cX0_wrong 11 = .ok (.bipush 20, 2) := by decide +kernel
theorem dX0_wrong_13 : decode cX0_wrong 13 = .ok (.if_icmp .ge 30, 3) := by decide +kernel
theorem dX0_wrong_16 : decode cX0_wrong 16 = .ok (.aload_n 1, 1) := by decide +kernel
theorem dX0_wrong_17 : decode cX0_wrong 17 = .ok (.aload_n 0, 1) := by decide +kernel
theorem dX0_wrong_18 : decode cX0_wrong 18 = .ok (.getfield 11, 3) := by decide +kernel
theorem dX0_wrong_21 : decode cX0_wrong 21 = .ok (.iload_n 2, 1) := by decide +kernel
theorem dX0_wrong_22 : decode cX0_wrong 22 = .ok (.iaload, 1) := by decide +kernel
theorem dX0_wrong_23 : decode cX0_wrong 23 = .ok (.invokevirtual 26, 3) := by decide +kernel
theorem dX0_wrong_26 : decode cX0_wrong 26 = .ok (.aload_n 0, 1) := by decide +kernel
theorem dX0_wrong_27 : decode cX0_wrong 27 = .ok (.getfield 15, 3) := by decide +kernel
theorem dX0_wrong_30 : decode cX0_wrong 30 = .ok (.iload_n 2, 1) := by decide +kernel
theorem dX0_wrong_31 : decode cX0_wrong 31 = .ok (.iaload, 1) := by decide +kernel
theorem dX0_wrong_32 : decode cX0_wrong 32 = .ok (.if_icmp .eq 5, 3) := by decide +kernel
theorem dX0_wrong_35 : decode cX0_wrong 35 = .ok (.iload_n 2, 1) := by decide +kernel
theorem dX0_wrong_36 : decode cX0_wrong 36 = .ok (.ireturn, 1) := by decide +kernel
theorem dX0_wrong_37 : decode cX0_wrong 37 = .ok (.iinc 2 1, 3) := by decide +kernel
theorem dX0_wrong_40 : decode cX0_wrong 40 = .ok (.goto (-38), 3) := by decide +kernel
theorem dX0_wrong_43 : decode cX0_wrong 43 = .ok (.iconst (-1), 1) := by decide +kernel
theorem dX0_wrong_44 : decode cX0_wrong 44 = .ok (.ireturn, 1) := by decide +kernel
theorem dX1_init_0 : decode cX1_init 0 = .ok (.aload_n 0, 1) := by decide +kernel
theorem dX1_init_1 : decode cX1_init 1 = .ok (.invokespecial 1, 3) := by decide +kernel
theorem dX1_init_4 : decode cX1_init 4 = .ok (.return_, 1) := by decide +kernel
theorem dX1_state_0 : decode cX1_state 0 = .ok (.aload_n 0, 1) := by decide +kernel
theorem dX1_state_1 : decode cX1_state 1 = .ok (.getfield 7, 3) := by decide +kernel
theorem dX1_state_4 : decode cX1_state 4 = .ok (.ireturn, 1) := by decide +kernel
theorem dX1_become_0 : decode cX1_become 0 = .ok (.aload_n 0, 1) := by decide +kernel
theorem dX1_become_1 : decode cX1_become 1 = .ok (.iload_n 1, 1) := by decide +kernel
theorem dX1_become_2 : decode cX1_become 2 = .ok (.putfield 7, 3) := by decide +kernel
theorem dX1_become_5 : decode cX1_become 5 = .ok (.return_, 1) := by decide +kernel
theorem dX1_draw_0 : decode cX1_draw 0 = .ok (.aload_n 0, 1) := by decide +kernel
theorem dX1_draw_1 : decode cX1_draw 1 = .ok (.aload_n 0, 1) := by decide +kernel
theorem dX1_draw_2 : decode cX1_draw 2 = .ok (.getfield 7, 3) := by decide +kernel
theorem dX1_draw_5 : decode cX1_draw 5 = .ok (.ldc 13, 2) := by decide +kernel
theorem dX1_draw_7 : decode cX1_draw 7 = .ok (.imul, 1) := by decide +kernel
theorem dX1_draw_8 : decode cX1_draw 8 = .ok (.sipush 12345, 3) := by decide +kernel
theorem dX1_draw_11 : decode cX1_draw 11 = .ok (.iadd, 1) := by decide +kernel
theorem dX1_draw_12 : decode cX1_draw 12 = .ok (.ldc 14, 2) := by decide +kernel
theorem dX1_draw_14 : decode cX1_draw 14 = .ok (.iand, 1) := by decide +kernel
theorem dX1_draw_15 : decode cX1_draw 15 = .ok (.putfield 7, 3) := by decide +kernel
theorem dX1_draw_18 : decode cX1_draw 18 = .ok (.iload_n 1, 1) := by decide +kernel
theorem dX1_draw_19 : decode cX1_draw 19 = .ok (.iconst 1, 1) := by decide +kernel
theorem dX1_draw_20 : decode cX1_draw 20 = .ok (.if_icmp .ge 7, 3) := by decide +kernel
theorem dX1_draw_23 : decode cX1_draw 23 = .ok (.iconst 0, 1) := by decide +kernel
theorem dX1_draw_24 : decode cX1_draw 24 = .ok (.goto 12, 3) := by decide +kernel
theorem dX1_draw_27 : decode cX1_draw 27 = .ok (.aload_n 0, 1) := by decide +kernel
theorem dX1_draw_28 : decode cX1_draw 28 = .ok (.getfield 7, 3) := by decide +kernel
theorem dX1_draw_31 : decode cX1_draw 31 = .ok (.ldc 15, 2) := by decide +kernel
theorem dX1_draw_33 : decode cX1_draw 33 = .ok (.idiv, 1) := by decide +kernel
theorem dX1_draw_34 : decode cX1_draw 34 = .ok (.iload_n 1, 1) := by decide +kernel
theorem dX1_draw_35 : decode cX1_draw 35 = .ok (.irem, 1) := by decide +kernel
theorem dX1_draw_36 : decode cX1_draw 36 = .ok (.ireturn, 1) := by decide +kernel
theorem dX2_init_0 : decode cX2_init 0 = .ok (.aload_n 0, 1) := by decide +kernel
theorem dX2_init_1 : decode cX2_init 1 = .ok (.invokespecial 1, 3) := by decide +kernel
theorem dX2_init_4 : decode cX2_init 4 = .ok (.aload_n 0, 1) := by decide +kernel
theorem dX2_init_5 : decode cX2_init 5 = .ok (.sipush 736, 3) := by decide +kernel
theorem dX2_init_8 : decode cX2_init 8 = .ok (.newarray .int, 2) := by decide +kernel
theorem dX2_init_10 : decode cX2_init 10 = .ok (.putfield 11, 3) := by decide +kernel
theorem dX2_init_13 : decode cX2_init 13 = .ok (.return_, 1) := by decide +kernel
theorem dX2_held_0 : decode cX2_held 0 = .ok (.aload_n 0, 1) := by decide +kernel
theorem dX2_held_1 : decode cX2_held 1 = .ok (.getfield 15, 3) := by decide +kernel
theorem dX2_held_4 : decode cX2_held 4 = .ok (.ireturn, 1) := by decide +kernel
theorem dX2_record_0 : decode cX2_record 0 = .ok (.aload_n 1, 1) := by decide +kernel
theorem dX2_record_1 : decode cX2_record 1 = .ok (.aload_n 0, 1) := by decide +kernel
theorem dX2_record_2 : decode cX2_record 2 = .ok (.getfield 11, 3) := by decide +kernel
theorem dX2_record_5 : decode cX2_record 5 = .ok (.aload_n 0, 1) := by decide +kernel
theorem dX2_record_6 : decode cX2_record 6 = .ok (.getfield 19, 3) := by decide +kernel
theorem dX2_record_9 : decode cX2_record 9 = .ok (.invokevirtual 22, 3) := by decide +kernel
theorem dX2_record_12 : decode cX2_record 12 = .ok (.aload_n 0, 1) := by decide +kernel
theorem dX2_record_13 : decode cX2_record 13 = .ok (.aload_n 0, 1) := by decide +kernel
theorem dX2_record_14 : decode cX2_record 14 = .ok (.getfield 19, 3) := by decide +kernel
theorem dX2_record_17 : decode cX2_record 17 = .ok (.iconst 1, 1) := by decide +kernel
theorem dX2_record_18 : decode cX2_record 18 = .ok (.iadd, 1) := by decide +kernel
theorem dX2_record_19 : decode cX2_record 19 = .ok (.bipush 16, 2) := by decide +kernel
theorem dX2_record_21 : decode cX2_record 21 = .ok (.irem, 1) := by decide +kernel
theorem dX2_record_22 : decode cX2_record 22 = .ok (.putfield 19, 3) := by decide +kernel
theorem dX2_record_25 : decode cX2_record 25 = .ok (.aload_n 0, 1) := by decide +kernel
theorem dX2_record_26 : decode cX2_record 26 = .ok (.aload_n 0, 1) := by decide +kernel
theorem dX2_record_27 : decode cX2_record 27 = .ok (.getfield 15, 3) := by decide +kernel
theorem dX2_record_30 : decode cX2_record 30 = .ok (.iconst 1, 1) := by decide +kernel
theorem dX2_record_31 : decode cX2_record 31 = .ok (.iadd, 1) := by decide +kernel
theorem dX2_record_32 : decode cX2_record 32 = .ok (.bipush 16, 2) := by decide +kernel
theorem dX2_record_34 : decode cX2_record 34 = .ok (.invokestatic 26, 3) := by decide +kernel
theorem dX2_record_37 : decode cX2_record 37 = .ok (.putfield 15, 3) := by decide +kernel
theorem dX2_record_40 : decode cX2_record 40 = .ok (.return_, 1) := by decide +kernel
theorem dX2_giveBack_0 : decode cX2_giveBack 0 = .ok (.iload_n 1, 1) := by decide +kernel
theorem dX2_giveBack_1 : decode cX2_giveBack 1 = .ok (.iconst 1, 1) := by decide +kernel
theorem dX2_giveBack_2 : decode cX2_giveBack 2 = .ok (.if_icmp .lt 11, 3) := by decide +kernel
theorem dX2_giveBack_5 : decode cX2_giveBack 5 = .ok (.iload_n 1, 1) := by decide +kernel
theorem dX2_giveBack_6 : decode cX2_giveBack 6 = .ok (.aload_n 0, 1) := by decide +kernel
theorem dX2_giveBack_7 : decode cX2_giveBack 7 = .ok (.getfield 15, 3) := by decide +kernel
theorem dX2_giveBack_10 : decode cX2_giveBack 10 = .ok (.if_icmp .le 4, 3) := by decide +kernel
theorem dX2_giveBack_13 : decode cX2_giveBack 13 = .ok (.return_, 1) := by decide +kernel
theorem dX2_giveBack_14 : decode cX2_giveBack 14 = .ok (.aload_n 0, 1) := by decide +kernel
theorem dX2_giveBack_15 : decode cX2_giveBack 15 = .ok (.aload_n 0, 1) := by decide +kernel
theorem dX2_giveBack_16 : decode cX2_giveBack 16 = .ok (.getfield 19, 3) := by decide +kernel
theorem dX2_giveBack_19 : decode cX2_giveBack 19 = .ok (.bipush 16, 2) := by decide +kernel
theorem dX2_giveBack_21 : decode cX2_giveBack 21 = .ok (.iadd, 1) := by decide +kernel
theorem dX2_giveBack_22 : decode cX2_giveBack 22 = .ok (.iload_n 1, 1) := by decide +kernel
theorem dX2_giveBack_23 : decode cX2_giveBack 23 = .ok (.isub, 1) := by decide +kernel
theorem dX2_giveBack_24 : decode cX2_giveBack 24 = .ok (.bipush 16, 2) := by decide +kernel
theorem dX2_giveBack_26 : decode cX2_giveBack 26 = .ok (.irem, 1) := by decide +kernel
theorem dX2_giveBack_27 : decode cX2_giveBack 27 = .ok (.putfield 19, 3) := by decide +kernel
theorem dX2_giveBack_30 : decode cX2_giveBack 30 = .ok (.aload_n 0, 1) := by decide +kernel
theorem dX2_giveBack_31 : decode cX2_giveBack 31 = .ok (.dup, 1) := by decide +kernel
theorem dX2_giveBack_32 : decode cX2_giveBack 32 = .ok (.getfield 15, 3) := by decide +kernel
theorem dX2_giveBack_35 : decode cX2_giveBack 35 = .ok (.iload_n 1, 1) := by decide +kernel
theorem dX2_giveBack_36 : decode cX2_giveBack 36 = .ok (.isub, 1) := by decide +kernel
theorem dX2_giveBack_37 : decode cX2_giveBack 37 = .ok (.putfield 15, 3) := by decide +kernel
theorem dX2_giveBack_40 : decode cX2_giveBack 40 = .ok (.aload_n 2, 1) := by decide +kernel
theorem dX2_giveBack_41 : decode cX2_giveBack 41 = .ok (.aload_n 0, 1) := by decide +kernel
theorem dX2_giveBack_42 : decode cX2_giveBack 42 = .ok (.getfield 11, 3) := by decide +kernel
theorem dX2_giveBack_45 : decode cX2_giveBack 45 = .ok (.aload_n 0, 1) := by decide +kernel
theorem dX2_giveBack_46 : decode cX2_giveBack 46 = .ok (.getfield 19, 3) := by decide +kernel
theorem dX2_giveBack_49 : decode cX2_giveBack 49 = .ok (.invokevirtual 32, 3) := by decide +kernel
theorem dX2_giveBack_52 : decode cX2_giveBack 52 = .ok (.return_, 1) := by decide +kernel
theorem dX2_forget_0 : decode cX2_forget 0 = .ok (.aload_n 0, 1) := by decide +kernel
theorem dX2_forget_1 : decode cX2_forget 1 = .ok (.iconst 0, 1) := by decide +kernel
theorem dX2_forget_2 : decode cX2_forget 2 = .ok (.putfield 15, 3) := by decide +kernel
theorem dX2_forget_5 : decode cX2_forget 5 = .ok (.return_, 1) := by decide +kernel
theorem dX3_init_0 : decode cX3_init 0 = .ok (.aload_n 0, 1) := by decide +kernel
theorem dX3_init_1 : decode cX3_init 1 = .ok (.invokespecial 1, 3) := by decide +kernel
theorem dX3_init_4 : decode cX3_init 4 = .ok (.aload_n 0, 1) := by decide +kernel
theorem dX3_init_5 : decode cX3_init 5 = .ok (.bipush 92, 2) := by decide +kernel
theorem dX3_init_7 : decode cX3_init 7 = .ok (.newarray .int, 2) := by decide +kernel
theorem dX3_init_9 : decode cX3_init 9 = .ok (.putfield 11, 3) := by decide +kernel
theorem dX3_init_12 : decode cX3_init 12 = .ok (.aload_n 0, 1) := by decide +kernel
theorem dX3_init_13 : decode cX3_init 13 = .ok (.iconst 2, 1) := by decide +kernel
theorem dX3_init_14 : decode cX3_init 14 = .ok (.newarray .int, 2) := by decide +kernel
theorem dX3_init_16 : decode cX3_init 16 = .ok (.putfield 15, 3) := by decide +kernel
theorem dX3_init_19 : decode cX3_init 19 = .ok (.aload_n 0, 1) := by decide +kernel
theorem dX3_init_20 : decode cX3_init 20 = .ok (.iconst 2, 1) := by decide +kernel
theorem dX3_init_21 : decode cX3_init 21 = .ok (.newarray .boolean, 2) := by decide +kernel
theorem dX3_init_23 : decode cX3_init 23 = .ok (.putfield 18, 3) := by decide +kernel
theorem dX3_init_26 : decode cX3_init 26 = .ok (.return_, 1) := by decide +kernel
theorem dX3_isImage_0 : decode cX3_isImage 0 = .ok (.iload_n 0, 1) := by decide +kernel
theorem dX3_isImage_1 : decode cX3_isImage 1 = .ok (.ifCond .lt 12, 3) := by decide +kernel
theorem dX3_isImage_4 : decode cX3_isImage 4 = .ok (.iload_n 0, 1) := by decide +kernel
theorem dX3_isImage_5 : decode cX3_isImage 5 = .ok (.iconst 2, 1) := by decide +kernel
theorem dX3_isImage_6 : decode cX3_isImage 6 = .ok (.if_icmp .ge 7, 3) := by decide +kernel
theorem dX3_isImage_9 : decode cX3_isImage 9 = .ok (.iconst 1, 1) := by decide +kernel
theorem dX3_isImage_10 : decode cX3_isImage 10 = .ok (.goto 4, 3) := by decide +kernel
theorem dX3_isImage_13 : decode cX3_isImage 13 = .ok (.iconst 0, 1) := by decide +kernel
theorem dX3_isImage_14 : decode cX3_isImage 14 = .ok (.ireturn, 1) := by decide +kernel
theorem dX3_isKept_0 : decode cX3_isKept 0 = .ok (.iload_n 1, 1) := by decide +kernel
theorem dX3_isKept_1 : decode cX3_isKept 1 = .ok (.invokestatic 22, 3) := by decide +kernel
theorem dX3_isKept_4 : decode cX3_isKept 4 = .ok (.ifCond .eq 16, 3) := by decide +kernel
theorem dX3_isKept_7 : decode cX3_isKept 7 = .ok (.aload_n 0, 1) := by decide +kernel
theorem dX3_isKept_8 : decode cX3_isKept 8 = .ok (.getfield 18, 3) := by decide +kernel
theorem dX3_isKept_11 : decode cX3_isKept 11 = .ok (.iload_n 1, 1) := by decide +kernel
theorem dX3_isKept_12 : decode cX3_isKept 12 = .ok (.baload, 1) := by decide +kernel
theorem dX3_isKept_13 : decode cX3_isKept 13 = .ok (.ifCond .eq 7, 3) := by decide +kernel
theorem dX3_isKept_16 : decode cX3_isKept 16 = .ok (.iconst 1, 1) := by decide +kernel
theorem dX3_isKept_17 : decode cX3_isKept 17 = .ok (.goto 4, 3) := by decide +kernel
theorem dX3_isKept_20 : decode cX3_isKept 20 = .ok (.iconst 0, 1) := by decide +kernel
theorem dX3_isKept_21 : decode cX3_isKept 21 = .ok (.ireturn, 1) := by decide +kernel
theorem dX3_store_0 : decode cX3_store 0 = .ok (.iload_n 1, 1) := by decide +kernel
theorem dX3_store_1 : decode cX3_store 1 = .ok (.invokestatic 22, 3) := by decide +kernel
theorem dX3_store_4 : decode cX3_store 4 = .ok (.ifCond .ne 4, 3) := by decide +kernel
theorem dX3_store_7 : decode cX3_store 7 = .ok (.return_, 1) := by decide +kernel
theorem dX3_store_8 : decode cX3_store 8 = .ok (.aload_n 2, 1) := by decide +kernel
theorem dX3_store_9 : decode cX3_store 9 = .ok (.aload_n 0, 1) := by decide +kernel
theorem dX3_store_10 : decode cX3_store 10 = .ok (.getfield 11, 3) := by decide +kernel
theorem dX3_store_13 : decode cX3_store 13 = .ok (.iload_n 1, 1) := by decide +kernel
theorem dX3_store_14 : decode cX3_store 14 = .ok (.invokevirtual 26, 3) := by decide +kernel
theorem dX3_store_17 : decode cX3_store 17 = .ok (.aload_n 0, 1) := by decide +kernel
theorem dX3_store_18 : decode cX3_store 18 = .ok (.getfield 15, 3) := by decide +kernel
theorem dX3_store_21 : decode cX3_store 21 = .ok (.iload_n 1, 1) := by decide +kernel
theorem dX3_store_22 : decode cX3_store 22 = .ok (.aload_n 3, 1) := by decide +kernel
theorem dX3_store_23 : decode cX3_store 23 = .ok (.invokevirtual 30, 3) := by decide +kernel
theorem dX3_store_26 : decode cX3_store 26 = .ok (.iastore, 1) := by decide +kernel
theorem dX3_store_27 : decode cX3_store 27 = .ok (.aload_n 0, 1) := by decide +kernel
theorem dX3_store_28 : decode cX3_store 28 = .ok (.getfield 18, 3) := by decide +kernel
theorem dX3_store_31 : decode cX3_store 31 = .ok (.iload_n 1, 1) := by decide +kernel
theorem dX3_store_32 : decode cX3_store 32 = .ok (.iconst 1, 1) := by decide +kernel
theorem dX3_store_33 : decode cX3_store 33 = .ok (.bastore, 1) := by decide +kernel
theorem dX3_store_34 : decode cX3_store 34 = .ok (.return_, 1) := by decide +kernel
theorem dX3_restore_0 : decode cX3_restore 0 = .ok (.aload_n 0, 1) := by decide +kernel
theorem dX3_restore_1 : decode cX3_restore 1 = .ok (.iload_n 1, 1) := by decide +kernel
theorem dX3_restore_2 : decode cX3_restore 2 = .ok (.invokevirtual 36, 3) := by decide +kernel
theorem dX3_restore_5 : decode cX3_restore 5 = .ok (.ifCond .ne 4, 3) := by decide +kernel
theorem dX3_restore_8 : decode cX3_restore 8 = .ok (.return_, 1) := by decide +kernel
theorem dX3_restore_9 : decode cX3_restore 9 = .ok (.aload_n 2, 1) := by decide +kernel
theorem dX3_restore_10 : decode cX3_restore 10 = .ok (.aload_n 0, 1) := by decide +kernel
theorem dX3_restore_11 : decode cX3_restore 11 = .ok (.getfield 11, 3) := by decide +kernel
theorem dX3_restore_14 : decode cX3_restore 14 = .ok (.iload_n 1, 1) := by decide +kernel
theorem dX3_restore_15 : decode cX3_restore 15 = .ok (.invokevirtual 39, 3) := by decide +kernel
theorem dX3_restore_18 : decode cX3_restore 18 = .ok (.aload_n 3, 1) := by decide +kernel
theorem dX3_restore_19 : decode cX3_restore 19 = .ok (.aload_n 0, 1) := by decide +kernel
theorem dX3_restore_20 : decode cX3_restore 20 = .ok (.getfield 15, 3) := by decide +kernel
theorem dX3_restore_23 : decode cX3_restore 23 = .ok (.iload_n 1, 1) := by decide +kernel
theorem dX3_restore_24 : decode cX3_restore 24 = .ok (.iaload, 1) := by decide +kernel
theorem dX3_restore_25 : decode cX3_restore 25 = .ok (.invokevirtual 42, 3) := by decide +kernel
theorem dX3_restore_28 : decode cX3_restore 28 = .ok (.return_, 1) := by decide +kernel
theorem dX4_init_0 : decode cX4_init 0 = .ok (.aload_n 0, 1) := by decide +kernel
theorem dX4_init_1 : decode cX4_init 1 = .ok (.invokespecial 3, 3) := by decide +kernel
theorem dX4_init_4 : decode cX4_init 4 = .ok (.aload_n 0, 1) := by decide +kernel
theorem dX4_init_5 : decode cX4_init 5 = .ok (.bipush 10, 2) := by decide +kernel
theorem dX4_init_7 : decode cX4_init 7 = .ok (.newarray .int, 2) := by decide +kernel
theorem dX4_init_9 : decode cX4_init 9 = .ok (.putfield 9, 3) := by decide +kernel
theorem dX4_init_12 : decode cX4_init 12 = .ok (.aload_n 0, 1) := by decide +kernel
theorem dX4_init_13 : decode cX4_init 13 = .ok (.bipush 10, 2) := by decide +kernel
theorem dX4_init_15 : decode cX4_init 15 = .ok (.newarray .int, 2) := by decide +kernel
theorem dX4_init_17 : decode cX4_init 17 = .ok (.putfield 15, 3) := by decide +kernel
theorem dX4_init_20 : decode cX4_init 20 = .ok (.aload_n 0, 1) := by decide +kernel
theorem dX4_init_21 : decode cX4_init 21 = .ok (.aload_n 1, 1) := by decide +kernel
theorem dX4_init_22 : decode cX4_init 22 = .ok (.putfield 18, 3) := by decide +kernel
theorem dX4_init_25 : decode cX4_init 25 = .ok (.return_, 1) := by decide +kernel
theorem dX4_read_0 : decode cX4_read 0 = .ok (.aload_n 0, 1) := by decide +kernel
theorem dX4_read_1 : decode cX4_read 1 = .ok (.getfield 9, 3) := by decide +kernel
theorem dX4_read_4 : decode cX4_read 4 = .ok (.iconst (-1), 1) := by decide +kernel
theorem dX4_read_5 : decode cX4_read 5 = .ok (.invokestatic 22, 3) := by decide +kernel
theorem dX4_read_8 : decode cX4_read 8 = .ok (.iconst 0, 1) := by decide +kernel
theorem dX4_read_9 : decode cX4_read 9 = .ok (.istore_n 1, 1) := by decide +kernel
theorem dX4_read_10 : decode cX4_read 10 = .ok (.iload_n 1, 1) := by decide +kernel
theorem dX4_read_11 : decode cX4_read 11 = .ok (.aload_n 0, 1) := by decide +kernel
theorem dX4_read_12 : decode cX4_read 12 = .ok (.getfield 18, 3) := by decide +kernel
theorem dX4_read_15 : decode cX4_read 15 = .ok (.invokevirtual 28, 3) := by decide +kernel
theorem dX4_read_18 : decode cX4_read 18 = .ok (.if_icmp .ge 36, 3) := by decide +kernel
theorem dX4_read_21 : decode cX4_read 21 = .ok (.aload_n 0, 1) := by decide +kernel
theorem dX4_read_22 : decode cX4_read 22 = .ok (.getfield 18, 3) := by decide +kernel
theorem dX4_read_25 : decode cX4_read 25 = .ok (.iload_n 1, 1) := by decide +kernel
theorem dX4_read_26 : decode cX4_read 26 = .ok (.invokevirtual 34, 3) := by decide +kernel
theorem dX4_read_29 : decode cX4_read 29 = .ok (.istore_n 2, 1) := by decide +kernel
theorem dX4_read_30 : decode cX4_read 30 = .ok (.aload_n 0, 1) := by decide +kernel
theorem dX4_read_31 : decode cX4_read 31 = .ok (.getfield 18, 3) := by decide +kernel
theorem dX4_read_34 : decode cX4_read 34 = .ok (.iload_n 2, 1) := by decide +kernel
theorem dX4_read_35 : decode cX4_read 35 = .ok (.invokevirtual 38, 3) := by decide +kernel
theorem dX4_read_38 : decode cX4_read 38 = .ok (.ifCond .eq 10, 3) := by decide +kernel
theorem dX4_read_41 : decode cX4_read 41 = .ok (.aload_n 0, 1) := by decide +kernel
theorem dX4_read_42 : decode cX4_read 42 = .ok (.getfield 9, 3) := by decide +kernel
theorem dX4_read_45 : decode cX4_read 45 = .ok (.iload_n 2, 1) := by decide +kernel
theorem dX4_read_46 : decode cX4_read 46 = .ok (.iload_n 1, 1) := by decide +kernel
theorem dX4_read_47 : decode cX4_read 47 = .ok (.iastore, 1) := by decide +kernel
theorem dX4_read_48 : decode cX4_read 48 = .ok (.iinc 1 1, 3) := by decide +kernel
theorem dX4_read_51 : decode cX4_read 51 = .ok (.goto (-41), 3) := by decide +kernel
theorem dX4_read_54 : decode cX4_read 54 = .ok (.aload_n 0, 1) := by decide +kernel
theorem dX4_read_55 : decode cX4_read 55 = .ok (.iconst 0, 1) := by decide +kernel
theorem dX4_read_56 : decode cX4_read 56 = .ok (.putfield 42, 3) := by decide +kernel
theorem dX4_read_59 : decode cX4_read 59 = .ok (.iconst 0, 1) := by decide +kernel
theorem dX4_read_60 : decode cX4_read 60 = .ok (.istore_n 1, 1) := by decide +kernel
theorem dX4_read_61 : decode cX4_read 61 = .ok (.iload_n 1, 1) := by decide +kernel
theorem dX4_read_62 : decode cX4_read 62 = .ok (.aload_n 0, 1) := by decide +kernel
theorem dX4_read_63 : decode cX4_read 63 = .ok (.getfield 18, 3) := by decide +kernel
theorem dX4_read_66 : decode cX4_read 66 = .ok (.invokevirtual 28, 3) := by decide +kernel
theorem dX4_read_69 : decode cX4_read 69 = .ok (.if_icmp .ge 66, 3) := by decide +kernel
theorem dX4_read_72 : decode cX4_read 72 = .ok (.iload_n 1, 1) := by decide +kernel
theorem dX4_read_73 : decode cX4_read 73 = .ok (.bipush 10, 2) := by decide +kernel
theorem dX4_read_75 : decode cX4_read 75 = .ok (.if_icmp .ge 60, 3) := by decide +kernel
theorem dX4_read_78 : decode cX4_read 78 = .ok (.aload_n 0, 1) := by decide +kernel
theorem dX4_read_79 : decode cX4_read 79 = .ok (.getfield 9, 3) := by decide +kernel
theorem dX4_read_82 : decode cX4_read 82 = .ok (.iload_n 1, 1) := by decide +kernel
theorem dX4_read_83 : decode cX4_read 83 = .ok (.iaload, 1) := by decide +kernel
theorem dX4_read_84 : decode cX4_read 84 = .ok (.istore_n 2, 1) := by decide +kernel
theorem dX4_read_85 : decode cX4_read 85 = .ok (.iload_n 2, 1) := by decide +kernel
theorem dX4_read_86 : decode cX4_read 86 = .ok (.ifCond .lt 23, 3) := by decide +kernel
theorem dX4_read_89 : decode cX4_read 89 = .ok (.iload_n 2, 1) := by decide +kernel
theorem dX4_read_90 : decode cX4_read 90 = .ok (.iload_n 1, 1) := by decide +kernel
theorem dX4_read_91 : decode cX4_read 91 = .ok (.if_icmp .ge 18, 3) := by decide +kernel
theorem dX4_read_94 : decode cX4_read 94 = .ok (.aload_n 0, 1) := by decide +kernel
theorem dX4_read_95 : decode cX4_read 95 = .ok (.getfield 15, 3) := by decide +kernel
theorem dX4_read_98 : decode cX4_read 98 = .ok (.iload_n 1, 1) := by decide +kernel
theorem dX4_read_99 : decode cX4_read 99 = .ok (.aload_n 0, 1) := by decide +kernel
theorem dX4_read_100 : decode cX4_read 100 = .ok (.getfield 15, 3) := by decide +kernel
theorem dX4_read_103 : decode cX4_read 103 = .ok (.iload_n 2, 1) := by decide +kernel
theorem dX4_read_104 : decode cX4_read 104 = .ok (.iaload, 1) := by decide +kernel
theorem dX4_read_105 : decode cX4_read 105 = .ok (.iastore, 1) := by decide +kernel
theorem dX4_read_106 : decode cX4_read 106 = .ok (.goto 23, 3) := by decide +kernel
theorem dX4_read_109 : decode cX4_read 109 = .ok (.aload_n 0, 1) := by decide +kernel
theorem dX4_read_110 : decode cX4_read 110 = .ok (.getfield 15, 3) := by decide +kernel
theorem dX4_read_113 : decode cX4_read 113 = .ok (.iload_n 1, 1) := by decide +kernel
theorem dX4_read_114 : decode cX4_read 114 = .ok (.aload_n 0, 1) := by decide +kernel
theorem dX4_read_115 : decode cX4_read 115 = .ok (.getfield 42, 3) := by decide +kernel
theorem dX4_read_118 : decode cX4_read 118 = .ok (.iastore, 1) := by decide +kernel
theorem dX4_read_119 : decode cX4_read 119 = .ok (.aload_n 0, 1) := by decide +kernel
theorem dX4_read_120 : decode cX4_read 120 = .ok (.dup, 1) := by decide +kernel
theorem dX4_read_121 : decode cX4_read 121 = .ok (.getfield 42, 3) := by decide +kernel
theorem dX4_read_124 : decode cX4_read 124 = .ok (.iconst 1, 1) := by decide +kernel
theorem dX4_read_125 : decode cX4_read 125 = .ok (.iadd, 1) := by decide +kernel
theorem dX4_read_126 : decode cX4_read 126 = .ok (.putfield 42, 3) := by decide +kernel
theorem dX4_read_129 : decode cX4_read 129 = .ok (.iinc 1 1, 3) := by decide +kernel
theorem dX4_read_132 : decode cX4_read 132 = .ok (.goto (-71), 3) := by decide +kernel
theorem dX4_read_135 : decode cX4_read 135 = .ok (.return_, 1) := by decide +kernel
theorem dX4_ahead_0 : decode cX4_ahead 0 = .ok (.aload_n 0, 1) := by decide +kernel
theorem dX4_ahead_1 : decode cX4_ahead 1 = .ok (.getfield 18, 3) := by decide +kernel
theorem dX4_ahead_4 : decode cX4_ahead 4 = .ok (.iload_n 1, 1) := by decide +kernel
theorem dX4_ahead_5 : decode cX4_ahead 5 = .ok (.invokevirtual 38, 3) := by decide +kernel
theorem dX4_ahead_8 : decode cX4_ahead 8 = .ok (.ifCond .eq 12, 3) := by decide +kernel
theorem dX4_ahead_11 : decode cX4_ahead 11 = .ok (.aload_n 0, 1) := by decide +kernel
theorem dX4_ahead_12 : decode cX4_ahead 12 = .ok (.getfield 9, 3) := by decide +kernel
theorem dX4_ahead_15 : decode cX4_ahead 15 = .ok (.iload_n 1, 1) := by decide +kernel
theorem dX4_ahead_16 : decode cX4_ahead 16 = .ok (.iaload, 1) := by decide +kernel
theorem dX4_ahead_17 : decode cX4_ahead 17 = .ok (.goto 4, 3) := by decide +kernel
theorem dX4_ahead_20 : decode cX4_ahead 20 = .ok (.iconst (-1), 1) := by decide +kernel
theorem dX4_ahead_21 : decode cX4_ahead 21 = .ok (.ireturn, 1) := by decide +kernel
theorem dX4_voiceWith_0 : decode cX4_voiceWith 0 = .ok (.aload_n 0, 1) := by decide +kernel
theorem dX4_voiceWith_1 : decode cX4_voiceWith 1 = .ok (.getfield 18, 3) := by decide +kernel
theorem dX4_voiceWith_4 : decode cX4_voiceWith 4 = .ok (.iload_n 1, 1) := by decide +kernel
theorem dX4_voiceWith_5 : decode cX4_voiceWith 5 = .ok (.invokevirtual 38, 3) := by decide +kernel
theorem dX4_voiceWith_8 : decode cX4_voiceWith 8 = .ok (.ifCond .eq 12, 3) := by decide +kernel
theorem dX4_voiceWith_11 : decode cX4_voiceWith 11 = .ok (.aload_n 0, 1) := by decide +kernel
theorem dX4_voiceWith_12 : decode cX4_voiceWith 12 = .ok (.getfield 15, 3) := by decide +kernel
theorem dX4_voiceWith_15 : decode cX4_voiceWith 15 = .ok (.iload_n 1, 1) := by decide +kernel
theorem dX4_voiceWith_16 : decode cX4_voiceWith 16 = .ok (.iaload, 1) := by decide +kernel
theorem dX4_voiceWith_17 : decode cX4_voiceWith 17 = .ok (.goto 4, 3) := by decide +kernel
theorem dX4_voiceWith_20 : decode cX4_voiceWith 20 = .ok (.iconst (-1), 1) := by decide +kernel
theorem dX4_voiceWith_21 : decode cX4_voiceWith 21 = .ok (.ireturn, 1) := by decide +kernel
theorem dX4_countVoices_0 : decode cX4_countVoices 0 = .ok (.aload_n 0, 1) := by decide +kernel
theorem dX4_countVoices_1 : decode cX4_countVoices 1 = .ok (.getfield 42, 3) := by decide +kernel
theorem dX4_countVoices_4 : decode cX4_countVoices 4 = .ok (.ireturn, 1) := by decide +kernel
theorem dX4_hasVoice_0 : decode cX4_hasVoice 0 = .ok (.iload_n 1, 1) := by decide +kernel
theorem dX4_hasVoice_1 : decode cX4_hasVoice 1 = .ok (.ifCond .lt 15, 3) := by decide +kernel
theorem dX4_hasVoice_4 : decode cX4_hasVoice 4 = .ok (.iload_n 1, 1) := by decide +kernel
theorem dX4_hasVoice_5 : decode cX4_hasVoice 5 = .ok (.aload_n 0, 1) := by decide +kernel
theorem dX4_hasVoice_6 : decode cX4_hasVoice 6 = .ok (.getfield 42, 3) := by decide +kernel
theorem dX4_hasVoice_9 : decode cX4_hasVoice 9 = .ok (.if_icmp .ge 7, 3) := by decide +kernel
theorem dX4_hasVoice_12 : decode cX4_hasVoice 12 = .ok (.iconst 1, 1) := by decide +kernel
theorem dX4_hasVoice_13 : decode cX4_hasVoice 13 = .ok (.goto 4, 3) := by decide +kernel
theorem dX4_hasVoice_16 : decode cX4_hasVoice 16 = .ok (.iconst 0, 1) := by decide +kernel
theorem dX4_hasVoice_17 : decode cX4_hasVoice 17 = .ok (.ireturn, 1) := by decide +kernel
theorem dX4_isIn_0 : decode cX4_isIn 0 = .ok (.aload_n 0, 1) := by decide +kernel
theorem dX4_isIn_1 : decode cX4_isIn 1 = .ok (.getfield 18, 3) := by decide +kernel
theorem dX4_isIn_4 : decode cX4_isIn 4 = .ok (.iload_n 2, 1) := by decide +kernel
theorem dX4_isIn_5 : decode cX4_isIn 5 = .ok (.invokevirtual 38, 3) := by decide +kernel
theorem dX4_isIn_8 : decode cX4_isIn 8 = .ok (.ifCond .eq 17, 3) := by decide +kernel
theorem dX4_isIn_11 : decode cX4_isIn 11 = .ok (.aload_n 0, 1) := by decide +kernel
theorem dX4_isIn_12 : decode cX4_isIn 12 = .ok (.getfield 15, 3) := by decide +kernel
theorem dX4_isIn_15 : decode cX4_isIn 15 = .ok (.iload_n 2, 1) := by decide +kernel
theorem dX4_isIn_16 : decode cX4_isIn 16 = .ok (.iaload, 1) := by decide +kernel
theorem dX4_isIn_17 : decode cX4_isIn 17 = .ok (.iload_n 1, 1) := by decide +kernel
theorem dX4_isIn_18 : decode cX4_isIn 18 = .ok (.if_icmp .ne 7, 3) := by decide +kernel
theorem dX4_isIn_21 : decode cX4_isIn 21 = .ok (.iconst 1, 1) := by decide +kernel
theorem dX4_isIn_22 : decode cX4_isIn 22 = .ok (.goto 4, 3) := by decide +kernel
theorem dX4_isIn_25 : decode cX4_isIn 25 = .ok (.iconst 0, 1) := by decide +kernel
theorem dX4_isIn_26 : decode cX4_isIn 26 = .ok (.ireturn, 1) := by decide +kernel
theorem dX4_size_0 : decode cX4_size 0 = .ok (.iconst 0, 1) := by decide +kernel
theorem dX4_size_1 : decode cX4_size 1 = .ok (.istore_n 2, 1) := by decide +kernel
theorem dX4_size_2 : decode cX4_size 2 = .ok (.iconst 0, 1) := by decide +kernel
theorem dX4_size_3 : decode cX4_size 3 = .ok (.istore_n 3, 1) := by decide +kernel
theorem dX4_size_4 : decode cX4_size 4 = .ok (.iload_n 3, 1) := by decide +kernel
theorem dX4_size_5 : decode cX4_size 5 = .ok (.aload_n 0, 1) := by decide +kernel
theorem dX4_size_6 : decode cX4_size 6 = .ok (.getfield 18, 3) := by decide +kernel
theorem dX4_size_9 : decode cX4_size 9 = .ok (.invokevirtual 28, 3) := by decide +kernel
theorem dX4_size_12 : decode cX4_size 12 = .ok (.if_icmp .ge 21, 3) := by decide +kernel
theorem dX4_size_15 : decode cX4_size 15 = .ok (.aload_n 0, 1) := by decide +kernel
theorem dX4_size_16 : decode cX4_size 16 = .ok (.iload_n 1, 1) := by decide +kernel
theorem dX4_size_17 : decode cX4_size 17 = .ok (.iload_n 3, 1) := by decide +kernel
theorem dX4_size_18 : decode cX4_size 18 = .ok (.invokevirtual 46, 3) := by decide +kernel
theorem dX4_size_21 : decode cX4_size 21 = .ok (.ifCond .eq 6, 3) := by decide +kernel
theorem dX4_size_24 : decode cX4_size 24 = .ok (.iinc 2 1, 3) := by decide +kernel
theorem dX4_size_27 : decode cX4_size 27 = .ok (.iinc 3 1, 3) := by decide +kernel
theorem dX4_size_30 : decode cX4_size 30 = .ok (.goto (-26), 3) := by decide +kernel
theorem dX4_size_33 : decode cX4_size 33 = .ok (.iload_n 2, 1) := by decide +kernel
theorem dX4_size_34 : decode cX4_size 34 = .ok (.ireturn, 1) := by decide +kernel
theorem dX4_noteOf_0 : decode cX4_noteOf 0 = .ok (.iconst 0, 1) := by decide +kernel
theorem dX4_noteOf_1 : decode cX4_noteOf 1 = .ok (.istore_n 3, 1) := by decide +kernel
theorem dX4_noteOf_2 : decode cX4_noteOf 2 = .ok (.iconst 0, 1) := by decide +kernel
theorem dX4_noteOf_3 : decode cX4_noteOf 3 = .ok (.istore 4, 2) := by decide +kernel
theorem dX4_noteOf_5 : decode cX4_noteOf 5 = .ok (.iload 4, 2) := by decide +kernel
theorem dX4_noteOf_7 : decode cX4_noteOf 7 = .ok (.aload_n 0, 1) := by decide +kernel
theorem dX4_noteOf_8 : decode cX4_noteOf 8 = .ok (.getfield 18, 3) := by decide +kernel
theorem dX4_noteOf_11 : decode cX4_noteOf 11 = .ok (.invokevirtual 28, 3) := by decide +kernel
theorem dX4_noteOf_14 : decode cX4_noteOf 14 = .ok (.if_icmp .ge 30, 3) := by decide +kernel
theorem dX4_noteOf_17 : decode cX4_noteOf 17 = .ok (.aload_n 0, 1) := by decide +kernel
theorem dX4_noteOf_18 : decode cX4_noteOf 18 = .ok (.iload_n 1, 1) := by decide +kernel
theorem dX4_noteOf_19 : decode cX4_noteOf 19 = .ok (.iload 4, 2) := by decide +kernel
theorem dX4_noteOf_21 : decode cX4_noteOf 21 = .ok (.invokevirtual 46, 3) := by decide +kernel
theorem dX4_noteOf_24 : decode cX4_noteOf 24 = .ok (.ifCond .eq 14, 3) := by decide +kernel
theorem dX4_noteOf_27 : decode cX4_noteOf 27 = .ok (.iload_n 3, 1) := by decide +kernel
theorem dX4_noteOf_28 : decode cX4_noteOf 28 = .ok (.iload_n 2, 1) := by decide +kernel
theorem dX4_noteOf_29 : decode cX4_noteOf 29 = .ok (.if_icmp .ne 6, 3) := by decide +kernel
theorem dX4_noteOf_32 : decode cX4_noteOf 32 = .ok (.iload 4, 2) := by decide +kernel
theorem dX4_noteOf_34 : decode cX4_noteOf 34 = .ok (.ireturn, 1) := by decide +kernel
theorem dX4_noteOf_35 : decode cX4_noteOf 35 = .ok (.iinc 3 1, 3) := by decide +kernel
theorem dX4_noteOf_38 : decode cX4_noteOf 38 = .ok (.iinc 4 1, 3) := by decide +kernel
theorem dX4_noteOf_41 : decode cX4_noteOf 41 = .ok (.goto (-36), 3) := by decide +kernel
theorem dX4_noteOf_44 : decode cX4_noteOf 44 = .ok (.iconst (-1), 1) := by decide +kernel
theorem dX4_noteOf_45 : decode cX4_noteOf 45 = .ok (.ireturn, 1) := by decide +kernel
theorem dX4_lowest_0 : decode cX4_lowest 0 = .ok (.aload_n 0, 1) := by decide +kernel
theorem dX4_lowest_1 : decode cX4_lowest 1 = .ok (.getfield 18, 3) := by decide +kernel
theorem dX4_lowest_4 : decode cX4_lowest 4 = .ok (.aload_n 0, 1) := by decide +kernel
theorem dX4_lowest_5 : decode cX4_lowest 5 = .ok (.iload_n 1, 1) := by decide +kernel
theorem dX4_lowest_6 : decode cX4_lowest 6 = .ok (.iconst 0, 1) := by decide +kernel
theorem dX4_lowest_7 : decode cX4_lowest 7 = .ok (.invokevirtual 50, 3) := by decide +kernel
theorem dX4_lowest_10 : decode cX4_lowest 10 = .ok (.invokevirtual 54, 3) := by decide +kernel
theorem dX4_lowest_13 : decode cX4_lowest 13 = .ok (.istore_n 2, 1) := by decide +kernel
theorem dX4_lowest_14 : decode cX4_lowest 14 = .ok (.iconst 0, 1) := by decide +kernel
theorem dX4_lowest_15 : decode cX4_lowest 15 = .ok (.istore_n 3, 1) := by decide +kernel
theorem dX4_lowest_16 : decode cX4_lowest 16 = .ok (.iload_n 3, 1) := by decide +kernel
theorem dX4_lowest_17 : decode cX4_lowest 17 = .ok (.aload_n 0, 1) := by decide +kernel
theorem dX4_lowest_18 : decode cX4_lowest 18 = .ok (.getfield 18, 3) := by decide +kernel
theorem dX4_lowest_21 : decode cX4_lowest 21 = .ok (.invokevirtual 28, 3) := by decide +kernel
theorem dX4_lowest_24 : decode cX4_lowest 24 = .ok (.if_icmp .ge 31, 3) := by decide +kernel
theorem dX4_lowest_27 : decode cX4_lowest 27 = .ok (.aload_n 0, 1) := by decide +kernel
theorem dX4_lowest_28 : decode cX4_lowest 28 = .ok (.iload_n 1, 1) := by decide +kernel
theorem dX4_lowest_29 : decode cX4_lowest 29 = .ok (.iload_n 3, 1) := by decide +kernel
theorem dX4_lowest_30 : decode cX4_lowest 30 = .ok (.invokevirtual 46, 3) := by decide +kernel
theorem dX4_lowest_33 : decode cX4_lowest 33 = .ok (.ifCond .eq 16, 3) := by decide +kernel
theorem dX4_lowest_36 : decode cX4_lowest 36 = .ok (.iload_n 2, 1) := by decide +kernel
theorem dX4_lowest_37 : decode cX4_lowest 37 = .ok (.aload_n 0, 1) := by decide +kernel
theorem dX4_lowest_38 : decode cX4_lowest 38 = .ok (.getfield 18, 3) := by decide +kernel
theorem dX4_lowest_41 : decode cX4_lowest 41 = .ok (.iload_n 3, 1) := by decide +kernel
theorem dX4_lowest_42 : decode cX4_lowest 42 = .ok (.invokevirtual 54, 3) := by decide +kernel
theorem dX4_lowest_45 : decode cX4_lowest 45 = .ok (.invokestatic 57, 3) := by decide +kernel
theorem dX4_lowest_48 : decode cX4_lowest 48 = .ok (.istore_n 2, 1) := by decide +kernel
theorem dX4_lowest_49 : decode cX4_lowest 49 = .ok (.iinc 3 1, 3) := by decide +kernel
theorem dX4_lowest_52 : decode cX4_lowest 52 = .ok (.goto (-36), 3) := by decide +kernel
theorem dX4_lowest_55 : decode cX4_lowest 55 = .ok (.iload_n 2, 1) := by decide +kernel
theorem dX4_lowest_56 : decode cX4_lowest 56 = .ok (.ireturn, 1) := by decide +kernel
theorem dX4_highest_0 : decode cX4_highest 0 = .ok (.aload_n 0, 1) := by decide +kernel
theorem dX4_highest_1 : decode cX4_highest 1 = .ok (.getfield 18, 3) := by decide +kernel
theorem dX4_highest_4 : decode cX4_highest 4 = .ok (.aload_n 0, 1) := by decide +kernel
theorem dX4_highest_5 : decode cX4_highest 5 = .ok (.iload_n 1, 1) := by decide +kernel
theorem dX4_highest_6 : decode cX4_highest 6 = .ok (.iconst 0, 1) := by decide +kernel
theorem dX4_highest_7 : decode cX4_highest 7 = .ok (.invokevirtual 50, 3) := by decide +kernel
theorem dX4_highest_10 : decode cX4_highest 10 = .ok (.invokevirtual 54, 3) := by decide +kernel
theorem dX4_highest_13 : decode cX4_highest 13 = .ok (.istore_n 2, 1) := by decide +kernel
theorem dX4_highest_14 : decode cX4_highest 14 = .ok (.iconst 0, 1) := by decide +kernel
theorem dX4_highest_15 : decode cX4_highest 15 = .ok (.istore_n 3, 1) := by decide +kernel
theorem dX4_highest_16 : decode cX4_highest 16 = .ok (.iload_n 3, 1) := by decide +kernel
theorem dX4_highest_17 : decode cX4_highest 17 = .ok (.aload_n 0, 1) := by decide +kernel
theorem dX4_highest_18 : decode cX4_highest 18 = .ok (.getfield 18, 3) := by decide +kernel
theorem dX4_highest_21 : decode cX4_highest 21 = .ok (.invokevirtual 28, 3) := by decide +kernel
theorem dX4_highest_24 : decode cX4_highest 24 = .ok (.if_icmp .ge 31, 3) := by decide +kernel
theorem dX4_highest_27 : decode cX4_highest 27 = .ok (.aload_n 0, 1) := by decide +kernel
theorem dX4_highest_28 : decode cX4_highest 28 = .ok (.iload_n 1, 1) := by decide +kernel
theorem dX4_highest_29 : decode cX4_highest 29 = .ok (.iload_n 3, 1) := by decide +kernel
theorem dX4_highest_30 : decode cX4_highest 30 = .ok (.invokevirtual 46, 3) := by decide +kernel
theorem dX4_highest_33 : decode cX4_highest 33 = .ok (.ifCond .eq 16, 3) := by decide +kernel
theorem dX4_highest_36 : decode cX4_highest 36 = .ok (.iload_n 2, 1) := by decide +kernel
theorem dX4_highest_37 : decode cX4_highest 37 = .ok (.aload_n 0, 1) := by decide +kernel
theorem dX4_highest_38 : decode cX4_highest 38 = .ok (.getfield 18, 3) := by decide +kernel
theorem dX4_highest_41 : decode cX4_highest 41 = .ok (.iload_n 3, 1) := by decide +kernel
theorem dX4_highest_42 : decode cX4_highest 42 = .ok (.invokevirtual 54, 3) := by decide +kernel
theorem dX4_highest_45 : decode cX4_highest 45 = .ok (.invokestatic 62, 3) := by decide +kernel
theorem dX4_highest_48 : decode cX4_highest 48 = .ok (.istore_n 2, 1) := by decide +kernel
theorem dX4_highest_49 : decode cX4_highest 49 = .ok (.iinc 3 1, 3) := by decide +kernel
theorem dX4_highest_52 : decode cX4_highest 52 = .ok (.goto (-36), 3) := by decide +kernel
theorem dX4_highest_55 : decode cX4_highest 55 = .ok (.iload_n 2, 1) := by decide +kernel
theorem dX4_highest_56 : decode cX4_highest 56 = .ok (.ireturn, 1) := by decide +kernel
theorem dX4_rests_0 : decode cX4_rests 0 = .ok (.iconst 0, 1) := by decide +kernel
theorem dX4_rests_1 : decode cX4_rests 1 = .ok (.istore_n 2, 1) := by decide +kernel
theorem dX4_rests_2 : decode cX4_rests 2 = .ok (.iconst 0, 1) := by decide +kernel
theorem dX4_rests_3 : decode cX4_rests 3 = .ok (.istore_n 3, 1) := by decide +kernel
theorem dX4_rests_4 : decode cX4_rests 4 = .ok (.iload_n 3, 1) := by decide +kernel
theorem dX4_rests_5 : decode cX4_rests 5 = .ok (.aload_n 0, 1) := by decide +kernel
theorem dX4_rests_6 : decode cX4_rests 6 = .ok (.getfield 18, 3) := by decide +kernel
theorem dX4_rests_9 : decode cX4_rests 9 = .ok (.invokevirtual 28, 3) := by decide +kernel
theorem dX4_rests_12 : decode cX4_rests 12 = .ok (.if_icmp .ge 55, 3) := by decide +kernel
theorem dX4_rests_15 : decode cX4_rests 15 = .ok (.aload_n 0, 1) := by decide +kernel
theorem dX4_rests_16 : decode cX4_rests 16 = .ok (.getfield 18, 3) := by decide +kernel
theorem dX4_rests_19 : decode cX4_rests 19 = .ok (.iload_n 3, 1) := by decide +kernel
theorem dX4_rests_20 : decode cX4_rests 20 = .ok (.invokevirtual 34, 3) := by decide +kernel
theorem dX4_rests_23 : decode cX4_rests 23 = .ok (.istore 4, 2) := by decide +kernel
theorem dX4_rests_25 : decode cX4_rests 25 = .ok (.aload_n 0, 1) := by decide +kernel
theorem dX4_rests_26 : decode cX4_rests 26 = .ok (.iload_n 1, 1) := by decide +kernel
theorem dX4_rests_27 : decode cX4_rests 27 = .ok (.iload_n 3, 1) := by decide +kernel
theorem dX4_rests_28 : decode cX4_rests 28 = .ok (.invokevirtual 46, 3) := by decide +kernel
theorem dX4_rests_31 : decode cX4_rests 31 = .ok (.ifCond .eq 30, 3) := by decide +kernel
theorem dX4_rests_34 : decode cX4_rests 34 = .ok (.iload 4, 2) := by decide +kernel
theorem dX4_rests_36 : decode cX4_rests 36 = .ok (.iconst (-1), 1) := by decide +kernel
theorem dX4_rests_37 : decode cX4_rests 37 = .ok (.if_icmp .eq 24, 3) := by decide +kernel
theorem dX4_rests_40 : decode cX4_rests 40 = .ok (.iload_n 2, 1) := by decide +kernel
theorem dX4_rests_41 : decode cX4_rests 41 = .ok (.aload_n 0, 1) := by decide +kernel
theorem dX4_rests_42 : decode cX4_rests 42 = .ok (.getfield 18, 3) := by decide +kernel
theorem dX4_rests_45 : decode cX4_rests 45 = .ok (.iload 4, 2) := by decide +kernel
theorem dX4_rests_47 : decode cX4_rests 47 = .ok (.invokevirtual 65, 3) := by decide +kernel
theorem dX4_rests_50 : decode cX4_rests 50 = .ok (.aload_n 0, 1) := by decide +kernel
theorem dX4_rests_51 : decode cX4_rests 51 = .ok (.getfield 18, 3) := by decide +kernel
theorem dX4_rests_54 : decode cX4_rests 54 = .ok (.iload_n 3, 1) := by decide +kernel
theorem dX4_rests_55 : decode cX4_rests 55 = .ok (.invokevirtual 68, 3) := by decide +kernel
theorem dX4_rests_58 : decode cX4_rests 58 = .ok (.isub, 1) := by decide +kernel
theorem dX4_rests_59 : decode cX4_rests 59 = .ok (.iadd, 1) := by decide +kernel
theorem dX4_rests_60 : decode cX4_rests 60 = .ok (.istore_n 2, 1) := by decide +kernel
theorem dX4_rests_61 : decode cX4_rests 61 = .ok (.iinc 3 1, 3) := by decide +kernel
theorem dX4_rests_64 : decode cX4_rests 64 = .ok (.goto (-60), 3) := by decide +kernel
theorem dX4_rests_67 : decode cX4_rests 67 = .ok (.iload_n 2, 1) := by decide +kernel
theorem dX4_rests_68 : decode cX4_rests 68 = .ok (.ireturn, 1) := by decide +kernel
theorem dX4_costOf_0 : decode cX4_costOf 0 = .ok (.aload_n 0, 1) := by decide +kernel
theorem dX4_costOf_1 : decode cX4_costOf 1 = .ok (.getfield 18, 3) := by decide +kernel
theorem dX4_costOf_4 : decode cX4_costOf 4 = .ok (.iconst 3, 1) := by decide +kernel
theorem dX4_costOf_5 : decode cX4_costOf 5 = .ok (.invokevirtual 71, 3) := by decide +kernel
theorem dX4_costOf_8 : decode cX4_costOf 8 = .ok (.istore_n 2, 1) := by decide +kernel
theorem dX4_costOf_9 : decode cX4_costOf 9 = .ok (.iconst 0, 1) := by decide +kernel
theorem dX4_costOf_10 : decode cX4_costOf 10 = .ok (.istore_n 3, 1) := by decide +kernel
theorem dX4_costOf_11 : decode cX4_costOf 11 = .ok (.iload_n 3, 1) := by decide +kernel
theorem dX4_costOf_12 : decode cX4_costOf 12 = .ok (.aload_n 0, 1) := by decide +kernel
theorem dX4_costOf_13 : decode cX4_costOf 13 = .ok (.getfield 18, 3) := by decide +kernel
theorem dX4_costOf_16 : decode cX4_costOf 16 = .ok (.invokevirtual 28, 3) := by decide +kernel
theorem dX4_costOf_19 : decode cX4_costOf 19 = .ok (.if_icmp .ge 26, 3) := by decide +kernel
theorem dX4_costOf_22 : decode cX4_costOf 22 = .ok (.aload_n 0, 1) := by decide +kernel
theorem dX4_costOf_23 : decode cX4_costOf 23 = .ok (.iload_n 1, 1) := by decide +kernel
theorem dX4_costOf_24 : decode cX4_costOf 24 = .ok (.iload_n 3, 1) := by decide +kernel
theorem dX4_costOf_25 : decode cX4_costOf 25 = .ok (.invokevirtual 46, 3) := by decide +kernel
theorem dX4_costOf_28 : decode cX4_costOf 28 = .ok (.ifCond .eq 11, 3) := by decide +kernel
theorem dX4_costOf_31 : decode cX4_costOf 31 = .ok (.iload_n 2, 1) := by decide +kernel
theorem dX4_costOf_32 : decode cX4_costOf 32 = .ok (.aload_n 0, 1) := by decide +kernel
theorem dX4_costOf_33 : decode cX4_costOf 33 = .ok (.iload_n 3, 1) := by decide +kernel
theorem dX4_costOf_34 : decode cX4_costOf 34 = .ok (.invokevirtual 74, 3) := by decide +kernel
theorem dX4_costOf_37 : decode cX4_costOf 37 = .ok (.iadd, 1) := by decide +kernel
theorem dX4_costOf_38 : decode cX4_costOf 38 = .ok (.istore_n 2, 1) := by decide +kernel
theorem dX4_costOf_39 : decode cX4_costOf 39 = .ok (.iinc 3 1, 3) := by decide +kernel
theorem dX4_costOf_42 : decode cX4_costOf 42 = .ok (.goto (-31), 3) := by decide +kernel
theorem dX4_costOf_45 : decode cX4_costOf 45 = .ok (.iload_n 2, 1) := by decide +kernel
theorem dX4_costOf_46 : decode cX4_costOf 46 = .ok (.ireturn, 1) := by decide +kernel
theorem dX4_costOfAll_0 : decode cX4_costOfAll 0 = .ok (.aload_n 0, 1) := by decide +kernel
theorem dX4_costOfAll_1 : decode cX4_costOfAll 1 = .ok (.invokevirtual 77, 3) := by decide +kernel
theorem dX4_costOfAll_4 : decode cX4_costOfAll 4 = .ok (.aload_n 0, 1) := by decide +kernel
theorem dX4_costOfAll_5 : decode cX4_costOfAll 5 = .ok (.getfield 18, 3) := by decide +kernel
theorem dX4_costOfAll_8 : decode cX4_costOfAll 8 = .ok (.iconst 3, 1) := by decide +kernel
theorem dX4_costOfAll_9 : decode cX4_costOfAll 9 = .ok (.invokevirtual 71, 3) := by decide +kernel
theorem dX4_costOfAll_12 : decode cX4_costOfAll 12 = .ok (.imul, 1) := by decide +kernel
theorem dX4_costOfAll_13 : decode cX4_costOfAll 13 = .ok (.istore_n 1, 1) := by decide +kernel
theorem dX4_costOfAll_14 : decode cX4_costOfAll 14 = .ok (.iconst 0, 1) := by decide +kernel
theorem dX4_costOfAll_15 : decode cX4_costOfAll 15 = .ok (.istore_n 2, 1) := by decide +kernel
theorem dX4_costOfAll_16 : decode cX4_costOfAll 16 = .ok (.iload_n 2, 1) := by decide +kernel
theorem dX4_costOfAll_17 : decode cX4_costOfAll 17 = .ok (.aload_n 0, 1) := by decide +kernel
theorem dX4_costOfAll_18 : decode cX4_costOfAll 18 = .ok (.getfield 18, 3) := by decide +kernel
theorem dX4_costOfAll_21 : decode cX4_costOfAll 21 = .ok (.invokevirtual 28, 3) := by decide +kernel
theorem dX4_costOfAll_24 : decode cX4_costOfAll 24 = .ok (.if_icmp .ge 17, 3) := by decide +kernel
theorem dX4_costOfAll_27 : decode cX4_costOfAll 27 = .ok (.iload_n 1, 1) := by decide +kernel
theorem dX4_costOfAll_28 : decode cX4_costOfAll 28 = .ok (.aload_n 0, 1) := by decide +kernel
theorem dX4_costOfAll_29 : decode cX4_costOfAll 29 = .ok (.iload_n 2, 1) := by decide +kernel
theorem dX4_costOfAll_30 : decode cX4_costOfAll 30 = .ok (.invokevirtual 74, 3) := by decide +kernel
theorem dX4_costOfAll_33 : decode cX4_costOfAll 33 = .ok (.iadd, 1) := by decide +kernel
theorem dX4_costOfAll_34 : decode cX4_costOfAll 34 = .ok (.istore_n 1, 1) := by decide +kernel
theorem dX4_costOfAll_35 : decode cX4_costOfAll 35 = .ok (.iinc 2 1, 3) := by decide +kernel
theorem dX4_costOfAll_38 : decode cX4_costOfAll 38 = .ok (.goto (-22), 3) := by decide +kernel
theorem dX4_costOfAll_41 : decode cX4_costOfAll 41 = .ok (.iload_n 1, 1) := by decide +kernel
theorem dX4_costOfAll_42 : decode cX4_costOfAll 42 = .ok (.ireturn, 1) := by decide +kernel
theorem dX4_costBehind_0 : decode cX4_costBehind 0 = .ok (.aload_n 0, 1) := by decide +kernel
theorem dX4_costBehind_1 : decode cX4_costBehind 1 = .ok (.getfield 18, 3) := by decide +kernel
theorem dX4_costBehind_4 : decode cX4_costBehind 4 = .ok (.iload_n 1, 1) := by decide +kernel
theorem dX4_costBehind_5 : decode cX4_costBehind 5 = .ok (.invokevirtual 34, 3) := by decide +kernel
theorem dX4_costBehind_8 : decode cX4_costBehind 8 = .ok (.istore_n 2, 1) := by decide +kernel
theorem dX4_costBehind_9 : decode cX4_costBehind 9 = .ok (.iload_n 2, 1) := by decide +kernel
theorem dX4_costBehind_10 : decode cX4_costBehind 10 = .ok (.iconst (-1), 1) := by decide +kernel
theorem dX4_costBehind_11 : decode cX4_costBehind 11 = .ok (.if_icmp .ne 7, 3) := by decide +kernel
theorem dX4_costBehind_14 : decode cX4_costBehind 14 = .ok (.iconst 0, 1) := by decide +kernel
theorem dX4_costBehind_15 : decode cX4_costBehind 15 = .ok (.goto 12, 3) := by decide +kernel
theorem dX4_costBehind_18 : decode cX4_costBehind 18 = .ok (.aload_n 0, 1) := by decide +kernel
theorem dX4_costBehind_19 : decode cX4_costBehind 19 = .ok (.getfield 18, 3) := by decide +kernel
theorem dX4_costBehind_22 : decode cX4_costBehind 22 = .ok (.iload_n 1, 1) := by decide +kernel
theorem dX4_costBehind_23 : decode cX4_costBehind 23 = .ok (.iload_n 2, 1) := by decide +kernel
theorem dX4_costBehind_24 : decode cX4_costBehind 24 = .ok (.invokevirtual 80, 3) := by decide +kernel
theorem dX4_costBehind_27 : decode cX4_costBehind 27 = .ok (.ireturn, 1) := by decide +kernel
theorem dX4_crossings_0 : decode cX4_crossings 0 = .ok (.iconst 0, 1) := by decide +kernel
theorem dX4_crossings_1 : decode cX4_crossings 1 = .ok (.istore_n 1, 1) := by decide +kernel
theorem dX4_crossings_2 : decode cX4_crossings 2 = .ok (.iconst 0, 1) := by decide +kernel
theorem dX4_crossings_3 : decode cX4_crossings 3 = .ok (.istore_n 2, 1) := by decide +kernel
theorem dX4_crossings_4 : decode cX4_crossings 4 = .ok (.iload_n 2, 1) := by decide +kernel
theorem dX4_crossings_5 : decode cX4_crossings 5 = .ok (.aload_n 0, 1) := by decide +kernel
theorem dX4_crossings_6 : decode cX4_crossings 6 = .ok (.getfield 18, 3) := by decide +kernel
theorem dX4_crossings_9 : decode cX4_crossings 9 = .ok (.invokevirtual 28, 3) := by decide +kernel
theorem dX4_crossings_12 : decode cX4_crossings 12 = .ok (.if_icmp .ge 42, 3) := by decide +kernel
theorem dX4_crossings_15 : decode cX4_crossings 15 = .ok (.iload_n 2, 1) := by decide +kernel
theorem dX4_crossings_16 : decode cX4_crossings 16 = .ok (.iconst 1, 1) := by decide +kernel
theorem dX4_crossings_17 : decode cX4_crossings 17 = .ok (.iadd, 1) := by decide +kernel
theorem dX4_crossings_18 : decode cX4_crossings 18 = .ok (.istore_n 3, 1) := by decide +kernel
theorem dX4_crossings_19 : decode cX4_crossings 19 = .ok (.iload_n 3, 1) := by decide +kernel
theorem dX4_crossings_20 : decode cX4_crossings 20 = .ok (.aload_n 0, 1) := by decide +kernel
theorem dX4_crossings_21 : decode cX4_crossings 21 = .ok (.getfield 18, 3) := by decide +kernel
theorem dX4_crossings_24 : decode cX4_crossings 24 = .ok (.invokevirtual 28, 3) := by decide +kernel
theorem dX4_crossings_27 : decode cX4_crossings 27 = .ok (.if_icmp .ge 21, 3) := by decide +kernel
theorem dX4_crossings_30 : decode cX4_crossings 30 = .ok (.aload_n 0, 1) := by decide +kernel
theorem dX4_crossings_31 : decode cX4_crossings 31 = .ok (.iload_n 2, 1) := by decide +kernel
theorem dX4_crossings_32 : decode cX4_crossings 32 = .ok (.iload_n 3, 1) := by decide +kernel
theorem dX4_crossings_33 : decode cX4_crossings 33 = .ok (.invokevirtual 83, 3) := by decide +kernel
theorem dX4_crossings_36 : decode cX4_crossings 36 = .ok (.ifCond .eq 6, 3) := by decide +kernel
theorem dX4_crossings_39 : decode cX4_crossings 39 = .ok (.iinc 1 1, 3) := by decide +kernel
theorem dX4_crossings_42 : decode cX4_crossings 42 = .ok (.iinc 3 1, 3) := by decide +kernel
theorem dX4_crossings_45 : decode cX4_crossings 45 = .ok (.goto (-26), 3) := by decide +kernel
theorem dX4_crossings_48 : decode cX4_crossings 48 = .ok (.iinc 2 1, 3) := by decide +kernel
theorem dX4_crossings_51 : decode cX4_crossings 51 = .ok (.goto (-47), 3) := by decide +kernel
theorem dX4_crossings_54 : decode cX4_crossings 54 = .ok (.iload_n 1, 1) := by decide +kernel
theorem dX4_crossings_55 : decode cX4_crossings 55 = .ok (.ireturn, 1) := by decide +kernel
theorem dX4_cross_0 : decode cX4_cross 0 = .ok (.aload_n 0, 1) := by decide +kernel
theorem dX4_cross_1 : decode cX4_cross 1 = .ok (.getfield 18, 3) := by decide +kernel
theorem dX4_cross_4 : decode cX4_cross 4 = .ok (.iload_n 1, 1) := by decide +kernel
theorem dX4_cross_5 : decode cX4_cross 5 = .ok (.invokevirtual 34, 3) := by decide +kernel
theorem dX4_cross_8 : decode cX4_cross 8 = .ok (.istore_n 3, 1) := by decide +kernel
theorem dX4_cross_9 : decode cX4_cross 9 = .ok (.aload_n 0, 1) := by decide +kernel
theorem dX4_cross_10 : decode cX4_cross 10 = .ok (.getfield 18, 3) := by decide +kernel
theorem dX4_cross_13 : decode cX4_cross 13 = .ok (.iload_n 2, 1) := by decide +kernel
theorem dX4_cross_14 : decode cX4_cross 14 = .ok (.invokevirtual 34, 3) := by decide +kernel
theorem dX4_cross_17 : decode cX4_cross 17 = .ok (.istore 4, 2) := by decide +kernel
theorem dX4_cross_19 : decode cX4_cross 19 = .ok (.iload_n 3, 1) := by decide +kernel
theorem dX4_cross_20 : decode cX4_cross 20 = .ok (.iconst (-1), 1) := by decide +kernel
theorem dX4_cross_21 : decode cX4_cross 21 = .ok (.if_icmp .eq 9, 3) := by decide +kernel
theorem dX4_cross_24 : decode cX4_cross 24 = .ok (.iload 4, 2) := by decide +kernel
theorem dX4_cross_26 : decode cX4_cross 26 = .ok (.iconst (-1), 1) := by decide +kernel
theorem dX4_cross_27 : decode cX4_cross 27 = .ok (.if_icmp .ne 5, 3) := by decide +kernel
theorem dX4_cross_30 : decode cX4_cross 30 = .ok (.iconst 0, 1) := by decide +kernel
theorem dX4_cross_31 : decode cX4_cross 31 = .ok (.ireturn, 1) := by decide +kernel
theorem dX4_cross_32 : decode cX4_cross 32 = .ok (.aload_n 0, 1) := by decide +kernel
theorem dX4_cross_33 : decode cX4_cross 33 = .ok (.getfield 18, 3) := by decide +kernel
theorem dX4_cross_36 : decode cX4_cross 36 = .ok (.iload_n 1, 1) := by decide +kernel
theorem dX4_cross_37 : decode cX4_cross 37 = .ok (.invokevirtual 65, 3) := by decide +kernel
theorem dX4_cross_40 : decode cX4_cross 40 = .ok (.aload_n 0, 1) := by decide +kernel
theorem dX4_cross_41 : decode cX4_cross 41 = .ok (.getfield 18, 3) := by decide +kernel
theorem dX4_cross_44 : decode cX4_cross 44 = .ok (.iload 4, 2) := by decide +kernel
theorem dX4_cross_46 : decode cX4_cross 46 = .ok (.invokevirtual 65, 3) := by decide +kernel
theorem dX4_cross_49 : decode cX4_cross 49 = .ok (.if_icmp .ge 22, 3) := by decide +kernel
theorem dX4_cross_52 : decode cX4_cross 52 = .ok (.aload_n 0, 1) := by decide +kernel
theorem dX4_cross_53 : decode cX4_cross 53 = .ok (.getfield 18, 3) := by decide +kernel
theorem dX4_cross_56 : decode cX4_cross 56 = .ok (.iload_n 2, 1) := by decide +kernel
theorem dX4_cross_57 : decode cX4_cross 57 = .ok (.invokevirtual 65, 3) := by decide +kernel
theorem dX4_cross_60 : decode cX4_cross 60 = .ok (.aload_n 0, 1) := by decide +kernel
theorem dX4_cross_61 : decode cX4_cross 61 = .ok (.getfield 18, 3) := by decide +kernel
theorem dX4_cross_64 : decode cX4_cross 64 = .ok (.iload_n 3, 1) := by decide +kernel
theorem dX4_cross_65 : decode cX4_cross 65 = .ok (.invokevirtual 65, 3) := by decide +kernel
theorem dX4_cross_68 : decode cX4_cross 68 = .ok (.if_icmp .lt 5, 3) := by decide +kernel
theorem dX4_cross_71 : decode cX4_cross 71 = .ok (.iconst 0, 1) := by decide +kernel
theorem dX4_cross_72 : decode cX4_cross 72 = .ok (.ireturn, 1) := by decide +kernel
theorem dX4_cross_73 : decode cX4_cross 73 = .ok (.aload_n 0, 1) := by decide +kernel
theorem dX4_cross_74 : decode cX4_cross 74 = .ok (.getfield 18, 3) := by decide +kernel
theorem dX4_cross_77 : decode cX4_cross 77 = .ok (.iload_n 1, 1) := by decide +kernel
theorem dX4_cross_78 : decode cX4_cross 78 = .ok (.invokevirtual 54, 3) := by decide +kernel
theorem dX4_cross_81 : decode cX4_cross 81 = .ok (.aload_n 0, 1) := by decide +kernel
theorem dX4_cross_82 : decode cX4_cross 82 = .ok (.getfield 18, 3) := by decide +kernel
theorem dX4_cross_85 : decode cX4_cross 85 = .ok (.iload_n 2, 1) := by decide +kernel
theorem dX4_cross_86 : decode cX4_cross 86 = .ok (.invokevirtual 54, 3) := by decide +kernel
theorem dX4_cross_89 : decode cX4_cross 89 = .ok (.isub, 1) := by decide +kernel
theorem dX4_cross_90 : decode cX4_cross 90 = .ok (.istore 5, 2) := by decide +kernel
theorem dX4_cross_92 : decode cX4_cross 92 = .ok (.aload_n 0, 1) := by decide +kernel
theorem dX4_cross_93 : decode cX4_cross 93 = .ok (.getfield 18, 3) := by decide +kernel
theorem dX4_cross_96 : decode cX4_cross 96 = .ok (.iload_n 3, 1) := by decide +kernel
theorem dX4_cross_97 : decode cX4_cross 97 = .ok (.invokevirtual 54, 3) := by decide +kernel
theorem dX4_cross_100 : decode cX4_cross 100 = .ok (.aload_n 0, 1) := by decide +kernel
theorem dX4_cross_101 : decode cX4_cross 101 = .ok (.getfield 18, 3) := by decide +kernel
theorem dX4_cross_104 : decode cX4_cross 104 = .ok (.iload 4, 2) := by decide +kernel
theorem dX4_cross_106 : decode cX4_cross 106 = .ok (.invokevirtual 54, 3) := by decide +kernel
theorem dX4_cross_109 : decode cX4_cross 109 = .ok (.isub, 1) := by decide +kernel
theorem dX4_cross_110 : decode cX4_cross 110 = .ok (.istore 6, 2) := by decide +kernel
theorem dX4_cross_112 : decode cX4_cross 112 = .ok (.iload 5, 2) := by decide +kernel
theorem dX4_cross_114 : decode cX4_cross 114 = .ok (.ifCond .ge 8, 3) := by decide +kernel
theorem dX4_cross_117 : decode cX4_cross 117 = .ok (.iload 6, 2) := by decide +kernel
theorem dX4_cross_119 : decode cX4_cross 119 = .ok (.ifCond .gt 13, 3) := by decide +kernel
theorem dX4_cross_122 : decode cX4_cross 122 = .ok (.iload 5, 2) := by decide +kernel
theorem dX4_cross_124 : decode cX4_cross 124 = .ok (.ifCond .le 12, 3) := by decide +kernel
theorem dX4_cross_127 : decode cX4_cross 127 = .ok (.iload 6, 2) := by decide +kernel
theorem dX4_cross_129 : decode cX4_cross 129 = .ok (.ifCond .ge 7, 3) := by decide +kernel
theorem dX4_cross_132 : decode cX4_cross 132 = .ok (.iconst 1, 1) := by decide +kernel
theorem dX4_cross_133 : decode cX4_cross 133 = .ok (.goto 4, 3) := by decide +kernel
theorem dX4_cross_136 : decode cX4_cross 136 = .ok (.iconst 0, 1) := by decide +kernel
theorem dX4_cross_137 : decode cX4_cross 137 = .ok (.ireturn, 1) := by decide +kernel
theorem dX4_mendCrossings_0 : decode cX4_mendCrossings 0 = .ok (.iconst 0, 1) := by decide +kernel
theorem dX4_mendCrossings_1 : decode cX4_mendCrossings 1 = .ok (.istore_n 1, 1) := by decide +kernel
theorem dX4_mendCrossings_2 : decode cX4_mendCrossings 2 = .ok (.iload_n 1, 1) := by decide +kernel
theorem dX4_mendCrossings_3 : decode cX4_mendCrossings 3 = .ok (.bipush 50, 2) := by decide +kernel
theorem dX4_mendCrossings_5 : decode cX4_mendCrossings 5 = .ok (.if_icmp .ge 16, 3) := by decide +kernel
theorem dX4_mendCrossings_8 : decode cX4_mendCrossings 8 = .ok (.aload_n 0, 1) := by decide +kernel
theorem dX4_mendCrossings_9 : decode cX4_mendCrossings 9 = .ok (.invokevirtual 86, 3) := by decide +kernel
theorem dX4_mendCrossings_12 : decode cX4_mendCrossings 12 = .ok (.ifCond .eq 9, 3) := by decide +kernel
theorem dX4_mendCrossings_15 : decode cX4_mendCrossings 15 = .ok (.iinc 1 1, 3) := by decide +kernel
theorem dX4_mendCrossings_18 : decode cX4_mendCrossings 18 = .ok (.goto (-16), 3) := by decide +kernel
theorem dX4_mendCrossings_21 : decode cX4_mendCrossings 21 = .ok (.iload_n 1, 1) := by decide +kernel
theorem dX4_mendCrossings_22 : decode cX4_mendCrossings 22 = .ok (.ireturn, 1) := by decide +kernel
theorem dX4_mendFirst_0 : decode cX4_mendFirst 0 = .ok (.iconst 0, 1) := by decide +kernel
theorem dX4_mendFirst_1 : decode cX4_mendFirst 1 = .ok (.istore_n 1, 1) := by decide +kernel
theorem dX4_mendFirst_2 : decode cX4_mendFirst 2 = .ok (.iload_n 1, 1) := by decide +kernel
theorem dX4_mendFirst_3 : decode cX4_mendFirst 3 = .ok (.aload_n 0, 1) := by decide +kernel
theorem dX4_mendFirst_4 : decode cX4_mendFirst 4 = .ok (.getfield 18, 3) := by decide +kernel
theorem dX4_mendFirst_7 : decode cX4_mendFirst 7 = .ok (.invokevirtual 28, 3) := by decide +kernel
theorem dX4_mendFirst_10 : decode cX4_mendFirst 10 = .ok (.if_icmp .ge 75, 3) := by decide +kernel
theorem dX4_mendFirst_13 : decode cX4_mendFirst 13 = .ok (.iload_n 1, 1) := by decide +kernel
theorem dX4_mendFirst_14 : decode cX4_mendFirst 14 = .ok (.iconst 1, 1) := by decide +kernel
theorem dX4_mendFirst_15 : decode cX4_mendFirst 15 = .ok (.iadd, 1) := by decide +kernel
theorem dX4_mendFirst_16 : decode cX4_mendFirst 16 = .ok (.istore_n 2, 1) := by decide +kernel
theorem dX4_mendFirst_17 : decode cX4_mendFirst 17 = .ok (.iload_n 2, 1) := by decide +kernel
theorem dX4_mendFirst_18 : decode cX4_mendFirst 18 = .ok (.aload_n 0, 1) := by decide +kernel
theorem dX4_mendFirst_19 : decode cX4_mendFirst 19 = .ok (.getfield 18, 3) := by decide +kernel
theorem dX4_mendFirst_22 : decode cX4_mendFirst 22 = .ok (.invokevirtual 28, 3) := by decide +kernel
theorem dX4_mendFirst_25 : decode cX4_mendFirst 25 = .ok (.if_icmp .ge 54, 3) := by decide +kernel
theorem dX4_mendFirst_28 : decode cX4_mendFirst 28 = .ok (.aload_n 0, 1) := by decide +kernel
theorem dX4_mendFirst_29 : decode cX4_mendFirst 29 = .ok (.iload_n 1, 1) := by decide +kernel
theorem dX4_mendFirst_30 : decode cX4_mendFirst 30 = .ok (.iload_n 2, 1) := by decide +kernel
theorem dX4_mendFirst_31 : decode cX4_mendFirst 31 = .ok (.invokevirtual 90, 3) := by decide +kernel
theorem dX4_mendFirst_34 : decode cX4_mendFirst 34 = .ok (.ifCond .eq 39, 3) := by decide +kernel
theorem dX4_mendFirst_37 : decode cX4_mendFirst 37 = .ok (.aload_n 0, 1) := by decide +kernel
theorem dX4_mendFirst_38 : decode cX4_mendFirst 38 = .ok (.getfield 18, 3) := by decide +kernel
theorem dX4_mendFirst_41 : decode cX4_mendFirst 41 = .ok (.iload_n 1, 1) := by decide +kernel
theorem dX4_mendFirst_42 : decode cX4_mendFirst 42 = .ok (.invokevirtual 34, 3) := by decide +kernel
theorem dX4_mendFirst_45 : decode cX4_mendFirst 45 = .ok (.istore_n 3, 1) := by decide +kernel
theorem dX4_mendFirst_46 : decode cX4_mendFirst 46 = .ok (.aload_n 0, 1) := by decide +kernel
theorem dX4_mendFirst_47 : decode cX4_mendFirst 47 = .ok (.getfield 18, 3) := by decide +kernel
theorem dX4_mendFirst_50 : decode cX4_mendFirst 50 = .ok (.iload_n 1, 1) := by decide +kernel
theorem dX4_mendFirst_51 : decode cX4_mendFirst 51 = .ok (.aload_n 0, 1) := by decide +kernel
theorem dX4_mendFirst_52 : decode cX4_mendFirst 52 = .ok (.getfield 18, 3) := by decide +kernel
theorem dX4_mendFirst_55 : decode cX4_mendFirst 55 = .ok (.iload_n 2, 1) := by decide +kernel
theorem dX4_mendFirst_56 : decode cX4_mendFirst 56 = .ok (.invokevirtual 34, 3) := by decide +kernel
theorem dX4_mendFirst_59 : decode cX4_mendFirst 59 = .ok (.invokevirtual 93, 3) := by decide +kernel
theorem dX4_mendFirst_62 : decode cX4_mendFirst 62 = .ok (.aload_n 0, 1) := by decide +kernel
theorem dX4_mendFirst_63 : decode cX4_mendFirst 63 = .ok (.getfield 18, 3) := by decide +kernel
theorem dX4_mendFirst_66 : decode cX4_mendFirst 66 = .ok (.iload_n 2, 1) := by decide +kernel
theorem dX4_mendFirst_67 : decode cX4_mendFirst 67 = .ok (.iload_n 3, 1) := by decide +kernel
theorem dX4_mendFirst_68 : decode cX4_mendFirst 68 = .ok (.invokevirtual 93, 3) := by decide +kernel
theorem dX4_mendFirst_71 : decode cX4_mendFirst 71 = .ok (.iconst 1, 1) := by decide +kernel
theorem dX4_mendFirst_72 : decode cX4_mendFirst 72 = .ok (.ireturn, 1) := by decide +kernel
theorem dX4_mendFirst_73 : decode cX4_mendFirst 73 = .ok (.iinc 2 1, 3) := by decide +kernel
theorem dX4_mendFirst_76 : decode cX4_mendFirst 76 = .ok (.goto (-59), 3) := by decide +kernel
theorem dX4_mendFirst_79 : decode cX4_mendFirst 79 = .ok (.iinc 1 1, 3) := by decide +kernel
theorem dX4_mendFirst_82 : decode cX4_mendFirst 82 = .ok (.goto (-80), 3) := by decide +kernel
theorem dX4_mendFirst_85 : decode cX4_mendFirst 85 = .ok (.iconst 0, 1) := by decide +kernel
theorem dX4_mendFirst_86 : decode cX4_mendFirst 86 = .ok (.ireturn, 1) := by decide +kernel
theorem dX4_canMend_0 : decode cX4_canMend 0 = .ok (.aload_n 0, 1) := by decide +kernel
theorem dX4_canMend_1 : decode cX4_canMend 1 = .ok (.iload_n 1, 1) := by decide +kernel
theorem dX4_canMend_2 : decode cX4_canMend 2 = .ok (.iload_n 2, 1) := by decide +kernel
theorem dX4_canMend_3 : decode cX4_canMend 3 = .ok (.invokevirtual 83, 3) := by decide +kernel
theorem dX4_canMend_6 : decode cX4_canMend 6 = .ok (.ifCond .eq 45, 3) := by decide +kernel
theorem dX4_canMend_9 : decode cX4_canMend 9 = .ok (.aload_n 0, 1) := by decide +kernel
theorem dX4_canMend_10 : decode cX4_canMend 10 = .ok (.getfield 18, 3) := by decide +kernel
theorem dX4_canMend_13 : decode cX4_canMend 13 = .ok (.iload_n 1, 1) := by decide +kernel
theorem dX4_canMend_14 : decode cX4_canMend 14 = .ok (.aload_n 0, 1) := by decide +kernel
theorem dX4_canMend_15 : decode cX4_canMend 15 = .ok (.getfield 18, 3) := by decide +kernel
theorem dX4_canMend_18 : decode cX4_canMend 18 = .ok (.iload_n 2, 1) := by decide +kernel
theorem dX4_canMend_19 : decode cX4_canMend 19 = .ok (.invokevirtual 34, 3) := by decide +kernel
theorem dX4_canMend_22 : decode cX4_canMend 22 = .ok (.invokevirtual 97, 3) := by decide +kernel
theorem dX4_canMend_25 : decode cX4_canMend 25 = .ok (.ifCond .eq 26, 3) := by decide +kernel
theorem dX4_canMend_28 : decode cX4_canMend 28 = .ok (.aload_n 0, 1) := by decide +kernel
theorem dX4_canMend_29 : decode cX4_canMend 29 = .ok (.getfield 18, 3) := by decide +kernel
theorem dX4_canMend_32 : decode cX4_canMend 32 = .ok (.iload_n 2, 1) := by decide +kernel
theorem dX4_canMend_33 : decode cX4_canMend 33 = .ok (.aload_n 0, 1) := by decide +kernel
theorem dX4_canMend_34 : decode cX4_canMend 34 = .ok (.getfield 18, 3) := by decide +kernel
theorem dX4_canMend_37 : decode cX4_canMend 37 = .ok (.iload_n 1, 1) := by decide +kernel
theorem dX4_canMend_38 : decode cX4_canMend 38 = .ok (.invokevirtual 34, 3) := by decide +kernel
theorem dX4_canMend_41 : decode cX4_canMend 41 = .ok (.invokevirtual 97, 3) := by decide +kernel
theorem dX4_canMend_44 : decode cX4_canMend 44 = .ok (.ifCond .eq 7, 3) := by decide +kernel
theorem dX4_canMend_47 : decode cX4_canMend 47 = .ok (.iconst 1, 1) := by decide +kernel
theorem dX4_canMend_48 : decode cX4_canMend 48 = .ok (.goto 4, 3) := by decide +kernel
theorem dX4_canMend_51 : decode cX4_canMend 51 = .ok (.iconst 0, 1) := by decide +kernel
theorem dX4_canMend_52 : decode cX4_canMend 52 = .ok (.ireturn, 1) := by decide +kernel
theorem dX5_init_0 : decode cX5_init 0 = .ok (.aload_n 0, 1) := by decide +kernel
theorem dX5_init_1 : decode cX5_init 1 = .ok (.invokespecial 3, 3) := by decide +kernel
theorem dX5_init_4 : decode cX5_init 4 = .ok (.aload_n 0, 1) := by decide +kernel
theorem dX5_init_5 : decode cX5_init 5 = .ok (.bipush 100, 2) := by decide +kernel
theorem dX5_init_7 : decode cX5_init 7 = .ok (.newarray .int, 2) := by decide +kernel
theorem dX5_init_9 : decode cX5_init 9 = .ok (.putfield 9, 3) := by decide +kernel
theorem dX5_init_12 : decode cX5_init 12 = .ok (.aload_n 0, 1) := by decide +kernel
theorem dX5_init_13 : decode cX5_init 13 = .ok (.sipush 1024, 3) := by decide +kernel
theorem dX5_init_16 : decode cX5_init 16 = .ok (.newarray .int, 2) := by decide +kernel
theorem dX5_init_18 : decode cX5_init 18 = .ok (.putfield 15, 3) := by decide +kernel
theorem dX5_init_21 : decode cX5_init 21 = .ok (.aload_n 0, 1) := by decide +kernel
theorem dX5_init_22 : decode cX5_init 22 = .ok (.bipush 11, 2) := by decide +kernel
theorem dX5_init_24 : decode cX5_init 24 = .ok (.newarray .int, 2) := by decide +kernel
theorem dX5_init_26 : decode cX5_init 26 = .ok (.putfield 18, 3) := by decide +kernel
theorem dX5_init_29 : decode cX5_init 29 = .ok (.aload_n 0, 1) := by decide +kernel
theorem dX5_init_30 : decode cX5_init 30 = .ok (.bipush 10, 2) := by decide +kernel
theorem dX5_init_32 : decode cX5_init 32 = .ok (.newarray .int, 2) := by decide +kernel
theorem dX5_init_34 : decode cX5_init 34 = .ok (.putfield 21, 3) := by decide +kernel
theorem dX5_init_37 : decode cX5_init 37 = .ok (.aload_n 0, 1) := by decide +kernel
theorem dX5_init_38 : decode cX5_init 38 = .ok (.iconst (-1), 1) := by decide +kernel
theorem dX5_init_39 : decode cX5_init 39 = .ok (.putfield 24, 3) := by decide +kernel
theorem dX5_init_42 : decode cX5_init 42 = .ok (.aload_n 0, 1) := by decide +kernel
theorem dX5_init_43 : decode cX5_init 43 = .ok (.iconst (-1), 1) := by decide +kernel
theorem dX5_init_44 : decode cX5_init 44 = .ok (.putfield 28, 3) := by decide +kernel
theorem dX5_init_47 : decode cX5_init 47 = .ok (.aload_n 0, 1) := by decide +kernel
theorem dX5_init_48 : decode cX5_init 48 = .ok (.aload_n 1, 1) := by decide +kernel
theorem dX5_init_49 : decode cX5_init 49 = .ok (.putfield 31, 3) := by decide +kernel
theorem dX5_init_52 : decode cX5_init 52 = .ok (.return_, 1) := by decide +kernel
theorem dX5_weigh_0 : decode cX5_weigh 0 = .ok (.aload_n 0, 1) := by decide +kernel
theorem dX5_weigh_1 : decode cX5_weigh 1 = .ok (.getfield 24, 3) := by decide +kernel
theorem dX5_weigh_4 : decode cX5_weigh 4 = .ok (.aload_n 0, 1) := by decide +kernel
theorem dX5_weigh_5 : decode cX5_weigh 5 = .ok (.getfield 31, 3) := by decide +kernel
theorem dX5_weigh_8 : decode cX5_weigh 8 = .ok (.invokevirtual 35, 3) := by decide +kernel
theorem dX5_weigh_11 : decode cX5_weigh 11 = .ok (.if_icmp .ne 12, 3) := by decide +kernel
theorem dX5_weigh_14 : decode cX5_weigh 14 = .ok (.aload_n 0, 1) := by decide +kernel
theorem dX5_weigh_15 : decode cX5_weigh 15 = .ok (.getfield 28, 3) := by decide +kernel
theorem dX5_weigh_18 : decode cX5_weigh 18 = .ok (.iload_n 1, 1) := by decide +kernel
theorem dX5_weigh_19 : decode cX5_weigh 19 = .ok (.if_icmp .ne 4, 3) := by decide +kernel
theorem dX5_weigh_22 : decode cX5_weigh 22 = .ok (.return_, 1) := by decide +kernel
theorem dX5_weigh_23 : decode cX5_weigh 23 = .ok (.aload_n 0, 1) := by decide +kernel
theorem dX5_weigh_24 : decode cX5_weigh 24 = .ok (.aload_n 0, 1) := by decide +kernel
theorem dX5_weigh_25 : decode cX5_weigh 25 = .ok (.getfield 31, 3) := by decide +kernel
theorem dX5_weigh_28 : decode cX5_weigh 28 = .ok (.invokevirtual 35, 3) := by decide +kernel
theorem dX5_weigh_31 : decode cX5_weigh 31 = .ok (.putfield 24, 3) := by decide +kernel
theorem dX5_weigh_34 : decode cX5_weigh 34 = .ok (.aload_n 0, 1) := by decide +kernel
theorem dX5_weigh_35 : decode cX5_weigh 35 = .ok (.iload_n 1, 1) := by decide +kernel
theorem dX5_weigh_36 : decode cX5_weigh 36 = .ok (.putfield 28, 3) := by decide +kernel
theorem dX5_weigh_39 : decode cX5_weigh 39 = .ok (.aload_n 0, 1) := by decide +kernel
theorem dX5_weigh_40 : decode cX5_weigh 40 = .ok (.aload_n 0, 1) := by decide +kernel
theorem dX5_weigh_41 : decode cX5_weigh 41 = .ok (.getfield 31, 3) := by decide +kernel
theorem dX5_weigh_44 : decode cX5_weigh 44 = .ok (.invokevirtual 41, 3) := by decide +kernel
theorem dX5_weigh_47 : decode cX5_weigh 47 = .ok (.bipush 10, 2) := by decide +kernel
theorem dX5_weigh_49 : decode cX5_weigh 49 = .ok (.invokestatic 44, 3) := by decide +kernel
theorem dX5_weigh_52 : decode cX5_weigh 52 = .ok (.putfield 50, 3) := by decide +kernel
theorem dX5_weigh_55 : decode cX5_weigh 55 = .ok (.aload_n 0, 1) := by decide +kernel
theorem dX5_weigh_56 : decode cX5_weigh 56 = .ok (.aload_n 0, 1) := by decide +kernel
theorem dX5_weigh_57 : decode cX5_weigh 57 = .ok (.getfield 31, 3) := by decide +kernel
theorem dX5_weigh_60 : decode cX5_weigh 60 = .ok (.iconst 3, 1) := by decide +kernel
theorem dX5_weigh_61 : decode cX5_weigh 61 = .ok (.invokevirtual 52, 3) := by decide +kernel
theorem dX5_weigh_64 : decode cX5_weigh 64 = .ok (.putfield 56, 3) := by decide +kernel
theorem dX5_weigh_67 : decode cX5_weigh 67 = .ok (.iconst 0, 1) := by decide +kernel
theorem dX5_weigh_68 : decode cX5_weigh 68 = .ok (.istore_n 2, 1) := by decide +kernel
theorem dX5_weigh_69 : decode cX5_weigh 69 = .ok (.iload_n 2, 1) := by decide +kernel
theorem dX5_weigh_70 : decode cX5_weigh 70 = .ok (.aload_n 0, 1) := by decide +kernel
theorem dX5_weigh_71 : decode cX5_weigh 71 = .ok (.getfield 50, 3) := by decide +kernel
theorem dX5_weigh_74 : decode cX5_weigh 74 = .ok (.if_icmp .ge 63, 3) := by decide +kernel
theorem dX5_weigh_77 : decode cX5_weigh 77 = .ok (.iconst 0, 1) := by decide +kernel
theorem dX5_weigh_78 : decode cX5_weigh 78 = .ok (.istore_n 3, 1) := by decide +kernel
theorem dX5_weigh_79 : decode cX5_weigh 79 = .ok (.iload_n 3, 1) := by decide +kernel
theorem dX5_weigh_80 : decode cX5_weigh 80 = .ok (.aload_n 0, 1) := by decide +kernel
theorem dX5_weigh_81 : decode cX5_weigh 81 = .ok (.getfield 50, 3) := by decide +kernel
theorem dX5_weigh_84 : decode cX5_weigh 84 = .ok (.if_icmp .ge 47, 3) := by decide +kernel
theorem dX5_weigh_87 : decode cX5_weigh 87 = .ok (.aload_n 0, 1) := by decide +kernel
theorem dX5_weigh_88 : decode cX5_weigh 88 = .ok (.getfield 9, 3) := by decide +kernel
theorem dX5_weigh_91 : decode cX5_weigh 91 = .ok (.iload_n 2, 1) := by decide +kernel
theorem dX5_weigh_92 : decode cX5_weigh 92 = .ok (.bipush 10, 2) := by decide +kernel
theorem dX5_weigh_94 : decode cX5_weigh 94 = .ok (.imul, 1) := by decide +kernel
theorem dX5_weigh_95 : decode cX5_weigh 95 = .ok (.iload_n 3, 1) := by decide +kernel
theorem dX5_weigh_96 : decode cX5_weigh 96 = .ok (.iadd, 1) := by decide +kernel
theorem dX5_weigh_97 : decode cX5_weigh 97 = .ok (.iload_n 2, 1) := by decide +kernel
theorem dX5_weigh_98 : decode cX5_weigh 98 = .ok (.iload_n 1, 1) := by decide +kernel
theorem dX5_weigh_99 : decode cX5_weigh 99 = .ok (.if_icmp .eq 8, 3) := by decide +kernel
theorem dX5_weigh_102 : decode cX5_weigh 102 = .ok (.iload_n 3, 1) := by decide +kernel
theorem dX5_weigh_103 : decode cX5_weigh 103 = .ok (.iload_n 1, 1) := by decide +kernel
theorem dX5_weigh_104 : decode cX5_weigh 104 = .ok (.if_icmp .ne 8, 3) := by decide +kernel
theorem dX5_weigh_107 : decode cX5_weigh 107 = .ok (.ldc 59, 2) := by decide +kernel
theorem dX5_weigh_109 : decode cX5_weigh 109 = .ok (.goto 15, 3) := by decide +kernel
theorem dX5_weigh_112 : decode cX5_weigh 112 = .ok (.aload_n 0, 1) := by decide +kernel
theorem dX5_weigh_113 : decode cX5_weigh 113 = .ok (.getfield 31, 3) := by decide +kernel
theorem dX5_weigh_116 : decode cX5_weigh 116 = .ok (.iload_n 2, 1) := by decide +kernel
theorem dX5_weigh_117 : decode cX5_weigh 117 = .ok (.iload_n 3, 1) := by decide +kernel
theorem dX5_weigh_118 : decode cX5_weigh 118 = .ok (.invokevirtual 60, 3) := by decide +kernel
theorem dX5_weigh_121 : decode cX5_weigh 121 = .ok (.invokestatic 63, 3) := by decide +kernel
theorem dX5_weigh_124 : decode cX5_weigh 124 = .ok (.iastore, 1) := by decide +kernel
theorem dX5_weigh_125 : decode cX5_weigh 125 = .ok (.iinc 3 1, 3) := by decide +kernel
theorem dX5_weigh_128 : decode cX5_weigh 128 = .ok (.goto (-49), 3) := by decide +kernel
theorem dX5_weigh_131 : decode cX5_weigh 131 = .ok (.iinc 2 1, 3) := by decide +kernel
theorem dX5_weigh_134 : decode cX5_weigh 134 = .ok (.goto (-65), 3) := by decide +kernel
theorem dX5_weigh_137 : decode cX5_weigh 137 = .ok (.aload_n 0, 1) := by decide +kernel
theorem dX5_weigh_138 : decode cX5_weigh 138 = .ok (.getfield 50, 3) := by decide +kernel
theorem dX5_weigh_141 : decode cX5_weigh 141 = .ok (.ifCond .le 19, 3) := by decide +kernel
theorem dX5_weigh_144 : decode cX5_weigh 144 = .ok (.aload_n 0, 1) := by decide +kernel
theorem dX5_weigh_145 : decode cX5_weigh 145 = .ok (.getfield 15, 3) := by decide +kernel
theorem dX5_weigh_148 : decode cX5_weigh 148 = .ok (.aload_n 0, 1) := by decide +kernel
theorem dX5_weigh_149 : decode cX5_weigh 149 = .ok (.aload_n 0, 1) := by decide +kernel
theorem dX5_weigh_150 : decode cX5_weigh 150 = .ok (.getfield 50, 3) := by decide +kernel
theorem dX5_weigh_153 : decode cX5_weigh 153 = .ok (.iconst 1, 1) := by decide +kernel
theorem dX5_weigh_154 : decode cX5_weigh 154 = .ok (.isub, 1) := by decide +kernel
theorem dX5_weigh_155 : decode cX5_weigh 155 = .ok (.invokevirtual 66, 3) := by decide +kernel
theorem dX5_weigh_158 : decode cX5_weigh 158 = .ok (.iconst 0, 1) := by decide +kernel
theorem dX5_weigh_159 : decode cX5_weigh 159 = .ok (.iastore, 1) := by decide +kernel
theorem dX5_weigh_160 : decode cX5_weigh 160 = .ok (.aload_n 0, 1) := by decide +kernel
theorem dX5_weigh_161 : decode cX5_weigh 161 = .ok (.getfield 50, 3) := by decide +kernel
theorem dX5_weigh_164 : decode cX5_weigh 164 = .ok (.iconst 2, 1) := by decide +kernel
theorem dX5_weigh_165 : decode cX5_weigh 165 = .ok (.isub, 1) := by decide +kernel
theorem dX5_weigh_166 : decode cX5_weigh 166 = .ok (.istore_n 2, 1) := by decide +kernel
theorem dX5_weigh_167 : decode cX5_weigh 167 = .ok (.iload_n 2, 1) := by decide +kernel
theorem dX5_weigh_168 : decode cX5_weigh 168 = .ok (.ifCond .lt 14, 3) := by decide +kernel
theorem dX5_weigh_171 : decode cX5_weigh 171 = .ok (.aload_n 0, 1) := by decide +kernel
theorem dX5_weigh_172 : decode cX5_weigh 172 = .ok (.iload_n 2, 1) := by decide +kernel
theorem dX5_weigh_173 : decode cX5_weigh 173 = .ok (.invokevirtual 69, 3) := by decide +kernel
theorem dX5_weigh_176 : decode cX5_weigh 176 = .ok (.iinc 2 (-1), 3) := by decide +kernel
theorem dX5_weigh_179 : decode cX5_weigh 179 = .ok (.goto (-12), 3) := by decide +kernel
theorem dX5_weigh_182 : decode cX5_weigh 182 = .ok (.aload_n 0, 1) := by decide +kernel
theorem dX5_weigh_183 : decode cX5_weigh 183 = .ok (.invokevirtual 73, 3) := by decide +kernel
theorem dX5_weigh_186 : decode cX5_weigh 186 = .ok (.return_, 1) := by decide +kernel
theorem dX5_barredOr_0 : decode cX5_barredOr 0 = .ok (.iload_n 0, 1) := by decide +kernel
theorem dX5_barredOr_1 : decode cX5_barredOr 1 = .ok (.iconst (-1), 1) := by decide +kernel
theorem dX5_barredOr_2 : decode cX5_barredOr 2 = .ok (.if_icmp .ne 8, 3) := by decide +kernel
theorem dX5_barredOr_5 : decode cX5_barredOr 5 = .ok (.ldc 59, 2) := by decide +kernel
theorem dX5_barredOr_7 : decode cX5_barredOr 7 = .ok (.goto 4, 3) := by decide +kernel
theorem dX5_barredOr_10 : decode cX5_barredOr 10 = .ok (.iload_n 0, 1) := by decide +kernel
theorem dX5_barredOr_11 : decode cX5_barredOr 11 = .ok (.ireturn, 1) := by decide +kernel
theorem dX5_bit_0 : decode cX5_bit 0 = .ok (.iconst 1, 1) := by decide +kernel
theorem dX5_bit_1 : decode cX5_bit 1 = .ok (.aload_n 0, 1) := by decide +kernel
theorem dX5_bit_2 : decode cX5_bit 2 = .ok (.getfield 50, 3) := by decide +kernel
theorem dX5_bit_5 : decode cX5_bit 5 = .ok (.iconst 1, 1) := by decide +kernel
theorem dX5_bit_6 : decode cX5_bit 6 = .ok (.isub, 1) := by decide +kernel
theorem dX5_bit_7 : decode cX5_bit 7 = .ok (.iload_n 1, 1) := by decide +kernel
theorem dX5_bit_8 : decode cX5_bit 8 = .ok (.isub, 1) := by decide +kernel
theorem dX5_bit_9 : decode cX5_bit 9 = .ok (.ishl, 1) := by decide +kernel
theorem dX5_bit_10 : decode cX5_bit 10 = .ok (.ireturn, 1) := by decide +kernel
theorem dX5_lineCost_0 : decode cX5_lineCost 0 = .ok (.iload_n 1, 1) := by decide +kernel
theorem dX5_lineCost_1 : decode cX5_lineCost 1 = .ok (.ifCond .lt 33, 3) := by decide +kernel
theorem dX5_lineCost_4 : decode cX5_lineCost 4 = .ok (.iload_n 1, 1) := by decide +kernel
theorem dX5_lineCost_5 : decode cX5_lineCost 5 = .ok (.bipush 10, 2) := by decide +kernel
theorem dX5_lineCost_7 : decode cX5_lineCost 7 = .ok (.if_icmp .ge 27, 3) := by decide +kernel
theorem dX5_lineCost_10 : decode cX5_lineCost 10 = .ok (.iload_n 2, 1) := by decide +kernel
theorem dX5_lineCost_11 : decode cX5_lineCost 11 = .ok (.ifCond .lt 23, 3) := by decide +kernel
theorem dX5_lineCost_14 : decode cX5_lineCost 14 = .ok (.iload_n 2, 1) := by decide +kernel
theorem dX5_lineCost_15 : decode cX5_lineCost 15 = .ok (.bipush 10, 2) := by decide +kernel
theorem dX5_lineCost_17 : decode cX5_lineCost 17 = .ok (.if_icmp .ge 17, 3) := by decide +kernel
theorem dX5_lineCost_20 : decode cX5_lineCost 20 = .ok (.aload_n 0, 1) := by decide +kernel
theorem dX5_lineCost_21 : decode cX5_lineCost 21 = .ok (.getfield 9, 3) := by decide +kernel
theorem dX5_lineCost_24 : decode cX5_lineCost 24 = .ok (.iload_n 1, 1) := by decide +kernel
theorem dX5_lineCost_25 : decode cX5_lineCost 25 = .ok (.bipush 10, 2) := by decide +kernel
theorem dX5_lineCost_27 : decode cX5_lineCost 27 = .ok (.imul, 1) := by decide +kernel
theorem dX5_lineCost_28 : decode cX5_lineCost 28 = .ok (.iload_n 2, 1) := by decide +kernel
theorem dX5_lineCost_29 : decode cX5_lineCost 29 = .ok (.iadd, 1) := by decide +kernel
theorem dX5_lineCost_30 : decode cX5_lineCost 30 = .ok (.iaload, 1) := by decide +kernel
theorem dX5_lineCost_31 : decode cX5_lineCost 31 = .ok (.goto 5, 3) := by decide +kernel
theorem dX5_lineCost_34 : decode cX5_lineCost 34 = .ok (.ldc 59, 2) := by decide +kernel
theorem dX5_lineCost_36 : decode cX5_lineCost 36 = .ok (.ireturn, 1) := by decide +kernel
theorem dX5_weighFrom_0 : decode cX5_weighFrom 0 = .ok (.aload_n 0, 1) := by decide +kernel
theorem dX5_weighFrom_1 : decode cX5_weighFrom 1 = .ok (.iload_n 1, 1) := by decide +kernel
theorem dX5_weighFrom_2 : decode cX5_weighFrom 2 = .ok (.iconst 1, 1) := by decide +kernel
theorem dX5_weighFrom_3 : decode cX5_weighFrom 3 = .ok (.iadd, 1) := by decide +kernel
theorem dX5_weighFrom_4 : decode cX5_weighFrom 4 = .ok (.invokevirtual 66, 3) := by decide +kernel
theorem dX5_weighFrom_7 : decode cX5_weighFrom 7 = .ok (.istore_n 2, 1) := by decide +kernel
theorem dX5_weighFrom_8 : decode cX5_weighFrom 8 = .ok (.iconst 0, 1) := by decide +kernel
theorem dX5_weighFrom_9 : decode cX5_weighFrom 9 = .ok (.istore_n 3, 1) := by decide +kernel
theorem dX5_weighFrom_10 : decode cX5_weighFrom 10 = .ok (.iload_n 3, 1) := by decide +kernel
theorem dX5_weighFrom_11 : decode cX5_weighFrom 11 = .ok (.iload_n 2, 1) := by decide +kernel
theorem dX5_weighFrom_12 : decode cX5_weighFrom 12 = .ok (.if_icmp .ge 39, 3) := by decide +kernel
theorem dX5_weighFrom_15 : decode cX5_weighFrom 15 = .ok (.aload_n 0, 1) := by decide +kernel
theorem dX5_weighFrom_16 : decode cX5_weighFrom 16 = .ok (.getfield 15, 3) := by decide +kernel
theorem dX5_weighFrom_19 : decode cX5_weighFrom 19 = .ok (.iconst 2, 1) := by decide +kernel
theorem dX5_weighFrom_20 : decode cX5_weighFrom 20 = .ok (.iload_n 2, 1) := by decide +kernel
theorem dX5_weighFrom_21 : decode cX5_weighFrom 21 = .ok (.imul, 1) := by decide +kernel
theorem dX5_weighFrom_22 : decode cX5_weighFrom 22 = .ok (.iload_n 3, 1) := by decide +kernel
theorem dX5_weighFrom_23 : decode cX5_weighFrom 23 = .ok (.iadd, 1) := by decide +kernel
theorem dX5_weighFrom_24 : decode cX5_weighFrom 24 = .ok (.aload_n 0, 1) := by decide +kernel
theorem dX5_weighFrom_25 : decode cX5_weighFrom 25 = .ok (.getfield 15, 3) := by decide +kernel
theorem dX5_weighFrom_28 : decode cX5_weighFrom 28 = .ok (.iload_n 2, 1) := by decide +kernel
theorem dX5_weighFrom_29 : decode cX5_weighFrom 29 = .ok (.iload_n 3, 1) := by decide +kernel
theorem dX5_weighFrom_30 : decode cX5_weighFrom 30 = .ok (.iadd, 1) := by decide +kernel
theorem dX5_weighFrom_31 : decode cX5_weighFrom 31 = .ok (.iaload, 1) := by decide +kernel
theorem dX5_weighFrom_32 : decode cX5_weighFrom 32 = .ok (.iastore, 1) := by decide +kernel
theorem dX5_weighFrom_33 : decode cX5_weighFrom 33 = .ok (.aload_n 0, 1) := by decide +kernel
theorem dX5_weighFrom_34 : decode cX5_weighFrom 34 = .ok (.getfield 15, 3) := by decide +kernel
theorem dX5_weighFrom_37 : decode cX5_weighFrom 37 = .ok (.iconst 3, 1) := by decide +kernel
theorem dX5_weighFrom_38 : decode cX5_weighFrom 38 = .ok (.iload_n 2, 1) := by decide +kernel
theorem dX5_weighFrom_39 : decode cX5_weighFrom 39 = .ok (.imul, 1) := by decide +kernel
theorem dX5_weighFrom_40 : decode cX5_weighFrom 40 = .ok (.iload_n 3, 1) := by decide +kernel
theorem dX5_weighFrom_41 : decode cX5_weighFrom 41 = .ok (.iadd, 1) := by decide +kernel
theorem dX5_weighFrom_42 : decode cX5_weighFrom 42 = .ok (.ldc 59, 2) := by decide +kernel
theorem dX5_weighFrom_44 : decode cX5_weighFrom 44 = .ok (.iastore, 1) := by decide +kernel
theorem dX5_weighFrom_45 : decode cX5_weighFrom 45 = .ok (.iinc 3 1, 3) := by decide +kernel
theorem dX5_weighFrom_48 : decode cX5_weighFrom 48 = .ok (.goto (-38), 3) := by decide +kernel
theorem dX5_weighFrom_51 : decode cX5_weighFrom 51 = .ok (.iload_n 1, 1) := by decide +kernel
theorem dX5_weighFrom_52 : decode cX5_weighFrom 52 = .ok (.iconst 1, 1) := by decide +kernel
theorem dX5_weighFrom_53 : decode cX5_weighFrom 53 = .ok (.iadd, 1) := by decide +kernel
theorem dX5_weighFrom_54 : decode cX5_weighFrom 54 = .ok (.istore_n 3, 1) := by decide +kernel
theorem dX5_weighFrom_55 : decode cX5_weighFrom 55 = .ok (.iload_n 3, 1) := by decide +kernel
theorem dX5_weighFrom_56 : decode cX5_weighFrom 56 = .ok (.aload_n 0, 1) := by decide +kernel
theorem dX5_weighFrom_57 : decode cX5_weighFrom 57 = .ok (.getfield 50, 3) := by decide +kernel
theorem dX5_weighFrom_60 : decode cX5_weighFrom 60 = .ok (.if_icmp .ge 36, 3) := by decide +kernel
theorem dX5_weighFrom_63 : decode cX5_weighFrom 63 = .ok (.aload_n 0, 1) := by decide +kernel
theorem dX5_weighFrom_64 : decode cX5_weighFrom 64 = .ok (.iload_n 1, 1) := by decide +kernel
theorem dX5_weighFrom_65 : decode cX5_weighFrom 65 = .ok (.iload_n 3, 1) := by decide +kernel
theorem dX5_weighFrom_66 : decode cX5_weighFrom 66 = .ok (.invokevirtual 76, 3) := by decide +kernel
theorem dX5_weighFrom_69 : decode cX5_weighFrom 69 = .ok (.ldc 59, 2) := by decide +kernel
theorem dX5_weighFrom_71 : decode cX5_weighFrom 71 = .ok (.if_icmp .ge 19, 3) := by decide +kernel
theorem dX5_weighFrom_74 : decode cX5_weighFrom 74 = .ok (.aload_n 0, 1) := by decide +kernel
theorem dX5_weighFrom_75 : decode cX5_weighFrom 75 = .ok (.iload_n 2, 1) := by decide +kernel
theorem dX5_weighFrom_76 : decode cX5_weighFrom 76 = .ok (.aload_n 0, 1) := by decide +kernel
theorem dX5_weighFrom_77 : decode cX5_weighFrom 77 = .ok (.iload_n 3, 1) := by decide +kernel
theorem dX5_weighFrom_78 : decode cX5_weighFrom 78 = .ok (.invokevirtual 66, 3) := by decide +kernel
theorem dX5_weighFrom_81 : decode cX5_weighFrom 81 = .ok (.aload_n 0, 1) := by decide +kernel
theorem dX5_weighFrom_82 : decode cX5_weighFrom 82 = .ok (.iload_n 1, 1) := by decide +kernel
theorem dX5_weighFrom_83 : decode cX5_weighFrom 83 = .ok (.iload_n 3, 1) := by decide +kernel
theorem dX5_weighFrom_84 : decode cX5_weighFrom 84 = .ok (.invokevirtual 76, 3) := by decide +kernel
theorem dX5_weighFrom_87 : decode cX5_weighFrom 87 = .ok (.invokevirtual 79, 3) := by decide +kernel
theorem dX5_weighFrom_90 : decode cX5_weighFrom 90 = .ok (.iinc 3 1, 3) := by decide +kernel
theorem dX5_weighFrom_93 : decode cX5_weighFrom 93 = .ok (.goto (-38), 3) := by decide +kernel
theorem dX5_weighFrom_96 : decode cX5_weighFrom 96 = .ok (.return_, 1) := by decide +kernel
theorem dX5_weighLine_0 : decode cX5_weighLine 0 = .ok (.iconst 0, 1) := by decide +kernel
theorem dX5_weighLine_1 : decode cX5_weighLine 1 = .ok (.istore 4, 2) := by decide +kernel
theorem dX5_weighLine_3 : decode cX5_weighLine 3 = .ok (.iload 4, 2) := by decide +kernel
theorem dX5_weighLine_5 : decode cX5_weighLine 5 = .ok (.iload_n 1, 1) := by decide +kernel
theorem dX5_weighLine_6 : decode cX5_weighLine 6 = .ok (.if_icmp .ge 54, 3) := by decide +kernel
theorem dX5_weighLine_9 : decode cX5_weighLine 9 = .ok (.iload 4, 2) := by decide +kernel
theorem dX5_weighLine_11 : decode cX5_weighLine 11 = .ok (.iload_n 2, 1) := by decide +kernel
theorem dX5_weighLine_12 : decode cX5_weighLine 12 = .ok (.iand, 1) := by decide +kernel
theorem dX5_weighLine_13 : decode cX5_weighLine 13 = .ok (.ifCond .ne 41, 3) := by decide +kernel
theorem dX5_weighLine_16 : decode cX5_weighLine 16 = .ok (.iconst 2, 1) := by decide +kernel
theorem dX5_weighLine_17 : decode cX5_weighLine 17 = .ok (.iload_n 1, 1) := by decide +kernel
theorem dX5_weighLine_18 : decode cX5_weighLine 18 = .ok (.imul, 1) := by decide +kernel
theorem dX5_weighLine_19 : decode cX5_weighLine 19 = .ok (.iload 4, 2) := by decide +kernel
theorem dX5_weighLine_21 : decode cX5_weighLine 21 = .ok (.iadd, 1) := by decide +kernel
theorem dX5_weighLine_22 : decode cX5_weighLine 22 = .ok (.iload_n 2, 1) := by decide +kernel
theorem dX5_weighLine_23 : decode cX5_weighLine 23 = .ok (.iadd, 1) := by decide +kernel
theorem dX5_weighLine_24 : decode cX5_weighLine 24 = .ok (.istore 5, 2) := by decide +kernel
theorem dX5_weighLine_26 : decode cX5_weighLine 26 = .ok (.aload_n 0, 1) := by decide +kernel
theorem dX5_weighLine_27 : decode cX5_weighLine 27 = .ok (.getfield 15, 3) := by decide +kernel
theorem dX5_weighLine_30 : decode cX5_weighLine 30 = .ok (.iload 5, 2) := by decide +kernel
theorem dX5_weighLine_32 : decode cX5_weighLine 32 = .ok (.aload_n 0, 1) := by decide +kernel
theorem dX5_weighLine_33 : decode cX5_weighLine 33 = .ok (.getfield 15, 3) := by decide +kernel
theorem dX5_weighLine_36 : decode cX5_weighLine 36 = .ok (.iload 5, 2) := by decide +kernel
theorem dX5_weighLine_38 : decode cX5_weighLine 38 = .ok (.iaload, 1) := by decide +kernel
theorem dX5_weighLine_39 : decode cX5_weighLine 39 = .ok (.iload_n 3, 1) := by decide +kernel
theorem dX5_weighLine_40 : decode cX5_weighLine 40 = .ok (.aload_n 0, 1) := by decide +kernel
theorem dX5_weighLine_41 : decode cX5_weighLine 41 = .ok (.getfield 15, 3) := by decide +kernel
theorem dX5_weighLine_44 : decode cX5_weighLine 44 = .ok (.iload_n 1, 1) := by decide +kernel
theorem dX5_weighLine_45 : decode cX5_weighLine 45 = .ok (.iload 4, 2) := by decide +kernel
theorem dX5_weighLine_47 : decode cX5_weighLine 47 = .ok (.iadd, 1) := by decide +kernel
theorem dX5_weighLine_48 : decode cX5_weighLine 48 = .ok (.iaload, 1) := by decide +kernel
theorem dX5_weighLine_49 : decode cX5_weighLine 49 = .ok (.iadd, 1) := by decide +kernel
theorem dX5_weighLine_50 : decode cX5_weighLine 50 = .ok (.invokestatic 44, 3) := by decide +kernel
theorem dX5_weighLine_53 : decode cX5_weighLine 53 = .ok (.iastore, 1) := by decide +kernel
theorem dX5_weighLine_54 : decode cX5_weighLine 54 = .ok (.iinc 4 1, 3) := by decide +kernel
theorem dX5_weighLine_57 : decode cX5_weighLine 57 = .ok (.goto (-54), 3) := by decide +kernel
theorem dX5_weighLine_60 : decode cX5_weighLine 60 = .ok (.return_, 1) := by decide +kernel
theorem dX5_findLeast_0 : decode cX5_findLeast 0 = .ok (.aload_n 0, 1) := by decide +kernel
theorem dX5_findLeast_1 : decode cX5_findLeast 1 = .ok (.getfield 18, 3) := by decide +kernel
theorem dX5_findLeast_4 : decode cX5_findLeast 4 = .ok (.iconst (-1), 1) := by decide +kernel
theorem dX5_findLeast_5 : decode cX5_findLeast 5 = .ok (.invokestatic 83, 3) := by decide +kernel
theorem dX5_findLeast_8 : decode cX5_findLeast 8 = .ok (.aload_n 0, 1) := by decide +kernel
theorem dX5_findLeast_9 : decode cX5_findLeast 9 = .ok (.getfield 50, 3) := by decide +kernel
theorem dX5_findLeast_12 : decode cX5_findLeast 12 = .ok (.ifCond .ne 11, 3) := by decide +kernel
theorem dX5_findLeast_15 : decode cX5_findLeast 15 = .ok (.aload_n 0, 1) := by decide +kernel
theorem dX5_findLeast_16 : decode cX5_findLeast 16 = .ok (.getfield 18, 3) := by decide +kernel
theorem dX5_findLeast_19 : decode cX5_findLeast 19 = .ok (.iconst 0, 1) := by decide +kernel
theorem dX5_findLeast_20 : decode cX5_findLeast 20 = .ok (.iconst 0, 1) := by decide +kernel
theorem dX5_findLeast_21 : decode cX5_findLeast 21 = .ok (.iastore, 1) := by decide +kernel
theorem dX5_findLeast_22 : decode cX5_findLeast 22 = .ok (.return_, 1) := by decide +kernel
theorem dX5_findLeast_23 : decode cX5_findLeast 23 = .ok (.aload_n 0, 1) := by decide +kernel
theorem dX5_findLeast_24 : decode cX5_findLeast 24 = .ok (.iconst 0, 1) := by decide +kernel
theorem dX5_findLeast_25 : decode cX5_findLeast 25 = .ok (.invokevirtual 66, 3) := by decide +kernel
theorem dX5_findLeast_28 : decode cX5_findLeast 28 = .ok (.istore_n 1, 1) := by decide +kernel
theorem dX5_findLeast_29 : decode cX5_findLeast 29 = .ok (.iconst 0, 1) := by decide +kernel
theorem dX5_findLeast_30 : decode cX5_findLeast 30 = .ok (.istore_n 2, 1) := by decide +kernel
theorem dX5_findLeast_31 : decode cX5_findLeast 31 = .ok (.iload_n 2, 1) := by decide +kernel
theorem dX5_findLeast_32 : decode cX5_findLeast 32 = .ok (.iload_n 1, 1) := by decide +kernel
theorem dX5_findLeast_33 : decode cX5_findLeast 33 = .ok (.if_icmp .ge 38, 3) := by decide +kernel
theorem dX5_findLeast_36 : decode cX5_findLeast 36 = .ok (.aload_n 0, 1) := by decide +kernel
theorem dX5_findLeast_37 : decode cX5_findLeast 37 = .ok (.getfield 15, 3) := by decide +kernel
theorem dX5_findLeast_40 : decode cX5_findLeast 40 = .ok (.iload_n 1, 1) := by decide +kernel
theorem dX5_findLeast_41 : decode cX5_findLeast 41 = .ok (.iload_n 2, 1) := by decide +kernel
theorem dX5_findLeast_42 : decode cX5_findLeast 42 = .ok (.iadd, 1) := by decide +kernel
theorem dX5_findLeast_43 : decode cX5_findLeast 43 = .ok (.iaload, 1) := by decide +kernel
theorem dX5_findLeast_44 : decode cX5_findLeast 44 = .ok (.istore_n 3, 1) := by decide +kernel
theorem dX5_findLeast_45 : decode cX5_findLeast 45 = .ok (.iload_n 3, 1) := by decide +kernel
theorem dX5_findLeast_46 : decode cX5_findLeast 46 = .ok (.ldc 59, 2) := by decide +kernel
theorem dX5_findLeast_48 : decode cX5_findLeast 48 = .ok (.if_icmp .ge 17, 3) := by decide +kernel
theorem dX5_findLeast_51 : decode cX5_findLeast 51 = .ok (.aload_n 0, 1) := by decide +kernel
theorem dX5_findLeast_52 : decode cX5_findLeast 52 = .ok (.aload_n 0, 1) := by decide +kernel
theorem dX5_findLeast_53 : decode cX5_findLeast 53 = .ok (.getfield 50, 3) := by decide +kernel
theorem dX5_findLeast_56 : decode cX5_findLeast 56 = .ok (.iload_n 2, 1) := by decide +kernel
theorem dX5_findLeast_57 : decode cX5_findLeast 57 = .ok (.invokestatic 89, 3) := by decide +kernel
theorem dX5_findLeast_60 : decode cX5_findLeast 60 = .ok (.isub, 1) := by decide +kernel
theorem dX5_findLeast_61 : decode cX5_findLeast 61 = .ok (.iload_n 3, 1) := by decide +kernel
theorem dX5_findLeast_62 : decode cX5_findLeast 62 = .ok (.invokevirtual 94, 3) := by decide +kernel
theorem dX5_findLeast_65 : decode cX5_findLeast 65 = .ok (.iinc 2 1, 3) := by decide +kernel
theorem dX5_findLeast_68 : decode cX5_findLeast 68 = .ok (.goto (-37), 3) := by decide +kernel
theorem dX5_findLeast_71 : decode cX5_findLeast 71 = .ok (.return_, 1) := by decide +kernel
theorem dX5_offer_0 : decode cX5_offer 0 = .ok (.iload_n 2, 1) := by decide +kernel
theorem dX5_offer_1 : decode cX5_offer 1 = .ok (.iload_n 1, 1) := by decide +kernel
theorem dX5_offer_2 : decode cX5_offer 2 = .ok (.aload_n 0, 1) := by decide +kernel
theorem dX5_offer_3 : decode cX5_offer 3 = .ok (.getfield 56, 3) := by decide +kernel
theorem dX5_offer_6 : decode cX5_offer 6 = .ok (.imul, 1) := by decide +kernel
theorem dX5_offer_7 : decode cX5_offer 7 = .ok (.iadd, 1) := by decide +kernel
theorem dX5_offer_8 : decode cX5_offer 8 = .ok (.istore_n 3, 1) := by decide +kernel
theorem dX5_offer_9 : decode cX5_offer 9 = .ok (.iload_n 1, 1) := by decide +kernel
theorem dX5_offer_10 : decode cX5_offer 10 = .ok (.invokestatic 98, 3) := by decide +kernel
theorem dX5_offer_13 : decode cX5_offer 13 = .ok (.ifCond .eq 30, 3) := by decide +kernel
theorem dX5_offer_16 : decode cX5_offer 16 = .ok (.aload_n 0, 1) := by decide +kernel
theorem dX5_offer_17 : decode cX5_offer 17 = .ok (.getfield 18, 3) := by decide +kernel
theorem dX5_offer_20 : decode cX5_offer 20 = .ok (.iload_n 1, 1) := by decide +kernel
theorem dX5_offer_21 : decode cX5_offer 21 = .ok (.iaload, 1) := by decide +kernel
theorem dX5_offer_22 : decode cX5_offer 22 = .ok (.iconst (-1), 1) := by decide +kernel
theorem dX5_offer_23 : decode cX5_offer 23 = .ok (.if_icmp .eq 13, 3) := by decide +kernel
theorem dX5_offer_26 : decode cX5_offer 26 = .ok (.iload_n 3, 1) := by decide +kernel
theorem dX5_offer_27 : decode cX5_offer 27 = .ok (.aload_n 0, 1) := by decide +kernel
theorem dX5_offer_28 : decode cX5_offer 28 = .ok (.getfield 18, 3) := by decide +kernel
theorem dX5_offer_31 : decode cX5_offer 31 = .ok (.iload_n 1, 1) := by decide +kernel
theorem dX5_offer_32 : decode cX5_offer 32 = .ok (.iaload, 1) := by decide +kernel
theorem dX5_offer_33 : decode cX5_offer 33 = .ok (.if_icmp .ge 10, 3) := by decide +kernel
theorem dX5_offer_36 : decode cX5_offer 36 = .ok (.aload_n 0, 1) := by decide +kernel
theorem dX5_offer_37 : decode cX5_offer 37 = .ok (.getfield 18, 3) := by decide +kernel
theorem dX5_offer_40 : decode cX5_offer 40 = .ok (.iload_n 1, 1) := by decide +kernel
theorem dX5_offer_41 : decode cX5_offer 41 = .ok (.iload_n 3, 1) := by decide +kernel
theorem dX5_offer_42 : decode cX5_offer 42 = .ok (.iastore, 1) := by decide +kernel
theorem dX5_offer_43 : decode cX5_offer 43 = .ok (.return_, 1) := by decide +kernel
theorem dX5_leastCost_0 : decode cX5_leastCost 0 = .ok (.iload_n 1, 1) := by decide +kernel
theorem dX5_leastCost_1 : decode cX5_leastCost 1 = .ok (.invokestatic 98, 3) := by decide +kernel
theorem dX5_leastCost_4 : decode cX5_leastCost 4 = .ok (.ifCond .eq 12, 3) := by decide +kernel
theorem dX5_leastCost_7 : decode cX5_leastCost 7 = .ok (.aload_n 0, 1) := by decide +kernel
theorem dX5_leastCost_8 : decode cX5_leastCost 8 = .ok (.getfield 18, 3) := by decide +kernel
theorem dX5_leastCost_11 : decode cX5_leastCost 11 = .ok (.iload_n 1, 1) := by decide +kernel
theorem dX5_leastCost_12 : decode cX5_leastCost 12 = .ok (.iaload, 1) := by decide +kernel
theorem dX5_leastCost_13 : decode cX5_leastCost 13 = .ok (.goto 4, 3) := by decide +kernel
theorem dX5_leastCost_16 : decode cX5_leastCost 16 = .ok (.iconst (-1), 1) := by decide +kernel
theorem dX5_leastCost_17 : decode cX5_leastCost 17 = .ok (.ireturn, 1) := by decide +kernel
theorem dX5_fewest_0 : decode cX5_fewest 0 = .ok (.iconst 0, 1) := by decide +kernel
theorem dX5_fewest_1 : decode cX5_fewest 1 = .ok (.istore_n 1, 1) := by decide +kernel
theorem dX5_fewest_2 : decode cX5_fewest 2 = .ok (.iload_n 1, 1) := by decide +kernel
theorem dX5_fewest_3 : decode cX5_fewest 3 = .ok (.bipush 10, 2) := by decide +kernel
theorem dX5_fewest_5 : decode cX5_fewest 5 = .ok (.if_icmp .gt 21, 3) := by decide +kernel
theorem dX5_fewest_8 : decode cX5_fewest 8 = .ok (.aload_n 0, 1) := by decide +kernel
theorem dX5_fewest_9 : decode cX5_fewest 9 = .ok (.getfield 18, 3) := by decide +kernel
theorem dX5_fewest_12 : decode cX5_fewest 12 = .ok (.iload_n 1, 1) := by decide +kernel
theorem dX5_fewest_13 : decode cX5_fewest 13 = .ok (.iaload, 1) := by decide +kernel
theorem dX5_fewest_14 : decode cX5_fewest 14 = .ok (.iconst (-1), 1) := by decide +kernel
theorem dX5_fewest_15 : decode cX5_fewest 15 = .ok (.if_icmp .eq 5, 3) := by decide +kernel
theorem dX5_fewest_18 : decode cX5_fewest 18 = .ok (.iload_n 1, 1) := by decide +kernel
theorem dX5_fewest_19 : decode cX5_fewest 19 = .ok (.ireturn, 1) := by decide +kernel
theorem dX5_fewest_20 : decode cX5_fewest 20 = .ok (.iinc 1 1, 3) := by decide +kernel
theorem dX5_fewest_23 : decode cX5_fewest 23 = .ok (.goto (-21), 3) := by decide +kernel
theorem dX5_fewest_26 : decode cX5_fewest 26 = .ok (.iconst 0, 1) := by decide +kernel
theorem dX5_fewest_27 : decode cX5_fewest 27 = .ok (.ireturn, 1) := by decide +kernel
theorem dX5_cheapest_0 : decode cX5_cheapest 0 = .ok (.aload_n 0, 1) := by decide +kernel
theorem dX5_cheapest_1 : decode cX5_cheapest 1 = .ok (.invokevirtual 102, 3) := by decide +kernel
theorem dX5_cheapest_4 : decode cX5_cheapest 4 = .ok (.istore_n 1, 1) := by decide +kernel
theorem dX5_cheapest_5 : decode cX5_cheapest 5 = .ok (.iload_n 1, 1) := by decide +kernel
theorem dX5_cheapest_6 : decode cX5_cheapest 6 = .ok (.iconst 1, 1) := by decide +kernel
theorem dX5_cheapest_7 : decode cX5_cheapest 7 = .ok (.iadd, 1) := by decide +kernel
theorem dX5_cheapest_8 : decode cX5_cheapest 8 = .ok (.istore_n 2, 1) := by decide +kernel
theorem dX5_cheapest_9 : decode cX5_cheapest 9 = .ok (.iload_n 2, 1) := by decide +kernel
theorem dX5_cheapest_10 : decode cX5_cheapest 10 = .ok (.bipush 10, 2) := by decide +kernel
theorem dX5_cheapest_12 : decode cX5_cheapest 12 = .ok (.if_icmp .gt 35, 3) := by decide +kernel
theorem dX5_cheapest_15 : decode cX5_cheapest 15 = .ok (.aload_n 0, 1) := by decide +kernel
theorem dX5_cheapest_16 : decode cX5_cheapest 16 = .ok (.getfield 18, 3) := by decide +kernel
theorem dX5_cheapest_19 : decode cX5_cheapest 19 = .ok (.iload_n 2, 1) := by decide +kernel
theorem dX5_cheapest_20 : decode cX5_cheapest 20 = .ok (.iaload, 1) := by decide +kernel
theorem dX5_cheapest_21 : decode cX5_cheapest 21 = .ok (.iconst (-1), 1) := by decide +kernel
theorem dX5_cheapest_22 : decode cX5_cheapest 22 = .ok (.if_icmp .eq 19, 3) := by decide +kernel
theorem dX5_cheapest_25 : decode cX5_cheapest 25 = .ok (.aload_n 0, 1) := by decide +kernel
theorem dX5_cheapest_26 : decode cX5_cheapest 26 = .ok (.getfield 18, 3) := by decide +kernel
theorem dX5_cheapest_29 : decode cX5_cheapest 29 = .ok (.iload_n 2, 1) := by decide +kernel
theorem dX5_cheapest_30 : decode cX5_cheapest 30 = .ok (.iaload, 1) := by decide +kernel
theorem dX5_cheapest_31 : decode cX5_cheapest 31 = .ok (.aload_n 0, 1) := by decide +kernel
theorem dX5_cheapest_32 : decode cX5_cheapest 32 = .ok (.iload_n 1, 1) := by decide +kernel
theorem dX5_cheapest_33 : decode cX5_cheapest 33 = .ok (.invokevirtual 105, 3) := by decide +kernel
theorem dX5_cheapest_36 : decode cX5_cheapest 36 = .ok (.if_icmp .ge 5, 3) := by decide +kernel
theorem dX5_cheapest_39 : decode cX5_cheapest 39 = .ok (.iload_n 2, 1) := by decide +kernel
theorem dX5_cheapest_40 : decode cX5_cheapest 40 = .ok (.istore_n 1, 1) := by decide +kernel
theorem dX5_cheapest_41 : decode cX5_cheapest 41 = .ok (.iinc 2 1, 3) := by decide +kernel
theorem dX5_cheapest_44 : decode cX5_cheapest 44 = .ok (.goto (-35), 3) := by decide +kernel
theorem dX5_cheapest_47 : decode cX5_cheapest 47 = .ok (.iload_n 1, 1) := by decide +kernel
theorem dX5_cheapest_48 : decode cX5_cheapest 48 = .ok (.ireturn, 1) := by decide +kernel
theorem dX5_cheapestCost_0 : decode cX5_cheapestCost 0 = .ok (.aload_n 0, 1) := by decide +kernel
theorem dX5_cheapestCost_1 : decode cX5_cheapestCost 1 = .ok (.aload_n 0, 1) := by decide +kernel
theorem dX5_cheapestCost_2 : decode cX5_cheapestCost 2 = .ok (.invokevirtual 108, 3) := by decide +kernel
theorem dX5_cheapestCost_5 : decode cX5_cheapestCost 5 = .ok (.invokevirtual 105, 3) := by decide +kernel
theorem dX5_cheapestCost_8 : decode cX5_cheapestCost 8 = .ok (.ireturn, 1) := by decide +kernel
theorem dX5_price_0 : decode cX5_price 0 = .ok (.aload_n 0, 1) := by decide +kernel
theorem dX5_price_1 : decode cX5_price 1 = .ok (.iconst (-1), 1) := by decide +kernel
theorem dX5_price_2 : decode cX5_price 2 = .ok (.invokevirtual 111, 3) := by decide +kernel
theorem dX5_price_5 : decode cX5_price 5 = .ok (.aload_n 0, 1) := by decide +kernel
theorem dX5_price_6 : decode cX5_price 6 = .ok (.invokevirtual 114, 3) := by decide +kernel
theorem dX5_price_9 : decode cX5_price 9 = .ok (.istore_n 2, 1) := by decide +kernel
theorem dX5_price_10 : decode cX5_price 10 = .ok (.aload_n 0, 1) := by decide +kernel
theorem dX5_price_11 : decode cX5_price 11 = .ok (.iload_n 1, 1) := by decide +kernel
theorem dX5_price_12 : decode cX5_price 12 = .ok (.invokevirtual 111, 3) := by decide +kernel
theorem dX5_price_15 : decode cX5_price 15 = .ok (.iload_n 2, 1) := by decide +kernel
theorem dX5_price_16 : decode cX5_price 16 = .ok (.aload_n 0, 1) := by decide +kernel
theorem dX5_price_17 : decode cX5_price 17 = .ok (.invokevirtual 114, 3) := by decide +kernel
theorem dX5_price_20 : decode cX5_price 20 = .ok (.aload_n 0, 1) := by decide +kernel
theorem dX5_price_21 : decode cX5_price 21 = .ok (.getfield 56, 3) := by decide +kernel
theorem dX5_price_24 : decode cX5_price 24 = .ok (.isub, 1) := by decide +kernel
theorem dX5_price_25 : decode cX5_price 25 = .ok (.isub, 1) := by decide +kernel
theorem dX5_price_26 : decode cX5_price 26 = .ok (.ireturn, 1) := by decide +kernel
theorem dX5_chosen_0 : decode cX5_chosen 0 = .ok (.iload_n 1, 1) := by decide +kernel
theorem dX5_chosen_1 : decode cX5_chosen 1 = .ok (.ifCond .lt 18, 3) := by decide +kernel
theorem dX5_chosen_4 : decode cX5_chosen 4 = .ok (.iload_n 1, 1) := by decide +kernel
theorem dX5_chosen_5 : decode cX5_chosen 5 = .ok (.bipush 10, 2) := by decide +kernel
theorem dX5_chosen_7 : decode cX5_chosen 7 = .ok (.if_icmp .ge 12, 3) := by decide +kernel
theorem dX5_chosen_10 : decode cX5_chosen 10 = .ok (.aload_n 0, 1) := by decide +kernel
theorem dX5_chosen_11 : decode cX5_chosen 11 = .ok (.getfield 21, 3) := by decide +kernel
theorem dX5_chosen_14 : decode cX5_chosen 14 = .ok (.iload_n 1, 1) := by decide +kernel
theorem dX5_chosen_15 : decode cX5_chosen 15 = .ok (.iaload, 1) := by decide +kernel
theorem dX5_chosen_16 : decode cX5_chosen 16 = .ok (.goto 4, 3) := by decide +kernel
theorem dX5_chosen_19 : decode cX5_chosen 19 = .ok (.iconst (-1), 1) := by decide +kernel
theorem dX5_chosen_20 : decode cX5_chosen 20 = .ok (.ireturn, 1) := by decide +kernel
theorem dX5_choose_0 : decode cX5_choose 0 = .ok (.aload_n 0, 1) := by decide +kernel
theorem dX5_choose_1 : decode cX5_choose 1 = .ok (.iload_n 1, 1) := by decide +kernel
theorem dX5_choose_2 : decode cX5_choose 2 = .ok (.invokevirtual 105, 3) := by decide +kernel
theorem dX5_choose_5 : decode cX5_choose 5 = .ok (.iconst (-1), 1) := by decide +kernel
theorem dX5_choose_6 : decode cX5_choose 6 = .ok (.if_icmp .ne 5, 3) := by decide +kernel
theorem dX5_choose_9 : decode cX5_choose 9 = .ok (.iconst 0, 1) := by decide +kernel
theorem dX5_choose_10 : decode cX5_choose 10 = .ok (.ireturn, 1) := by decide +kernel
theorem dX5_choose_11 : decode cX5_choose 11 = .ok (.aload_n 0, 1) := by decide +kernel
theorem dX5_choose_12 : decode cX5_choose 12 = .ok (.iload_n 1, 1) := by decide +kernel
theorem dX5_choose_13 : decode cX5_choose 13 = .ok (.invokevirtual 105, 3) := by decide +kernel
theorem dX5_choose_16 : decode cX5_choose 16 = .ok (.iload_n 1, 1) := by decide +kernel
theorem dX5_choose_17 : decode cX5_choose 17 = .ok (.aload_n 0, 1) := by decide +kernel
theorem dX5_choose_18 : decode cX5_choose 18 = .ok (.getfield 56, 3) := by decide +kernel
theorem dX5_choose_21 : decode cX5_choose 21 = .ok (.imul, 1) := by decide +kernel
theorem dX5_choose_22 : decode cX5_choose 22 = .ok (.isub, 1) := by decide +kernel
theorem dX5_choose_23 : decode cX5_choose 23 = .ok (.istore_n 2, 1) := by decide +kernel
theorem dX5_choose_24 : decode cX5_choose 24 = .ok (.aload_n 0, 1) := by decide +kernel
theorem dX5_choose_25 : decode cX5_choose 25 = .ok (.getfield 50, 3) := by decide +kernel
theorem dX5_choose_28 : decode cX5_choose 28 = .ok (.iload_n 1, 1) := by decide +kernel
theorem dX5_choose_29 : decode cX5_choose 29 = .ok (.isub, 1) := by decide +kernel
theorem dX5_choose_30 : decode cX5_choose 30 = .ok (.istore_n 3, 1) := by decide +kernel
theorem dX5_choose_31 : decode cX5_choose 31 = .ok (.iconst 0, 1) := by decide +kernel
theorem dX5_choose_32 : decode cX5_choose 32 = .ok (.istore 4, 2) := by decide +kernel
theorem dX5_choose_34 : decode cX5_choose 34 = .ok (.iconst 0, 1) := by decide +kernel
theorem dX5_choose_35 : decode cX5_choose 35 = .ok (.istore 5, 2) := by decide +kernel
theorem dX5_choose_37 : decode cX5_choose 37 = .ok (.iload 5, 2) := by decide +kernel
theorem dX5_choose_39 : decode cX5_choose 39 = .ok (.aload_n 0, 1) := by decide +kernel
theorem dX5_choose_40 : decode cX5_choose 40 = .ok (.getfield 50, 3) := by decide +kernel
theorem dX5_choose_43 : decode cX5_choose 43 = .ok (.if_icmp .ge 61, 3) := by decide +kernel
theorem dX5_choose_46 : decode cX5_choose 46 = .ok (.aload_n 0, 1) := by decide +kernel
theorem dX5_choose_47 : decode cX5_choose 47 = .ok (.iload 5, 2) := by decide +kernel
theorem dX5_choose_49 : decode cX5_choose 49 = .ok (.iload_n 2, 1) := by decide +kernel
theorem dX5_choose_50 : decode cX5_choose 50 = .ok (.iload_n 3, 1) := by decide +kernel
theorem dX5_choose_51 : decode cX5_choose 51 = .ok (.iload 4, 2) := by decide +kernel
theorem dX5_choose_53 : decode cX5_choose 53 = .ok (.invokevirtual 117, 3) := by decide +kernel
theorem dX5_choose_56 : decode cX5_choose 56 = .ok (.istore 6, 2) := by decide +kernel
theorem dX5_choose_58 : decode cX5_choose 58 = .ok (.aload_n 0, 1) := by decide +kernel
theorem dX5_choose_59 : decode cX5_choose 59 = .ok (.getfield 21, 3) := by decide +kernel
theorem dX5_choose_62 : decode cX5_choose 62 = .ok (.iload 5, 2) := by decide +kernel
theorem dX5_choose_64 : decode cX5_choose 64 = .ok (.iload 6, 2) := by decide +kernel
theorem dX5_choose_66 : decode cX5_choose 66 = .ok (.iastore, 1) := by decide +kernel
theorem dX5_choose_67 : decode cX5_choose 67 = .ok (.iload 6, 2) := by decide +kernel
theorem dX5_choose_69 : decode cX5_choose 69 = .ok (.iconst (-1), 1) := by decide +kernel
theorem dX5_choose_70 : decode cX5_choose 70 = .ok (.if_icmp .eq 28, 3) := by decide +kernel
theorem dX5_choose_73 : decode cX5_choose 73 = .ok (.iload_n 2, 1) := by decide +kernel
theorem dX5_choose_74 : decode cX5_choose 74 = .ok (.aload_n 0, 1) := by decide +kernel
theorem dX5_choose_75 : decode cX5_choose 75 = .ok (.iload 5, 2) := by decide +kernel
theorem dX5_choose_77 : decode cX5_choose 77 = .ok (.iload 6, 2) := by decide +kernel
theorem dX5_choose_79 : decode cX5_choose 79 = .ok (.invokevirtual 76, 3) := by decide +kernel
theorem dX5_choose_82 : decode cX5_choose 82 = .ok (.isub, 1) := by decide +kernel
theorem dX5_choose_83 : decode cX5_choose 83 = .ok (.istore_n 2, 1) := by decide +kernel
theorem dX5_choose_84 : decode cX5_choose 84 = .ok (.iinc 3 (-1), 3) := by decide +kernel
theorem dX5_choose_87 : decode cX5_choose 87 = .ok (.iload 4, 2) := by decide +kernel
theorem dX5_choose_89 : decode cX5_choose 89 = .ok (.aload_n 0, 1) := by decide +kernel
theorem dX5_choose_90 : decode cX5_choose 90 = .ok (.iload 6, 2) := by decide +kernel
theorem dX5_choose_92 : decode cX5_choose 92 = .ok (.invokevirtual 66, 3) := by decide +kernel
theorem dX5_choose_95 : decode cX5_choose 95 = .ok (.ior, 1) := by decide +kernel
theorem dX5_choose_96 : decode cX5_choose 96 = .ok (.istore 4, 2) := by decide +kernel
theorem dX5_choose_98 : decode cX5_choose 98 = .ok (.iinc 5 1, 3) := by decide +kernel
theorem dX5_choose_101 : decode cX5_choose 101 = .ok (.goto (-64), 3) := by decide +kernel
theorem dX5_choose_104 : decode cX5_choose 104 = .ok (.iconst 1, 1) := by decide +kernel
theorem dX5_choose_105 : decode cX5_choose 105 = .ok (.ireturn, 1) := by decide +kernel
theorem dX5_firstNext_0 : decode cX5_firstNext 0 = .ok (.aload_n 0, 1) := by decide +kernel
theorem dX5_firstNext_1 : decode cX5_firstNext 1 = .ok (.iload_n 1, 1) := by decide +kernel
theorem dX5_firstNext_2 : decode cX5_firstNext 2 = .ok (.iload_n 3, 1) := by decide +kernel
theorem dX5_firstNext_3 : decode cX5_firstNext 3 = .ok (.iload 4, 2) := by decide +kernel
theorem dX5_firstNext_5 : decode cX5_firstNext 5 = .ok (.invokevirtual 121, 3) := by decide +kernel
theorem dX5_firstNext_8 : decode cX5_firstNext 8 = .ok (.iload_n 2, 1) := by decide +kernel
theorem dX5_firstNext_9 : decode cX5_firstNext 9 = .ok (.if_icmp .ne 5, 3) := by decide +kernel
theorem dX5_firstNext_12 : decode cX5_firstNext 12 = .ok (.iconst (-1), 1) := by decide +kernel
theorem dX5_firstNext_13 : decode cX5_firstNext 13 = .ok (.ireturn, 1) := by decide +kernel
theorem dX5_firstNext_14 : decode cX5_firstNext 14 = .ok (.iload_n 1, 1) := by decide +kernel
theorem dX5_firstNext_15 : decode cX5_firstNext 15 = .ok (.iconst 1, 1) := by decide +kernel
theorem dX5_firstNext_16 : decode cX5_firstNext 16 = .ok (.iadd, 1) := by decide +kernel
theorem dX5_firstNext_17 : decode cX5_firstNext 17 = .ok (.istore 5, 2) := by decide +kernel
theorem dX5_firstNext_19 : decode cX5_firstNext 19 = .ok (.iload 5, 2) := by decide +kernel
theorem dX5_firstNext_21 : decode cX5_firstNext 21 = .ok (.aload_n 0, 1) := by decide +kernel
theorem dX5_firstNext_22 : decode cX5_firstNext 22 = .ok (.getfield 50, 3) := by decide +kernel
theorem dX5_firstNext_25 : decode cX5_firstNext 25 = .ok (.if_icmp .ge 53, 3) := by decide +kernel
theorem dX5_firstNext_28 : decode cX5_firstNext 28 = .ok (.aload_n 0, 1) := by decide +kernel
theorem dX5_firstNext_29 : decode cX5_firstNext 29 = .ok (.iload 5, 2) := by decide +kernel
theorem dX5_firstNext_31 : decode cX5_firstNext 31 = .ok (.invokevirtual 66, 3) := by decide +kernel
theorem dX5_firstNext_34 : decode cX5_firstNext 34 = .ok (.istore 6, 2) := by decide +kernel
theorem dX5_firstNext_36 : decode cX5_firstNext 36 = .ok (.iload 4, 2) := by decide +kernel
theorem dX5_firstNext_38 : decode cX5_firstNext 38 = .ok (.iload 6, 2) := by decide +kernel
theorem dX5_firstNext_40 : decode cX5_firstNext 40 = .ok (.iand, 1) := by decide +kernel
theorem dX5_firstNext_41 : decode cX5_firstNext 41 = .ok (.ifCond .ne 31, 3) := by decide +kernel
theorem dX5_firstNext_44 : decode cX5_firstNext 44 = .ok (.aload_n 0, 1) := by decide +kernel
theorem dX5_firstNext_45 : decode cX5_firstNext 45 = .ok (.iload_n 1, 1) := by decide +kernel
theorem dX5_firstNext_46 : decode cX5_firstNext 46 = .ok (.iload 5, 2) := by decide +kernel
theorem dX5_firstNext_48 : decode cX5_firstNext 48 = .ok (.invokevirtual 76, 3) := by decide +kernel
theorem dX5_firstNext_51 : decode cX5_firstNext 51 = .ok (.aload_n 0, 1) := by decide +kernel
theorem dX5_firstNext_52 : decode cX5_firstNext 52 = .ok (.iload_n 1, 1) := by decide +kernel
theorem dX5_firstNext_53 : decode cX5_firstNext 53 = .ok (.iload_n 3, 1) := by decide +kernel
theorem dX5_firstNext_54 : decode cX5_firstNext 54 = .ok (.iconst 1, 1) := by decide +kernel
theorem dX5_firstNext_55 : decode cX5_firstNext 55 = .ok (.isub, 1) := by decide +kernel
theorem dX5_firstNext_56 : decode cX5_firstNext 56 = .ok (.iload 4, 2) := by decide +kernel
theorem dX5_firstNext_58 : decode cX5_firstNext 58 = .ok (.iload 6, 2) := by decide +kernel
theorem dX5_firstNext_60 : decode cX5_firstNext 60 = .ok (.ior, 1) := by decide +kernel
theorem dX5_firstNext_61 : decode cX5_firstNext 61 = .ok (.invokevirtual 121, 3) := by decide +kernel
theorem dX5_firstNext_64 : decode cX5_firstNext 64 = .ok (.iadd, 1) := by decide +kernel
theorem dX5_firstNext_65 : decode cX5_firstNext 65 = .ok (.iload_n 2, 1) := by decide +kernel
theorem dX5_firstNext_66 : decode cX5_firstNext 66 = .ok (.if_icmp .ne 6, 3) := by decide +kernel
theorem dX5_firstNext_69 : decode cX5_firstNext 69 = .ok (.iload 5, 2) := by decide +kernel
theorem dX5_firstNext_71 : decode cX5_firstNext 71 = .ok (.ireturn, 1) := by decide +kernel
theorem dX5_firstNext_72 : decode cX5_firstNext 72 = .ok (.iinc 5 1, 3) := by decide +kernel
theorem dX5_firstNext_75 : decode cX5_firstNext 75 = .ok (.goto (-56), 3) := by decide +kernel
theorem dX5_firstNext_78 : decode cX5_firstNext 78 = .ok (.iconst (-1), 1) := by decide +kernel
theorem dX5_firstNext_79 : decode cX5_firstNext 79 = .ok (.ireturn, 1) := by decide +kernel
theorem dX5_leastBehind_0 : decode cX5_leastBehind 0 = .ok (.iload_n 1, 1) := by decide +kernel
theorem dX5_leastBehind_1 : decode cX5_leastBehind 1 = .ok (.iconst 1, 1) := by decide +kernel
theorem dX5_leastBehind_2 : decode cX5_leastBehind 2 = .ok (.iadd, 1) := by decide +kernel
theorem dX5_leastBehind_3 : decode cX5_leastBehind 3 = .ok (.aload_n 0, 1) := by decide +kernel
theorem dX5_leastBehind_4 : decode cX5_leastBehind 4 = .ok (.getfield 50, 3) := by decide +kernel
