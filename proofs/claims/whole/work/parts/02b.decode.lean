theorem dX8_addFelt_57 : decode cX8_addFelt 57 = .ok (.iaload, 1) := by decide +kernel
theorem dX8_addFelt_58 : decode cX8_addFelt 58 = .ok (.iload 5, 2) := by decide +kernel
theorem dX8_addFelt_60 : decode cX8_addFelt 60 = .ok (.iload 4, 2) := by decide +kernel
theorem dX8_addFelt_62 : decode cX8_addFelt 62 = .ok (.isub, 1) := by decide +kernel
theorem dX8_addFelt_63 : decode cX8_addFelt 63 = .ok (.iadd, 1) := by decide +kernel
theorem dX8_addFelt_64 : decode cX8_addFelt 64 = .ok (.iastore, 1) := by decide +kernel
theorem dX8_addFelt_65 : decode cX8_addFelt 65 = .ok (.return_, 1) := by decide +kernel
theorem dX8_draw_0 : decode cX8_draw 0 = .ok (.aload_n 0, 1) := by decide +kernel
theorem dX8_draw_1 : decode cX8_draw 1 = .ok (.sipush 25173, 3) := by decide +kernel
theorem dX8_draw_4 : decode cX8_draw 4 = .ok (.aload_n 0, 1) := by decide +kernel
theorem dX8_draw_5 : decode cX8_draw 5 = .ok (.getfield 38, 3) := by decide +kernel
theorem dX8_draw_8 : decode cX8_draw 8 = .ok (.imul, 1) := by decide +kernel
theorem dX8_draw_9 : decode cX8_draw 9 = .ok (.sipush 13849, 3) := by decide +kernel
theorem dX8_draw_12 : decode cX8_draw 12 = .ok (.iadd, 1) := by decide +kernel
theorem dX8_draw_13 : decode cX8_draw 13 = .ok (.ldc 81, 2) := by decide +kernel
theorem dX8_draw_15 : decode cX8_draw 15 = .ok (.iand, 1) := by decide +kernel
theorem dX8_draw_16 : decode cX8_draw 16 = .ok (.putfield 38, 3) := by decide +kernel
theorem dX8_draw_19 : decode cX8_draw 19 = .ok (.aload_n 0, 1) := by decide +kernel
theorem dX8_draw_20 : decode cX8_draw 20 = .ok (.getfield 38, 3) := by decide +kernel
theorem dX8_draw_23 : decode cX8_draw 23 = .ok (.bipush 10, 2) := by decide +kernel
theorem dX8_draw_25 : decode cX8_draw 25 = .ok (.irem, 1) := by decide +kernel
theorem dX8_draw_26 : decode cX8_draw 26 = .ok (.ireturn, 1) := by decide +kernel
theorem dX8_above_0 : decode cX8_above 0 = .ok (.iload_n 1, 1) := by decide +kernel
theorem dX8_above_1 : decode cX8_above 1 = .ok (.invokestatic 56, 3) := by decide +kernel
theorem dX8_above_4 : decode cX8_above 4 = .ok (.ifCond .eq 11, 3) := by decide +kernel
theorem dX8_above_7 : decode cX8_above 7 = .ok (.iload_n 1, 1) := by decide +kernel
theorem dX8_above_8 : decode cX8_above 8 = .ok (.invokestatic 82, 3) := by decide +kernel
theorem dX8_above_11 : decode cX8_above 11 = .ok (.iconst 5, 1) := by decide +kernel
theorem dX8_above_12 : decode cX8_above 12 = .ok (.if_icmp .ne 6, 3) := by decide +kernel
theorem dX8_above_15 : decode cX8_above 15 = .ok (.bipush 24, 2) := by decide +kernel
theorem dX8_above_17 : decode cX8_above 17 = .ok (.ireturn, 1) := by decide +kernel
theorem dX8_above_18 : decode cX8_above 18 = .ok (.iload_n 1, 1) := by decide +kernel
theorem dX8_above_19 : decode cX8_above 19 = .ok (.invokestatic 82, 3) := by decide +kernel
theorem dX8_above_22 : decode cX8_above 22 = .ok (.iconst 1, 1) := by decide +kernel
theorem dX8_above_23 : decode cX8_above 23 = .ok (.iadd, 1) := by decide +kernel
theorem dX8_above_24 : decode cX8_above 24 = .ok (.iconst 4, 1) := by decide +kernel
theorem dX8_above_25 : decode cX8_above 25 = .ok (.imul, 1) := by decide +kernel
theorem dX8_above_26 : decode cX8_above 26 = .ok (.iload_n 1, 1) := by decide +kernel
theorem dX8_above_27 : decode cX8_above 27 = .ok (.invokestatic 86, 3) := by decide +kernel
theorem dX8_above_30 : decode cX8_above 30 = .ok (.aload_n 0, 1) := by decide +kernel
theorem dX8_above_31 : decode cX8_above 31 = .ok (.getfield 15, 3) := by decide +kernel
theorem dX8_above_34 : decode cX8_above 34 = .ok (.iload_n 1, 1) := by decide +kernel
theorem dX8_above_35 : decode cX8_above 35 = .ok (.iaload, 1) := by decide +kernel
theorem dX8_above_36 : decode cX8_above 36 = .ok (.invokestatic 89, 3) := by decide +kernel
theorem dX8_above_39 : decode cX8_above 39 = .ok (.iadd, 1) := by decide +kernel
theorem dX8_above_40 : decode cX8_above 40 = .ok (.ireturn, 1) := by decide +kernel
theorem dX8_riseTo_0 : decode cX8_riseTo 0 = .ok (.iload_n 1, 1) := by decide +kernel
theorem dX8_riseTo_1 : decode cX8_riseTo 1 = .ok (.istore_n 3, 1) := by decide +kernel
theorem dX8_riseTo_2 : decode cX8_riseTo 2 = .ok (.iload_n 1, 1) := by decide +kernel
theorem dX8_riseTo_3 : decode cX8_riseTo 3 = .ok (.invokestatic 82, 3) := by decide +kernel
theorem dX8_riseTo_6 : decode cX8_riseTo 6 = .ok (.istore 4, 2) := by decide +kernel
theorem dX8_riseTo_8 : decode cX8_riseTo 8 = .ok (.iload 4, 2) := by decide +kernel
theorem dX8_riseTo_10 : decode cX8_riseTo 10 = .ok (.iload_n 2, 1) := by decide +kernel
theorem dX8_riseTo_11 : decode cX8_riseTo 11 = .ok (.if_icmp .ge 21, 3) := by decide +kernel
theorem dX8_riseTo_14 : decode cX8_riseTo 14 = .ok (.iload 4, 2) := by decide +kernel
theorem dX8_riseTo_16 : decode cX8_riseTo 16 = .ok (.iconst 5, 1) := by decide +kernel
theorem dX8_riseTo_17 : decode cX8_riseTo 17 = .ok (.if_icmp .ge 15, 3) := by decide +kernel
theorem dX8_riseTo_20 : decode cX8_riseTo 20 = .ok (.aload_n 0, 1) := by decide +kernel
theorem dX8_riseTo_21 : decode cX8_riseTo 21 = .ok (.iload_n 3, 1) := by decide +kernel
theorem dX8_riseTo_22 : decode cX8_riseTo 22 = .ok (.invokevirtual 92, 3) := by decide +kernel
theorem dX8_riseTo_25 : decode cX8_riseTo 25 = .ok (.istore_n 3, 1) := by decide +kernel
theorem dX8_riseTo_26 : decode cX8_riseTo 26 = .ok (.iinc 4 1, 3) := by decide +kernel
theorem dX8_riseTo_29 : decode cX8_riseTo 29 = .ok (.goto (-21), 3) := by decide +kernel
theorem dX8_riseTo_32 : decode cX8_riseTo 32 = .ok (.iload_n 3, 1) := by decide +kernel
theorem dX8_riseTo_33 : decode cX8_riseTo 33 = .ok (.ireturn, 1) := by decide +kernel
theorem dX8_forget_0 : decode cX8_forget 0 = .ok (.iconst 0, 1) := by decide +kernel
theorem dX8_forget_1 : decode cX8_forget 1 = .ok (.istore_n 2, 1) := by decide +kernel
theorem dX8_forget_2 : decode cX8_forget 2 = .ok (.iload_n 2, 1) := by decide +kernel
theorem dX8_forget_3 : decode cX8_forget 3 = .ok (.bipush 24, 2) := by decide +kernel
theorem dX8_forget_5 : decode cX8_forget 5 = .ok (.if_icmp .ge 21, 3) := by decide +kernel
theorem dX8_forget_8 : decode cX8_forget 8 = .ok (.aload_n 0, 1) := by decide +kernel
theorem dX8_forget_9 : decode cX8_forget 9 = .ok (.getfield 27, 3) := by decide +kernel
theorem dX8_forget_12 : decode cX8_forget 12 = .ok (.iload_n 1, 1) := by decide +kernel
theorem dX8_forget_13 : decode cX8_forget 13 = .ok (.bipush 24, 2) := by decide +kernel
theorem dX8_forget_15 : decode cX8_forget 15 = .ok (.imul, 1) := by decide +kernel
theorem dX8_forget_16 : decode cX8_forget 16 = .ok (.iload_n 2, 1) := by decide +kernel
theorem dX8_forget_17 : decode cX8_forget 17 = .ok (.iadd, 1) := by decide +kernel
theorem dX8_forget_18 : decode cX8_forget 18 = .ok (.iconst 0, 1) := by decide +kernel
theorem dX8_forget_19 : decode cX8_forget 19 = .ok (.iastore, 1) := by decide +kernel
theorem dX8_forget_20 : decode cX8_forget 20 = .ok (.iinc 2 1, 3) := by decide +kernel
theorem dX8_forget_23 : decode cX8_forget 23 = .ok (.goto (-21), 3) := by decide +kernel
theorem dX8_forget_26 : decode cX8_forget 26 = .ok (.aload_n 0, 1) := by decide +kernel
theorem dX8_forget_27 : decode cX8_forget 27 = .ok (.getfield 30, 3) := by decide +kernel
theorem dX8_forget_30 : decode cX8_forget 30 = .ok (.iload_n 1, 1) := by decide +kernel
theorem dX8_forget_31 : decode cX8_forget 31 = .ok (.iconst 0, 1) := by decide +kernel
theorem dX8_forget_32 : decode cX8_forget 32 = .ok (.iastore, 1) := by decide +kernel
theorem dX8_forget_33 : decode cX8_forget 33 = .ok (.return_, 1) := by decide +kernel
theorem dX8_swap_0 : decode cX8_swap 0 = .ok (.aload_n 0, 1) := by decide +kernel
theorem dX8_swap_1 : decode cX8_swap 1 = .ok (.iload_n 1, 1) := by decide +kernel
theorem dX8_swap_2 : decode cX8_swap 2 = .ok (.iaload, 1) := by decide +kernel
theorem dX8_swap_3 : decode cX8_swap 3 = .ok (.istore_n 3, 1) := by decide +kernel
theorem dX8_swap_4 : decode cX8_swap 4 = .ok (.aload_n 0, 1) := by decide +kernel
theorem dX8_swap_5 : decode cX8_swap 5 = .ok (.iload_n 1, 1) := by decide +kernel
theorem dX8_swap_6 : decode cX8_swap 6 = .ok (.aload_n 0, 1) := by decide +kernel
theorem dX8_swap_7 : decode cX8_swap 7 = .ok (.iload_n 2, 1) := by decide +kernel
theorem dX8_swap_8 : decode cX8_swap 8 = .ok (.iaload, 1) := by decide +kernel
theorem dX8_swap_9 : decode cX8_swap 9 = .ok (.iastore, 1) := by decide +kernel
theorem dX8_swap_10 : decode cX8_swap 10 = .ok (.aload_n 0, 1) := by decide +kernel
theorem dX8_swap_11 : decode cX8_swap 11 = .ok (.iload_n 2, 1) := by decide +kernel
theorem dX8_swap_12 : decode cX8_swap 12 = .ok (.iload_n 3, 1) := by decide +kernel
theorem dX8_swap_13 : decode cX8_swap 13 = .ok (.iastore, 1) := by decide +kernel
theorem dX8_swap_14 : decode cX8_swap 14 = .ok (.return_, 1) := by decide +kernel
theorem dX9_read_0 : decode cX9_read 0 = .ok (.iconst 0, 1) := by decide +kernel
theorem dX9_read_1 : decode cX9_read 1 = .ok (.istore_n 2, 1) := by decide +kernel
theorem dX9_read_2 : decode cX9_read 2 = .ok (.bipush (-4), 2) := by decide +kernel
theorem dX9_read_4 : decode cX9_read 4 = .ok (.istore_n 3, 1) := by decide +kernel
theorem dX9_read_5 : decode cX9_read 5 = .ok (.iconst 0, 1) := by decide +kernel
theorem dX9_read_6 : decode cX9_read 6 = .ok (.istore 4, 2) := by decide +kernel
theorem dX9_read_8 : decode cX9_read 8 = .ok (.iload 4, 2) := by decide +kernel
theorem dX9_read_10 : decode cX9_read 10 = .ok (.bipush 60, 2) := by decide +kernel
theorem dX9_read_12 : decode cX9_read 12 = .ok (.if_icmp .ge 40, 3) := by decide +kernel
theorem dX9_read_15 : decode cX9_read 15 = .ok (.aload_n 0, 1) := by decide +kernel
theorem dX9_read_16 : decode cX9_read 16 = .ok (.invokestatic 9, 3) := by decide +kernel
theorem dX9_read_19 : decode cX9_read 19 = .ok (.istore 5, 2) := by decide +kernel
theorem dX9_read_21 : decode cX9_read 21 = .ok (.iload_n 2, 1) := by decide +kernel
theorem dX9_read_22 : decode cX9_read 22 = .ok (.iload_n 1, 1) := by decide +kernel
theorem dX9_read_23 : decode cX9_read 23 = .ok (.if_icmp .ne 6, 3) := by decide +kernel
theorem dX9_read_26 : decode cX9_read 26 = .ok (.iload 5, 2) := by decide +kernel
theorem dX9_read_28 : decode cX9_read 28 = .ok (.istore_n 3, 1) := by decide +kernel
theorem dX9_read_29 : decode cX9_read 29 = .ok (.iinc 2 1, 3) := by decide +kernel
theorem dX9_read_32 : decode cX9_read 32 = .ok (.aload_n 0, 1) := by decide +kernel
theorem dX9_read_33 : decode cX9_read 33 = .ok (.invokevirtual 15, 3) := by decide +kernel
theorem dX9_read_36 : decode cX9_read 36 = .ok (.ifCond .eq 6, 3) := by decide +kernel
theorem dX9_read_39 : decode cX9_read 39 = .ok (.goto 13, 3) := by decide +kernel
theorem dX9_read_42 : decode cX9_read 42 = .ok (.aload_n 0, 1) := by decide +kernel
theorem dX9_read_43 : decode cX9_read 43 = .ok (.invokestatic 21, 3) := by decide +kernel
theorem dX9_read_46 : decode cX9_read 46 = .ok (.iinc 4 1, 3) := by decide +kernel
theorem dX9_read_49 : decode cX9_read 49 = .ok (.goto (-41), 3) := by decide +kernel
theorem dX9_read_52 : decode cX9_read 52 = .ok (.iload_n 1, 1) := by decide +kernel
theorem dX9_read_53 : decode cX9_read 53 = .ok (.bipush 100, 2) := by decide +kernel
theorem dX9_read_55 : decode cX9_read 55 = .ok (.if_icmp .ne 7, 3) := by decide +kernel
theorem dX9_read_58 : decode cX9_read 58 = .ok (.iload_n 2, 1) := by decide +kernel
theorem dX9_read_59 : decode cX9_read 59 = .ok (.goto 4, 3) := by decide +kernel
theorem dX9_read_62 : decode cX9_read 62 = .ok (.iload_n 3, 1) := by decide +kernel
theorem dX9_read_63 : decode cX9_read 63 = .ok (.ireturn, 1) := by decide +kernel
theorem dX9_lengthOf_0 : decode cX9_lengthOf 0 = .ok (.bipush (-2), 2) := by decide +kernel
theorem dX9_lengthOf_2 : decode cX9_lengthOf 2 = .ok (.istore_n 1, 1) := by decide +kernel
theorem dX9_lengthOf_3 : decode cX9_lengthOf 3 = .ok (.iconst 0, 1) := by decide +kernel
theorem dX9_lengthOf_4 : decode cX9_lengthOf 4 = .ok (.istore_n 2, 1) := by decide +kernel
theorem dX9_lengthOf_5 : decode cX9_lengthOf 5 = .ok (.iload_n 2, 1) := by decide +kernel
theorem dX9_lengthOf_6 : decode cX9_lengthOf 6 = .ok (.bipush 40, 2) := by decide +kernel
theorem dX9_lengthOf_8 : decode cX9_lengthOf 8 = .ok (.if_icmp .ge 60, 3) := by decide +kernel
theorem dX9_lengthOf_11 : decode cX9_lengthOf 11 = .ok (.aload_n 0, 1) := by decide +kernel
theorem dX9_lengthOf_12 : decode cX9_lengthOf 12 = .ok (.invokevirtual 15, 3) := by decide +kernel
theorem dX9_lengthOf_15 : decode cX9_lengthOf 15 = .ok (.ifCond .ne 53, 3) := by decide +kernel
theorem dX9_lengthOf_18 : decode cX9_lengthOf 18 = .ok (.aload_n 0, 1) := by decide +kernel
theorem dX9_lengthOf_19 : decode cX9_lengthOf 19 = .ok (.invokevirtual 25, 3) := by decide +kernel
theorem dX9_lengthOf_22 : decode cX9_lengthOf 22 = .ok (.bipush 65, 2) := by decide +kernel
theorem dX9_lengthOf_24 : decode cX9_lengthOf 24 = .ok (.isub, 1) := by decide +kernel
theorem dX9_lengthOf_25 : decode cX9_lengthOf 25 = .ok (.istore_n 3, 1) := by decide +kernel
theorem dX9_lengthOf_26 : decode cX9_lengthOf 26 = .ok (.iload_n 3, 1) := by decide +kernel
theorem dX9_lengthOf_27 : decode cX9_lengthOf 27 = .ok (.iconst 0, 1) := by decide +kernel
theorem dX9_lengthOf_28 : decode cX9_lengthOf 28 = .ok (.bipush 25, 2) := by decide +kernel
theorem dX9_lengthOf_30 : decode cX9_lengthOf 30 = .ok (.invokestatic 29, 3) := by decide +kernel
theorem dX9_lengthOf_33 : decode cX9_lengthOf 33 = .ok (.ifCond .ne 14, 3) := by decide +kernel
theorem dX9_lengthOf_36 : decode cX9_lengthOf 36 = .ok (.aload_n 0, 1) := by decide +kernel
theorem dX9_lengthOf_37 : decode cX9_lengthOf 37 = .ok (.iconst 1, 1) := by decide +kernel
theorem dX9_lengthOf_38 : decode cX9_lengthOf 38 = .ok (.aload_n 0, 1) := by decide +kernel
theorem dX9_lengthOf_39 : decode cX9_lengthOf 39 = .ok (.getfield 33, 3) := by decide +kernel
theorem dX9_lengthOf_42 : decode cX9_lengthOf 42 = .ok (.invokevirtual 37, 3) := by decide +kernel
theorem dX9_lengthOf_45 : decode cX9_lengthOf 45 = .ok (.iconst (-1), 1) := by decide +kernel
theorem dX9_lengthOf_46 : decode cX9_lengthOf 46 = .ok (.ireturn, 1) := by decide +kernel
theorem dX9_lengthOf_47 : decode cX9_lengthOf 47 = .ok (.aload_n 0, 1) := by decide +kernel
theorem dX9_lengthOf_48 : decode cX9_lengthOf 48 = .ok (.invokevirtual 41, 3) := by decide +kernel
theorem dX9_lengthOf_51 : decode cX9_lengthOf 51 = .ok (.iload_n 1, 1) := by decide +kernel
theorem dX9_lengthOf_52 : decode cX9_lengthOf 52 = .ok (.iconst 2, 1) := by decide +kernel
theorem dX9_lengthOf_53 : decode cX9_lengthOf 53 = .ok (.iload_n 3, 1) := by decide +kernel
theorem dX9_lengthOf_54 : decode cX9_lengthOf 54 = .ok (.invokestatic 44, 3) := by decide +kernel
theorem dX9_lengthOf_57 : decode cX9_lengthOf 57 = .ok (.iadd, 1) := by decide +kernel
theorem dX9_lengthOf_58 : decode cX9_lengthOf 58 = .ok (.iconst 1, 1) := by decide +kernel
theorem dX9_lengthOf_59 : decode cX9_lengthOf 59 = .ok (.iadd, 1) := by decide +kernel
theorem dX9_lengthOf_60 : decode cX9_lengthOf 60 = .ok (.iadd, 1) := by decide +kernel
theorem dX9_lengthOf_61 : decode cX9_lengthOf 61 = .ok (.istore_n 1, 1) := by decide +kernel
theorem dX9_lengthOf_62 : decode cX9_lengthOf 62 = .ok (.iinc 2 1, 3) := by decide +kernel
theorem dX9_lengthOf_65 : decode cX9_lengthOf 65 = .ok (.goto (-60), 3) := by decide +kernel
theorem dX9_lengthOf_68 : decode cX9_lengthOf 68 = .ok (.iload_n 1, 1) := by decide +kernel
theorem dX9_lengthOf_69 : decode cX9_lengthOf 69 = .ok (.ireturn, 1) := by decide +kernel
theorem dX9_tapsOf_0 : decode cX9_tapsOf 0 = .ok (.iload_n 0, 1) := by decide +kernel
theorem dX9_tapsOf_1 : decode cX9_tapsOf 1 = .ok (.bipush 10, 2) := by decide +kernel
theorem dX9_tapsOf_3 : decode cX9_tapsOf 3 = .ok (.if_icmp .ne 7, 3) := by decide +kernel
theorem dX9_tapsOf_6 : decode cX9_tapsOf 6 = .ok (.iconst 2, 1) := by decide +kernel
theorem dX9_tapsOf_7 : decode cX9_tapsOf 7 = .ok (.goto 16, 3) := by decide +kernel
theorem dX9_tapsOf_10 : decode cX9_tapsOf 10 = .ok (.iload_n 0, 1) := by decide +kernel
theorem dX9_tapsOf_11 : decode cX9_tapsOf 11 = .ok (.bipush 10, 2) := by decide +kernel
theorem dX9_tapsOf_13 : decode cX9_tapsOf 13 = .ok (.if_icmp .le 9, 3) := by decide +kernel
theorem dX9_tapsOf_16 : decode cX9_tapsOf 16 = .ok (.iload_n 0, 1) := by decide +kernel
theorem dX9_tapsOf_17 : decode cX9_tapsOf 17 = .ok (.iconst 1, 1) := by decide +kernel
theorem dX9_tapsOf_18 : decode cX9_tapsOf 18 = .ok (.isub, 1) := by decide +kernel
theorem dX9_tapsOf_19 : decode cX9_tapsOf 19 = .ok (.goto 4, 3) := by decide +kernel
theorem dX9_tapsOf_22 : decode cX9_tapsOf 22 = .ok (.iload_n 0, 1) := by decide +kernel
theorem dX9_tapsOf_23 : decode cX9_tapsOf 23 = .ok (.istore_n 1, 1) := by decide +kernel
theorem dX9_tapsOf_24 : decode cX9_tapsOf 24 = .ok (.iload_n 1, 1) := by decide +kernel
theorem dX9_tapsOf_25 : decode cX9_tapsOf 25 = .ok (.iconst 5, 1) := by decide +kernel
theorem dX9_tapsOf_26 : decode cX9_tapsOf 26 = .ok (.idiv, 1) := by decide +kernel
theorem dX9_tapsOf_27 : decode cX9_tapsOf 27 = .ok (.iconst 1, 1) := by decide +kernel
theorem dX9_tapsOf_28 : decode cX9_tapsOf 28 = .ok (.iadd, 1) := by decide +kernel
theorem dX9_tapsOf_29 : decode cX9_tapsOf 29 = .ok (.iload_n 1, 1) := by decide +kernel
theorem dX9_tapsOf_30 : decode cX9_tapsOf 30 = .ok (.iconst 5, 1) := by decide +kernel
theorem dX9_tapsOf_31 : decode cX9_tapsOf 31 = .ok (.irem, 1) := by decide +kernel
theorem dX9_tapsOf_32 : decode cX9_tapsOf 32 = .ok (.iadd, 1) := by decide +kernel
theorem dX9_tapsOf_33 : decode cX9_tapsOf 33 = .ok (.iconst 1, 1) := by decide +kernel
theorem dX9_tapsOf_34 : decode cX9_tapsOf 34 = .ok (.iadd, 1) := by decide +kernel
theorem dX9_tapsOf_35 : decode cX9_tapsOf 35 = .ok (.ireturn, 1) := by decide +kernel
theorem dX9_readLetter_0 : decode cX9_readLetter 0 = .ok (.aload_n 0, 1) := by decide +kernel
theorem dX9_readLetter_1 : decode cX9_readLetter 1 = .ok (.invokestatic 48, 3) := by decide +kernel
theorem dX9_readLetter_4 : decode cX9_readLetter 4 = .ok (.istore_n 1, 1) := by decide +kernel
theorem dX9_readLetter_5 : decode cX9_readLetter 5 = .ok (.aload_n 0, 1) := by decide +kernel
theorem dX9_readLetter_6 : decode cX9_readLetter 6 = .ok (.bipush 46, 2) := by decide +kernel
theorem dX9_readLetter_8 : decode cX9_readLetter 8 = .ok (.invokevirtual 51, 3) := by decide +kernel
theorem dX9_readLetter_11 : decode cX9_readLetter 11 = .ok (.aload_n 0, 1) := by decide +kernel
theorem dX9_readLetter_12 : decode cX9_readLetter 12 = .ok (.invokestatic 48, 3) := by decide +kernel
theorem dX9_readLetter_15 : decode cX9_readLetter 15 = .ok (.istore_n 2, 1) := by decide +kernel
theorem dX9_readLetter_16 : decode cX9_readLetter 16 = .ok (.iload_n 1, 1) := by decide +kernel
theorem dX9_readLetter_17 : decode cX9_readLetter 17 = .ok (.iconst 1, 1) := by decide +kernel
theorem dX9_readLetter_18 : decode cX9_readLetter 18 = .ok (.isub, 1) := by decide +kernel
theorem dX9_readLetter_19 : decode cX9_readLetter 19 = .ok (.iconst 5, 1) := by decide +kernel
theorem dX9_readLetter_20 : decode cX9_readLetter 20 = .ok (.imul, 1) := by decide +kernel
theorem dX9_readLetter_21 : decode cX9_readLetter 21 = .ok (.iload_n 2, 1) := by decide +kernel
theorem dX9_readLetter_22 : decode cX9_readLetter 22 = .ok (.iadd, 1) := by decide +kernel
theorem dX9_readLetter_23 : decode cX9_readLetter 23 = .ok (.iconst 1, 1) := by decide +kernel
theorem dX9_readLetter_24 : decode cX9_readLetter 24 = .ok (.isub, 1) := by decide +kernel
theorem dX9_readLetter_25 : decode cX9_readLetter 25 = .ok (.istore_n 3, 1) := by decide +kernel
theorem dX9_readLetter_26 : decode cX9_readLetter 26 = .ok (.iload_n 3, 1) := by decide +kernel
theorem dX9_readLetter_27 : decode cX9_readLetter 27 = .ok (.bipush 10, 2) := by decide +kernel
theorem dX9_readLetter_29 : decode cX9_readLetter 29 = .ok (.if_icmp .lt 9, 3) := by decide +kernel
theorem dX9_readLetter_32 : decode cX9_readLetter 32 = .ok (.iload_n 3, 1) := by decide +kernel
theorem dX9_readLetter_33 : decode cX9_readLetter 33 = .ok (.iconst 1, 1) := by decide +kernel
theorem dX9_readLetter_34 : decode cX9_readLetter 34 = .ok (.iadd, 1) := by decide +kernel
theorem dX9_readLetter_35 : decode cX9_readLetter 35 = .ok (.goto 4, 3) := by decide +kernel
theorem dX9_readLetter_38 : decode cX9_readLetter 38 = .ok (.iload_n 3, 1) := by decide +kernel
theorem dX9_readLetter_39 : decode cX9_readLetter 39 = .ok (.ireturn, 1) := by decide +kernel
theorem dX9_readTaps_0 : decode cX9_readTaps 0 = .ok (.iconst 0, 1) := by decide +kernel
theorem dX9_readTaps_1 : decode cX9_readTaps 1 = .ok (.istore_n 1, 1) := by decide +kernel
theorem dX9_readTaps_2 : decode cX9_readTaps 2 = .ok (.iconst 0, 1) := by decide +kernel
theorem dX9_readTaps_3 : decode cX9_readTaps 3 = .ok (.istore_n 2, 1) := by decide +kernel
theorem dX9_readTaps_4 : decode cX9_readTaps 4 = .ok (.iload_n 2, 1) := by decide +kernel
theorem dX9_readTaps_5 : decode cX9_readTaps 5 = .ok (.iconst 5, 1) := by decide +kernel
theorem dX9_readTaps_6 : decode cX9_readTaps 6 = .ok (.if_icmp .ge 25, 3) := by decide +kernel
theorem dX9_readTaps_9 : decode cX9_readTaps 9 = .ok (.aload_n 0, 1) := by decide +kernel
theorem dX9_readTaps_10 : decode cX9_readTaps 10 = .ok (.invokevirtual 25, 3) := by decide +kernel
theorem dX9_readTaps_13 : decode cX9_readTaps 13 = .ok (.bipush 120, 2) := by decide +kernel
theorem dX9_readTaps_15 : decode cX9_readTaps 15 = .ok (.if_icmp .ne 16, 3) := by decide +kernel
theorem dX9_readTaps_18 : decode cX9_readTaps 18 = .ok (.aload_n 0, 1) := by decide +kernel
theorem dX9_readTaps_19 : decode cX9_readTaps 19 = .ok (.invokevirtual 41, 3) := by decide +kernel
theorem dX9_readTaps_22 : decode cX9_readTaps 22 = .ok (.iinc 1 1, 3) := by decide +kernel
theorem dX9_readTaps_25 : decode cX9_readTaps 25 = .ok (.iinc 2 1, 3) := by decide +kernel
theorem dX9_readTaps_28 : decode cX9_readTaps 28 = .ok (.goto (-24), 3) := by decide +kernel
theorem dX9_readTaps_31 : decode cX9_readTaps 31 = .ok (.iload_n 1, 1) := by decide +kernel
theorem dX9_readTaps_32 : decode cX9_readTaps 32 = .ok (.ifCond .ne 12, 3) := by decide +kernel
theorem dX9_readTaps_35 : decode cX9_readTaps 35 = .ok (.aload_n 0, 1) := by decide +kernel
theorem dX9_readTaps_36 : decode cX9_readTaps 36 = .ok (.iconst 1, 1) := by decide +kernel
theorem dX9_readTaps_37 : decode cX9_readTaps 37 = .ok (.aload_n 0, 1) := by decide +kernel
theorem dX9_readTaps_38 : decode cX9_readTaps 38 = .ok (.getfield 33, 3) := by decide +kernel
theorem dX9_readTaps_41 : decode cX9_readTaps 41 = .ok (.invokevirtual 37, 3) := by decide +kernel
theorem dX9_readTaps_44 : decode cX9_readTaps 44 = .ok (.aload_n 0, 1) := by decide +kernel
theorem dX9_readTaps_45 : decode cX9_readTaps 45 = .ok (.invokevirtual 25, 3) := by decide +kernel
theorem dX9_readTaps_48 : decode cX9_readTaps 48 = .ok (.bipush 120, 2) := by decide +kernel
theorem dX9_readTaps_50 : decode cX9_readTaps 50 = .ok (.if_icmp .ne 12, 3) := by decide +kernel
theorem dX9_readTaps_53 : decode cX9_readTaps 53 = .ok (.aload_n 0, 1) := by decide +kernel
theorem dX9_readTaps_54 : decode cX9_readTaps 54 = .ok (.iconst 2, 1) := by decide +kernel
theorem dX9_readTaps_55 : decode cX9_readTaps 55 = .ok (.aload_n 0, 1) := by decide +kernel
theorem dX9_readTaps_56 : decode cX9_readTaps 56 = .ok (.getfield 33, 3) := by decide +kernel
theorem dX9_readTaps_59 : decode cX9_readTaps 59 = .ok (.invokevirtual 37, 3) := by decide +kernel
theorem dX9_readTaps_62 : decode cX9_readTaps 62 = .ok (.iload_n 1, 1) := by decide +kernel
theorem dX9_readTaps_63 : decode cX9_readTaps 63 = .ok (.ireturn, 1) := by decide +kernel
theorem dX9_readGap_0 : decode cX9_readGap 0 = .ok (.aload_n 0, 1) := by decide +kernel
theorem dX9_readGap_1 : decode cX9_readGap 1 = .ok (.bipush 46, 2) := by decide +kernel
theorem dX9_readGap_3 : decode cX9_readGap 3 = .ok (.invokevirtual 51, 3) := by decide +kernel
theorem dX9_readGap_6 : decode cX9_readGap 6 = .ok (.aload_n 0, 1) := by decide +kernel
theorem dX9_readGap_7 : decode cX9_readGap 7 = .ok (.bipush 46, 2) := by decide +kernel
theorem dX9_readGap_9 : decode cX9_readGap 9 = .ok (.invokevirtual 51, 3) := by decide +kernel
theorem dX9_readGap_12 : decode cX9_readGap 12 = .ok (.aload_n 0, 1) := by decide +kernel
theorem dX9_readGap_13 : decode cX9_readGap 13 = .ok (.invokevirtual 25, 3) := by decide +kernel
theorem dX9_readGap_16 : decode cX9_readGap 16 = .ok (.bipush 46, 2) := by decide +kernel
theorem dX9_readGap_18 : decode cX9_readGap 18 = .ok (.if_icmp .ne 12, 3) := by decide +kernel
theorem dX9_readGap_21 : decode cX9_readGap 21 = .ok (.aload_n 0, 1) := by decide +kernel
theorem dX9_readGap_22 : decode cX9_readGap 22 = .ok (.iconst 3, 1) := by decide +kernel
theorem dX9_readGap_23 : decode cX9_readGap 23 = .ok (.aload_n 0, 1) := by decide +kernel
theorem dX9_readGap_24 : decode cX9_readGap 24 = .ok (.getfield 33, 3) := by decide +kernel
theorem dX9_readGap_27 : decode cX9_readGap 27 = .ok (.invokevirtual 37, 3) := by decide +kernel
theorem dX9_readGap_30 : decode cX9_readGap 30 = .ok (.return_, 1) := by decide +kernel
theorem dX10_init_0 : decode cX10_init 0 = .ok (.aload_n 0, 1) := by decide +kernel
theorem dX10_init_1 : decode cX10_init 1 = .ok (.invokespecial 3, 3) := by decide +kernel
theorem dX10_init_4 : decode cX10_init 4 = .ok (.aload_n 0, 1) := by decide +kernel
theorem dX10_init_5 : decode cX10_init 5 = .ok (.sipush 260, 3) := by decide +kernel
theorem dX10_init_8 : decode cX10_init 8 = .ok (.newarray .int, 2) := by decide +kernel
theorem dX10_init_10 : decode cX10_init 10 = .ok (.putfield 9, 3) := by decide +kernel
theorem dX10_init_13 : decode cX10_init 13 = .ok (.return_, 1) := by decide +kernel
theorem dX10_hasSpace_0 : decode cX10_hasSpace 0 = .ok (.aload_n 0, 1) := by decide +kernel
theorem dX10_hasSpace_1 : decode cX10_hasSpace 1 = .ok (.getfield 15, 3) := by decide +kernel
theorem dX10_hasSpace_4 : decode cX10_hasSpace 4 = .ok (.bipush 20, 2) := by decide +kernel
theorem dX10_hasSpace_6 : decode cX10_hasSpace 6 = .ok (.iadd, 1) := by decide +kernel
theorem dX10_hasSpace_7 : decode cX10_hasSpace 7 = .ok (.sipush 260, 3) := by decide +kernel
theorem dX10_hasSpace_10 : decode cX10_hasSpace 10 = .ok (.if_icmp .gt 7, 3) := by decide +kernel
theorem dX10_hasSpace_13 : decode cX10_hasSpace 13 = .ok (.iconst 1, 1) := by decide +kernel
theorem dX10_hasSpace_14 : decode cX10_hasSpace 14 = .ok (.goto 4, 3) := by decide +kernel
theorem dX10_hasSpace_17 : decode cX10_hasSpace 17 = .ok (.iconst 0, 1) := by decide +kernel
theorem dX10_hasSpace_18 : decode cX10_hasSpace 18 = .ok (.ireturn, 1) := by decide +kernel
theorem dX10_addWord_0 : decode cX10_addWord 0 = .ok (.bipush 24, 2) := by decide +kernel
theorem dX10_addWord_2 : decode cX10_addWord 2 = .ok (.istore_n 2, 1) := by decide +kernel
theorem dX10_addWord_3 : decode cX10_addWord 3 = .ok (.iload_n 2, 1) := by decide +kernel
theorem dX10_addWord_4 : decode cX10_addWord 4 = .ok (.ifCond .lt 54, 3) := by decide +kernel
theorem dX10_addWord_7 : decode cX10_addWord 7 = .ok (.aload_n 0, 1) := by decide +kernel
theorem dX10_addWord_8 : decode cX10_addWord 8 = .ok (.getfield 15, 3) := by decide +kernel
theorem dX10_addWord_11 : decode cX10_addWord 11 = .ok (.ifCond .lt 41, 3) := by decide +kernel
theorem dX10_addWord_14 : decode cX10_addWord 14 = .ok (.aload_n 0, 1) := by decide +kernel
theorem dX10_addWord_15 : decode cX10_addWord 15 = .ok (.getfield 15, 3) := by decide +kernel
theorem dX10_addWord_18 : decode cX10_addWord 18 = .ok (.aload_n 0, 1) := by decide +kernel
theorem dX10_addWord_19 : decode cX10_addWord 19 = .ok (.getfield 9, 3) := by decide +kernel
theorem dX10_addWord_22 : decode cX10_addWord 22 = .ok (.arraylength, 1) := by decide +kernel
theorem dX10_addWord_23 : decode cX10_addWord 23 = .ok (.if_icmp .ge 29, 3) := by decide +kernel
theorem dX10_addWord_26 : decode cX10_addWord 26 = .ok (.aload_n 0, 1) := by decide +kernel
theorem dX10_addWord_27 : decode cX10_addWord 27 = .ok (.getfield 9, 3) := by decide +kernel
theorem dX10_addWord_30 : decode cX10_addWord 30 = .ok (.aload_n 0, 1) := by decide +kernel
theorem dX10_addWord_31 : decode cX10_addWord 31 = .ok (.getfield 15, 3) := by decide +kernel
theorem dX10_addWord_34 : decode cX10_addWord 34 = .ok (.iload_n 1, 1) := by decide +kernel
theorem dX10_addWord_35 : decode cX10_addWord 35 = .ok (.iload_n 2, 1) := by decide +kernel
theorem dX10_addWord_36 : decode cX10_addWord 36 = .ok (.ishr, 1) := by decide +kernel
theorem dX10_addWord_37 : decode cX10_addWord 37 = .ok (.sipush 255, 3) := by decide +kernel
theorem dX10_addWord_40 : decode cX10_addWord 40 = .ok (.iand, 1) := by decide +kernel
theorem dX10_addWord_41 : decode cX10_addWord 41 = .ok (.iastore, 1) := by decide +kernel
theorem dX10_addWord_42 : decode cX10_addWord 42 = .ok (.aload_n 0, 1) := by decide +kernel
theorem dX10_addWord_43 : decode cX10_addWord 43 = .ok (.dup, 1) := by decide +kernel
theorem dX10_addWord_44 : decode cX10_addWord 44 = .ok (.getfield 15, 3) := by decide +kernel
theorem dX10_addWord_47 : decode cX10_addWord 47 = .ok (.iconst 1, 1) := by decide +kernel
theorem dX10_addWord_48 : decode cX10_addWord 48 = .ok (.iadd, 1) := by decide +kernel
theorem dX10_addWord_49 : decode cX10_addWord 49 = .ok (.putfield 15, 3) := by decide +kernel
theorem dX10_addWord_52 : decode cX10_addWord 52 = .ok (.iinc 2 (-8), 3) := by decide +kernel
theorem dX10_addWord_55 : decode cX10_addWord 55 = .ok (.goto (-52), 3) := by decide +kernel
theorem dX10_addWord_58 : decode cX10_addWord 58 = .ok (.return_, 1) := by decide +kernel
theorem dX10_has_0 : decode cX10_has 0 = .ok (.iload_n 1, 1) := by decide +kernel
theorem dX10_has_1 : decode cX10_has 1 = .ok (.aload_n 0, 1) := by decide +kernel
theorem dX10_has_2 : decode cX10_has 2 = .ok (.getfield 15, 3) := by decide +kernel
theorem dX10_has_5 : decode cX10_has 5 = .ok (.if_icmp .gt 7, 3) := by decide +kernel
theorem dX10_has_8 : decode cX10_has 8 = .ok (.iconst 1, 1) := by decide +kernel
theorem dX10_has_9 : decode cX10_has 9 = .ok (.goto 4, 3) := by decide +kernel
theorem dX10_has_12 : decode cX10_has 12 = .ok (.iconst 0, 1) := by decide +kernel
theorem dX10_has_13 : decode cX10_has 13 = .ok (.ireturn, 1) := by decide +kernel
theorem dX10_take_0 : decode cX10_take 0 = .ok (.aload_n 0, 1) := by decide +kernel
theorem dX10_take_1 : decode cX10_take 1 = .ok (.iconst 0, 1) := by decide +kernel
theorem dX10_take_2 : decode cX10_take 2 = .ok (.putfield 15, 3) := by decide +kernel
theorem dX10_take_5 : decode cX10_take 5 = .ok (.aload_n 0, 1) := by decide +kernel
theorem dX10_take_6 : decode cX10_take 6 = .ok (.iload_n 1, 1) := by decide +kernel
theorem dX10_take_7 : decode cX10_take 7 = .ok (.aload_n 0, 1) := by decide +kernel
theorem dX10_take_8 : decode cX10_take 8 = .ok (.getfield 9, 3) := by decide +kernel
theorem dX10_take_11 : decode cX10_take 11 = .ok (.arraylength, 1) := by decide +kernel
theorem dX10_take_12 : decode cX10_take 12 = .ok (.invokestatic 19, 3) := by decide +kernel
theorem dX10_take_15 : decode cX10_take 15 = .ok (.putfield 25, 3) := by decide +kernel
theorem dX10_take_18 : decode cX10_take 18 = .ok (.aload_n 0, 1) := by decide +kernel
theorem dX10_take_19 : decode cX10_take 19 = .ok (.iconst 0, 1) := by decide +kernel
theorem dX10_take_20 : decode cX10_take 20 = .ok (.putfield 28, 3) := by decide +kernel
theorem dX10_take_23 : decode cX10_take 23 = .ok (.aload_n 0, 1) := by decide +kernel
theorem dX10_take_24 : decode cX10_take 24 = .ok (.iconst 0, 1) := by decide +kernel
theorem dX10_take_25 : decode cX10_take 25 = .ok (.putfield 31, 3) := by decide +kernel
theorem dX10_take_28 : decode cX10_take 28 = .ok (.return_, 1) := by decide +kernel
theorem dX10_byteAt_0 : decode cX10_byteAt 0 = .ok (.iload_n 1, 1) := by decide +kernel
theorem dX10_byteAt_1 : decode cX10_byteAt 1 = .ok (.ifCond .lt 29, 3) := by decide +kernel
theorem dX10_byteAt_4 : decode cX10_byteAt 4 = .ok (.iload_n 1, 1) := by decide +kernel
theorem dX10_byteAt_5 : decode cX10_byteAt 5 = .ok (.aload_n 0, 1) := by decide +kernel
theorem dX10_byteAt_6 : decode cX10_byteAt 6 = .ok (.getfield 25, 3) := by decide +kernel
theorem dX10_byteAt_9 : decode cX10_byteAt 9 = .ok (.if_icmp .ge 21, 3) := by decide +kernel
theorem dX10_byteAt_12 : decode cX10_byteAt 12 = .ok (.iload_n 1, 1) := by decide +kernel
theorem dX10_byteAt_13 : decode cX10_byteAt 13 = .ok (.aload_n 0, 1) := by decide +kernel
theorem dX10_byteAt_14 : decode cX10_byteAt 14 = .ok (.getfield 9, 3) := by decide +kernel
theorem dX10_byteAt_17 : decode cX10_byteAt 17 = .ok (.arraylength, 1) := by decide +kernel
theorem dX10_byteAt_18 : decode cX10_byteAt 18 = .ok (.if_icmp .ge 12, 3) := by decide +kernel
theorem dX10_byteAt_21 : decode cX10_byteAt 21 = .ok (.aload_n 0, 1) := by decide +kernel
theorem dX10_byteAt_22 : decode cX10_byteAt 22 = .ok (.getfield 9, 3) := by decide +kernel
theorem dX10_byteAt_25 : decode cX10_byteAt 25 = .ok (.iload_n 1, 1) := by decide +kernel
theorem dX10_byteAt_26 : decode cX10_byteAt 26 = .ok (.iaload, 1) := by decide +kernel
theorem dX10_byteAt_27 : decode cX10_byteAt 27 = .ok (.goto 4, 3) := by decide +kernel
theorem dX10_byteAt_30 : decode cX10_byteAt 30 = .ok (.iconst (-1), 1) := by decide +kernel
theorem dX10_byteAt_31 : decode cX10_byteAt 31 = .ok (.ireturn, 1) := by decide +kernel
theorem dX10_sign_0 : decode cX10_sign 0 = .ok (.aload_n 0, 1) := by decide +kernel
theorem dX10_sign_1 : decode cX10_sign 1 = .ok (.getfield 31, 3) := by decide +kernel
theorem dX10_sign_4 : decode cX10_sign 4 = .ok (.ifCond .ne 45, 3) := by decide +kernel
theorem dX10_sign_7 : decode cX10_sign 7 = .ok (.aload_n 0, 1) := by decide +kernel
theorem dX10_sign_8 : decode cX10_sign 8 = .ok (.getfield 28, 3) := by decide +kernel
theorem dX10_sign_11 : decode cX10_sign 11 = .ok (.ifCond .lt 38, 3) := by decide +kernel
theorem dX10_sign_14 : decode cX10_sign 14 = .ok (.aload_n 0, 1) := by decide +kernel
theorem dX10_sign_15 : decode cX10_sign 15 = .ok (.getfield 28, 3) := by decide +kernel
theorem dX10_sign_18 : decode cX10_sign 18 = .ok (.aload_n 0, 1) := by decide +kernel
theorem dX10_sign_19 : decode cX10_sign 19 = .ok (.getfield 25, 3) := by decide +kernel
theorem dX10_sign_22 : decode cX10_sign 22 = .ok (.if_icmp .ge 27, 3) := by decide +kernel
theorem dX10_sign_25 : decode cX10_sign 25 = .ok (.aload_n 0, 1) := by decide +kernel
theorem dX10_sign_26 : decode cX10_sign 26 = .ok (.getfield 28, 3) := by decide +kernel
theorem dX10_sign_29 : decode cX10_sign 29 = .ok (.aload_n 0, 1) := by decide +kernel
theorem dX10_sign_30 : decode cX10_sign 30 = .ok (.getfield 9, 3) := by decide +kernel
theorem dX10_sign_33 : decode cX10_sign 33 = .ok (.arraylength, 1) := by decide +kernel
theorem dX10_sign_34 : decode cX10_sign 34 = .ok (.if_icmp .ge 15, 3) := by decide +kernel
theorem dX10_sign_37 : decode cX10_sign 37 = .ok (.aload_n 0, 1) := by decide +kernel
theorem dX10_sign_38 : decode cX10_sign 38 = .ok (.getfield 9, 3) := by decide +kernel
theorem dX10_sign_41 : decode cX10_sign 41 = .ok (.aload_n 0, 1) := by decide +kernel
theorem dX10_sign_42 : decode cX10_sign 42 = .ok (.getfield 28, 3) := by decide +kernel
theorem dX10_sign_45 : decode cX10_sign 45 = .ok (.iaload, 1) := by decide +kernel
theorem dX10_sign_46 : decode cX10_sign 46 = .ok (.goto 4, 3) := by decide +kernel
theorem dX10_sign_49 : decode cX10_sign 49 = .ok (.iconst (-1), 1) := by decide +kernel
theorem dX10_sign_50 : decode cX10_sign 50 = .ok (.ireturn, 1) := by decide +kernel
theorem dX10_isOver_0 : decode cX10_isOver 0 = .ok (.aload_n 0, 1) := by decide +kernel
theorem dX10_isOver_1 : decode cX10_isOver 1 = .ok (.getfield 31, 3) := by decide +kernel
theorem dX10_isOver_4 : decode cX10_isOver 4 = .ok (.ifCond .ne 14, 3) := by decide +kernel
theorem dX10_isOver_7 : decode cX10_isOver 7 = .ok (.aload_n 0, 1) := by decide +kernel
theorem dX10_isOver_8 : decode cX10_isOver 8 = .ok (.getfield 28, 3) := by decide +kernel
theorem dX10_isOver_11 : decode cX10_isOver 11 = .ok (.aload_n 0, 1) := by decide +kernel
theorem dX10_isOver_12 : decode cX10_isOver 12 = .ok (.getfield 25, 3) := by decide +kernel
theorem dX10_isOver_15 : decode cX10_isOver 15 = .ok (.if_icmp .lt 7, 3) := by decide +kernel
theorem dX10_isOver_18 : decode cX10_isOver 18 = .ok (.iconst 1, 1) := by decide +kernel
theorem dX10_isOver_19 : decode cX10_isOver 19 = .ok (.goto 4, 3) := by decide +kernel
theorem dX10_isOver_22 : decode cX10_isOver 22 = .ok (.iconst 0, 1) := by decide +kernel
theorem dX10_isOver_23 : decode cX10_isOver 23 = .ok (.ireturn, 1) := by decide +kernel
theorem dX10_isFaulty_0 : decode cX10_isFaulty 0 = .ok (.aload_n 0, 1) := by decide +kernel
theorem dX10_isFaulty_1 : decode cX10_isFaulty 1 = .ok (.getfield 31, 3) := by decide +kernel
theorem dX10_isFaulty_4 : decode cX10_isFaulty 4 = .ok (.ifCond .eq 7, 3) := by decide +kernel
theorem dX10_isFaulty_7 : decode cX10_isFaulty 7 = .ok (.iconst 1, 1) := by decide +kernel
theorem dX10_isFaulty_8 : decode cX10_isFaulty 8 = .ok (.goto 4, 3) := by decide +kernel
theorem dX10_isFaulty_11 : decode cX10_isFaulty 11 = .ok (.iconst 0, 1) := by decide +kernel
theorem dX10_isFaulty_12 : decode cX10_isFaulty 12 = .ok (.ireturn, 1) := by decide +kernel
theorem dX10_step_0 : decode cX10_step 0 = .ok (.aload_n 0, 1) := by decide +kernel
theorem dX10_step_1 : decode cX10_step 1 = .ok (.dup, 1) := by decide +kernel
theorem dX10_step_2 : decode cX10_step 2 = .ok (.getfield 28, 3) := by decide +kernel
theorem dX10_step_5 : decode cX10_step 5 = .ok (.iconst 1, 1) := by decide +kernel
theorem dX10_step_6 : decode cX10_step 6 = .ok (.iadd, 1) := by decide +kernel
theorem dX10_step_7 : decode cX10_step 7 = .ok (.putfield 28, 3) := by decide +kernel
theorem dX10_step_10 : decode cX10_step 10 = .ok (.return_, 1) := by decide +kernel
theorem dX10_expect_0 : decode cX10_expect 0 = .ok (.aload_n 0, 1) := by decide +kernel
theorem dX10_expect_1 : decode cX10_expect 1 = .ok (.invokevirtual 34, 3) := by decide +kernel
theorem dX10_expect_4 : decode cX10_expect 4 = .ok (.iload_n 1, 1) := by decide +kernel
theorem dX10_expect_5 : decode cX10_expect 5 = .ok (.if_icmp .ne 10, 3) := by decide +kernel
theorem dX10_expect_8 : decode cX10_expect 8 = .ok (.aload_n 0, 1) := by decide +kernel
theorem dX10_expect_9 : decode cX10_expect 9 = .ok (.invokevirtual 38, 3) := by decide +kernel
theorem dX10_expect_12 : decode cX10_expect 12 = .ok (.goto 12, 3) := by decide +kernel
theorem dX10_expect_15 : decode cX10_expect 15 = .ok (.aload_n 0, 1) := by decide +kernel
theorem dX10_expect_16 : decode cX10_expect 16 = .ok (.iconst 1, 1) := by decide +kernel
theorem dX10_expect_17 : decode cX10_expect 17 = .ok (.aload_n 0, 1) := by decide +kernel
theorem dX10_expect_18 : decode cX10_expect 18 = .ok (.getfield 28, 3) := by decide +kernel
theorem dX10_expect_21 : decode cX10_expect 21 = .ok (.invokevirtual 41, 3) := by decide +kernel
theorem dX10_expect_24 : decode cX10_expect 24 = .ok (.return_, 1) := by decide +kernel
theorem dX10_failAt_0 : decode cX10_failAt 0 = .ok (.aload_n 0, 1) := by decide +kernel
theorem dX10_failAt_1 : decode cX10_failAt 1 = .ok (.getfield 31, 3) := by decide +kernel
theorem dX10_failAt_4 : decode cX10_failAt 4 = .ok (.ifCond .ne 14, 3) := by decide +kernel
theorem dX10_failAt_7 : decode cX10_failAt 7 = .ok (.aload_n 0, 1) := by decide +kernel
theorem dX10_failAt_8 : decode cX10_failAt 8 = .ok (.sipush (-1000), 3) := by decide +kernel
theorem dX10_failAt_11 : decode cX10_failAt 11 = .ok (.iload_n 1, 1) := by decide +kernel
theorem dX10_failAt_12 : decode cX10_failAt 12 = .ok (.imul, 1) := by decide +kernel
theorem dX10_failAt_13 : decode cX10_failAt 13 = .ok (.iload_n 2, 1) := by decide +kernel
theorem dX10_failAt_14 : decode cX10_failAt 14 = .ok (.isub, 1) := by decide +kernel
theorem dX10_failAt_15 : decode cX10_failAt 15 = .ok (.putfield 31, 3) := by decide +kernel
theorem dX10_failAt_18 : decode cX10_failAt 18 = .ok (.return_, 1) := by decide +kernel
theorem dX10_number_0 : decode cX10_number 0 = .ok (.aload_n 0, 1) := by decide +kernel
theorem dX10_number_1 : decode cX10_number 1 = .ok (.invokevirtual 34, 3) := by decide +kernel
theorem dX10_number_4 : decode cX10_number 4 = .ok (.invokestatic 45, 3) := by decide +kernel
theorem dX10_number_7 : decode cX10_number 7 = .ok (.ifCond .ne 14, 3) := by decide +kernel
theorem dX10_number_10 : decode cX10_number 10 = .ok (.aload_n 0, 1) := by decide +kernel
theorem dX10_number_11 : decode cX10_number 11 = .ok (.iconst 1, 1) := by decide +kernel
theorem dX10_number_12 : decode cX10_number 12 = .ok (.aload_n 0, 1) := by decide +kernel
theorem dX10_number_13 : decode cX10_number 13 = .ok (.getfield 28, 3) := by decide +kernel
theorem dX10_number_16 : decode cX10_number 16 = .ok (.invokevirtual 41, 3) := by decide +kernel
theorem dX10_number_19 : decode cX10_number 19 = .ok (.iconst (-1), 1) := by decide +kernel
theorem dX10_number_20 : decode cX10_number 20 = .ok (.ireturn, 1) := by decide +kernel
theorem dX10_number_21 : decode cX10_number 21 = .ok (.iconst 0, 1) := by decide +kernel
theorem dX10_number_22 : decode cX10_number 22 = .ok (.istore_n 2, 1) := by decide +kernel
theorem dX10_number_23 : decode cX10_number 23 = .ok (.iconst 0, 1) := by decide +kernel
theorem dX10_number_24 : decode cX10_number 24 = .ok (.istore_n 3, 1) := by decide +kernel
theorem dX10_number_25 : decode cX10_number 25 = .ok (.iload_n 3, 1) := by decide +kernel
theorem dX10_number_26 : decode cX10_number 26 = .ok (.iload_n 1, 1) := by decide +kernel
theorem dX10_number_27 : decode cX10_number 27 = .ok (.if_icmp .ge 36, 3) := by decide +kernel
theorem dX10_number_30 : decode cX10_number 30 = .ok (.aload_n 0, 1) := by decide +kernel
theorem dX10_number_31 : decode cX10_number 31 = .ok (.invokevirtual 34, 3) := by decide +kernel
theorem dX10_number_34 : decode cX10_number 34 = .ok (.invokestatic 45, 3) := by decide +kernel
theorem dX10_number_37 : decode cX10_number 37 = .ok (.ifCond .eq 26, 3) := by decide +kernel
theorem dX10_number_40 : decode cX10_number 40 = .ok (.iload_n 2, 1) := by decide +kernel
theorem dX10_number_41 : decode cX10_number 41 = .ok (.bipush 10, 2) := by decide +kernel
theorem dX10_number_43 : decode cX10_number 43 = .ok (.imul, 1) := by decide +kernel
theorem dX10_number_44 : decode cX10_number 44 = .ok (.aload_n 0, 1) := by decide +kernel
theorem dX10_number_45 : decode cX10_number 45 = .ok (.invokevirtual 34, 3) := by decide +kernel
theorem dX10_number_48 : decode cX10_number 48 = .ok (.iadd, 1) := by decide +kernel
theorem dX10_number_49 : decode cX10_number 49 = .ok (.bipush 48, 2) := by decide +kernel
theorem dX10_number_51 : decode cX10_number 51 = .ok (.isub, 1) := by decide +kernel
theorem dX10_number_52 : decode cX10_number 52 = .ok (.istore_n 2, 1) := by decide +kernel
theorem dX10_number_53 : decode cX10_number 53 = .ok (.aload_n 0, 1) := by decide +kernel
theorem dX10_number_54 : decode cX10_number 54 = .ok (.invokevirtual 38, 3) := by decide +kernel
theorem dX10_number_57 : decode cX10_number 57 = .ok (.iinc 3 1, 3) := by decide +kernel
theorem dX10_number_60 : decode cX10_number 60 = .ok (.goto (-35), 3) := by decide +kernel
theorem dX10_number_63 : decode cX10_number 63 = .ok (.aload_n 0, 1) := by decide +kernel
theorem dX10_number_64 : decode cX10_number 64 = .ok (.invokevirtual 34, 3) := by decide +kernel
theorem dX10_number_67 : decode cX10_number 67 = .ok (.invokestatic 45, 3) := by decide +kernel
theorem dX10_number_70 : decode cX10_number 70 = .ok (.ifCond .eq 14, 3) := by decide +kernel
theorem dX10_number_73 : decode cX10_number 73 = .ok (.aload_n 0, 1) := by decide +kernel
theorem dX10_number_74 : decode cX10_number 74 = .ok (.iconst 2, 1) := by decide +kernel
theorem dX10_number_75 : decode cX10_number 75 = .ok (.aload_n 0, 1) := by decide +kernel
theorem dX10_number_76 : decode cX10_number 76 = .ok (.getfield 28, 3) := by decide +kernel
theorem dX10_number_79 : decode cX10_number 79 = .ok (.invokevirtual 41, 3) := by decide +kernel
theorem dX10_number_82 : decode cX10_number 82 = .ok (.iconst (-1), 1) := by decide +kernel
theorem dX10_number_83 : decode cX10_number 83 = .ok (.ireturn, 1) := by decide +kernel
theorem dX10_number_84 : decode cX10_number 84 = .ok (.iload_n 2, 1) := by decide +kernel
theorem dX10_number_85 : decode cX10_number 85 = .ok (.ireturn, 1) := by decide +kernel
theorem dX10_isDigit_0 : decode cX10_isDigit 0 = .ok (.iload_n 0, 1) := by decide +kernel
theorem dX10_isDigit_1 : decode cX10_isDigit 1 = .ok (.bipush 48, 2) := by decide +kernel
theorem dX10_isDigit_3 : decode cX10_isDigit 3 = .ok (.if_icmp .lt 13, 3) := by decide +kernel
theorem dX10_isDigit_6 : decode cX10_isDigit 6 = .ok (.iload_n 0, 1) := by decide +kernel
theorem dX10_isDigit_7 : decode cX10_isDigit 7 = .ok (.bipush 57, 2) := by decide +kernel
theorem dX10_isDigit_9 : decode cX10_isDigit 9 = .ok (.if_icmp .gt 7, 3) := by decide +kernel
theorem dX10_isDigit_12 : decode cX10_isDigit 12 = .ok (.iconst 1, 1) := by decide +kernel
theorem dX10_isDigit_13 : decode cX10_isDigit 13 = .ok (.goto 4, 3) := by decide +kernel
theorem dX10_isDigit_16 : decode cX10_isDigit 16 = .ok (.iconst 0, 1) := by decide +kernel
theorem dX10_isDigit_17 : decode cX10_isDigit 17 = .ok (.ireturn, 1) := by decide +kernel
theorem dX11_init_0 : decode cX11_init 0 = .ok (.aload_n 0, 1) := by decide +kernel
theorem dX11_init_1 : decode cX11_init 1 = .ok (.invokespecial 3, 3) := by decide +kernel
theorem dX11_init_4 : decode cX11_init 4 = .ok (.aload_n 0, 1) := by decide +kernel
theorem dX11_init_5 : decode cX11_init 5 = .ok (.new 9, 3) := by decide +kernel
theorem dX11_init_8 : decode cX11_init 8 = .ok (.dup, 1) := by decide +kernel
theorem dX11_init_9 : decode cX11_init 9 = .ok (.invokespecial 11, 3) := by decide +kernel
theorem dX11_init_12 : decode cX11_init 12 = .ok (.putfield 12, 3) := by decide +kernel
theorem dX11_init_15 : decode cX11_init 15 = .ok (.aload_n 0, 1) := by decide +kernel
theorem dX11_init_16 : decode cX11_init 16 = .ok (.new 16, 3) := by decide +kernel
theorem dX11_init_19 : decode cX11_init 19 = .ok (.dup, 1) := by decide +kernel
theorem dX11_init_20 : decode cX11_init 20 = .ok (.invokespecial 18, 3) := by decide +kernel
theorem dX11_init_23 : decode cX11_init 23 = .ok (.putfield 19, 3) := by decide +kernel
theorem dX11_init_26 : decode cX11_init 26 = .ok (.aload_n 0, 1) := by decide +kernel
theorem dX11_init_27 : decode cX11_init 27 = .ok (.new 16, 3) := by decide +kernel
theorem dX11_init_30 : decode cX11_init 30 = .ok (.dup, 1) := by decide +kernel
theorem dX11_init_31 : decode cX11_init 31 = .ok (.invokespecial 18, 3) := by decide +kernel
theorem dX11_init_34 : decode cX11_init 34 = .ok (.putfield 23, 3) := by decide +kernel
theorem dX11_init_37 : decode cX11_init 37 = .ok (.aload_n 0, 1) := by decide +kernel
theorem dX11_init_38 : decode cX11_init 38 = .ok (.new 16, 3) := by decide +kernel
theorem dX11_init_41 : decode cX11_init 41 = .ok (.dup, 1) := by decide +kernel
theorem dX11_init_42 : decode cX11_init 42 = .ok (.invokespecial 18, 3) := by decide +kernel
theorem dX11_init_45 : decode cX11_init 45 = .ok (.putfield 26, 3) := by decide +kernel
theorem dX11_init_48 : decode cX11_init 48 = .ok (.aload_n 0, 1) := by decide +kernel
theorem dX11_init_49 : decode cX11_init 49 = .ok (.new 29, 3) := by decide +kernel
theorem dX11_init_52 : decode cX11_init 52 = .ok (.dup, 1) := by decide +kernel
theorem dX11_init_53 : decode cX11_init 53 = .ok (.aload_n 0, 1) := by decide +kernel
theorem dX11_init_54 : decode cX11_init 54 = .ok (.getfield 19, 3) := by decide +kernel
theorem dX11_init_57 : decode cX11_init 57 = .ok (.invokespecial 31, 3) := by decide +kernel
theorem dX11_init_60 : decode cX11_init 60 = .ok (.putfield 34, 3) := by decide +kernel
theorem dX11_init_63 : decode cX11_init 63 = .ok (.aload_n 0, 1) := by decide +kernel
theorem dX11_init_64 : decode cX11_init 64 = .ok (.new 29, 3) := by decide +kernel
theorem dX11_init_67 : decode cX11_init 67 = .ok (.dup, 1) := by decide +kernel
theorem dX11_init_68 : decode cX11_init 68 = .ok (.aload_n 0, 1) := by decide +kernel
theorem dX11_init_69 : decode cX11_init 69 = .ok (.getfield 19, 3) := by decide +kernel
theorem dX11_init_72 : decode cX11_init 72 = .ok (.invokespecial 31, 3) := by decide +kernel
theorem dX11_init_75 : decode cX11_init 75 = .ok (.putfield 38, 3) := by decide +kernel
theorem dX11_init_78 : decode cX11_init 78 = .ok (.aload_n 0, 1) := by decide +kernel
theorem dX11_init_79 : decode cX11_init 79 = .ok (.new 41, 3) := by decide +kernel
theorem dX11_init_82 : decode cX11_init 82 = .ok (.dup, 1) := by decide +kernel
theorem dX11_init_83 : decode cX11_init 83 = .ok (.aload_n 0, 1) := by decide +kernel
theorem dX11_init_84 : decode cX11_init 84 = .ok (.getfield 19, 3) := by decide +kernel
theorem dX11_init_87 : decode cX11_init 87 = .ok (.aload_n 0, 1) := by decide +kernel
theorem dX11_init_88 : decode cX11_init 88 = .ok (.getfield 34, 3) := by decide +kernel
theorem dX11_init_91 : decode cX11_init 91 = .ok (.invokespecial 43, 3) := by decide +kernel
theorem dX11_init_94 : decode cX11_init 94 = .ok (.putfield 46, 3) := by decide +kernel
theorem dX11_init_97 : decode cX11_init 97 = .ok (.aload_n 0, 1) := by decide +kernel
theorem dX11_init_98 : decode cX11_init 98 = .ok (.new 50, 3) := by decide +kernel
theorem dX11_init_101 : decode cX11_init 101 = .ok (.dup, 1) := by decide +kernel
theorem dX11_init_102 : decode cX11_init 102 = .ok (.aload_n 0, 1) := by decide +kernel
theorem dX11_init_103 : decode cX11_init 103 = .ok (.getfield 12, 3) := by decide +kernel
theorem dX11_init_106 : decode cX11_init 106 = .ok (.aload_n 0, 1) := by decide +kernel
theorem dX11_init_107 : decode cX11_init 107 = .ok (.getfield 38, 3) := by decide +kernel
theorem dX11_init_110 : decode cX11_init 110 = .ok (.invokespecial 52, 3) := by decide +kernel
theorem dX11_init_113 : decode cX11_init 113 = .ok (.putfield 55, 3) := by decide +kernel
theorem dX11_init_116 : decode cX11_init 116 = .ok (.aload_n 0, 1) := by decide +kernel
theorem dX11_init_117 : decode cX11_init 117 = .ok (.new 59, 3) := by decide +kernel
theorem dX11_init_120 : decode cX11_init 120 = .ok (.dup, 1) := by decide +kernel
theorem dX11_init_121 : decode cX11_init 121 = .ok (.aload_n 0, 1) := by decide +kernel
theorem dX11_init_122 : decode cX11_init 122 = .ok (.getfield 12, 3) := by decide +kernel
theorem dX11_init_125 : decode cX11_init 125 = .ok (.aload_n 0, 1) := by decide +kernel
theorem dX11_init_126 : decode cX11_init 126 = .ok (.getfield 26, 3) := by decide +kernel
theorem dX11_init_129 : decode cX11_init 129 = .ok (.invokespecial 61, 3) := by decide +kernel
theorem dX11_init_132 : decode cX11_init 132 = .ok (.putfield 64, 3) := by decide +kernel
theorem dX11_init_135 : decode cX11_init 135 = .ok (.aload_n 0, 1) := by decide +kernel
theorem dX11_init_136 : decode cX11_init 136 = .ok (.new 68, 3) := by decide +kernel
theorem dX11_init_139 : decode cX11_init 139 = .ok (.dup, 1) := by decide +kernel
theorem dX11_init_140 : decode cX11_init 140 = .ok (.invokespecial 70, 3) := by decide +kernel
theorem dX11_init_143 : decode cX11_init 143 = .ok (.putfield 71, 3) := by decide +kernel
theorem dX11_init_146 : decode cX11_init 146 = .ok (.aload_n 0, 1) := by decide +kernel
theorem dX11_init_147 : decode cX11_init 147 = .ok (.new 75, 3) := by decide +kernel
theorem dX11_init_150 : decode cX11_init 150 = .ok (.dup, 1) := by decide +kernel
theorem dX11_init_151 : decode cX11_init 151 = .ok (.invokespecial 77, 3) := by decide +kernel
theorem dX11_init_154 : decode cX11_init 154 = .ok (.putfield 78, 3) := by decide +kernel
theorem dX11_init_157 : decode cX11_init 157 = .ok (.aload_n 0, 1) := by decide +kernel
theorem dX11_init_158 : decode cX11_init 158 = .ok (.new 82, 3) := by decide +kernel
theorem dX11_init_161 : decode cX11_init 161 = .ok (.dup, 1) := by decide +kernel
theorem dX11_init_162 : decode cX11_init 162 = .ok (.invokespecial 84, 3) := by decide +kernel
theorem dX11_init_165 : decode cX11_init 165 = .ok (.putfield 85, 3) := by decide +kernel
theorem dX11_init_168 : decode cX11_init 168 = .ok (.aload_n 0, 1) := by decide +kernel
theorem dX11_init_169 : decode cX11_init 169 = .ok (.new 89, 3) := by decide +kernel
theorem dX11_init_172 : decode cX11_init 172 = .ok (.dup, 1) := by decide +kernel
theorem dX11_init_173 : decode cX11_init 173 = .ok (.invokespecial 91, 3) := by decide +kernel
theorem dX11_init_176 : decode cX11_init 176 = .ok (.putfield 92, 3) := by decide +kernel
theorem dX11_init_179 : decode cX11_init 179 = .ok (.aload_n 0, 1) := by decide +kernel
theorem dX11_init_180 : decode cX11_init 180 = .ok (.iconst 0, 1) := by decide +kernel
theorem dX11_init_181 : decode cX11_init 181 = .ok (.putfield 96, 3) := by decide +kernel
theorem dX11_init_184 : decode cX11_init 184 = .ok (.return_, 1) := by decide +kernel
theorem dX11_guest_0 : decode cX11_guest 0 = .ok (.iload_n 1, 1) := by decide +kernel
theorem dX11_guest_1 : decode cX11_guest 1 = .ok (.invokestatic 100, 3) := by decide +kernel
theorem dX11_guest_4 : decode cX11_guest 4 = .ok (.ifCond .eq 14, 3) := by decide +kernel
theorem dX11_guest_7 : decode cX11_guest 7 = .ok (.iload_n 2, 1) := by decide +kernel
theorem dX11_guest_8 : decode cX11_guest 8 = .ok (.iconst 0, 1) := by decide +kernel
theorem dX11_guest_9 : decode cX11_guest 9 = .ok (.sipush 9999, 3) := by decide +kernel
theorem dX11_guest_12 : decode cX11_guest 12 = .ok (.invokestatic 104, 3) := by decide +kernel
theorem dX11_guest_15 : decode cX11_guest 15 = .ok (.ifCond .ne 5, 3) := by decide +kernel
theorem dX11_guest_18 : decode cX11_guest 18 = .ok (.iconst 0, 1) := by decide +kernel
theorem dX11_guest_19 : decode cX11_guest 19 = .ok (.ireturn, 1) := by decide +kernel
theorem dX11_guest_20 : decode cX11_guest 20 = .ok (.aload_n 0, 1) := by decide +kernel
theorem dX11_guest_21 : decode cX11_guest 21 = .ok (.getfield 19, 3) := by decide +kernel
theorem dX11_guest_24 : decode cX11_guest 24 = .ok (.iload_n 1, 1) := by decide +kernel
theorem dX11_guest_25 : decode cX11_guest 25 = .ok (.iload_n 2, 1) := by decide +kernel
theorem dX11_guest_26 : decode cX11_guest 26 = .ok (.invokevirtual 108, 3) := by decide +kernel
theorem dX11_guest_29 : decode cX11_guest 29 = .ok (.iconst 1, 1) := by decide +kernel
theorem dX11_guest_30 : decode cX11_guest 30 = .ok (.ireturn, 1) := by decide +kernel
theorem dX11_grille_0 : decode cX11_grille 0 = .ok (.iload_n 1, 1) := by decide +kernel
theorem dX11_grille_1 : decode cX11_grille 1 = .ok (.invokestatic 100, 3) := by decide +kernel
theorem dX11_grille_4 : decode cX11_grille 4 = .ok (.ifCond .ne 5, 3) := by decide +kernel
theorem dX11_grille_7 : decode cX11_grille 7 = .ok (.iconst 0, 1) := by decide +kernel
theorem dX11_grille_8 : decode cX11_grille 8 = .ok (.ireturn, 1) := by decide +kernel
theorem dX11_grille_9 : decode cX11_grille 9 = .ok (.aload_n 0, 1) := by decide +kernel
theorem dX11_grille_10 : decode cX11_grille 10 = .ok (.getfield 19, 3) := by decide +kernel
theorem dX11_grille_13 : decode cX11_grille 13 = .ok (.iload_n 1, 1) := by decide +kernel
theorem dX11_grille_14 : decode cX11_grille 14 = .ok (.iload_n 2, 1) := by decide +kernel
theorem dX11_grille_15 : decode cX11_grille 15 = .ok (.invokevirtual 112, 3) := by decide +kernel
theorem dX11_grille_18 : decode cX11_grille 18 = .ok (.iconst 1, 1) := by decide +kernel
theorem dX11_grille_19 : decode cX11_grille 19 = .ok (.ireturn, 1) := by decide +kernel
theorem dX11_louvre_0 : decode cX11_louvre 0 = .ok (.iload_n 1, 1) := by decide +kernel
theorem dX11_louvre_1 : decode cX11_louvre 1 = .ok (.invokestatic 100, 3) := by decide +kernel
theorem dX11_louvre_4 : decode cX11_louvre 4 = .ok (.ifCond .eq 12, 3) := by decide +kernel
theorem dX11_louvre_7 : decode cX11_louvre 7 = .ok (.iload_n 2, 1) := by decide +kernel
theorem dX11_louvre_8 : decode cX11_louvre 8 = .ok (.iconst 0, 1) := by decide +kernel
theorem dX11_louvre_9 : decode cX11_louvre 9 = .ok (.iconst 2, 1) := by decide +kernel
theorem dX11_louvre_10 : decode cX11_louvre 10 = .ok (.invokestatic 104, 3) := by decide +kernel
theorem dX11_louvre_13 : decode cX11_louvre 13 = .ok (.ifCond .ne 5, 3) := by decide +kernel
theorem dX11_louvre_16 : decode cX11_louvre 16 = .ok (.iconst 0, 1) := by decide +kernel
theorem dX11_louvre_17 : decode cX11_louvre 17 = .ok (.ireturn, 1) := by decide +kernel
theorem dX11_louvre_18 : decode cX11_louvre 18 = .ok (.aload_n 0, 1) := by decide +kernel
theorem dX11_louvre_19 : decode cX11_louvre 19 = .ok (.getfield 19, 3) := by decide +kernel
theorem dX11_louvre_22 : decode cX11_louvre 22 = .ok (.iload_n 1, 1) := by decide +kernel
theorem dX11_louvre_23 : decode cX11_louvre 23 = .ok (.iload_n 2, 1) := by decide +kernel
theorem dX11_louvre_24 : decode cX11_louvre 24 = .ok (.invokevirtual 116, 3) := by decide +kernel
theorem dX11_louvre_27 : decode cX11_louvre 27 = .ok (.iconst 1, 1) := by decide +kernel
theorem dX11_louvre_28 : decode cX11_louvre 28 = .ok (.ireturn, 1) := by decide +kernel
theorem dX11_feed_0 : decode cX11_feed 0 = .ok (.aload_n 0, 1) := by decide +kernel
theorem dX11_feed_1 : decode cX11_feed 1 = .ok (.getfield 12, 3) := by decide +kernel
theorem dX11_feed_4 : decode cX11_feed 4 = .ok (.invokevirtual 119, 3) := by decide +kernel
theorem dX11_feed_7 : decode cX11_feed 7 = .ok (.ifCond .ne 5, 3) := by decide +kernel
theorem dX11_feed_10 : decode cX11_feed 10 = .ok (.iconst (-1), 1) := by decide +kernel
theorem dX11_feed_11 : decode cX11_feed 11 = .ok (.ireturn, 1) := by decide +kernel
theorem dX11_feed_12 : decode cX11_feed 12 = .ok (.aload_n 0, 1) := by decide +kernel
theorem dX11_feed_13 : decode cX11_feed 13 = .ok (.getfield 12, 3) := by decide +kernel
theorem dX11_feed_16 : decode cX11_feed 16 = .ok (.iload_n 1, 1) := by decide +kernel
theorem dX11_feed_17 : decode cX11_feed 17 = .ok (.invokevirtual 123, 3) := by decide +kernel
theorem dX11_feed_20 : decode cX11_feed 20 = .ok (.aload_n 0, 1) := by decide +kernel
theorem dX11_feed_21 : decode cX11_feed 21 = .ok (.getfield 12, 3) := by decide +kernel
theorem dX11_feed_24 : decode cX11_feed 24 = .ok (.iload_n 2, 1) := by decide +kernel
theorem dX11_feed_25 : decode cX11_feed 25 = .ok (.invokevirtual 123, 3) := by decide +kernel
theorem dX11_feed_28 : decode cX11_feed 28 = .ok (.aload_n 0, 1) := by decide +kernel
theorem dX11_feed_29 : decode cX11_feed 29 = .ok (.getfield 12, 3) := by decide +kernel
theorem dX11_feed_32 : decode cX11_feed 32 = .ok (.iload_n 3, 1) := by decide +kernel
theorem dX11_feed_33 : decode cX11_feed 33 = .ok (.invokevirtual 123, 3) := by decide +kernel
theorem dX11_feed_36 : decode cX11_feed 36 = .ok (.aload_n 0, 1) := by decide +kernel
theorem dX11_feed_37 : decode cX11_feed 37 = .ok (.getfield 12, 3) := by decide +kernel
theorem dX11_feed_40 : decode cX11_feed 40 = .ok (.iload 4, 2) := by decide +kernel
theorem dX11_feed_42 : decode cX11_feed 42 = .ok (.invokevirtual 123, 3) := by decide +kernel
theorem dX11_feed_45 : decode cX11_feed 45 = .ok (.aload_n 0, 1) := by decide +kernel
theorem dX11_feed_46 : decode cX11_feed 46 = .ok (.getfield 12, 3) := by decide +kernel
theorem dX11_feed_49 : decode cX11_feed 49 = .ok (.iload 5, 2) := by decide +kernel
theorem dX11_feed_51 : decode cX11_feed 51 = .ok (.invokevirtual 123, 3) := by decide +kernel
theorem dX11_feed_54 : decode cX11_feed 54 = .ok (.aload_n 0, 1) := by decide +kernel
theorem dX11_feed_55 : decode cX11_feed 55 = .ok (.getfield 12, 3) := by decide +kernel
theorem dX11_feed_58 : decode cX11_feed 58 = .ok (.getfield 127, 3) := by decide +kernel
theorem dX11_feed_61 : decode cX11_feed 61 = .ok (.ireturn, 1) := by decide +kernel
theorem dX11_law_0 : decode cX11_law 0 = .ok (.iload_n 1, 1) := by decide +kernel
theorem dX11_law_1 : decode cX11_law 1 = .ok (.iconst 1, 1) := by decide +kernel
theorem dX11_law_2 : decode cX11_law 2 = .ok (.sipush 240, 3) := by decide +kernel
theorem dX11_law_5 : decode cX11_law 5 = .ok (.invokestatic 104, 3) := by decide +kernel
theorem dX11_law_8 : decode cX11_law 8 = .ok (.ifCond .eq 14, 3) := by decide +kernel
theorem dX11_law_11 : decode cX11_law 11 = .ok (.aload_n 0, 1) := by decide +kernel
theorem dX11_law_12 : decode cX11_law 12 = .ok (.getfield 12, 3) := by decide +kernel
theorem dX11_law_15 : decode cX11_law 15 = .ok (.iload_n 1, 1) := by decide +kernel
theorem dX11_law_16 : decode cX11_law 16 = .ok (.invokevirtual 131, 3) := by decide +kernel
theorem dX11_law_19 : decode cX11_law 19 = .ok (.ifCond .ne 5, 3) := by decide +kernel
theorem dX11_law_22 : decode cX11_law 22 = .ok (.iconst (-1), 1) := by decide +kernel
theorem dX11_law_23 : decode cX11_law 23 = .ok (.ireturn, 1) := by decide +kernel
theorem dX11_law_24 : decode cX11_law 24 = .ok (.aload_n 0, 1) := by decide +kernel
theorem dX11_law_25 : decode cX11_law 25 = .ok (.getfield 12, 3) := by decide +kernel
theorem dX11_law_28 : decode cX11_law 28 = .ok (.iload_n 1, 1) := by decide +kernel
theorem dX11_law_29 : decode cX11_law 29 = .ok (.invokevirtual 134, 3) := by decide +kernel
theorem dX11_law_32 : decode cX11_law 32 = .ok (.aload_n 0, 1) := by decide +kernel
theorem dX11_law_33 : decode cX11_law 33 = .ok (.getfield 55, 3) := by decide +kernel
theorem dX11_law_36 : decode cX11_law 36 = .ok (.aload_n 0, 1) := by decide +kernel
theorem dX11_law_37 : decode cX11_law 37 = .ok (.getfield 38, 3) := by decide +kernel
theorem dX11_law_40 : decode cX11_law 40 = .ok (.invokevirtual 137, 3) := by decide +kernel
theorem dX11_law_43 : decode cX11_law 43 = .ok (.aload_n 0, 1) := by decide +kernel
theorem dX11_law_44 : decode cX11_law 44 = .ok (.getfield 12, 3) := by decide +kernel
theorem dX11_law_47 : decode cX11_law 47 = .ok (.invokevirtual 141, 3) := by decide +kernel
theorem dX11_law_50 : decode cX11_law 50 = .ok (.ifCond .eq 11, 3) := by decide +kernel
theorem dX11_law_53 : decode cX11_law 53 = .ok (.aload_n 0, 1) := by decide +kernel
theorem dX11_law_54 : decode cX11_law 54 = .ok (.getfield 12, 3) := by decide +kernel
theorem dX11_law_57 : decode cX11_law 57 = .ok (.getfield 144, 3) := by decide +kernel
theorem dX11_law_60 : decode cX11_law 60 = .ok (.ireturn, 1) := by decide +kernel
theorem dX11_law_61 : decode cX11_law 61 = .ok (.aload_n 0, 1) := by decide +kernel
theorem dX11_law_62 : decode cX11_law 62 = .ok (.getfield 34, 3) := by decide +kernel
theorem dX11_law_65 : decode cX11_law 65 = .ok (.astore_n 2, 1) := by decide +kernel
theorem dX11_law_66 : decode cX11_law 66 = .ok (.aload_n 0, 1) := by decide +kernel
theorem dX11_law_67 : decode cX11_law 67 = .ok (.aload_n 0, 1) := by decide +kernel
theorem dX11_law_68 : decode cX11_law 68 = .ok (.getfield 38, 3) := by decide +kernel
theorem dX11_law_71 : decode cX11_law 71 = .ok (.putfield 34, 3) := by decide +kernel
theorem dX11_law_74 : decode cX11_law 74 = .ok (.aload_n 0, 1) := by decide +kernel
theorem dX11_law_75 : decode cX11_law 75 = .ok (.aload_n 2, 1) := by decide +kernel
theorem dX11_law_76 : decode cX11_law 76 = .ok (.putfield 38, 3) := by decide +kernel
theorem dX11_law_79 : decode cX11_law 79 = .ok (.aload_n 0, 1) := by decide +kernel
theorem dX11_law_80 : decode cX11_law 80 = .ok (.getfield 34, 3) := by decide +kernel
theorem dX11_law_83 : decode cX11_law 83 = .ok (.getfield 147, 3) := by decide +kernel
theorem dX11_law_86 : decode cX11_law 86 = .ok (.ireturn, 1) := by decide +kernel
theorem dX11_register_0 : decode cX11_register 0 = .ok (.iload_n 1, 1) := by decide +kernel
theorem dX11_register_1 : decode cX11_register 1 = .ok (.iconst 1, 1) := by decide +kernel
theorem dX11_register_2 : decode cX11_register 2 = .ok (.bipush 120, 2) := by decide +kernel
theorem dX11_register_4 : decode cX11_register 4 = .ok (.invokestatic 104, 3) := by decide +kernel
theorem dX11_register_7 : decode cX11_register 7 = .ok (.ifCond .eq 14, 3) := by decide +kernel
theorem dX11_register_10 : decode cX11_register 10 = .ok (.aload_n 0, 1) := by decide +kernel
theorem dX11_register_11 : decode cX11_register 11 = .ok (.getfield 12, 3) := by decide +kernel
theorem dX11_register_14 : decode cX11_register 14 = .ok (.iload_n 1, 1) := by decide +kernel
theorem dX11_register_15 : decode cX11_register 15 = .ok (.invokevirtual 131, 3) := by decide +kernel
theorem dX11_register_18 : decode cX11_register 18 = .ok (.ifCond .ne 5, 3) := by decide +kernel
theorem dX11_register_21 : decode cX11_register 21 = .ok (.iconst (-1), 1) := by decide +kernel
theorem dX11_register_22 : decode cX11_register 22 = .ok (.ireturn, 1) := by decide +kernel
theorem dX11_register_23 : decode cX11_register 23 = .ok (.aload_n 0, 1) := by decide +kernel
theorem dX11_register_24 : decode cX11_register 24 = .ok (.getfield 12, 3) := by decide +kernel
theorem dX11_register_27 : decode cX11_register 27 = .ok (.iload_n 1, 1) := by decide +kernel
theorem dX11_register_28 : decode cX11_register 28 = .ok (.invokevirtual 134, 3) := by decide +kernel
theorem dX11_register_31 : decode cX11_register 31 = .ok (.aload_n 0, 1) := by decide +kernel
theorem dX11_register_32 : decode cX11_register 32 = .ok (.getfield 26, 3) := by decide +kernel
theorem dX11_register_35 : decode cX11_register 35 = .ok (.aload_n 0, 1) := by decide +kernel
theorem dX11_register_36 : decode cX11_register 36 = .ok (.getfield 19, 3) := by decide +kernel
theorem dX11_register_39 : decode cX11_register 39 = .ok (.invokevirtual 150, 3) := by decide +kernel
theorem dX11_register_42 : decode cX11_register 42 = .ok (.aload_n 0, 1) := by decide +kernel
theorem dX11_register_43 : decode cX11_register 43 = .ok (.getfield 64, 3) := by decide +kernel
theorem dX11_register_46 : decode cX11_register 46 = .ok (.aload_n 0, 1) := by decide +kernel
theorem dX11_register_47 : decode cX11_register 47 = .ok (.getfield 26, 3) := by decide +kernel
theorem dX11_register_50 : decode cX11_register 50 = .ok (.invokevirtual 153, 3) := by decide +kernel
theorem dX11_register_53 : decode cX11_register 53 = .ok (.istore_n 2, 1) := by decide +kernel
theorem dX11_register_54 : decode cX11_register 54 = .ok (.aload_n 0, 1) := by decide +kernel
theorem dX11_register_55 : decode cX11_register 55 = .ok (.getfield 12, 3) := by decide +kernel
theorem dX11_register_58 : decode cX11_register 58 = .ok (.invokevirtual 141, 3) := by decide +kernel
theorem dX11_register_61 : decode cX11_register 61 = .ok (.ifCond .eq 11, 3) := by decide +kernel
theorem dX11_register_64 : decode cX11_register 64 = .ok (.aload_n 0, 1) := by decide +kernel
theorem dX11_register_65 : decode cX11_register 65 = .ok (.getfield 12, 3) := by decide +kernel
theorem dX11_register_68 : decode cX11_register 68 = .ok (.getfield 144, 3) := by decide +kernel
theorem dX11_register_71 : decode cX11_register 71 = .ok (.ireturn, 1) := by decide +kernel
theorem dX11_register_72 : decode cX11_register 72 = .ok (.aload_n 0, 1) := by decide +kernel
theorem dX11_register_73 : decode cX11_register 73 = .ok (.getfield 19, 3) := by decide +kernel
theorem dX11_register_76 : decode cX11_register 76 = .ok (.aload_n 0, 1) := by decide +kernel
theorem dX11_register_77 : decode cX11_register 77 = .ok (.getfield 26, 3) := by decide +kernel
theorem dX11_register_80 : decode cX11_register 80 = .ok (.invokevirtual 150, 3) := by decide +kernel
theorem dX11_register_83 : decode cX11_register 83 = .ok (.iload_n 2, 1) := by decide +kernel
theorem dX11_register_84 : decode cX11_register 84 = .ok (.ireturn, 1) := by decide +kernel
theorem dX11_hours_0 : decode cX11_hours 0 = .ok (.iload_n 1, 1) := by decide +kernel
theorem dX11_hours_1 : decode cX11_hours 1 = .ok (.iconst 1, 1) := by decide +kernel
theorem dX11_hours_2 : decode cX11_hours 2 = .ok (.sipush 240, 3) := by decide +kernel
theorem dX11_hours_5 : decode cX11_hours 5 = .ok (.invokestatic 104, 3) := by decide +kernel
theorem dX11_hours_8 : decode cX11_hours 8 = .ok (.ifCond .ne 5, 3) := by decide +kernel
theorem dX11_hours_11 : decode cX11_hours 11 = .ok (.iconst (-1), 1) := by decide +kernel
theorem dX11_hours_12 : decode cX11_hours 12 = .ok (.ireturn, 1) := by decide +kernel
theorem dX11_hours_13 : decode cX11_hours 13 = .ok (.aload_n 0, 1) := by decide +kernel
theorem dX11_hours_14 : decode cX11_hours 14 = .ok (.getfield 46, 3) := by decide +kernel
theorem dX11_hours_17 : decode cX11_hours 17 = .ok (.aload_n 0, 1) := by decide +kernel
theorem dX11_hours_18 : decode cX11_hours 18 = .ok (.getfield 19, 3) := by decide +kernel
theorem dX11_hours_21 : decode cX11_hours 21 = .ok (.aload_n 0, 1) := by decide +kernel
theorem dX11_hours_22 : decode cX11_hours 22 = .ok (.getfield 34, 3) := by decide +kernel
theorem dX11_hours_25 : decode cX11_hours 25 = .ok (.iload_n 1, 1) := by decide +kernel
theorem dX11_hours_26 : decode cX11_hours 26 = .ok (.invokevirtual 156, 3) := by decide +kernel
theorem dX11_hours_29 : decode cX11_hours 29 = .ok (.aload_n 0, 1) := by decide +kernel
theorem dX11_hours_30 : decode cX11_hours 30 = .ok (.getfield 46, 3) := by decide +kernel
theorem dX11_hours_33 : decode cX11_hours 33 = .ok (.getfield 160, 3) := by decide +kernel
theorem dX11_hours_36 : decode cX11_hours 36 = .ok (.ireturn, 1) := by decide +kernel
theorem dX11_tried_0 : decode cX11_tried 0 = .ok (.iload_n 2, 1) := by decide +kernel
theorem dX11_tried_1 : decode cX11_tried 1 = .ok (.bipush 100, 2) := by decide +kernel
theorem dX11_tried_3 : decode cX11_tried 3 = .ok (.isub, 1) := by decide +kernel
theorem dX11_tried_4 : decode cX11_tried 4 = .ok (.invokestatic 100, 3) := by decide +kernel
theorem dX11_tried_7 : decode cX11_tried 7 = .ok (.istore_n 3, 1) := by decide +kernel
theorem dX11_tried_8 : decode cX11_tried 8 = .ok (.iload_n 1, 1) := by decide +kernel
theorem dX11_tried_9 : decode cX11_tried 9 = .ok (.iconst 1, 1) := by decide +kernel
theorem dX11_tried_10 : decode cX11_tried 10 = .ok (.sipush 240, 3) := by decide +kernel
theorem dX11_tried_13 : decode cX11_tried 13 = .ok (.invokestatic 104, 3) := by decide +kernel
theorem dX11_tried_16 : decode cX11_tried 16 = .ok (.ifCond .eq 16, 3) := by decide +kernel
theorem dX11_tried_19 : decode cX11_tried 19 = .ok (.iload_n 2, 1) := by decide +kernel
theorem dX11_tried_20 : decode cX11_tried 20 = .ok (.iconst 0, 1) := by decide +kernel
theorem dX11_tried_21 : decode cX11_tried 21 = .ok (.iconst 3, 1) := by decide +kernel
theorem dX11_tried_22 : decode cX11_tried 22 = .ok (.invokestatic 104, 3) := by decide +kernel
theorem dX11_tried_25 : decode cX11_tried 25 = .ok (.ifCond .ne 9, 3) := by decide +kernel
theorem dX11_tried_28 : decode cX11_tried 28 = .ok (.iload_n 3, 1) := by decide +kernel
theorem dX11_tried_29 : decode cX11_tried 29 = .ok (.ifCond .ne 5, 3) := by decide +kernel
theorem dX11_tried_32 : decode cX11_tried 32 = .ok (.iconst (-1), 1) := by decide +kernel
theorem dX11_tried_33 : decode cX11_tried 33 = .ok (.ireturn, 1) := by decide +kernel
theorem dX11_tried_34 : decode cX11_tried 34 = .ok (.aload_n 0, 1) := by decide +kernel
theorem dX11_tried_35 : decode cX11_tried 35 = .ok (.getfield 26, 3) := by decide +kernel
theorem dX11_tried_38 : decode cX11_tried 38 = .ok (.aload_n 0, 1) := by decide +kernel
theorem dX11_tried_39 : decode cX11_tried 39 = .ok (.getfield 19, 3) := by decide +kernel
theorem dX11_tried_42 : decode cX11_tried 42 = .ok (.invokevirtual 150, 3) := by decide +kernel
theorem dX11_tried_45 : decode cX11_tried 45 = .ok (.aload_n 0, 1) := by decide +kernel
theorem dX11_tried_46 : decode cX11_tried 46 = .ok (.getfield 46, 3) := by decide +kernel
theorem dX11_tried_49 : decode cX11_tried 49 = .ok (.aload_n 0, 1) := by decide +kernel
theorem dX11_tried_50 : decode cX11_tried 50 = .ok (.getfield 26, 3) := by decide +kernel
theorem dX11_tried_53 : decode cX11_tried 53 = .ok (.aload_n 0, 1) := by decide +kernel
theorem dX11_tried_54 : decode cX11_tried 54 = .ok (.getfield 34, 3) := by decide +kernel
theorem dX11_tried_57 : decode cX11_tried 57 = .ok (.iload_n 1, 1) := by decide +kernel
theorem dX11_tried_58 : decode cX11_tried 58 = .ok (.invokevirtual 156, 3) := by decide +kernel
theorem dX11_tried_61 : decode cX11_tried 61 = .ok (.iload_n 2, 1) := by decide +kernel
theorem dX11_tried_62 : decode cX11_tried 62 = .ok (.tableswitch 65 0 3 #[30, 38, 46, 54], 30) := by decide +kernel
theorem dX11_tried_92 : decode cX11_tried 92 = .ok (.aload_n 0, 1) := by decide +kernel
theorem dX11_tried_93 : decode cX11_tried 93 = .ok (.getfield 46, 3) := by decide +kernel
theorem dX11_tried_96 : decode cX11_tried 96 = .ok (.getfield 160, 3) := by decide +kernel
theorem dX11_tried_99 : decode cX11_tried 99 = .ok (.ireturn, 1) := by decide +kernel
theorem dX11_tried_100 : decode cX11_tried 100 = .ok (.aload_n 0, 1) := by decide +kernel
theorem dX11_tried_101 : decode cX11_tried 101 = .ok (.getfield 46, 3) := by decide +kernel
theorem dX11_tried_104 : decode cX11_tried 104 = .ok (.getfield 163, 3) := by decide +kernel
theorem dX11_tried_107 : decode cX11_tried 107 = .ok (.ireturn, 1) := by decide +kernel
theorem dX11_tried_108 : decode cX11_tried 108 = .ok (.aload_n 0, 1) := by decide +kernel
theorem dX11_tried_109 : decode cX11_tried 109 = .ok (.getfield 46, 3) := by decide +kernel
theorem dX11_tried_112 : decode cX11_tried 112 = .ok (.getfield 166, 3) := by decide +kernel
theorem dX11_tried_115 : decode cX11_tried 115 = .ok (.ireturn, 1) := by decide +kernel
theorem dX11_tried_116 : decode cX11_tried 116 = .ok (.aload_n 0, 1) := by decide +kernel
theorem dX11_tried_117 : decode cX11_tried 117 = .ok (.getfield 26, 3) := by decide +kernel
theorem dX11_tried_120 : decode cX11_tried 120 = .ok (.getfield 169, 3) := by decide +kernel
theorem dX11_tried_123 : decode cX11_tried 123 = .ok (.invokestatic 173, 3) := by decide +kernel
theorem dX11_tried_126 : decode cX11_tried 126 = .ok (.ireturn, 1) := by decide +kernel
theorem dX11_tried_127 : decode cX11_tried 127 = .ok (.aload_n 0, 1) := by decide +kernel
theorem dX11_tried_128 : decode cX11_tried 128 = .ok (.getfield 26, 3) := by decide +kernel
theorem dX11_tried_131 : decode cX11_tried 131 = .ok (.getfield 177, 3) := by decide +kernel
theorem dX11_tried_134 : decode cX11_tried 134 = .ok (.iload_n 2, 1) := by decide +kernel
theorem dX11_tried_135 : decode cX11_tried 135 = .ok (.bipush 100, 2) := by decide +kernel
theorem dX11_tried_137 : decode cX11_tried 137 = .ok (.isub, 1) := by decide +kernel
theorem dX11_tried_138 : decode cX11_tried 138 = .ok (.iaload, 1) := by decide +kernel
theorem dX11_tried_139 : decode cX11_tried 139 = .ok (.ireturn, 1) := by decide +kernel
theorem dX11_roomIs_0 : decode cX11_roomIs 0 = .ok (.iload_n 1, 1) := by decide +kernel
theorem dX11_roomIs_1 : decode cX11_roomIs 1 = .ok (.invokestatic 100, 3) := by decide +kernel
theorem dX11_roomIs_4 : decode cX11_roomIs 4 = .ok (.ifCond .ne 5, 3) := by decide +kernel
theorem dX11_roomIs_7 : decode cX11_roomIs 7 = .ok (.iconst (-1), 1) := by decide +kernel
theorem dX11_roomIs_8 : decode cX11_roomIs 8 = .ok (.ireturn, 1) := by decide +kernel
theorem dX11_roomIs_9 : decode cX11_roomIs 9 = .ok (.iload_n 2, 1) := by decide +kernel
theorem dX11_roomIs_10 : decode cX11_roomIs 10 = .ok (.tableswitch 179 0 7 #[46, 72, 89, 106, 116, 126, 136, 153], 46) := by decide +kernel
theorem dX11_roomIs_56 : decode cX11_roomIs 56 = .ok (.aload_n 0, 1) := by decide +kernel
theorem dX11_roomIs_57 : decode cX11_roomIs 57 = .ok (.getfield 19, 3) := by decide +kernel
theorem dX11_roomIs_60 : decode cX11_roomIs 60 = .ok (.iload_n 1, 1) := by decide +kernel
theorem dX11_roomIs_61 : decode cX11_roomIs 61 = .ok (.invokevirtual 180, 3) := by decide +kernel
theorem dX11_roomIs_64 : decode cX11_roomIs 64 = .ok (.ifCond .eq 15, 3) := by decide +kernel
theorem dX11_roomIs_67 : decode cX11_roomIs 67 = .ok (.aload_n 0, 1) := by decide +kernel
theorem dX11_roomIs_68 : decode cX11_roomIs 68 = .ok (.getfield 19, 3) := by decide +kernel
theorem dX11_roomIs_71 : decode cX11_roomIs 71 = .ok (.getfield 169, 3) := by decide +kernel
theorem dX11_roomIs_74 : decode cX11_roomIs 74 = .ok (.iload_n 1, 1) := by decide +kernel
theorem dX11_roomIs_75 : decode cX11_roomIs 75 = .ok (.iaload, 1) := by decide +kernel
theorem dX11_roomIs_76 : decode cX11_roomIs 76 = .ok (.goto 5, 3) := by decide +kernel
theorem dX11_roomIs_79 : decode cX11_roomIs 79 = .ok (.bipush (-2), 2) := by decide +kernel
theorem dX11_roomIs_81 : decode cX11_roomIs 81 = .ok (.ireturn, 1) := by decide +kernel
theorem dX11_roomIs_82 : decode cX11_roomIs 82 = .ok (.aload_n 0, 1) := by decide +kernel
theorem dX11_roomIs_83 : decode cX11_roomIs 83 = .ok (.getfield 19, 3) := by decide +kernel
theorem dX11_roomIs_86 : decode cX11_roomIs 86 = .ok (.iload_n 1, 1) := by decide +kernel
theorem dX11_roomIs_87 : decode cX11_roomIs 87 = .ok (.invokevirtual 180, 3) := by decide +kernel
theorem dX11_roomIs_90 : decode cX11_roomIs 90 = .ok (.ifCond .eq 7, 3) := by decide +kernel
theorem dX11_roomIs_93 : decode cX11_roomIs 93 = .ok (.iconst 1, 1) := by decide +kernel
theorem dX11_roomIs_94 : decode cX11_roomIs 94 = .ok (.goto 4, 3) := by decide +kernel
theorem dX11_roomIs_97 : decode cX11_roomIs 97 = .ok (.iconst 0, 1) := by decide +kernel
theorem dX11_roomIs_98 : decode cX11_roomIs 98 = .ok (.ireturn, 1) := by decide +kernel
theorem dX11_roomIs_99 : decode cX11_roomIs 99 = .ok (.aload_n 0, 1) := by decide +kernel
theorem dX11_roomIs_100 : decode cX11_roomIs 100 = .ok (.getfield 19, 3) := by decide +kernel
theorem dX11_roomIs_103 : decode cX11_roomIs 103 = .ok (.iload_n 1, 1) := by decide +kernel
theorem dX11_roomIs_104 : decode cX11_roomIs 104 = .ok (.invokevirtual 183, 3) := by decide +kernel
theorem dX11_roomIs_107 : decode cX11_roomIs 107 = .ok (.ifCond .eq 7, 3) := by decide +kernel
theorem dX11_roomIs_110 : decode cX11_roomIs 110 = .ok (.iconst 1, 1) := by decide +kernel
theorem dX11_roomIs_111 : decode cX11_roomIs 111 = .ok (.goto 4, 3) := by decide +kernel
theorem dX11_roomIs_114 : decode cX11_roomIs 114 = .ok (.iconst 0, 1) := by decide +kernel
theorem dX11_roomIs_115 : decode cX11_roomIs 115 = .ok (.ireturn, 1) := by decide +kernel
theorem dX11_roomIs_116 : decode cX11_roomIs 116 = .ok (.aload_n 0, 1) := by decide +kernel
theorem dX11_roomIs_117 : decode cX11_roomIs 117 = .ok (.getfield 19, 3) := by decide +kernel
theorem dX11_roomIs_120 : decode cX11_roomIs 120 = .ok (.getfield 186, 3) := by decide +kernel
theorem dX11_roomIs_123 : decode cX11_roomIs 123 = .ok (.iload_n 1, 1) := by decide +kernel
theorem dX11_roomIs_124 : decode cX11_roomIs 124 = .ok (.iaload, 1) := by decide +kernel
theorem dX11_roomIs_125 : decode cX11_roomIs 125 = .ok (.ireturn, 1) := by decide +kernel
theorem dX11_roomIs_126 : decode cX11_roomIs 126 = .ok (.aload_n 0, 1) := by decide +kernel
theorem dX11_roomIs_127 : decode cX11_roomIs 127 = .ok (.getfield 19, 3) := by decide +kernel
theorem dX11_roomIs_130 : decode cX11_roomIs 130 = .ok (.getfield 189, 3) := by decide +kernel
theorem dX11_roomIs_133 : decode cX11_roomIs 133 = .ok (.iload_n 1, 1) := by decide +kernel
theorem dX11_roomIs_134 : decode cX11_roomIs 134 = .ok (.iaload, 1) := by decide +kernel
theorem dX11_roomIs_135 : decode cX11_roomIs 135 = .ok (.ireturn, 1) := by decide +kernel
theorem dX11_roomIs_136 : decode cX11_roomIs 136 = .ok (.aload_n 0, 1) := by decide +kernel
theorem dX11_roomIs_137 : decode cX11_roomIs 137 = .ok (.getfield 19, 3) := by decide +kernel
theorem dX11_roomIs_140 : decode cX11_roomIs 140 = .ok (.getfield 177, 3) := by decide +kernel
theorem dX11_roomIs_143 : decode cX11_roomIs 143 = .ok (.iload_n 1, 1) := by decide +kernel
theorem dX11_roomIs_144 : decode cX11_roomIs 144 = .ok (.iaload, 1) := by decide +kernel
theorem dX11_roomIs_145 : decode cX11_roomIs 145 = .ok (.ireturn, 1) := by decide +kernel
theorem dX11_roomIs_146 : decode cX11_roomIs 146 = .ok (.aload_n 0, 1) := by decide +kernel
theorem dX11_roomIs_147 : decode cX11_roomIs 147 = .ok (.getfield 19, 3) := by decide +kernel
theorem dX11_roomIs_150 : decode cX11_roomIs 150 = .ok (.iload_n 1, 1) := by decide +kernel
theorem dX11_roomIs_151 : decode cX11_roomIs 151 = .ok (.aload_n 0, 1) := by decide +kernel
theorem dX11_roomIs_152 : decode cX11_roomIs 152 = .ok (.getfield 19, 3) := by decide +kernel
theorem dX11_roomIs_155 : decode cX11_roomIs 155 = .ok (.iload_n 1, 1) := by decide +kernel
theorem dX11_roomIs_156 : decode cX11_roomIs 156 = .ok (.invokevirtual 192, 3) := by decide +kernel
theorem dX11_roomIs_159 : decode cX11_roomIs 159 = .ok (.invokevirtual 196, 3) := by decide +kernel
theorem dX11_roomIs_162 : decode cX11_roomIs 162 = .ok (.ireturn, 1) := by decide +kernel
theorem dX11_roomIs_163 : decode cX11_roomIs 163 = .ok (.aload_n 0, 1) := by decide +kernel
theorem dX11_roomIs_164 : decode cX11_roomIs 164 = .ok (.getfield 19, 3) := by decide +kernel
theorem dX11_roomIs_167 : decode cX11_roomIs 167 = .ok (.getfield 177, 3) := by decide +kernel
theorem dX11_roomIs_170 : decode cX11_roomIs 170 = .ok (.iload_n 1, 1) := by decide +kernel
theorem dX11_roomIs_171 : decode cX11_roomIs 171 = .ok (.iaload, 1) := by decide +kernel
theorem dX11_roomIs_172 : decode cX11_roomIs 172 = .ok (.ifCond .ne 8, 3) := by decide +kernel
theorem dX11_roomIs_175 : decode cX11_roomIs 175 = .ok (.bipush (-2), 2) := by decide +kernel
theorem dX11_roomIs_177 : decode cX11_roomIs 177 = .ok (.goto 11, 3) := by decide +kernel
theorem dX11_roomIs_180 : decode cX11_roomIs 180 = .ok (.aload_n 0, 1) := by decide +kernel
theorem dX11_roomIs_181 : decode cX11_roomIs 181 = .ok (.getfield 19, 3) := by decide +kernel
theorem dX11_roomIs_184 : decode cX11_roomIs 184 = .ok (.iload_n 1, 1) := by decide +kernel
theorem dX11_roomIs_185 : decode cX11_roomIs 185 = .ok (.invokevirtual 192, 3) := by decide +kernel
theorem dX11_roomIs_188 : decode cX11_roomIs 188 = .ok (.ireturn, 1) := by decide +kernel
theorem dX11_roomIs_189 : decode cX11_roomIs 189 = .ok (.iconst (-1), 1) := by decide +kernel
theorem dX11_roomIs_190 : decode cX11_roomIs 190 = .ok (.ireturn, 1) := by decide +kernel
theorem dX11_feels_0 : decode cX11_feels 0 = .ok (.iload_n 1, 1) := by decide +kernel
theorem dX11_feels_1 : decode cX11_feels 1 = .ok (.invokestatic 100, 3) := by decide +kernel
theorem dX11_feels_4 : decode cX11_feels 4 = .ok (.ifCond .eq 10, 3) := by decide +kernel
theorem dX11_feels_7 : decode cX11_feels 7 = .ok (.iload_n 2, 1) := by decide +kernel
theorem dX11_feels_8 : decode cX11_feels 8 = .ok (.invokestatic 100, 3) := by decide +kernel
theorem dX11_feels_11 : decode cX11_feels 11 = .ok (.ifCond .ne 5, 3) := by decide +kernel
theorem dX11_feels_14 : decode cX11_feels 14 = .ok (.iconst (-1), 1) := by decide +kernel
theorem dX11_feels_15 : decode cX11_feels 15 = .ok (.ireturn, 1) := by decide +kernel
theorem dX11_feels_16 : decode cX11_feels 16 = .ok (.aload_n 0, 1) := by decide +kernel
theorem dX11_feels_17 : decode cX11_feels 17 = .ok (.getfield 19, 3) := by decide +kernel
theorem dX11_feels_20 : decode cX11_feels 20 = .ok (.iload_n 1, 1) := by decide +kernel
theorem dX11_feels_21 : decode cX11_feels 21 = .ok (.iload_n 2, 1) := by decide +kernel
theorem dX11_feels_22 : decode cX11_feels 22 = .ok (.invokevirtual 196, 3) := by decide +kernel
theorem dX11_feels_25 : decode cX11_feels 25 = .ok (.ireturn, 1) := by decide +kernel
theorem dX11_way_0 : decode cX11_way 0 = .ok (.iload_n 1, 1) := by decide +kernel
theorem dX11_way_1 : decode cX11_way 1 = .ok (.invokestatic 100, 3) := by decide +kernel
theorem dX11_way_4 : decode cX11_way 4 = .ok (.ifCond .ne 5, 3) := by decide +kernel
theorem dX11_way_7 : decode cX11_way 7 = .ok (.iconst (-1), 1) := by decide +kernel
theorem dX11_way_8 : decode cX11_way 8 = .ok (.ireturn, 1) := by decide +kernel
theorem dX11_way_9 : decode cX11_way 9 = .ok (.iload_n 2, 1) := by decide +kernel
theorem dX11_way_10 : decode cX11_way 10 = .ok (.iconst 0, 1) := by decide +kernel
theorem dX11_way_11 : decode cX11_way 11 = .ok (.iconst 5, 1) := by decide +kernel
theorem dX11_way_12 : decode cX11_way 12 = .ok (.iload_n 1, 1) := by decide +kernel
theorem dX11_way_13 : decode cX11_way 13 = .ok (.invokestatic 200, 3) := by decide +kernel
theorem dX11_way_16 : decode cX11_way 16 = .ok (.isub, 1) := by decide +kernel
theorem dX11_way_17 : decode cX11_way 17 = .ok (.invokestatic 104, 3) := by decide +kernel
theorem dX11_way_20 : decode cX11_way 20 = .ok (.ifCond .ne 6, 3) := by decide +kernel
theorem dX11_way_23 : decode cX11_way 23 = .ok (.bipush (-2), 2) := by decide +kernel
theorem dX11_way_25 : decode cX11_way 25 = .ok (.ireturn, 1) := by decide +kernel
theorem dX11_way_26 : decode cX11_way 26 = .ok (.iload_n 1, 1) := by decide +kernel
theorem dX11_way_27 : decode cX11_way 27 = .ok (.istore_n 3, 1) := by decide +kernel
theorem dX11_way_28 : decode cX11_way 28 = .ok (.iconst 0, 1) := by decide +kernel
theorem dX11_way_29 : decode cX11_way 29 = .ok (.istore 4, 2) := by decide +kernel
theorem dX11_way_31 : decode cX11_way 31 = .ok (.iload 4, 2) := by decide +kernel
theorem dX11_way_33 : decode cX11_way 33 = .ok (.iload_n 2, 1) := by decide +kernel
theorem dX11_way_34 : decode cX11_way 34 = .ok (.if_icmp .gt 18, 3) := by decide +kernel
theorem dX11_way_37 : decode cX11_way 37 = .ok (.aload_n 0, 1) := by decide +kernel
theorem dX11_way_38 : decode cX11_way 38 = .ok (.getfield 19, 3) := by decide +kernel
theorem dX11_way_41 : decode cX11_way 41 = .ok (.iload_n 3, 1) := by decide +kernel
theorem dX11_way_42 : decode cX11_way 42 = .ok (.invokevirtual 203, 3) := by decide +kernel
theorem dX11_way_45 : decode cX11_way 45 = .ok (.istore_n 3, 1) := by decide +kernel
theorem dX11_way_46 : decode cX11_way 46 = .ok (.iinc 4 1, 3) := by decide +kernel
theorem dX11_way_49 : decode cX11_way 49 = .ok (.goto (-18), 3) := by decide +kernel
theorem dX11_way_52 : decode cX11_way 52 = .ok (.iload_n 3, 1) := by decide +kernel
theorem dX11_way_53 : decode cX11_way 53 = .ok (.ireturn, 1) := by decide +kernel
theorem dX11_odds_0 : decode cX11_odds 0 = .ok (.iload_n 1, 1) := by decide +kernel
theorem dX11_odds_1 : decode cX11_odds 1 = .ok (.invokestatic 100, 3) := by decide +kernel
theorem dX11_odds_4 : decode cX11_odds 4 = .ok (.ifCond .eq 33, 3) := by decide +kernel
theorem dX11_odds_7 : decode cX11_odds 7 = .ok (.iload_n 2, 1) := by decide +kernel
theorem dX11_odds_8 : decode cX11_odds 8 = .ok (.iconst 0, 1) := by decide +kernel
theorem dX11_odds_9 : decode cX11_odds 9 = .ok (.bipush 24, 2) := by decide +kernel
theorem dX11_odds_11 : decode cX11_odds 11 = .ok (.invokestatic 104, 3) := by decide +kernel
theorem dX11_odds_14 : decode cX11_odds 14 = .ok (.ifCond .eq 23, 3) := by decide +kernel
theorem dX11_odds_17 : decode cX11_odds 17 = .ok (.iload_n 3, 1) := by decide +kernel
theorem dX11_odds_18 : decode cX11_odds 18 = .ok (.iconst 0, 1) := by decide +kernel
theorem dX11_odds_19 : decode cX11_odds 19 = .ok (.bipush 10, 2) := by decide +kernel
theorem dX11_odds_21 : decode cX11_odds 21 = .ok (.invokestatic 104, 3) := by decide +kernel
theorem dX11_odds_24 : decode cX11_odds 24 = .ok (.ifCond .eq 13, 3) := by decide +kernel
theorem dX11_odds_27 : decode cX11_odds 27 = .ok (.iload 4, 2) := by decide +kernel
theorem dX11_odds_29 : decode cX11_odds 29 = .ok (.iconst 0, 1) := by decide +kernel
theorem dX11_odds_30 : decode cX11_odds 30 = .ok (.iconst 1, 1) := by decide +kernel
theorem dX11_odds_31 : decode cX11_odds 31 = .ok (.invokestatic 104, 3) := by decide +kernel
theorem dX11_odds_34 : decode cX11_odds 34 = .ok (.ifCond .ne 5, 3) := by decide +kernel
theorem dX11_odds_37 : decode cX11_odds 37 = .ok (.iconst (-1), 1) := by decide +kernel
theorem dX11_odds_38 : decode cX11_odds 38 = .ok (.ireturn, 1) := by decide +kernel
theorem dX11_odds_39 : decode cX11_odds 39 = .ok (.iconst 1, 1) := by decide +kernel
theorem dX11_odds_40 : decode cX11_odds 40 = .ok (.istore 5, 2) := by decide +kernel
theorem dX11_odds_42 : decode cX11_odds 42 = .ok (.iconst 1, 1) := by decide +kernel
theorem dX11_odds_43 : decode cX11_odds 43 = .ok (.istore 6, 2) := by decide +kernel
theorem dX11_odds_45 : decode cX11_odds 45 = .ok (.iload_n 1, 1) := by decide +kernel
theorem dX11_odds_46 : decode cX11_odds 46 = .ok (.istore 7, 2) := by decide +kernel
theorem dX11_odds_48 : decode cX11_odds 48 = .ok (.iconst 0, 1) := by decide +kernel
theorem dX11_odds_49 : decode cX11_odds 49 = .ok (.istore 8, 2) := by decide +kernel
theorem dX11_odds_51 : decode cX11_odds 51 = .ok (.iload 8, 2) := by decide +kernel
theorem dX11_odds_53 : decode cX11_odds 53 = .ok (.iconst 5, 1) := by decide +kernel
theorem dX11_odds_54 : decode cX11_odds 54 = .ok (.if_icmp .gt 105, 3) := by decide +kernel
theorem dX11_odds_57 : decode cX11_odds 57 = .ok (.iload 7, 2) := by decide +kernel
theorem dX11_odds_59 : decode cX11_odds 59 = .ok (.bipush 24, 2) := by decide +kernel
theorem dX11_odds_61 : decode cX11_odds 61 = .ok (.if_icmp .eq 98, 3) := by decide +kernel
theorem dX11_odds_64 : decode cX11_odds 64 = .ok (.aload_n 0, 1) := by decide +kernel
theorem dX11_odds_65 : decode cX11_odds 65 = .ok (.getfield 19, 3) := by decide +kernel
theorem dX11_odds_68 : decode cX11_odds 68 = .ok (.iload 7, 2) := by decide +kernel
theorem dX11_odds_70 : decode cX11_odds 70 = .ok (.invokevirtual 203, 3) := by decide +kernel
theorem dX11_odds_73 : decode cX11_odds 73 = .ok (.istore 7, 2) := by decide +kernel
theorem dX11_odds_75 : decode cX11_odds 75 = .ok (.aload_n 0, 1) := by decide +kernel
theorem dX11_odds_76 : decode cX11_odds 76 = .ok (.getfield 19, 3) := by decide +kernel
theorem dX11_odds_79 : decode cX11_odds 79 = .ok (.iload 7, 2) := by decide +kernel
theorem dX11_odds_81 : decode cX11_odds 81 = .ok (.invokevirtual 206, 3) := by decide +kernel
theorem dX11_odds_84 : decode cX11_odds 84 = .ok (.istore 9, 2) := by decide +kernel
theorem dX11_odds_86 : decode cX11_odds 86 = .ok (.iload 7, 2) := by decide +kernel
theorem dX11_odds_88 : decode cX11_odds 88 = .ok (.iload_n 2, 1) := by decide +kernel
theorem dX11_odds_89 : decode cX11_odds 89 = .ok (.if_icmp .ne 43, 3) := by decide +kernel
theorem dX11_odds_92 : decode cX11_odds 92 = .ok (.iload 7, 2) := by decide +kernel
theorem dX11_odds_94 : decode cX11_odds 94 = .ok (.bipush 24, 2) := by decide +kernel
theorem dX11_odds_96 : decode cX11_odds 96 = .ok (.if_icmp .ne 8, 3) := by decide +kernel
theorem dX11_odds_99 : decode cX11_odds 99 = .ok (.bipush 10, 2) := by decide +kernel
theorem dX11_odds_101 : decode cX11_odds 101 = .ok (.goto 13, 3) := by decide +kernel
theorem dX11_odds_104 : decode cX11_odds 104 = .ok (.iload 9, 2) := by decide +kernel
theorem dX11_odds_106 : decode cX11_odds 106 = .ok (.ifCond .eq 7, 3) := by decide +kernel
theorem dX11_odds_109 : decode cX11_odds 109 = .ok (.iload_n 3, 1) := by decide +kernel
theorem dX11_odds_110 : decode cX11_odds 110 = .ok (.goto 4, 3) := by decide +kernel
theorem dX11_odds_113 : decode cX11_odds 113 = .ok (.iconst 0, 1) := by decide +kernel
theorem dX11_odds_114 : decode cX11_odds 114 = .ok (.istore 10, 2) := by decide +kernel
theorem dX11_odds_116 : decode cX11_odds 116 = .ok (.iload 5, 2) := by decide +kernel
theorem dX11_odds_118 : decode cX11_odds 118 = .ok (.iload 10, 2) := by decide +kernel
theorem dX11_odds_120 : decode cX11_odds 120 = .ok (.imul, 1) := by decide +kernel
theorem dX11_odds_121 : decode cX11_odds 121 = .ok (.iload 6, 2) := by decide +kernel
theorem dX11_odds_123 : decode cX11_odds 123 = .ok (.bipush 10, 2) := by decide +kernel
theorem dX11_odds_125 : decode cX11_odds 125 = .ok (.imul, 1) := by decide +kernel
theorem dX11_odds_126 : decode cX11_odds 126 = .ok (.iload 4, 2) := by decide +kernel
theorem dX11_odds_128 : decode cX11_odds 128 = .ok (.invokestatic 209, 3) := by decide +kernel
theorem dX11_odds_131 : decode cX11_odds 131 = .ok (.ireturn, 1) := by decide +kernel
theorem dX11_odds_132 : decode cX11_odds 132 = .ok (.iload 9, 2) := by decide +kernel
theorem dX11_odds_134 : decode cX11_odds 134 = .ok (.ifCond .eq 19, 3) := by decide +kernel
theorem dX11_odds_137 : decode cX11_odds 137 = .ok (.iload 5, 2) := by decide +kernel
theorem dX11_odds_139 : decode cX11_odds 139 = .ok (.bipush 10, 2) := by decide +kernel
theorem dX11_odds_141 : decode cX11_odds 141 = .ok (.iload_n 3, 1) := by decide +kernel
theorem dX11_odds_142 : decode cX11_odds 142 = .ok (.isub, 1) := by decide +kernel
theorem dX11_odds_143 : decode cX11_odds 143 = .ok (.imul, 1) := by decide +kernel
theorem dX11_odds_144 : decode cX11_odds 144 = .ok (.istore 5, 2) := by decide +kernel
theorem dX11_odds_146 : decode cX11_odds 146 = .ok (.iload 6, 2) := by decide +kernel
theorem dX11_odds_148 : decode cX11_odds 148 = .ok (.bipush 10, 2) := by decide +kernel
theorem dX11_odds_150 : decode cX11_odds 150 = .ok (.imul, 1) := by decide +kernel
theorem dX11_odds_151 : decode cX11_odds 151 = .ok (.istore 6, 2) := by decide +kernel
theorem dX11_odds_153 : decode cX11_odds 153 = .ok (.iinc 8 1, 3) := by decide +kernel
theorem dX11_odds_156 : decode cX11_odds 156 = .ok (.goto (-105), 3) := by decide +kernel
theorem dX11_odds_159 : decode cX11_odds 159 = .ok (.iconst 0, 1) := by decide +kernel
theorem dX11_odds_160 : decode cX11_odds 160 = .ok (.iconst 1, 1) := by decide +kernel
theorem dX11_odds_161 : decode cX11_odds 161 = .ok (.iload 4, 2) := by decide +kernel
theorem dX11_odds_163 : decode cX11_odds 163 = .ok (.invokestatic 209, 3) := by decide +kernel
theorem dX11_odds_166 : decode cX11_odds 166 = .ok (.ireturn, 1) := by decide +kernel
theorem dX11_fromWhere_0 : decode cX11_fromWhere 0 = .ok (.iload_n 1, 1) := by decide +kernel
theorem dX11_fromWhere_1 : decode cX11_fromWhere 1 = .ok (.invokestatic 100, 3) := by decide +kernel
theorem dX11_fromWhere_4 : decode cX11_fromWhere 4 = .ok (.ifCond .ne 5, 3) := by decide +kernel
theorem dX11_fromWhere_7 : decode cX11_fromWhere 7 = .ok (.iconst (-1), 1) := by decide +kernel
theorem dX11_fromWhere_8 : decode cX11_fromWhere 8 = .ok (.ireturn, 1) := by decide +kernel
theorem dX11_fromWhere_9 : decode cX11_fromWhere 9 = .ok (.iconst 0, 1) := by decide +kernel
theorem dX11_fromWhere_10 : decode cX11_fromWhere 10 = .ok (.istore_n 2, 1) := by decide +kernel
theorem dX11_fromWhere_11 : decode cX11_fromWhere 11 = .ok (.iconst 0, 1) := by decide +kernel
theorem dX11_fromWhere_12 : decode cX11_fromWhere 12 = .ok (.istore_n 3, 1) := by decide +kernel
theorem dX11_fromWhere_13 : decode cX11_fromWhere 13 = .ok (.iload_n 3, 1) := by decide +kernel
theorem dX11_fromWhere_14 : decode cX11_fromWhere 14 = .ok (.bipush 24, 2) := by decide +kernel
theorem dX11_fromWhere_16 : decode cX11_fromWhere 16 = .ok (.if_icmp .ge 36, 3) := by decide +kernel
theorem dX11_fromWhere_19 : decode cX11_fromWhere 19 = .ok (.iload_n 3, 1) := by decide +kernel
theorem dX11_fromWhere_20 : decode cX11_fromWhere 20 = .ok (.iload_n 1, 1) := by decide +kernel
theorem dX11_fromWhere_21 : decode cX11_fromWhere 21 = .ok (.if_icmp .eq 25, 3) := by decide +kernel
theorem dX11_fromWhere_24 : decode cX11_fromWhere 24 = .ok (.aload_n 0, 1) := by decide +kernel
theorem dX11_fromWhere_25 : decode cX11_fromWhere 25 = .ok (.getfield 19, 3) := by decide +kernel
theorem dX11_fromWhere_28 : decode cX11_fromWhere 28 = .ok (.iload_n 3, 1) := by decide +kernel
theorem dX11_fromWhere_29 : decode cX11_fromWhere 29 = .ok (.iload_n 1, 1) := by decide +kernel
theorem dX11_fromWhere_30 : decode cX11_fromWhere 30 = .ok (.invokestatic 200, 3) := by decide +kernel
theorem dX11_fromWhere_33 : decode cX11_fromWhere 33 = .ok (.invokevirtual 213, 3) := by decide +kernel
theorem dX11_fromWhere_36 : decode cX11_fromWhere 36 = .ok (.iload_n 1, 1) := by decide +kernel
theorem dX11_fromWhere_37 : decode cX11_fromWhere 37 = .ok (.if_icmp .ne 9, 3) := by decide +kernel
theorem dX11_fromWhere_40 : decode cX11_fromWhere 40 = .ok (.iload_n 2, 1) := by decide +kernel
theorem dX11_fromWhere_41 : decode cX11_fromWhere 41 = .ok (.iconst 1, 1) := by decide +kernel
theorem dX11_fromWhere_42 : decode cX11_fromWhere 42 = .ok (.iload_n 3, 1) := by decide +kernel
theorem dX11_fromWhere_43 : decode cX11_fromWhere 43 = .ok (.ishl, 1) := by decide +kernel
theorem dX11_fromWhere_44 : decode cX11_fromWhere 44 = .ok (.ior, 1) := by decide +kernel
theorem dX11_fromWhere_45 : decode cX11_fromWhere 45 = .ok (.istore_n 2, 1) := by decide +kernel
theorem dX11_fromWhere_46 : decode cX11_fromWhere 46 = .ok (.iinc 3 1, 3) := by decide +kernel
theorem dX11_fromWhere_49 : decode cX11_fromWhere 49 = .ok (.goto (-36), 3) := by decide +kernel
theorem dX11_fromWhere_52 : decode cX11_fromWhere 52 = .ok (.iload_n 2, 1) := by decide +kernel
theorem dX11_fromWhere_53 : decode cX11_fromWhere 53 = .ok (.ireturn, 1) := by decide +kernel
theorem dX11_meet_0 : decode cX11_meet 0 = .ok (.iload_n 1, 1) := by decide +kernel
theorem dX11_meet_1 : decode cX11_meet 1 = .ok (.invokestatic 100, 3) := by decide +kernel
theorem dX11_meet_4 : decode cX11_meet 4 = .ok (.ifCond .eq 10, 3) := by decide +kernel
theorem dX11_meet_7 : decode cX11_meet 7 = .ok (.iload_n 2, 1) := by decide +kernel
theorem dX11_meet_8 : decode cX11_meet 8 = .ok (.invokestatic 100, 3) := by decide +kernel
theorem dX11_meet_11 : decode cX11_meet 11 = .ok (.ifCond .ne 5, 3) := by decide +kernel
theorem dX11_meet_14 : decode cX11_meet 14 = .ok (.iconst (-1), 1) := by decide +kernel
theorem dX11_meet_15 : decode cX11_meet 15 = .ok (.ireturn, 1) := by decide +kernel
theorem dX11_meet_16 : decode cX11_meet 16 = .ok (.iload_n 1, 1) := by decide +kernel
theorem dX11_meet_17 : decode cX11_meet 17 = .ok (.invokestatic 200, 3) := by decide +kernel
theorem dX11_meet_20 : decode cX11_meet 20 = .ok (.iload_n 2, 1) := by decide +kernel
theorem dX11_meet_21 : decode cX11_meet 21 = .ok (.invokestatic 200, 3) := by decide +kernel
theorem dX11_meet_24 : decode cX11_meet 24 = .ok (.invokestatic 216, 3) := by decide +kernel
theorem dX11_meet_27 : decode cX11_meet 27 = .ok (.istore_n 3, 1) := by decide +kernel
theorem dX11_meet_28 : decode cX11_meet 28 = .ok (.iload_n 3, 1) := by decide +kernel
theorem dX11_meet_29 : decode cX11_meet 29 = .ok (.istore 4, 2) := by decide +kernel
theorem dX11_meet_31 : decode cX11_meet 31 = .ok (.iload 4, 2) := by decide +kernel
theorem dX11_meet_33 : decode cX11_meet 33 = .ok (.iconst 5, 1) := by decide +kernel
theorem dX11_meet_34 : decode cX11_meet 34 = .ok (.if_icmp .gt 39, 3) := by decide +kernel
theorem dX11_meet_37 : decode cX11_meet 37 = .ok (.aload_n 0, 1) := by decide +kernel
theorem dX11_meet_38 : decode cX11_meet 38 = .ok (.getfield 19, 3) := by decide +kernel
theorem dX11_meet_41 : decode cX11_meet 41 = .ok (.iload_n 1, 1) := by decide +kernel
theorem dX11_meet_42 : decode cX11_meet 42 = .ok (.iload 4, 2) := by decide +kernel
theorem dX11_meet_44 : decode cX11_meet 44 = .ok (.invokevirtual 213, 3) := by decide +kernel
theorem dX11_meet_47 : decode cX11_meet 47 = .ok (.istore 5, 2) := by decide +kernel
theorem dX11_meet_49 : decode cX11_meet 49 = .ok (.iload 5, 2) := by decide +kernel
theorem dX11_meet_51 : decode cX11_meet 51 = .ok (.aload_n 0, 1) := by decide +kernel
theorem dX11_meet_52 : decode cX11_meet 52 = .ok (.getfield 19, 3) := by decide +kernel
theorem dX11_meet_55 : decode cX11_meet 55 = .ok (.iload_n 2, 1) := by decide +kernel
theorem dX11_meet_56 : decode cX11_meet 56 = .ok (.iload 4, 2) := by decide +kernel
theorem dX11_meet_58 : decode cX11_meet 58 = .ok (.invokevirtual 213, 3) := by decide +kernel
theorem dX11_meet_61 : decode cX11_meet 61 = .ok (.if_icmp .ne 6, 3) := by decide +kernel
theorem dX11_meet_64 : decode cX11_meet 64 = .ok (.iload 5, 2) := by decide +kernel
theorem dX11_meet_66 : decode cX11_meet 66 = .ok (.ireturn, 1) := by decide +kernel
theorem dX11_meet_67 : decode cX11_meet 67 = .ok (.iinc 4 1, 3) := by decide +kernel
theorem dX11_meet_70 : decode cX11_meet 70 = .ok (.goto (-39), 3) := by decide +kernel
theorem dX11_meet_73 : decode cX11_meet 73 = .ok (.bipush (-2), 2) := by decide +kernel
theorem dX11_meet_75 : decode cX11_meet 75 = .ok (.ireturn, 1) := by decide +kernel
theorem dX11_cowls_0 : decode cX11_cowls 0 = .ok (.iconst 0, 1) := by decide +kernel
theorem dX11_cowls_1 : decode cX11_cowls 1 = .ok (.istore_n 1, 1) := by decide +kernel
theorem dX11_cowls_2 : decode cX11_cowls 2 = .ok (.iconst 0, 1) := by decide +kernel
theorem dX11_cowls_3 : decode cX11_cowls 3 = .ok (.istore_n 2, 1) := by decide +kernel
theorem dX11_cowls_4 : decode cX11_cowls 4 = .ok (.iload_n 2, 1) := by decide +kernel
theorem dX11_cowls_5 : decode cX11_cowls 5 = .ok (.iconst 4, 1) := by decide +kernel
theorem dX11_cowls_6 : decode cX11_cowls 6 = .ok (.if_icmp .ge 23, 3) := by decide +kernel
theorem dX11_cowls_9 : decode cX11_cowls 9 = .ok (.iload_n 1, 1) := by decide +kernel
theorem dX11_cowls_10 : decode cX11_cowls 10 = .ok (.iconst 1, 1) := by decide +kernel
theorem dX11_cowls_11 : decode cX11_cowls 11 = .ok (.aload_n 0, 1) := by decide +kernel
theorem dX11_cowls_12 : decode cX11_cowls 12 = .ok (.getfield 19, 3) := by decide +kernel
theorem dX11_cowls_15 : decode cX11_cowls 15 = .ok (.iload_n 2, 1) := by decide +kernel
theorem dX11_cowls_16 : decode cX11_cowls 16 = .ok (.iconst 5, 1) := by decide +kernel
theorem dX11_cowls_17 : decode cX11_cowls 17 = .ok (.invokevirtual 213, 3) := by decide +kernel
theorem dX11_cowls_20 : decode cX11_cowls 20 = .ok (.ishl, 1) := by decide +kernel
theorem dX11_cowls_21 : decode cX11_cowls 21 = .ok (.ior, 1) := by decide +kernel
theorem dX11_cowls_22 : decode cX11_cowls 22 = .ok (.istore_n 1, 1) := by decide +kernel
theorem dX11_cowls_23 : decode cX11_cowls 23 = .ok (.iinc 2 1, 3) := by decide +kernel
theorem dX11_cowls_26 : decode cX11_cowls 26 = .ok (.goto (-22), 3) := by decide +kernel
theorem dX11_cowls_29 : decode cX11_cowls 29 = .ok (.iload_n 1, 1) := by decide +kernel
theorem dX11_cowls_30 : decode cX11_cowls 30 = .ok (.invokestatic 221, 3) := by decide +kernel
theorem dX11_cowls_33 : decode cX11_cowls 33 = .ok (.ireturn, 1) := by decide +kernel
theorem dX11_turn_0 : decode cX11_turn 0 = .ok (.iload_n 1, 1) := by decide +kernel
theorem dX11_turn_1 : decode cX11_turn 1 = .ok (.iload_n 2, 1) := by decide +kernel
theorem dX11_turn_2 : decode cX11_turn 2 = .ok (.invokestatic 226, 3) := by decide +kernel
theorem dX11_turn_5 : decode cX11_turn 5 = .ok (.ifCond .eq 18, 3) := by decide +kernel
theorem dX11_turn_8 : decode cX11_turn 8 = .ok (.iload_n 3, 1) := by decide +kernel
theorem dX11_turn_9 : decode cX11_turn 9 = .ok (.bipush 100, 2) := by decide +kernel
theorem dX11_turn_11 : decode cX11_turn 11 = .ok (.if_icmp .eq 14, 3) := by decide +kernel
theorem dX11_turn_14 : decode cX11_turn 14 = .ok (.iload_n 3, 1) := by decide +kernel
theorem dX11_turn_15 : decode cX11_turn 15 = .ok (.iconst 0, 1) := by decide +kernel
theorem dX11_turn_16 : decode cX11_turn 16 = .ok (.iconst 4, 1) := by decide +kernel
theorem dX11_turn_17 : decode cX11_turn 17 = .ok (.invokestatic 104, 3) := by decide +kernel
theorem dX11_turn_20 : decode cX11_turn 20 = .ok (.ifCond .ne 5, 3) := by decide +kernel
theorem dX11_turn_23 : decode cX11_turn 23 = .ok (.iconst (-1), 1) := by decide +kernel
theorem dX11_turn_24 : decode cX11_turn 24 = .ok (.ireturn, 1) := by decide +kernel
theorem dX11_turn_25 : decode cX11_turn 25 = .ok (.aload_n 0, 1) := by decide +kernel
theorem dX11_turn_26 : decode cX11_turn 26 = .ok (.getfield 71, 3) := by decide +kernel
theorem dX11_turn_29 : decode cX11_turn 29 = .ok (.aload_n 0, 1) := by decide +kernel
theorem dX11_turn_30 : decode cX11_turn 30 = .ok (.getfield 19, 3) := by decide +kernel
theorem dX11_turn_33 : decode cX11_turn 33 = .ok (.iload_n 1, 1) := by decide +kernel
theorem dX11_turn_34 : decode cX11_turn 34 = .ok (.iload_n 2, 1) := by decide +kernel
theorem dX11_turn_35 : decode cX11_turn 35 = .ok (.iload_n 3, 1) := by decide +kernel
theorem dX11_turn_36 : decode cX11_turn 36 = .ok (.invokevirtual 230, 3) := by decide +kernel
theorem dX11_turn_39 : decode cX11_turn 39 = .ok (.ireturn, 1) := by decide +kernel
theorem dX11_ways_0 : decode cX11_ways 0 = .ok (.iload_n 1, 1) := by decide +kernel
theorem dX11_ways_1 : decode cX11_ways 1 = .ok (.iload_n 2, 1) := by decide +kernel
theorem dX11_ways_2 : decode cX11_ways 2 = .ok (.invokestatic 226, 3) := by decide +kernel
theorem dX11_ways_5 : decode cX11_ways 5 = .ok (.ifCond .ne 5, 3) := by decide +kernel
theorem dX11_ways_8 : decode cX11_ways 8 = .ok (.iconst (-1), 1) := by decide +kernel
theorem dX11_ways_9 : decode cX11_ways 9 = .ok (.ireturn, 1) := by decide +kernel
theorem dX11_ways_10 : decode cX11_ways 10 = .ok (.aload_n 0, 1) := by decide +kernel
theorem dX11_ways_11 : decode cX11_ways 11 = .ok (.getfield 71, 3) := by decide +kernel
theorem dX11_ways_14 : decode cX11_ways 14 = .ok (.iload_n 1, 1) := by decide +kernel
theorem dX11_ways_15 : decode cX11_ways 15 = .ok (.iload_n 2, 1) := by decide +kernel
theorem dX11_ways_16 : decode cX11_ways 16 = .ok (.invokevirtual 234, 3) := by decide +kernel
theorem dX11_ways_19 : decode cX11_ways 19 = .ok (.ireturn, 1) := by decide +kernel
theorem dX11_stockings_0 : decode cX11_stockings 0 = .ok (.iload_n 1, 1) := by decide +kernel
theorem dX11_stockings_1 : decode cX11_stockings 1 = .ok (.iconst 0, 1) := by decide +kernel
theorem dX11_stockings_2 : decode cX11_stockings 2 = .ok (.ldc 237, 2) := by decide +kernel
theorem dX11_stockings_4 : decode cX11_stockings 4 = .ok (.invokestatic 104, 3) := by decide +kernel
theorem dX11_stockings_7 : decode cX11_stockings 7 = .ok (.ifCond .eq 12, 3) := by decide +kernel
theorem dX11_stockings_10 : decode cX11_stockings 10 = .ok (.iload_n 2, 1) := by decide +kernel
theorem dX11_stockings_11 : decode cX11_stockings 11 = .ok (.iconst 0, 1) := by decide +kernel
theorem dX11_stockings_12 : decode cX11_stockings 12 = .ok (.iconst 1, 1) := by decide +kernel
theorem dX11_stockings_13 : decode cX11_stockings 13 = .ok (.invokestatic 104, 3) := by decide +kernel
theorem dX11_stockings_16 : decode cX11_stockings 16 = .ok (.ifCond .ne 5, 3) := by decide +kernel
theorem dX11_stockings_19 : decode cX11_stockings 19 = .ok (.iconst (-1), 1) := by decide +kernel
theorem dX11_stockings_20 : decode cX11_stockings 20 = .ok (.ireturn, 1) := by decide +kernel
theorem dX11_stockings_21 : decode cX11_stockings 21 = .ok (.aload_n 0, 1) := by decide +kernel
theorem dX11_stockings_22 : decode cX11_stockings 22 = .ok (.getfield 71, 3) := by decide +kernel
theorem dX11_stockings_25 : decode cX11_stockings 25 = .ok (.aload_n 0, 1) := by decide +kernel
theorem dX11_stockings_26 : decode cX11_stockings 26 = .ok (.getfield 19, 3) := by decide +kernel
theorem dX11_stockings_29 : decode cX11_stockings 29 = .ok (.iload_n 1, 1) := by decide +kernel
theorem dX11_stockings_30 : decode cX11_stockings 30 = .ok (.invokevirtual 238, 3) := by decide +kernel
theorem dX11_stockings_33 : decode cX11_stockings 33 = .ok (.istore_n 3, 1) := by decide +kernel
theorem dX11_stockings_34 : decode cX11_stockings 34 = .ok (.iload_n 2, 1) := by decide +kernel
theorem dX11_stockings_35 : decode cX11_stockings 35 = .ok (.ifCond .ne 10, 3) := by decide +kernel
theorem dX11_stockings_38 : decode cX11_stockings 38 = .ok (.iload_n 3, 1) := by decide +kernel
theorem dX11_stockings_39 : decode cX11_stockings 39 = .ok (.invokestatic 221, 3) := by decide +kernel
theorem dX11_stockings_42 : decode cX11_stockings 42 = .ok (.goto 4, 3) := by decide +kernel
theorem dX11_stockings_45 : decode cX11_stockings 45 = .ok (.iload_n 3, 1) := by decide +kernel
theorem dX11_stockings_46 : decode cX11_stockings 46 = .ok (.ireturn, 1) := by decide +kernel
theorem dX11_sleep_0 : decode cX11_sleep 0 = .ok (.iload_n 1, 1) := by decide +kernel
theorem dX11_sleep_1 : decode cX11_sleep 1 = .ok (.iconst 1, 1) := by decide +kernel
theorem dX11_sleep_2 : decode cX11_sleep 2 = .ok (.bipush 6, 2) := by decide +kernel
theorem dX11_sleep_4 : decode cX11_sleep 4 = .ok (.invokestatic 104, 3) := by decide +kernel
theorem dX11_sleep_7 : decode cX11_sleep 7 = .ok (.ifCond .eq 21, 3) := by decide +kernel
theorem dX11_sleep_10 : decode cX11_sleep 10 = .ok (.iload_n 2, 1) := by decide +kernel
theorem dX11_sleep_11 : decode cX11_sleep 11 = .ok (.iconst 0, 1) := by decide +kernel
theorem dX11_sleep_12 : decode cX11_sleep 12 = .ok (.ldc 237, 2) := by decide +kernel
theorem dX11_sleep_14 : decode cX11_sleep 14 = .ok (.invokestatic 104, 3) := by decide +kernel
theorem dX11_sleep_17 : decode cX11_sleep 17 = .ok (.ifCond .eq 11, 3) := by decide +kernel
theorem dX11_sleep_20 : decode cX11_sleep 20 = .ok (.iload_n 2, 1) := by decide +kernel
theorem dX11_sleep_21 : decode cX11_sleep 21 = .ok (.invokestatic 221, 3) := by decide +kernel
theorem dX11_sleep_24 : decode cX11_sleep 24 = .ok (.iload_n 1, 1) := by decide +kernel
theorem dX11_sleep_25 : decode cX11_sleep 25 = .ok (.if_icmp .eq 7, 3) := by decide +kernel
theorem dX11_sleep_28 : decode cX11_sleep 28 = .ok (.ldc2_w 242, 3) := by decide +kernel
theorem dX11_sleep_31 : decode cX11_sleep 31 = .ok (.lreturn, 1) := by decide +kernel
theorem dX11_sleep_32 : decode cX11_sleep 32 = .ok (.iload_n 3, 1) := by decide +kernel
theorem dX11_sleep_33 : decode cX11_sleep 33 = .ok (.bipush 100, 2) := by decide +kernel
theorem dX11_sleep_35 : decode cX11_sleep 35 = .ok (.if_icmp .eq 14, 3) := by decide +kernel
theorem dX11_sleep_38 : decode cX11_sleep 38 = .ok (.iload_n 3, 1) := by decide +kernel
theorem dX11_sleep_39 : decode cX11_sleep 39 = .ok (.iconst 0, 1) := by decide +kernel
theorem dX11_sleep_40 : decode cX11_sleep 40 = .ok (.iload_n 1, 1) := by decide +kernel
theorem dX11_sleep_41 : decode cX11_sleep 41 = .ok (.iconst 1, 1) := by decide +kernel
theorem dX11_sleep_42 : decode cX11_sleep 42 = .ok (.isub, 1) := by decide +kernel
theorem dX11_sleep_43 : decode cX11_sleep 43 = .ok (.invokestatic 104, 3) := by decide +kernel
theorem dX11_sleep_46 : decode cX11_sleep 46 = .ok (.ifCond .eq 14, 3) := by decide +kernel
theorem dX11_sleep_49 : decode cX11_sleep 49 = .ok (.aload_n 0, 1) := by decide +kernel
theorem dX11_sleep_50 : decode cX11_sleep 50 = .ok (.getfield 12, 3) := by decide +kernel
theorem dX11_sleep_53 : decode cX11_sleep 53 = .ok (.iload_n 1, 1) := by decide +kernel
theorem dX11_sleep_54 : decode cX11_sleep 54 = .ok (.invokevirtual 131, 3) := by decide +kernel
theorem dX11_sleep_57 : decode cX11_sleep 57 = .ok (.ifCond .ne 7, 3) := by decide +kernel
theorem dX11_sleep_60 : decode cX11_sleep 60 = .ok (.ldc2_w 242, 3) := by decide +kernel
theorem dX11_sleep_63 : decode cX11_sleep 63 = .ok (.lreturn, 1) := by decide +kernel
theorem dX11_sleep_64 : decode cX11_sleep 64 = .ok (.aload_n 0, 1) := by decide +kernel
theorem dX11_sleep_65 : decode cX11_sleep 65 = .ok (.getfield 12, 3) := by decide +kernel
theorem dX11_sleep_68 : decode cX11_sleep 68 = .ok (.iload_n 1, 1) := by decide +kernel
theorem dX11_sleep_69 : decode cX11_sleep 69 = .ok (.invokevirtual 134, 3) := by decide +kernel
theorem dX11_sleep_72 : decode cX11_sleep 72 = .ok (.aload_n 0, 1) := by decide +kernel
theorem dX11_sleep_73 : decode cX11_sleep 73 = .ok (.getfield 85, 3) := by decide +kernel
theorem dX11_sleep_76 : decode cX11_sleep 76 = .ok (.aload_n 0, 1) := by decide +kernel
theorem dX11_sleep_77 : decode cX11_sleep 77 = .ok (.getfield 12, 3) := by decide +kernel
theorem dX11_sleep_80 : decode cX11_sleep 80 = .ok (.iload_n 1, 1) := by decide +kernel
theorem dX11_sleep_81 : decode cX11_sleep 81 = .ok (.aload_n 0, 1) := by decide +kernel
theorem dX11_sleep_82 : decode cX11_sleep 82 = .ok (.getfield 19, 3) := by decide +kernel
theorem dX11_sleep_85 : decode cX11_sleep 85 = .ok (.iload_n 2, 1) := by decide +kernel
theorem dX11_sleep_86 : decode cX11_sleep 86 = .ok (.invokevirtual 244, 3) := by decide +kernel
theorem dX11_sleep_89 : decode cX11_sleep 89 = .ok (.iload_n 3, 1) := by decide +kernel
theorem dX11_sleep_90 : decode cX11_sleep 90 = .ok (.bipush 100, 2) := by decide +kernel
theorem dX11_sleep_92 : decode cX11_sleep 92 = .ok (.if_icmp .ne 13, 3) := by decide +kernel
theorem dX11_sleep_95 : decode cX11_sleep 95 = .ok (.aload_n 0, 1) := by decide +kernel
theorem dX11_sleep_96 : decode cX11_sleep 96 = .ok (.getfield 85, 3) := by decide +kernel
theorem dX11_sleep_99 : decode cX11_sleep 99 = .ok (.getfield 248, 3) := by decide +kernel
theorem dX11_sleep_102 : decode cX11_sleep 102 = .ok (.goto 13, 3) := by decide +kernel
theorem dX11_sleep_105 : decode cX11_sleep 105 = .ok (.aload_n 0, 1) := by decide +kernel
theorem dX11_sleep_106 : decode cX11_sleep 106 = .ok (.getfield 85, 3) := by decide +kernel
theorem dX11_sleep_109 : decode cX11_sleep 109 = .ok (.getfield 252, 3) := by decide +kernel
theorem dX11_sleep_112 : decode cX11_sleep 112 = .ok (.iload_n 3, 1) := by decide +kernel
theorem dX11_sleep_113 : decode cX11_sleep 113 = .ok (.iaload, 1) := by decide +kernel
theorem dX11_sleep_114 : decode cX11_sleep 114 = .ok (.i2l, 1) := by decide +kernel
theorem dX11_sleep_115 : decode cX11_sleep 115 = .ok (.lreturn, 1) := by decide +kernel
theorem dX11_breakfast_0 : decode cX11_breakfast 0 = .ok (.iload_n 1, 1) := by decide +kernel
theorem dX11_breakfast_1 : decode cX11_breakfast 1 = .ok (.bipush 100, 2) := by decide +kernel
theorem dX11_breakfast_3 : decode cX11_breakfast 3 = .ok (.if_icmp .ne 8, 3) := by decide +kernel
theorem dX11_breakfast_6 : decode cX11_breakfast 6 = .ok (.aload_n 0, 1) := by decide +kernel
theorem dX11_breakfast_7 : decode cX11_breakfast 7 = .ok (.invokevirtual 255, 3) := by decide +kernel
theorem dX11_breakfast_10 : decode cX11_breakfast 10 = .ok (.ireturn, 1) := by decide +kernel
theorem dX11_breakfast_11 : decode cX11_breakfast 11 = .ok (.iload_n 1, 1) := by decide +kernel
theorem dX11_breakfast_12 : decode cX11_breakfast 12 = .ok (.invokestatic 100, 3) := by decide +kernel
theorem dX11_breakfast_15 : decode cX11_breakfast 15 = .ok (.ifCond .eq 11, 3) := by decide +kernel
theorem dX11_breakfast_18 : decode cX11_breakfast 18 = .ok (.aload_n 0, 1) := by decide +kernel
theorem dX11_breakfast_19 : decode cX11_breakfast 19 = .ok (.iload_n 1, 1) := by decide +kernel
theorem dX11_breakfast_20 : decode cX11_breakfast 20 = .ok (.invokevirtual 259, 3) := by decide +kernel
theorem dX11_breakfast_23 : decode cX11_breakfast 23 = .ok (.goto 4, 3) := by decide +kernel
theorem dX11_breakfast_26 : decode cX11_breakfast 26 = .ok (.iconst (-1), 1) := by decide +kernel
theorem dX11_breakfast_27 : decode cX11_breakfast 27 = .ok (.ireturn, 1) := by decide +kernel
theorem dX11_ropes_0 : decode cX11_ropes 0 = .ok (.iload_n 1, 1) := by decide +kernel
theorem dX11_ropes_1 : decode cX11_ropes 1 = .ok (.invokestatic 100, 3) := by decide +kernel
theorem dX11_ropes_4 : decode cX11_ropes 4 = .ok (.ifCond .eq 23, 3) := by decide +kernel
theorem dX11_ropes_7 : decode cX11_ropes 7 = .ok (.iload_n 2, 1) := by decide +kernel
theorem dX11_ropes_8 : decode cX11_ropes 8 = .ok (.iconst 0, 1) := by decide +kernel
theorem dX11_ropes_9 : decode cX11_ropes 9 = .ok (.ldc_w 262, 3) := by decide +kernel
theorem dX11_ropes_12 : decode cX11_ropes 12 = .ok (.invokestatic 104, 3) := by decide +kernel
theorem dX11_ropes_15 : decode cX11_ropes 15 = .ok (.ifCond .eq 12, 3) := by decide +kernel
theorem dX11_ropes_18 : decode cX11_ropes 18 = .ok (.iload_n 3, 1) := by decide +kernel
theorem dX11_ropes_19 : decode cX11_ropes 19 = .ok (.iconst 0, 1) := by decide +kernel
theorem dX11_ropes_20 : decode cX11_ropes 20 = .ok (.iconst 1, 1) := by decide +kernel
theorem dX11_ropes_21 : decode cX11_ropes 21 = .ok (.invokestatic 104, 3) := by decide +kernel
theorem dX11_ropes_24 : decode cX11_ropes 24 = .ok (.ifCond .ne 5, 3) := by decide +kernel
theorem dX11_ropes_27 : decode cX11_ropes 27 = .ok (.iconst (-1), 1) := by decide +kernel
theorem dX11_ropes_28 : decode cX11_ropes 28 = .ok (.ireturn, 1) := by decide +kernel
theorem dX11_ropes_29 : decode cX11_ropes 29 = .ok (.aload_n 0, 1) := by decide +kernel
theorem dX11_ropes_30 : decode cX11_ropes 30 = .ok (.getfield 78, 3) := by decide +kernel
theorem dX11_ropes_33 : decode cX11_ropes 33 = .ok (.aload_n 0, 1) := by decide +kernel
theorem dX11_ropes_34 : decode cX11_ropes 34 = .ok (.getfield 19, 3) := by decide +kernel
theorem dX11_ropes_37 : decode cX11_ropes 37 = .ok (.iload_n 1, 1) := by decide +kernel
theorem dX11_ropes_38 : decode cX11_ropes 38 = .ok (.iload_n 2, 1) := by decide +kernel
theorem dX11_ropes_39 : decode cX11_ropes 39 = .ok (.iload_n 3, 1) := by decide +kernel
theorem dX11_ropes_40 : decode cX11_ropes 40 = .ok (.invokevirtual 263, 3) := by decide +kernel
theorem dX11_ropes_43 : decode cX11_ropes 43 = .ok (.ireturn, 1) := by decide +kernel
theorem dX11_taps_0 : decode cX11_taps 0 = .ok (.iload_n 1, 1) := by decide +kernel
theorem dX11_taps_1 : decode cX11_taps 1 = .ok (.iconst 1, 1) := by decide +kernel
theorem dX11_taps_2 : decode cX11_taps 2 = .ok (.bipush 60, 2) := by decide +kernel
theorem dX11_taps_4 : decode cX11_taps 4 = .ok (.invokestatic 104, 3) := by decide +kernel
theorem dX11_taps_7 : decode cX11_taps 7 = .ok (.ifCond .eq 14, 3) := by decide +kernel
theorem dX11_taps_10 : decode cX11_taps 10 = .ok (.aload_n 0, 1) := by decide +kernel
theorem dX11_taps_11 : decode cX11_taps 11 = .ok (.getfield 12, 3) := by decide +kernel
theorem dX11_taps_14 : decode cX11_taps 14 = .ok (.iload_n 1, 1) := by decide +kernel
theorem dX11_taps_15 : decode cX11_taps 15 = .ok (.invokevirtual 131, 3) := by decide +kernel
theorem dX11_taps_18 : decode cX11_taps 18 = .ok (.ifCond .ne 5, 3) := by decide +kernel
theorem dX11_taps_21 : decode cX11_taps 21 = .ok (.iconst (-1), 1) := by decide +kernel
theorem dX11_taps_22 : decode cX11_taps 22 = .ok (.ireturn, 1) := by decide +kernel
theorem dX11_taps_23 : decode cX11_taps 23 = .ok (.iload_n 2, 1) := by decide +kernel
theorem dX11_taps_24 : decode cX11_taps 24 = .ok (.bipush 100, 2) := by decide +kernel
theorem dX11_taps_26 : decode cX11_taps 26 = .ok (.if_icmp .eq 15, 3) := by decide +kernel
theorem dX11_taps_29 : decode cX11_taps 29 = .ok (.iload_n 2, 1) := by decide +kernel
theorem dX11_taps_30 : decode cX11_taps 30 = .ok (.iconst 0, 1) := by decide +kernel
theorem dX11_taps_31 : decode cX11_taps 31 = .ok (.bipush 19, 2) := by decide +kernel
theorem dX11_taps_33 : decode cX11_taps 33 = .ok (.invokestatic 104, 3) := by decide +kernel
theorem dX11_taps_36 : decode cX11_taps 36 = .ok (.ifCond .ne 5, 3) := by decide +kernel
theorem dX11_taps_39 : decode cX11_taps 39 = .ok (.iconst (-1), 1) := by decide +kernel
theorem dX11_taps_40 : decode cX11_taps 40 = .ok (.ireturn, 1) := by decide +kernel
theorem dX11_taps_41 : decode cX11_taps 41 = .ok (.aload_n 0, 1) := by decide +kernel
theorem dX11_taps_42 : decode cX11_taps 42 = .ok (.getfield 12, 3) := by decide +kernel
theorem dX11_taps_45 : decode cX11_taps 45 = .ok (.iload_n 1, 1) := by decide +kernel
theorem dX11_taps_46 : decode cX11_taps 46 = .ok (.invokevirtual 134, 3) := by decide +kernel
theorem dX11_taps_49 : decode cX11_taps 49 = .ok (.aload_n 0, 1) := by decide +kernel
theorem dX11_taps_50 : decode cX11_taps 50 = .ok (.getfield 12, 3) := by decide +kernel
theorem dX11_taps_53 : decode cX11_taps 53 = .ok (.iload_n 2, 1) := by decide +kernel
theorem dX11_taps_54 : decode cX11_taps 54 = .ok (.invokestatic 266, 3) := by decide +kernel
theorem dX11_taps_57 : decode cX11_taps 57 = .ok (.istore_n 3, 1) := by decide +kernel
theorem dX11_taps_58 : decode cX11_taps 58 = .ok (.aload_n 0, 1) := by decide +kernel
theorem dX11_taps_59 : decode cX11_taps 59 = .ok (.getfield 12, 3) := by decide +kernel
theorem dX11_taps_62 : decode cX11_taps 62 = .ok (.invokevirtual 141, 3) := by decide +kernel
theorem dX11_taps_65 : decode cX11_taps 65 = .ok (.ifCond .eq 13, 3) := by decide +kernel
theorem dX11_taps_68 : decode cX11_taps 68 = .ok (.aload_n 0, 1) := by decide +kernel
theorem dX11_taps_69 : decode cX11_taps 69 = .ok (.getfield 12, 3) := by decide +kernel
theorem dX11_taps_72 : decode cX11_taps 72 = .ok (.getfield 144, 3) := by decide +kernel
theorem dX11_taps_75 : decode cX11_taps 75 = .ok (.goto 4, 3) := by decide +kernel
theorem dX11_taps_78 : decode cX11_taps 78 = .ok (.iload_n 3, 1) := by decide +kernel
theorem dX11_taps_79 : decode cX11_taps 79 = .ok (.ireturn, 1) := by decide +kernel
theorem dX11_tapped_0 : decode cX11_tapped 0 = .ok (.iload_n 1, 1) := by decide +kernel
theorem dX11_tapped_1 : decode cX11_tapped 1 = .ok (.iconst 1, 1) := by decide +kernel
theorem dX11_tapped_2 : decode cX11_tapped 2 = .ok (.bipush 40, 2) := by decide +kernel
theorem dX11_tapped_4 : decode cX11_tapped 4 = .ok (.invokestatic 104, 3) := by decide +kernel
theorem dX11_tapped_7 : decode cX11_tapped 7 = .ok (.ifCond .eq 14, 3) := by decide +kernel
theorem dX11_tapped_10 : decode cX11_tapped 10 = .ok (.aload_n 0, 1) := by decide +kernel
theorem dX11_tapped_11 : decode cX11_tapped 11 = .ok (.getfield 12, 3) := by decide +kernel
theorem dX11_tapped_14 : decode cX11_tapped 14 = .ok (.iload_n 1, 1) := by decide +kernel
theorem dX11_tapped_15 : decode cX11_tapped 15 = .ok (.invokevirtual 131, 3) := by decide +kernel
theorem dX11_tapped_18 : decode cX11_tapped 18 = .ok (.ifCond .ne 5, 3) := by decide +kernel
theorem dX11_tapped_21 : decode cX11_tapped 21 = .ok (.iconst (-1), 1) := by decide +kernel
theorem dX11_tapped_22 : decode cX11_tapped 22 = .ok (.ireturn, 1) := by decide +kernel
theorem dX11_tapped_23 : decode cX11_tapped 23 = .ok (.aload_n 0, 1) := by decide +kernel
theorem dX11_tapped_24 : decode cX11_tapped 24 = .ok (.getfield 12, 3) := by decide +kernel
theorem dX11_tapped_27 : decode cX11_tapped 27 = .ok (.iload_n 1, 1) := by decide +kernel
theorem dX11_tapped_28 : decode cX11_tapped 28 = .ok (.invokevirtual 134, 3) := by decide +kernel
theorem dX11_tapped_31 : decode cX11_tapped 31 = .ok (.aload_n 0, 1) := by decide +kernel
theorem dX11_tapped_32 : decode cX11_tapped 32 = .ok (.getfield 12, 3) := by decide +kernel
theorem dX11_tapped_35 : decode cX11_tapped 35 = .ok (.invokestatic 271, 3) := by decide +kernel
theorem dX11_tapped_38 : decode cX11_tapped 38 = .ok (.istore_n 2, 1) := by decide +kernel
theorem dX11_tapped_39 : decode cX11_tapped 39 = .ok (.aload_n 0, 1) := by decide +kernel
theorem dX11_tapped_40 : decode cX11_tapped 40 = .ok (.getfield 12, 3) := by decide +kernel
theorem dX11_tapped_43 : decode cX11_tapped 43 = .ok (.invokevirtual 141, 3) := by decide +kernel
theorem dX11_tapped_46 : decode cX11_tapped 46 = .ok (.ifCond .eq 13, 3) := by decide +kernel
theorem dX11_tapped_49 : decode cX11_tapped 49 = .ok (.aload_n 0, 1) := by decide +kernel
theorem dX11_tapped_50 : decode cX11_tapped 50 = .ok (.getfield 12, 3) := by decide +kernel
theorem dX11_tapped_53 : decode cX11_tapped 53 = .ok (.getfield 144, 3) := by decide +kernel
theorem dX11_tapped_56 : decode cX11_tapped 56 = .ok (.goto 4, 3) := by decide +kernel
theorem dX11_tapped_59 : decode cX11_tapped 59 = .ok (.iload_n 2, 1) := by decide +kernel
theorem dX11_tapped_60 : decode cX11_tapped 60 = .ok (.ireturn, 1) := by decide +kernel
theorem dX11_linen_0 : decode cX11_linen 0 = .ok (.iload_n 1, 1) := by decide +kernel
theorem dX11_linen_1 : decode cX11_linen 1 = .ok (.iconst 1, 1) := by decide +kernel
theorem dX11_linen_2 : decode cX11_linen 2 = .ok (.bipush 24, 2) := by decide +kernel
theorem dX11_linen_4 : decode cX11_linen 4 = .ok (.invokestatic 104, 3) := by decide +kernel
theorem dX11_linen_7 : decode cX11_linen 7 = .ok (.ifCond .eq 25, 3) := by decide +kernel
theorem dX11_linen_10 : decode cX11_linen 10 = .ok (.iload_n 2, 1) := by decide +kernel
theorem dX11_linen_11 : decode cX11_linen 11 = .ok (.iconst 0, 1) := by decide +kernel
theorem dX11_linen_12 : decode cX11_linen 12 = .ok (.ldc_w 275, 3) := by decide +kernel
theorem dX11_linen_15 : decode cX11_linen 15 = .ok (.invokestatic 104, 3) := by decide +kernel
theorem dX11_linen_18 : decode cX11_linen 18 = .ok (.ifCond .eq 14, 3) := by decide +kernel
theorem dX11_linen_21 : decode cX11_linen 21 = .ok (.aload_n 0, 1) := by decide +kernel
theorem dX11_linen_22 : decode cX11_linen 22 = .ok (.getfield 12, 3) := by decide +kernel
theorem dX11_linen_25 : decode cX11_linen 25 = .ok (.iload_n 1, 1) := by decide +kernel
theorem dX11_linen_26 : decode cX11_linen 26 = .ok (.invokevirtual 131, 3) := by decide +kernel
theorem dX11_linen_29 : decode cX11_linen 29 = .ok (.ifCond .ne 5, 3) := by decide +kernel
theorem dX11_linen_32 : decode cX11_linen 32 = .ok (.iconst (-1), 1) := by decide +kernel
theorem dX11_linen_33 : decode cX11_linen 33 = .ok (.ireturn, 1) := by decide +kernel
theorem dX11_linen_34 : decode cX11_linen 34 = .ok (.iload_n 3, 1) := by decide +kernel
theorem dX11_linen_35 : decode cX11_linen 35 = .ok (.bipush 100, 2) := by decide +kernel
theorem dX11_linen_37 : decode cX11_linen 37 = .ok (.if_icmp .eq 22, 3) := by decide +kernel
theorem dX11_linen_40 : decode cX11_linen 40 = .ok (.iload_n 3, 1) := by decide +kernel
theorem dX11_linen_41 : decode cX11_linen 41 = .ok (.bipush 101, 2) := by decide +kernel
theorem dX11_linen_43 : decode cX11_linen 43 = .ok (.if_icmp .eq 16, 3) := by decide +kernel
theorem dX11_linen_46 : decode cX11_linen 46 = .ok (.iload_n 3, 1) := by decide +kernel
theorem dX11_linen_47 : decode cX11_linen 47 = .ok (.iconst 0, 1) := by decide +kernel
theorem dX11_linen_48 : decode cX11_linen 48 = .ok (.iload_n 1, 1) := by decide +kernel
theorem dX11_linen_49 : decode cX11_linen 49 = .ok (.iconst 1, 1) := by decide +kernel
theorem dX11_linen_50 : decode cX11_linen 50 = .ok (.isub, 1) := by decide +kernel
theorem dX11_linen_51 : decode cX11_linen 51 = .ok (.invokestatic 104, 3) := by decide +kernel
theorem dX11_linen_54 : decode cX11_linen 54 = .ok (.ifCond .ne 5, 3) := by decide +kernel
theorem dX11_linen_57 : decode cX11_linen 57 = .ok (.iconst (-1), 1) := by decide +kernel
theorem dX11_linen_58 : decode cX11_linen 58 = .ok (.ireturn, 1) := by decide +kernel
theorem dX11_linen_59 : decode cX11_linen 59 = .ok (.aload_n 0, 1) := by decide +kernel
theorem dX11_linen_60 : decode cX11_linen 60 = .ok (.getfield 12, 3) := by decide +kernel
theorem dX11_linen_63 : decode cX11_linen 63 = .ok (.iload_n 1, 1) := by decide +kernel
theorem dX11_linen_64 : decode cX11_linen 64 = .ok (.invokevirtual 134, 3) := by decide +kernel
theorem dX11_linen_67 : decode cX11_linen 67 = .ok (.aload_n 0, 1) := by decide +kernel
theorem dX11_linen_68 : decode cX11_linen 68 = .ok (.getfield 92, 3) := by decide +kernel
theorem dX11_linen_71 : decode cX11_linen 71 = .ok (.aload_n 0, 1) := by decide +kernel
theorem dX11_linen_72 : decode cX11_linen 72 = .ok (.getfield 12, 3) := by decide +kernel
theorem dX11_linen_75 : decode cX11_linen 75 = .ok (.iload_n 1, 1) := by decide +kernel
theorem dX11_linen_76 : decode cX11_linen 76 = .ok (.invokevirtual 276, 3) := by decide +kernel
theorem dX11_linen_79 : decode cX11_linen 79 = .ok (.ifCond .ne 6, 3) := by decide +kernel
theorem dX11_linen_82 : decode cX11_linen 82 = .ok (.bipush (-2), 2) := by decide +kernel
theorem dX11_linen_84 : decode cX11_linen 84 = .ok (.ireturn, 1) := by decide +kernel
theorem dX11_linen_85 : decode cX11_linen 85 = .ok (.iload_n 3, 1) := by decide +kernel
theorem dX11_linen_86 : decode cX11_linen 86 = .ok (.bipush 100, 2) := by decide +kernel
theorem dX11_linen_88 : decode cX11_linen 88 = .ok (.if_icmp .ne 11, 3) := by decide +kernel
theorem dX11_linen_91 : decode cX11_linen 91 = .ok (.aload_n 0, 1) := by decide +kernel
theorem dX11_linen_92 : decode cX11_linen 92 = .ok (.getfield 92, 3) := by decide +kernel
theorem dX11_linen_95 : decode cX11_linen 95 = .ok (.invokevirtual 280, 3) := by decide +kernel
theorem dX11_linen_98 : decode cX11_linen 98 = .ok (.ireturn, 1) := by decide +kernel
theorem dX11_linen_99 : decode cX11_linen 99 = .ok (.iload_n 3, 1) := by decide +kernel
theorem dX11_linen_100 : decode cX11_linen 100 = .ok (.bipush 101, 2) := by decide +kernel
theorem dX11_linen_102 : decode cX11_linen 102 = .ok (.if_icmp .ne 13, 3) := by decide +kernel
theorem dX11_linen_105 : decode cX11_linen 105 = .ok (.aload_n 0, 1) := by decide +kernel
theorem dX11_linen_106 : decode cX11_linen 106 = .ok (.getfield 92, 3) := by decide +kernel
theorem dX11_linen_109 : decode cX11_linen 109 = .ok (.invokevirtual 283, 3) := by decide +kernel
theorem dX11_linen_112 : decode cX11_linen 112 = .ok (.goto 12, 3) := by decide +kernel
theorem dX11_linen_115 : decode cX11_linen 115 = .ok (.aload_n 0, 1) := by decide +kernel
theorem dX11_linen_116 : decode cX11_linen 116 = .ok (.getfield 92, 3) := by decide +kernel
theorem dX11_linen_119 : decode cX11_linen 119 = .ok (.iload_n 3, 1) := by decide +kernel
theorem dX11_linen_120 : decode cX11_linen 120 = .ok (.iload_n 2, 1) := by decide +kernel
theorem dX11_linen_121 : decode cX11_linen 121 = .ok (.invokevirtual 286, 3) := by decide +kernel
theorem dX11_linen_124 : decode cX11_linen 124 = .ok (.ireturn, 1) := by decide +kernel
theorem dX11_dust_0 : decode cX11_dust 0 = .ok (.iload_n 1, 1) := by decide +kernel
theorem dX11_dust_1 : decode cX11_dust 1 = .ok (.iconst 0, 1) := by decide +kernel
theorem dX11_dust_2 : decode cX11_dust 2 = .ok (.iconst 1, 1) := by decide +kernel
theorem dX11_dust_3 : decode cX11_dust 3 = .ok (.invokestatic 104, 3) := by decide +kernel
theorem dX11_dust_6 : decode cX11_dust 6 = .ok (.ifCond .ne 5, 3) := by decide +kernel
theorem dX11_dust_9 : decode cX11_dust 9 = .ok (.iconst (-1), 1) := by decide +kernel
theorem dX11_dust_10 : decode cX11_dust 10 = .ok (.ireturn, 1) := by decide +kernel
theorem dX11_dust_11 : decode cX11_dust 11 = .ok (.aload_n 0, 1) := by decide +kernel
theorem dX11_dust_12 : decode cX11_dust 12 = .ok (.getfield 19, 3) := by decide +kernel
theorem dX11_dust_15 : decode cX11_dust 15 = .ok (.getfield 289, 3) := by decide +kernel
theorem dX11_dust_18 : decode cX11_dust 18 = .ok (.ifCond .ne 6, 3) := by decide +kernel
theorem dX11_dust_21 : decode cX11_dust 21 = .ok (.bipush (-2), 2) := by decide +kernel
theorem dX11_dust_23 : decode cX11_dust 23 = .ok (.ireturn, 1) := by decide +kernel
theorem dX11_dust_24 : decode cX11_dust 24 = .ok (.iload_n 1, 1) := by decide +kernel
theorem dX11_dust_25 : decode cX11_dust 25 = .ok (.ifCond .ne 10, 3) := by decide +kernel
theorem dX11_dust_28 : decode cX11_dust 28 = .ok (.aload_n 0, 1) := by decide +kernel
theorem dX11_dust_29 : decode cX11_dust 29 = .ok (.invokevirtual 292, 3) := by decide +kernel
theorem dX11_dust_32 : decode cX11_dust 32 = .ok (.goto 7, 3) := by decide +kernel
theorem dX11_dust_35 : decode cX11_dust 35 = .ok (.aload_n 0, 1) := by decide +kernel
theorem dX11_dust_36 : decode cX11_dust 36 = .ok (.invokevirtual 295, 3) := by decide +kernel
theorem dX11_dust_39 : decode cX11_dust 39 = .ok (.ireturn, 1) := by decide +kernel
theorem dX11_seed_0 : decode cX11_seed 0 = .ok (.iload_n 1, 1) := by decide +kernel
theorem dX11_seed_1 : decode cX11_seed 1 = .ok (.iconst 0, 1) := by decide +kernel
theorem dX11_seed_2 : decode cX11_seed 2 = .ok (.ldc_w 298, 3) := by decide +kernel
theorem dX11_seed_5 : decode cX11_seed 5 = .ok (.invokestatic 104, 3) := by decide +kernel
theorem dX11_seed_8 : decode cX11_seed 8 = .ok (.ifCond .ne 5, 3) := by decide +kernel
theorem dX11_seed_11 : decode cX11_seed 11 = .ok (.iconst 0, 1) := by decide +kernel
theorem dX11_seed_12 : decode cX11_seed 12 = .ok (.ireturn, 1) := by decide +kernel
theorem dX11_seed_13 : decode cX11_seed 13 = .ok (.aload_n 0, 1) := by decide +kernel
theorem dX11_seed_14 : decode cX11_seed 14 = .ok (.getfield 19, 3) := by decide +kernel
theorem dX11_seed_17 : decode cX11_seed 17 = .ok (.iload_n 1, 1) := by decide +kernel
theorem dX11_seed_18 : decode cX11_seed 18 = .ok (.putfield 299, 3) := by decide +kernel
theorem dX11_seed_21 : decode cX11_seed 21 = .ok (.iconst 1, 1) := by decide +kernel
theorem dX11_seed_22 : decode cX11_seed 22 = .ok (.ireturn, 1) := by decide +kernel
theorem dX11_keep_0 : decode cX11_keep 0 = .ok (.aload_n 0, 1) := by decide +kernel
theorem dX11_keep_1 : decode cX11_keep 1 = .ok (.getfield 23, 3) := by decide +kernel
theorem dX11_keep_4 : decode cX11_keep 4 = .ok (.aload_n 0, 1) := by decide +kernel
theorem dX11_keep_5 : decode cX11_keep 5 = .ok (.getfield 19, 3) := by decide +kernel
theorem dX11_keep_8 : decode cX11_keep 8 = .ok (.invokevirtual 150, 3) := by decide +kernel
theorem dX11_keep_11 : decode cX11_keep 11 = .ok (.aload_n 0, 1) := by decide +kernel
theorem dX11_keep_12 : decode cX11_keep 12 = .ok (.iconst 1, 1) := by decide +kernel
theorem dX11_keep_13 : decode cX11_keep 13 = .ok (.putfield 96, 3) := by decide +kernel
theorem dX11_keep_16 : decode cX11_keep 16 = .ok (.aload_n 0, 1) := by decide +kernel
theorem dX11_keep_17 : decode cX11_keep 17 = .ok (.getfield 23, 3) := by decide +kernel
theorem dX11_keep_20 : decode cX11_keep 20 = .ok (.getfield 302, 3) := by decide +kernel
theorem dX11_keep_23 : decode cX11_keep 23 = .ok (.ireturn, 1) := by decide +kernel
theorem dX11_undo_0 : decode cX11_undo 0 = .ok (.aload_n 0, 1) := by decide +kernel
theorem dX11_undo_1 : decode cX11_undo 1 = .ok (.getfield 96, 3) := by decide +kernel
theorem dX11_undo_4 : decode cX11_undo 4 = .ok (.ifCond .ne 5, 3) := by decide +kernel
theorem dX11_undo_7 : decode cX11_undo 7 = .ok (.iconst 0, 1) := by decide +kernel
theorem dX11_undo_8 : decode cX11_undo 8 = .ok (.ireturn, 1) := by decide +kernel
theorem dX11_undo_9 : decode cX11_undo 9 = .ok (.aload_n 0, 1) := by decide +kernel
theorem dX11_undo_10 : decode cX11_undo 10 = .ok (.getfield 19, 3) := by decide +kernel
theorem dX11_undo_13 : decode cX11_undo 13 = .ok (.aload_n 0, 1) := by decide +kernel
theorem dX11_undo_14 : decode cX11_undo 14 = .ok (.getfield 23, 3) := by decide +kernel
theorem dX11_undo_17 : decode cX11_undo 17 = .ok (.invokevirtual 150, 3) := by decide +kernel
theorem dX11_undo_20 : decode cX11_undo 20 = .ok (.iconst 1, 1) := by decide +kernel
theorem dX11_undo_21 : decode cX11_undo 21 = .ok (.ireturn, 1) := by decide +kernel
theorem dX11_check_0 : decode cX11_check 0 = .ok (.iload_n 1, 1) := by decide +kernel
theorem dX11_check_1 : decode cX11_check 1 = .ok (.iconst 0, 1) := by decide +kernel
theorem dX11_check_2 : decode cX11_check 2 = .ok (.bipush 24, 2) := by decide +kernel
theorem dX11_check_4 : decode cX11_check 4 = .ok (.invokestatic 104, 3) := by decide +kernel
theorem dX11_check_7 : decode cX11_check 7 = .ok (.ifCond .eq 14, 3) := by decide +kernel
theorem dX11_check_10 : decode cX11_check 10 = .ok (.aload_n 0, 1) := by decide +kernel
theorem dX11_check_11 : decode cX11_check 11 = .ok (.getfield 12, 3) := by decide +kernel
theorem dX11_check_14 : decode cX11_check 14 = .ok (.iload_n 1, 1) := by decide +kernel
theorem dX11_check_15 : decode cX11_check 15 = .ok (.invokevirtual 131, 3) := by decide +kernel
theorem dX11_check_18 : decode cX11_check 18 = .ok (.ifCond .ne 6, 3) := by decide +kernel
theorem dX11_check_21 : decode cX11_check 21 = .ok (.bipush (-2), 2) := by decide +kernel
theorem dX11_check_23 : decode cX11_check 23 = .ok (.ireturn, 1) := by decide +kernel
theorem dX11_check_24 : decode cX11_check 24 = .ok (.aload_n 0, 1) := by decide +kernel
theorem dX11_check_25 : decode cX11_check 25 = .ok (.getfield 12, 3) := by decide +kernel
theorem dX11_check_28 : decode cX11_check 28 = .ok (.iload_n 1, 1) := by decide +kernel
theorem dX11_check_29 : decode cX11_check 29 = .ok (.invokevirtual 134, 3) := by decide +kernel
theorem dX11_check_32 : decode cX11_check 32 = .ok (.iconst 0, 1) := by decide +kernel
theorem dX11_check_33 : decode cX11_check 33 = .ok (.istore_n 2, 1) := by decide +kernel
theorem dX11_check_34 : decode cX11_check 34 = .ok (.iload_n 2, 1) := by decide +kernel
theorem dX11_check_35 : decode cX11_check 35 = .ok (.iload_n 1, 1) := by decide +kernel
theorem dX11_check_36 : decode cX11_check 36 = .ok (.if_icmp .ge 35, 3) := by decide +kernel
theorem dX11_check_39 : decode cX11_check 39 = .ok (.aload_n 0, 1) := by decide +kernel
theorem dX11_check_40 : decode cX11_check 40 = .ok (.getfield 12, 3) := by decide +kernel
theorem dX11_check_43 : decode cX11_check 43 = .ok (.iload_n 2, 1) := by decide +kernel
theorem dX11_check_44 : decode cX11_check 44 = .ok (.invokevirtual 305, 3) := by decide +kernel
theorem dX11_check_47 : decode cX11_check 47 = .ok (.aload_n 0, 1) := by decide +kernel
theorem dX11_check_48 : decode cX11_check 48 = .ok (.getfield 19, 3) := by decide +kernel
theorem dX11_check_51 : decode cX11_check 51 = .ok (.getfield 169, 3) := by decide +kernel
theorem dX11_check_54 : decode cX11_check 54 = .ok (.iload_n 2, 1) := by decide +kernel
theorem dX11_check_55 : decode cX11_check 55 = .ok (.iaload, 1) := by decide +kernel
theorem dX11_check_56 : decode cX11_check 56 = .ok (.sipush 256, 3) := by decide +kernel
theorem dX11_check_59 : decode cX11_check 59 = .ok (.irem, 1) := by decide +kernel
theorem dX11_check_60 : decode cX11_check 60 = .ok (.if_icmp .eq 5, 3) := by decide +kernel
theorem dX11_check_63 : decode cX11_check 63 = .ok (.iload_n 2, 1) := by decide +kernel
theorem dX11_check_64 : decode cX11_check 64 = .ok (.ireturn, 1) := by decide +kernel
theorem dX11_check_65 : decode cX11_check 65 = .ok (.iinc 2 1, 3) := by decide +kernel
theorem dX11_check_68 : decode cX11_check 68 = .ok (.goto (-34), 3) := by decide +kernel
theorem dX11_check_71 : decode cX11_check 71 = .ok (.iconst (-1), 1) := by decide +kernel
theorem dX11_check_72 : decode cX11_check 72 = .ok (.ireturn, 1) := by decide +kernel
theorem dX11_count_0 : decode cX11_count 0 = .ok (.iload_n 1, 1) := by decide +kernel
theorem dX11_count_1 : decode cX11_count 1 = .ok (.tableswitch 129 0 8 #[51, 59, 67, 75, 83, 91, 99, 107, 118], 51) := by decide +kernel
theorem dX11_count_52 : decode cX11_count 52 = .ok (.aload_n 0, 1) := by decide +kernel
theorem dX11_count_53 : decode cX11_count 53 = .ok (.getfield 19, 3) := by decide +kernel
theorem dX11_count_56 : decode cX11_count 56 = .ok (.getfield 302, 3) := by decide +kernel
theorem dX11_count_59 : decode cX11_count 59 = .ok (.ireturn, 1) := by decide +kernel
theorem dX11_count_60 : decode cX11_count 60 = .ok (.aload_n 0, 1) := by decide +kernel
theorem dX11_count_61 : decode cX11_count 61 = .ok (.getfield 19, 3) := by decide +kernel
theorem dX11_count_64 : decode cX11_count 64 = .ok (.getfield 308, 3) := by decide +kernel
theorem dX11_count_67 : decode cX11_count 67 = .ok (.ireturn, 1) := by decide +kernel
theorem dX11_count_68 : decode cX11_count 68 = .ok (.aload_n 0, 1) := by decide +kernel
theorem dX11_count_69 : decode cX11_count 69 = .ok (.getfield 19, 3) := by decide +kernel
theorem dX11_count_72 : decode cX11_count 72 = .ok (.getfield 289, 3) := by decide +kernel
theorem dX11_count_75 : decode cX11_count 75 = .ok (.ireturn, 1) := by decide +kernel
theorem dX11_count_76 : decode cX11_count 76 = .ok (.aload_n 0, 1) := by decide +kernel
theorem dX11_count_77 : decode cX11_count 77 = .ok (.getfield 19, 3) := by decide +kernel
theorem dX11_count_80 : decode cX11_count 80 = .ok (.getfield 311, 3) := by decide +kernel
theorem dX11_count_83 : decode cX11_count 83 = .ok (.ireturn, 1) := by decide +kernel
theorem dX11_count_84 : decode cX11_count 84 = .ok (.aload_n 0, 1) := by decide +kernel
theorem dX11_count_85 : decode cX11_count 85 = .ok (.getfield 34, 3) := by decide +kernel
theorem dX11_count_88 : decode cX11_count 88 = .ok (.getfield 147, 3) := by decide +kernel
theorem dX11_count_91 : decode cX11_count 91 = .ok (.ireturn, 1) := by decide +kernel
theorem dX11_count_92 : decode cX11_count 92 = .ok (.aload_n 0, 1) := by decide +kernel
theorem dX11_count_93 : decode cX11_count 93 = .ok (.getfield 12, 3) := by decide +kernel
theorem dX11_count_96 : decode cX11_count 96 = .ok (.getfield 127, 3) := by decide +kernel
theorem dX11_count_99 : decode cX11_count 99 = .ok (.ireturn, 1) := by decide +kernel
theorem dX11_count_100 : decode cX11_count 100 = .ok (.aload_n 0, 1) := by decide +kernel
theorem dX11_count_101 : decode cX11_count 101 = .ok (.getfield 19, 3) := by decide +kernel
theorem dX11_count_104 : decode cX11_count 104 = .ok (.getfield 299, 3) := by decide +kernel
theorem dX11_count_107 : decode cX11_count 107 = .ok (.ireturn, 1) := by decide +kernel
theorem dX11_count_108 : decode cX11_count 108 = .ok (.aload_n 0, 1) := by decide +kernel
theorem dX11_count_109 : decode cX11_count 109 = .ok (.getfield 19, 3) := by decide +kernel
theorem dX11_count_112 : decode cX11_count 112 = .ok (.getfield 169, 3) := by decide +kernel
theorem dX11_count_115 : decode cX11_count 115 = .ok (.invokestatic 173, 3) := by decide +kernel
theorem dX11_count_118 : decode cX11_count 118 = .ok (.ireturn, 1) := by decide +kernel
theorem dX11_count_119 : decode cX11_count 119 = .ok (.aload_n 0, 1) := by decide +kernel
theorem dX11_count_120 : decode cX11_count 120 = .ok (.getfield 19, 3) := by decide +kernel
theorem dX11_count_123 : decode cX11_count 123 = .ok (.getfield 189, 3) := by decide +kernel
theorem dX11_count_126 : decode cX11_count 126 = .ok (.invokestatic 173, 3) := by decide +kernel
theorem dX11_count_129 : decode cX11_count 129 = .ok (.ireturn, 1) := by decide +kernel
theorem dX11_count_130 : decode cX11_count 130 = .ok (.iconst (-1), 1) := by decide +kernel
theorem dX11_count_131 : decode cX11_count 131 = .ok (.ireturn, 1) := by decide +kernel
theorem dX11_roomThatFeelsMost_0 : decode cX11_roomThatFeelsMost 0 = .ok (.iconst 0, 1) := by decide +kernel
theorem dX11_roomThatFeelsMost_1 : decode cX11_roomThatFeelsMost 1 = .ok (.istore_n 1, 1) := by decide +kernel
theorem dX11_roomThatFeelsMost_2 : decode cX11_roomThatFeelsMost 2 = .ok (.iconst 1, 1) := by decide +kernel
theorem dX11_roomThatFeelsMost_3 : decode cX11_roomThatFeelsMost 3 = .ok (.istore_n 2, 1) := by decide +kernel
theorem dX11_roomThatFeelsMost_4 : decode cX11_roomThatFeelsMost 4 = .ok (.iload_n 2, 1) := by decide +kernel
theorem dX11_roomThatFeelsMost_5 : decode cX11_roomThatFeelsMost 5 = .ok (.bipush 24, 2) := by decide +kernel
theorem dX11_roomThatFeelsMost_7 : decode cX11_roomThatFeelsMost 7 = .ok (.if_icmp .ge 32, 3) := by decide +kernel
theorem dX11_roomThatFeelsMost_10 : decode cX11_roomThatFeelsMost 10 = .ok (.aload_n 0, 1) := by decide +kernel
theorem dX11_roomThatFeelsMost_11 : decode cX11_roomThatFeelsMost 11 = .ok (.getfield 19, 3) := by decide +kernel
theorem dX11_roomThatFeelsMost_14 : decode cX11_roomThatFeelsMost 14 = .ok (.getfield 177, 3) := by decide +kernel
theorem dX11_roomThatFeelsMost_17 : decode cX11_roomThatFeelsMost 17 = .ok (.iload_n 2, 1) := by decide +kernel
theorem dX11_roomThatFeelsMost_18 : decode cX11_roomThatFeelsMost 18 = .ok (.iaload, 1) := by decide +kernel
theorem dX11_roomThatFeelsMost_19 : decode cX11_roomThatFeelsMost 19 = .ok (.aload_n 0, 1) := by decide +kernel
theorem dX11_roomThatFeelsMost_20 : decode cX11_roomThatFeelsMost 20 = .ok (.getfield 19, 3) := by decide +kernel
theorem dX11_roomThatFeelsMost_23 : decode cX11_roomThatFeelsMost 23 = .ok (.getfield 177, 3) := by decide +kernel
theorem dX11_roomThatFeelsMost_26 : decode cX11_roomThatFeelsMost 26 = .ok (.iload_n 1, 1) := by decide +kernel
theorem dX11_roomThatFeelsMost_27 : decode cX11_roomThatFeelsMost 27 = .ok (.iaload, 1) := by decide +kernel
theorem dX11_roomThatFeelsMost_28 : decode cX11_roomThatFeelsMost 28 = .ok (.if_icmp .le 5, 3) := by decide +kernel
theorem dX11_roomThatFeelsMost_31 : decode cX11_roomThatFeelsMost 31 = .ok (.iload_n 2, 1) := by decide +kernel
theorem dX11_roomThatFeelsMost_32 : decode cX11_roomThatFeelsMost 32 = .ok (.istore_n 1, 1) := by decide +kernel
theorem dX11_roomThatFeelsMost_33 : decode cX11_roomThatFeelsMost 33 = .ok (.iinc 2 1, 3) := by decide +kernel
theorem dX11_roomThatFeelsMost_36 : decode cX11_roomThatFeelsMost 36 = .ok (.goto (-32), 3) := by decide +kernel
theorem dX11_roomThatFeelsMost_39 : decode cX11_roomThatFeelsMost 39 = .ok (.aload_n 0, 1) := by decide +kernel
theorem dX11_roomThatFeelsMost_40 : decode cX11_roomThatFeelsMost 40 = .ok (.getfield 19, 3) := by decide +kernel
theorem dX11_roomThatFeelsMost_43 : decode cX11_roomThatFeelsMost 43 = .ok (.getfield 177, 3) := by decide +kernel
theorem dX11_roomThatFeelsMost_46 : decode cX11_roomThatFeelsMost 46 = .ok (.iload_n 1, 1) := by decide +kernel
theorem dX11_roomThatFeelsMost_47 : decode cX11_roomThatFeelsMost 47 = .ok (.iaload, 1) := by decide +kernel
theorem dX11_roomThatFeelsMost_48 : decode cX11_roomThatFeelsMost 48 = .ok (.ifCond .ne 8, 3) := by decide +kernel
theorem dX11_roomThatFeelsMost_51 : decode cX11_roomThatFeelsMost 51 = .ok (.bipush (-2), 2) := by decide +kernel
theorem dX11_roomThatFeelsMost_53 : decode cX11_roomThatFeelsMost 53 = .ok (.goto 4, 3) := by decide +kernel
theorem dX11_roomThatFeelsMost_56 : decode cX11_roomThatFeelsMost 56 = .ok (.iload_n 1, 1) := by decide +kernel
theorem dX11_roomThatFeelsMost_57 : decode cX11_roomThatFeelsMost 57 = .ok (.ireturn, 1) := by decide +kernel
theorem dX11_roomsThatFeel_0 : decode cX11_roomsThatFeel 0 = .ok (.iconst 0, 1) := by decide +kernel
theorem dX11_roomsThatFeel_1 : decode cX11_roomsThatFeel 1 = .ok (.istore_n 2, 1) := by decide +kernel
theorem dX11_roomsThatFeel_2 : decode cX11_roomsThatFeel 2 = .ok (.iconst 0, 1) := by decide +kernel
theorem dX11_roomsThatFeel_3 : decode cX11_roomsThatFeel 3 = .ok (.istore_n 3, 1) := by decide +kernel
theorem dX11_roomsThatFeel_4 : decode cX11_roomsThatFeel 4 = .ok (.iload_n 3, 1) := by decide +kernel
theorem dX11_roomsThatFeel_5 : decode cX11_roomsThatFeel 5 = .ok (.bipush 24, 2) := by decide +kernel
theorem dX11_roomsThatFeel_7 : decode cX11_roomsThatFeel 7 = .ok (.if_icmp .ge 27, 3) := by decide +kernel
theorem dX11_roomsThatFeel_10 : decode cX11_roomsThatFeel 10 = .ok (.aload_n 0, 1) := by decide +kernel
theorem dX11_roomsThatFeel_11 : decode cX11_roomsThatFeel 11 = .ok (.getfield 19, 3) := by decide +kernel
theorem dX11_roomsThatFeel_14 : decode cX11_roomsThatFeel 14 = .ok (.iload_n 3, 1) := by decide +kernel
theorem dX11_roomsThatFeel_15 : decode cX11_roomsThatFeel 15 = .ok (.iload_n 1, 1) := by decide +kernel
theorem dX11_roomsThatFeel_16 : decode cX11_roomsThatFeel 16 = .ok (.invokevirtual 196, 3) := by decide +kernel
theorem dX11_roomsThatFeel_19 : decode cX11_roomsThatFeel 19 = .ok (.ifCond .le 9, 3) := by decide +kernel
theorem dX11_roomsThatFeel_22 : decode cX11_roomsThatFeel 22 = .ok (.iload_n 2, 1) := by decide +kernel
theorem dX11_roomsThatFeel_23 : decode cX11_roomsThatFeel 23 = .ok (.iconst 1, 1) := by decide +kernel
theorem dX11_roomsThatFeel_24 : decode cX11_roomsThatFeel 24 = .ok (.iload_n 3, 1) := by decide +kernel
theorem dX11_roomsThatFeel_25 : decode cX11_roomsThatFeel 25 = .ok (.ishl, 1) := by decide +kernel
theorem dX11_roomsThatFeel_26 : decode cX11_roomsThatFeel 26 = .ok (.ior, 1) := by decide +kernel
theorem dX11_roomsThatFeel_27 : decode cX11_roomsThatFeel 27 = .ok (.istore_n 2, 1) := by decide +kernel
theorem dX11_roomsThatFeel_28 : decode cX11_roomsThatFeel 28 = .ok (.iinc 3 1, 3) := by decide +kernel
theorem dX11_roomsThatFeel_31 : decode cX11_roomsThatFeel 31 = .ok (.goto (-27), 3) := by decide +kernel
theorem dX11_roomsThatFeel_34 : decode cX11_roomsThatFeel 34 = .ok (.iload_n 2, 1) := by decide +kernel
theorem dX11_roomsThatFeel_35 : decode cX11_roomsThatFeel 35 = .ok (.ireturn, 1) := by decide +kernel
theorem dX11_guestWhoFeelsLeast_0 : decode cX11_guestWhoFeelsLeast 0 = .ok (.bipush (-2), 2) := by decide +kernel
theorem dX11_guestWhoFeelsLeast_2 : decode cX11_guestWhoFeelsLeast 2 = .ok (.istore_n 1, 1) := by decide +kernel
theorem dX11_guestWhoFeelsLeast_3 : decode cX11_guestWhoFeelsLeast 3 = .ok (.iconst 0, 1) := by decide +kernel
theorem dX11_guestWhoFeelsLeast_4 : decode cX11_guestWhoFeelsLeast 4 = .ok (.istore_n 2, 1) := by decide +kernel
theorem dX11_guestWhoFeelsLeast_5 : decode cX11_guestWhoFeelsLeast 5 = .ok (.iload_n 2, 1) := by decide +kernel
theorem dX11_guestWhoFeelsLeast_6 : decode cX11_guestWhoFeelsLeast 6 = .ok (.bipush 24, 2) := by decide +kernel
theorem dX11_guestWhoFeelsLeast_8 : decode cX11_guestWhoFeelsLeast 8 = .ok (.if_icmp .ge 47, 3) := by decide +kernel
theorem dX11_guestWhoFeelsLeast_11 : decode cX11_guestWhoFeelsLeast 11 = .ok (.aload_n 0, 1) := by decide +kernel
theorem dX11_guestWhoFeelsLeast_12 : decode cX11_guestWhoFeelsLeast 12 = .ok (.getfield 19, 3) := by decide +kernel
theorem dX11_guestWhoFeelsLeast_15 : decode cX11_guestWhoFeelsLeast 15 = .ok (.iload_n 2, 1) := by decide +kernel
theorem dX11_guestWhoFeelsLeast_16 : decode cX11_guestWhoFeelsLeast 16 = .ok (.invokevirtual 180, 3) := by decide +kernel
theorem dX11_guestWhoFeelsLeast_19 : decode cX11_guestWhoFeelsLeast 19 = .ok (.ifCond .eq 30, 3) := by decide +kernel
theorem dX11_guestWhoFeelsLeast_22 : decode cX11_guestWhoFeelsLeast 22 = .ok (.iload_n 1, 1) := by decide +kernel
theorem dX11_guestWhoFeelsLeast_23 : decode cX11_guestWhoFeelsLeast 23 = .ok (.ifCond .lt 24, 3) := by decide +kernel
theorem dX11_guestWhoFeelsLeast_26 : decode cX11_guestWhoFeelsLeast 26 = .ok (.aload_n 0, 1) := by decide +kernel
theorem dX11_guestWhoFeelsLeast_27 : decode cX11_guestWhoFeelsLeast 27 = .ok (.getfield 19, 3) := by decide +kernel
theorem dX11_guestWhoFeelsLeast_30 : decode cX11_guestWhoFeelsLeast 30 = .ok (.getfield 177, 3) := by decide +kernel
theorem dX11_guestWhoFeelsLeast_33 : decode cX11_guestWhoFeelsLeast 33 = .ok (.iload_n 2, 1) := by decide +kernel
theorem dX11_guestWhoFeelsLeast_34 : decode cX11_guestWhoFeelsLeast 34 = .ok (.iaload, 1) := by decide +kernel
theorem dX11_guestWhoFeelsLeast_35 : decode cX11_guestWhoFeelsLeast 35 = .ok (.aload_n 0, 1) := by decide +kernel
theorem dX11_guestWhoFeelsLeast_36 : decode cX11_guestWhoFeelsLeast 36 = .ok (.getfield 19, 3) := by decide +kernel
theorem dX11_guestWhoFeelsLeast_39 : decode cX11_guestWhoFeelsLeast 39 = .ok (.getfield 177, 3) := by decide +kernel
theorem dX11_guestWhoFeelsLeast_42 : decode cX11_guestWhoFeelsLeast 42 = .ok (.iload_n 1, 1) := by decide +kernel
theorem dX11_guestWhoFeelsLeast_43 : decode cX11_guestWhoFeelsLeast 43 = .ok (.iaload, 1) := by decide +kernel
theorem dX11_guestWhoFeelsLeast_44 : decode cX11_guestWhoFeelsLeast 44 = .ok (.if_icmp .ge 5, 3) := by decide +kernel
theorem dX11_guestWhoFeelsLeast_47 : decode cX11_guestWhoFeelsLeast 47 = .ok (.iload_n 2, 1) := by decide +kernel
theorem dX11_guestWhoFeelsLeast_48 : decode cX11_guestWhoFeelsLeast 48 = .ok (.istore_n 1, 1) := by decide +kernel
theorem dX11_guestWhoFeelsLeast_49 : decode cX11_guestWhoFeelsLeast 49 = .ok (.iinc 2 1, 3) := by decide +kernel
theorem dX11_guestWhoFeelsLeast_52 : decode cX11_guestWhoFeelsLeast 52 = .ok (.goto (-47), 3) := by decide +kernel
theorem dX11_guestWhoFeelsLeast_55 : decode cX11_guestWhoFeelsLeast 55 = .ok (.iload_n 1, 1) := by decide +kernel
theorem dX11_guestWhoFeelsLeast_56 : decode cX11_guestWhoFeelsLeast 56 = .ok (.ireturn, 1) := by decide +kernel
theorem dX11_medianFelt_0 : decode cX11_medianFelt 0 = .ok (.aload_n 0, 1) := by decide +kernel
theorem dX11_medianFelt_1 : decode cX11_medianFelt 1 = .ok (.getfield 19, 3) := by decide +kernel
theorem dX11_medianFelt_4 : decode cX11_medianFelt 4 = .ok (.getfield 289, 3) := by decide +kernel
theorem dX11_medianFelt_7 : decode cX11_medianFelt 7 = .ok (.invokestatic 221, 3) := by decide +kernel
theorem dX11_medianFelt_10 : decode cX11_medianFelt 10 = .ok (.iconst 1, 1) := by decide +kernel
theorem dX11_medianFelt_11 : decode cX11_medianFelt 11 = .ok (.isub, 1) := by decide +kernel
theorem dX11_medianFelt_12 : decode cX11_medianFelt 12 = .ok (.iconst 2, 1) := by decide +kernel
theorem dX11_medianFelt_13 : decode cX11_medianFelt 13 = .ok (.idiv, 1) := by decide +kernel
theorem dX11_medianFelt_14 : decode cX11_medianFelt 14 = .ok (.istore_n 1, 1) := by decide +kernel
theorem dX11_medianFelt_15 : decode cX11_medianFelt 15 = .ok (.iconst 0, 1) := by decide +kernel
theorem dX11_medianFelt_16 : decode cX11_medianFelt 16 = .ok (.istore_n 2, 1) := by decide +kernel
theorem dX11_medianFelt_17 : decode cX11_medianFelt 17 = .ok (.iload_n 2, 1) := by decide +kernel
theorem dX11_medianFelt_18 : decode cX11_medianFelt 18 = .ok (.bipush 24, 2) := by decide +kernel
theorem dX11_medianFelt_20 : decode cX11_medianFelt 20 = .ok (.if_icmp .ge 72, 3) := by decide +kernel
theorem dX11_medianFelt_23 : decode cX11_medianFelt 23 = .ok (.aload_n 0, 1) := by decide +kernel
theorem dX11_medianFelt_24 : decode cX11_medianFelt 24 = .ok (.getfield 19, 3) := by decide +kernel
theorem dX11_medianFelt_27 : decode cX11_medianFelt 27 = .ok (.iload_n 2, 1) := by decide +kernel
theorem dX11_medianFelt_28 : decode cX11_medianFelt 28 = .ok (.invokevirtual 180, 3) := by decide +kernel
theorem dX11_medianFelt_31 : decode cX11_medianFelt 31 = .ok (.ifCond .eq 55, 3) := by decide +kernel
theorem dX11_medianFelt_34 : decode cX11_medianFelt 34 = .ok (.aload_n 0, 1) := by decide +kernel
theorem dX11_medianFelt_35 : decode cX11_medianFelt 35 = .ok (.aload_n 0, 1) := by decide +kernel
theorem dX11_medianFelt_36 : decode cX11_medianFelt 36 = .ok (.getfield 19, 3) := by decide +kernel
theorem dX11_medianFelt_39 : decode cX11_medianFelt 39 = .ok (.getfield 177, 3) := by decide +kernel
theorem dX11_medianFelt_42 : decode cX11_medianFelt 42 = .ok (.iload_n 2, 1) := by decide +kernel
theorem dX11_medianFelt_43 : decode cX11_medianFelt 43 = .ok (.iaload, 1) := by decide +kernel
theorem dX11_medianFelt_44 : decode cX11_medianFelt 44 = .ok (.invokevirtual 314, 3) := by decide +kernel
theorem dX11_medianFelt_47 : decode cX11_medianFelt 47 = .ok (.istore_n 3, 1) := by decide +kernel
theorem dX11_medianFelt_48 : decode cX11_medianFelt 48 = .ok (.aload_n 0, 1) := by decide +kernel
theorem dX11_medianFelt_49 : decode cX11_medianFelt 49 = .ok (.aload_n 0, 1) := by decide +kernel
theorem dX11_medianFelt_50 : decode cX11_medianFelt 50 = .ok (.getfield 19, 3) := by decide +kernel
theorem dX11_medianFelt_53 : decode cX11_medianFelt 53 = .ok (.getfield 177, 3) := by decide +kernel
theorem dX11_medianFelt_56 : decode cX11_medianFelt 56 = .ok (.iload_n 2, 1) := by decide +kernel
theorem dX11_medianFelt_57 : decode cX11_medianFelt 57 = .ok (.iaload, 1) := by decide +kernel
theorem dX11_medianFelt_58 : decode cX11_medianFelt 58 = .ok (.iconst 1, 1) := by decide +kernel
theorem dX11_medianFelt_59 : decode cX11_medianFelt 59 = .ok (.iadd, 1) := by decide +kernel
theorem dX11_medianFelt_60 : decode cX11_medianFelt 60 = .ok (.invokevirtual 314, 3) := by decide +kernel
theorem dX11_medianFelt_63 : decode cX11_medianFelt 63 = .ok (.istore 4, 2) := by decide +kernel
theorem dX11_medianFelt_65 : decode cX11_medianFelt 65 = .ok (.iload_n 3, 1) := by decide +kernel
theorem dX11_medianFelt_66 : decode cX11_medianFelt 66 = .ok (.iload_n 1, 1) := by decide +kernel
theorem dX11_medianFelt_67 : decode cX11_medianFelt 67 = .ok (.if_icmp .gt 19, 3) := by decide +kernel
theorem dX11_medianFelt_70 : decode cX11_medianFelt 70 = .ok (.iload_n 1, 1) := by decide +kernel
theorem dX11_medianFelt_71 : decode cX11_medianFelt 71 = .ok (.iload 4, 2) := by decide +kernel
theorem dX11_medianFelt_73 : decode cX11_medianFelt 73 = .ok (.if_icmp .ge 13, 3) := by decide +kernel
theorem dX11_medianFelt_76 : decode cX11_medianFelt 76 = .ok (.aload_n 0, 1) := by decide +kernel
theorem dX11_medianFelt_77 : decode cX11_medianFelt 77 = .ok (.getfield 19, 3) := by decide +kernel
theorem dX11_medianFelt_80 : decode cX11_medianFelt 80 = .ok (.getfield 177, 3) := by decide +kernel
theorem dX11_medianFelt_83 : decode cX11_medianFelt 83 = .ok (.iload_n 2, 1) := by decide +kernel
theorem dX11_medianFelt_84 : decode cX11_medianFelt 84 = .ok (.iaload, 1) := by decide +kernel
theorem dX11_medianFelt_85 : decode cX11_medianFelt 85 = .ok (.ireturn, 1) := by decide +kernel
theorem dX11_medianFelt_86 : decode cX11_medianFelt 86 = .ok (.iinc 2 1, 3) := by decide +kernel
theorem dX11_medianFelt_89 : decode cX11_medianFelt 89 = .ok (.goto (-72), 3) := by decide +kernel
theorem dX11_medianFelt_92 : decode cX11_medianFelt 92 = .ok (.bipush (-2), 2) := by decide +kernel
theorem dX11_medianFelt_94 : decode cX11_medianFelt 94 = .ok (.ireturn, 1) := by decide +kernel
theorem dX11_guestsWhoFeelLessThan_0 : decode cX11_guestsWhoFeelLessThan 0 = .ok (.iconst 0, 1) := by decide +kernel
theorem dX11_guestsWhoFeelLessThan_1 : decode cX11_guestsWhoFeelLessThan 1 = .ok (.istore_n 2, 1) := by decide +kernel
theorem dX11_guestsWhoFeelLessThan_2 : decode cX11_guestsWhoFeelLessThan 2 = .ok (.iconst 0, 1) := by decide +kernel
theorem dX11_guestsWhoFeelLessThan_3 : decode cX11_guestsWhoFeelLessThan 3 = .ok (.istore_n 3, 1) := by decide +kernel
theorem dX11_guestsWhoFeelLessThan_4 : decode cX11_guestsWhoFeelLessThan 4 = .ok (.iload_n 3, 1) := by decide +kernel
theorem dX11_guestsWhoFeelLessThan_5 : decode cX11_guestsWhoFeelLessThan 5 = .ok (.bipush 24, 2) := by decide +kernel
theorem dX11_guestsWhoFeelLessThan_7 : decode cX11_guestsWhoFeelLessThan 7 = .ok (.if_icmp .ge 36, 3) := by decide +kernel
theorem dX11_guestsWhoFeelLessThan_10 : decode cX11_guestsWhoFeelLessThan 10 = .ok (.aload_n 0, 1) := by decide +kernel
theorem dX11_guestsWhoFeelLessThan_11 : decode cX11_guestsWhoFeelLessThan 11 = .ok (.getfield 19, 3) := by decide +kernel
theorem dX11_guestsWhoFeelLessThan_14 : decode cX11_guestsWhoFeelLessThan 14 = .ok (.iload_n 3, 1) := by decide +kernel
theorem dX11_guestsWhoFeelLessThan_15 : decode cX11_guestsWhoFeelLessThan 15 = .ok (.invokevirtual 180, 3) := by decide +kernel
theorem dX11_guestsWhoFeelLessThan_18 : decode cX11_guestsWhoFeelLessThan 18 = .ok (.ifCond .eq 19, 3) := by decide +kernel
theorem dX11_guestsWhoFeelLessThan_21 : decode cX11_guestsWhoFeelLessThan 21 = .ok (.aload_n 0, 1) := by decide +kernel
theorem dX11_guestsWhoFeelLessThan_22 : decode cX11_guestsWhoFeelLessThan 22 = .ok (.getfield 19, 3) := by decide +kernel
theorem dX11_guestsWhoFeelLessThan_25 : decode cX11_guestsWhoFeelLessThan 25 = .ok (.getfield 177, 3) := by decide +kernel
theorem dX11_guestsWhoFeelLessThan_28 : decode cX11_guestsWhoFeelLessThan 28 = .ok (.iload_n 3, 1) := by decide +kernel
theorem dX11_guestsWhoFeelLessThan_29 : decode cX11_guestsWhoFeelLessThan 29 = .ok (.iaload, 1) := by decide +kernel
theorem dX11_guestsWhoFeelLessThan_30 : decode cX11_guestsWhoFeelLessThan 30 = .ok (.iload_n 1, 1) := by decide +kernel
theorem dX11_guestsWhoFeelLessThan_31 : decode cX11_guestsWhoFeelLessThan 31 = .ok (.if_icmp .ge 6, 3) := by decide +kernel
theorem dX11_guestsWhoFeelLessThan_34 : decode cX11_guestsWhoFeelLessThan 34 = .ok (.iinc 2 1, 3) := by decide +kernel
theorem dX11_guestsWhoFeelLessThan_37 : decode cX11_guestsWhoFeelLessThan 37 = .ok (.iinc 3 1, 3) := by decide +kernel
theorem dX11_guestsWhoFeelLessThan_40 : decode cX11_guestsWhoFeelLessThan 40 = .ok (.goto (-36), 3) := by decide +kernel
theorem dX11_guestsWhoFeelLessThan_43 : decode cX11_guestsWhoFeelLessThan 43 = .ok (.iload_n 2, 1) := by decide +kernel
theorem dX11_guestsWhoFeelLessThan_44 : decode cX11_guestsWhoFeelLessThan 44 = .ok (.ireturn, 1) := by decide +kernel
theorem dX11_isWithin_0 : decode cX11_isWithin 0 = .ok (.iload_n 0, 1) := by decide +kernel
theorem dX11_isWithin_1 : decode cX11_isWithin 1 = .ok (.iload_n 1, 1) := by decide +kernel
theorem dX11_isWithin_2 : decode cX11_isWithin 2 = .ok (.if_icmp .lt 12, 3) := by decide +kernel
theorem dX11_isWithin_5 : decode cX11_isWithin 5 = .ok (.iload_n 0, 1) := by decide +kernel
theorem dX11_isWithin_6 : decode cX11_isWithin 6 = .ok (.iload_n 2, 1) := by decide +kernel
theorem dX11_isWithin_7 : decode cX11_isWithin 7 = .ok (.if_icmp .gt 7, 3) := by decide +kernel
theorem dX11_isWithin_10 : decode cX11_isWithin 10 = .ok (.iconst 1, 1) := by decide +kernel
theorem dX11_isWithin_11 : decode cX11_isWithin 11 = .ok (.goto 4, 3) := by decide +kernel
theorem dX11_isWithin_14 : decode cX11_isWithin 14 = .ok (.iconst 0, 1) := by decide +kernel
theorem dX11_isWithin_15 : decode cX11_isWithin 15 = .ok (.ireturn, 1) := by decide +kernel
theorem dX11_isRoom_0 : decode cX11_isRoom 0 = .ok (.iload_n 0, 1) := by decide +kernel
theorem dX11_isRoom_1 : decode cX11_isRoom 1 = .ok (.ifCond .lt 13, 3) := by decide +kernel
theorem dX11_isRoom_4 : decode cX11_isRoom 4 = .ok (.iload_n 0, 1) := by decide +kernel
theorem dX11_isRoom_5 : decode cX11_isRoom 5 = .ok (.bipush 24, 2) := by decide +kernel
theorem dX11_isRoom_7 : decode cX11_isRoom 7 = .ok (.if_icmp .ge 7, 3) := by decide +kernel
theorem dX11_isRoom_10 : decode cX11_isRoom 10 = .ok (.iconst 1, 1) := by decide +kernel
theorem dX11_isRoom_11 : decode cX11_isRoom 11 = .ok (.goto 4, 3) := by decide +kernel
theorem dX11_isRoom_14 : decode cX11_isRoom 14 = .ok (.iconst 0, 1) := by decide +kernel
theorem dX11_isRoom_15 : decode cX11_isRoom 15 = .ok (.ireturn, 1) := by decide +kernel
theorem dX11_isRise_0 : decode cX11_isRise 0 = .ok (.iload_n 0, 1) := by decide +kernel
theorem dX11_isRise_1 : decode cX11_isRise 1 = .ok (.invokestatic 100, 3) := by decide +kernel
theorem dX11_isRise_4 : decode cX11_isRise 4 = .ok (.ifCond .eq 25, 3) := by decide +kernel
theorem dX11_isRise_7 : decode cX11_isRise 7 = .ok (.iload_n 1, 1) := by decide +kernel
theorem dX11_isRise_8 : decode cX11_isRise 8 = .ok (.invokestatic 100, 3) := by decide +kernel
theorem dX11_isRise_11 : decode cX11_isRise 11 = .ok (.ifCond .eq 18, 3) := by decide +kernel
theorem dX11_isRise_14 : decode cX11_isRise 14 = .ok (.iload_n 1, 1) := by decide +kernel
theorem dX11_isRise_15 : decode cX11_isRise 15 = .ok (.invokestatic 200, 3) := by decide +kernel
theorem dX11_isRise_18 : decode cX11_isRise 18 = .ok (.iload_n 0, 1) := by decide +kernel
theorem dX11_isRise_19 : decode cX11_isRise 19 = .ok (.invokestatic 200, 3) := by decide +kernel
theorem dX11_isRise_22 : decode cX11_isRise 22 = .ok (.if_icmp .le 7, 3) := by decide +kernel
theorem dX11_isRise_25 : decode cX11_isRise 25 = .ok (.iconst 1, 1) := by decide +kernel
theorem dX11_isRise_26 : decode cX11_isRise 26 = .ok (.goto 4, 3) := by decide +kernel
theorem dX11_isRise_29 : decode cX11_isRise 29 = .ok (.iconst 0, 1) := by decide +kernel
theorem dX11_isRise_30 : decode cX11_isRise 30 = .ok (.ireturn, 1) := by decide +kernel
theorem dX11_floorOf_0 : decode cX11_floorOf 0 = .ok (.iload_n 0, 1) := by decide +kernel
theorem dX11_floorOf_1 : decode cX11_floorOf 1 = .ok (.iconst 4, 1) := by decide +kernel
theorem dX11_floorOf_2 : decode cX11_floorOf 2 = .ok (.idiv, 1) := by decide +kernel
theorem dX11_floorOf_3 : decode cX11_floorOf 3 = .ok (.ireturn, 1) := by decide +kernel
theorem dX11_columnOf_0 : decode cX11_columnOf 0 = .ok (.iload_n 0, 1) := by decide +kernel
theorem dX11_columnOf_1 : decode cX11_columnOf 1 = .ok (.iconst 4, 1) := by decide +kernel
theorem dX11_columnOf_2 : decode cX11_columnOf 2 = .ok (.irem, 1) := by decide +kernel
theorem dX11_columnOf_3 : decode cX11_columnOf 3 = .ok (.ireturn, 1) := by decide +kernel
theorem dX11_columnBy_0 : decode cX11_columnBy 0 = .ok (.iconst 0, 1) := by decide +kernel
theorem dX11_columnBy_1 : decode cX11_columnBy 1 = .ok (.iconst 3, 1) := by decide +kernel
theorem dX11_columnBy_2 : decode cX11_columnBy 2 = .ok (.iload_n 0, 1) := by decide +kernel
theorem dX11_columnBy_3 : decode cX11_columnBy 3 = .ok (.iload_n 1, 1) := by decide +kernel
theorem dX11_columnBy_4 : decode cX11_columnBy 4 = .ok (.iadd, 1) := by decide +kernel
theorem dX11_columnBy_5 : decode cX11_columnBy 5 = .ok (.iconst 1, 1) := by decide +kernel
theorem dX11_columnBy_6 : decode cX11_columnBy 6 = .ok (.isub, 1) := by decide +kernel
theorem dX11_columnBy_7 : decode cX11_columnBy 7 = .ok (.invokestatic 317, 3) := by decide +kernel
theorem dX11_columnBy_10 : decode cX11_columnBy 10 = .ok (.invokestatic 216, 3) := by decide +kernel
theorem dX11_columnBy_13 : decode cX11_columnBy 13 = .ok (.ireturn, 1) := by decide +kernel
theorem dX11_sumOf_0 : decode cX11_sumOf 0 = .ok (.iconst 0, 1) := by decide +kernel
theorem dX11_sumOf_1 : decode cX11_sumOf 1 = .ok (.istore_n 1, 1) := by decide +kernel
theorem dX11_sumOf_2 : decode cX11_sumOf 2 = .ok (.aload_n 0, 1) := by decide +kernel
theorem dX11_sumOf_3 : decode cX11_sumOf 3 = .ok (.astore_n 2, 1) := by decide +kernel
theorem dX11_sumOf_4 : decode cX11_sumOf 4 = .ok (.aload_n 2, 1) := by decide +kernel
theorem dX11_sumOf_5 : decode cX11_sumOf 5 = .ok (.arraylength, 1) := by decide +kernel
theorem dX11_sumOf_6 : decode cX11_sumOf 6 = .ok (.istore_n 3, 1) := by decide +kernel
theorem dX11_sumOf_7 : decode cX11_sumOf 7 = .ok (.iconst 0, 1) := by decide +kernel
theorem dX11_sumOf_8 : decode cX11_sumOf 8 = .ok (.istore 4, 2) := by decide +kernel
theorem dX11_sumOf_10 : decode cX11_sumOf 10 = .ok (.iload 4, 2) := by decide +kernel
theorem dX11_sumOf_12 : decode cX11_sumOf 12 = .ok (.iload_n 3, 1) := by decide +kernel
theorem dX11_sumOf_13 : decode cX11_sumOf 13 = .ok (.if_icmp .ge 20, 3) := by decide +kernel
theorem dX11_sumOf_16 : decode cX11_sumOf 16 = .ok (.aload_n 2, 1) := by decide +kernel
theorem dX11_sumOf_17 : decode cX11_sumOf 17 = .ok (.iload 4, 2) := by decide +kernel
theorem dX11_sumOf_19 : decode cX11_sumOf 19 = .ok (.iaload, 1) := by decide +kernel
theorem dX11_sumOf_20 : decode cX11_sumOf 20 = .ok (.istore 5, 2) := by decide +kernel
theorem dX11_sumOf_22 : decode cX11_sumOf 22 = .ok (.iload_n 1, 1) := by decide +kernel
theorem dX11_sumOf_23 : decode cX11_sumOf 23 = .ok (.iload 5, 2) := by decide +kernel
theorem dX11_sumOf_25 : decode cX11_sumOf 25 = .ok (.iadd, 1) := by decide +kernel
theorem dX11_sumOf_26 : decode cX11_sumOf 26 = .ok (.istore_n 1, 1) := by decide +kernel
theorem dX11_sumOf_27 : decode cX11_sumOf 27 = .ok (.iinc 4 1, 3) := by decide +kernel
theorem dX11_sumOf_30 : decode cX11_sumOf 30 = .ok (.goto (-20), 3) := by decide +kernel
theorem dX11_sumOf_33 : decode cX11_sumOf 33 = .ok (.iload_n 1, 1) := by decide +kernel
theorem dX11_sumOf_34 : decode cX11_sumOf 34 = .ok (.ireturn, 1) := by decide +kernel
theorem dX11_commonDivisor_0 : decode cX11_commonDivisor 0 = .ok (.iload_n 0, 1) := by decide +kernel
theorem dX11_commonDivisor_1 : decode cX11_commonDivisor 1 = .ok (.istore_n 2, 1) := by decide +kernel
theorem dX11_commonDivisor_2 : decode cX11_commonDivisor 2 = .ok (.iload_n 1, 1) := by decide +kernel
theorem dX11_commonDivisor_3 : decode cX11_commonDivisor 3 = .ok (.istore_n 3, 1) := by decide +kernel
theorem dX11_commonDivisor_4 : decode cX11_commonDivisor 4 = .ok (.iconst 0, 1) := by decide +kernel
theorem dX11_commonDivisor_5 : decode cX11_commonDivisor 5 = .ok (.istore 4, 2) := by decide +kernel
theorem dX11_commonDivisor_7 : decode cX11_commonDivisor 7 = .ok (.iload 4, 2) := by decide +kernel
theorem dX11_commonDivisor_9 : decode cX11_commonDivisor 9 = .ok (.bipush 64, 2) := by decide +kernel
theorem dX11_commonDivisor_11 : decode cX11_commonDivisor 11 = .ok (.if_icmp .ge 23, 3) := by decide +kernel
theorem dX11_commonDivisor_14 : decode cX11_commonDivisor 14 = .ok (.iload_n 3, 1) := by decide +kernel
theorem dX11_commonDivisor_15 : decode cX11_commonDivisor 15 = .ok (.ifCond .eq 19, 3) := by decide +kernel
theorem dX11_commonDivisor_18 : decode cX11_commonDivisor 18 = .ok (.iload_n 2, 1) := by decide +kernel
theorem dX11_commonDivisor_19 : decode cX11_commonDivisor 19 = .ok (.iload_n 3, 1) := by decide +kernel
theorem dX11_commonDivisor_20 : decode cX11_commonDivisor 20 = .ok (.irem, 1) := by decide +kernel
theorem dX11_commonDivisor_21 : decode cX11_commonDivisor 21 = .ok (.istore 5, 2) := by decide +kernel
theorem dX11_commonDivisor_23 : decode cX11_commonDivisor 23 = .ok (.iload_n 3, 1) := by decide +kernel
theorem dX11_commonDivisor_24 : decode cX11_commonDivisor 24 = .ok (.istore_n 2, 1) := by decide +kernel
theorem dX11_commonDivisor_25 : decode cX11_commonDivisor 25 = .ok (.iload 5, 2) := by decide +kernel
theorem dX11_commonDivisor_27 : decode cX11_commonDivisor 27 = .ok (.istore_n 3, 1) := by decide +kernel
theorem dX11_commonDivisor_28 : decode cX11_commonDivisor 28 = .ok (.iinc 4 1, 3) := by decide +kernel
theorem dX11_commonDivisor_31 : decode cX11_commonDivisor 31 = .ok (.goto (-24), 3) := by decide +kernel
theorem dX11_commonDivisor_34 : decode cX11_commonDivisor 34 = .ok (.iload_n 2, 1) := by decide +kernel
theorem dX11_commonDivisor_35 : decode cX11_commonDivisor 35 = .ok (.ireturn, 1) := by decide +kernel
theorem dX11_reduced_0 : decode cX11_reduced 0 = .ok (.iload_n 0, 1) := by decide +kernel
theorem dX11_reduced_1 : decode cX11_reduced 1 = .ok (.iload_n 1, 1) := by decide +kernel
theorem dX11_reduced_2 : decode cX11_reduced 2 = .ok (.invokestatic 320, 3) := by decide +kernel
theorem dX11_reduced_5 : decode cX11_reduced 5 = .ok (.istore_n 3, 1) := by decide +kernel
theorem dX11_reduced_6 : decode cX11_reduced 6 = .ok (.iload_n 3, 1) := by decide +kernel
theorem dX11_reduced_7 : decode cX11_reduced 7 = .ok (.ifCond .ne 5, 3) := by decide +kernel
theorem dX11_reduced_10 : decode cX11_reduced 10 = .ok (.iconst (-1), 1) := by decide +kernel
theorem dX11_reduced_11 : decode cX11_reduced 11 = .ok (.ireturn, 1) := by decide +kernel
theorem dX11_reduced_12 : decode cX11_reduced 12 = .ok (.iload_n 2, 1) := by decide +kernel
theorem dX11_reduced_13 : decode cX11_reduced 13 = .ok (.ifCond .ne 7, 3) := by decide +kernel
theorem dX11_reduced_16 : decode cX11_reduced 16 = .ok (.iload_n 0, 1) := by decide +kernel
theorem dX11_reduced_17 : decode cX11_reduced 17 = .ok (.goto 4, 3) := by decide +kernel
theorem dX11_reduced_20 : decode cX11_reduced 20 = .ok (.iload_n 1, 1) := by decide +kernel
theorem dX11_reduced_21 : decode cX11_reduced 21 = .ok (.iload_n 3, 1) := by decide +kernel
theorem dX11_reduced_22 : decode cX11_reduced 22 = .ok (.idiv, 1) := by decide +kernel
theorem dX11_reduced_23 : decode cX11_reduced 23 = .ok (.ireturn, 1) := by decide +kernel
theorem dX12_init_0 : decode cX12_init 0 = .ok (.aload_n 0, 1) := by decide +kernel
theorem dX12_init_1 : decode cX12_init 1 = .ok (.invokespecial 1, 3) := by decide +kernel
theorem dX12_init_4 : decode cX12_init 4 = .ok (.aload_n 0, 1) := by decide +kernel
theorem dX12_init_5 : decode cX12_init 5 = .ok (.sipush 699, 3) := by decide +kernel
theorem dX12_init_8 : decode cX12_init 8 = .ok (.newarray .int, 2) := by decide +kernel
theorem dX12_init_10 : decode cX12_init 10 = .ok (.putfield 7, 3) := by decide +kernel
theorem dX12_init_13 : decode cX12_init 13 = .ok (.aload_n 0, 1) := by decide +kernel
theorem dX12_init_14 : decode cX12_init 14 = .ok (.sipush 699, 3) := by decide +kernel
theorem dX12_init_17 : decode cX12_init 17 = .ok (.newarray .int, 2) := by decide +kernel
theorem dX12_init_19 : decode cX12_init 19 = .ok (.putfield 13, 3) := by decide +kernel
theorem dX12_init_22 : decode cX12_init 22 = .ok (.aload_n 0, 1) := by decide +kernel
theorem dX12_init_23 : decode cX12_init 23 = .ok (.sipush 699, 3) := by decide +kernel
theorem dX12_init_26 : decode cX12_init 26 = .ok (.newarray .int, 2) := by decide +kernel
theorem dX12_init_28 : decode cX12_init 28 = .ok (.putfield 16, 3) := by decide +kernel
theorem dX12_init_31 : decode cX12_init 31 = .ok (.aload_n 0, 1) := by decide +kernel
theorem dX12_init_32 : decode cX12_init 32 = .ok (.sipush 260, 3) := by decide +kernel
theorem dX12_init_35 : decode cX12_init 35 = .ok (.newarray .byte, 2) := by decide +kernel
theorem dX12_init_37 : decode cX12_init 37 = .ok (.putfield 19, 3) := by decide +kernel
theorem dX12_init_40 : decode cX12_init 40 = .ok (.aload_n 0, 1) := by decide +kernel
theorem dX12_init_41 : decode cX12_init 41 = .ok (.sipush 260, 3) := by decide +kernel
theorem dX12_init_44 : decode cX12_init 44 = .ok (.newarray .int, 2) := by decide +kernel
theorem dX12_init_46 : decode cX12_init 46 = .ok (.putfield 23, 3) := by decide +kernel
theorem dX12_init_49 : decode cX12_init 49 = .ok (.aload_n 0, 1) := by decide +kernel
theorem dX12_init_50 : decode cX12_init 50 = .ok (.sipush 260, 3) := by decide +kernel
theorem dX12_init_53 : decode cX12_init 53 = .ok (.newarray .int, 2) := by decide +kernel
theorem dX12_init_55 : decode cX12_init 55 = .ok (.putfield 26, 3) := by decide +kernel
theorem dX12_init_58 : decode cX12_init 58 = .ok (.aload_n 0, 1) := by decide +kernel
theorem dX12_init_59 : decode cX12_init 59 = .ok (.bipush 16, 2) := by decide +kernel
theorem dX12_init_61 : decode cX12_init 61 = .ok (.newarray .int, 2) := by decide +kernel
theorem dX12_init_63 : decode cX12_init 63 = .ok (.putfield 29, 3) := by decide +kernel
theorem dX12_init_66 : decode cX12_init 66 = .ok (.aload_n 0, 1) := by decide +kernel
theorem dX12_init_67 : decode cX12_init 67 = .ok (.bipush 16, 2) := by decide +kernel
theorem dX12_init_69 : decode cX12_init 69 = .ok (.newarray .int, 2) := by decide +kernel
theorem dX12_init_71 : decode cX12_init 71 = .ok (.putfield 32, 3) := by decide +kernel
theorem dX12_init_74 : decode cX12_init 74 = .ok (.aload_n 0, 1) := by decide +kernel
theorem dX12_init_75 : decode cX12_init 75 = .ok (.bipush 16, 2) := by decide +kernel
theorem dX12_init_77 : decode cX12_init 77 = .ok (.newarray .int, 2) := by decide +kernel
theorem dX12_init_79 : decode cX12_init 79 = .ok (.putfield 35, 3) := by decide +kernel
theorem dX12_init_82 : decode cX12_init 82 = .ok (.aload_n 0, 1) := by decide +kernel
theorem dX12_init_83 : decode cX12_init 83 = .ok (.bipush 16, 2) := by decide +kernel
theorem dX12_init_85 : decode cX12_init 85 = .ok (.newarray .int, 2) := by decide +kernel
theorem dX12_init_87 : decode cX12_init 87 = .ok (.putfield 38, 3) := by decide +kernel
theorem dX12_init_90 : decode cX12_init 90 = .ok (.aload_n 0, 1) := by decide +kernel
theorem dX12_init_91 : decode cX12_init 91 = .ok (.sipush 260, 3) := by decide +kernel
theorem dX12_init_94 : decode cX12_init 94 = .ok (.newarray .int, 2) := by decide +kernel
theorem dX12_init_96 : decode cX12_init 96 = .ok (.putfield 41, 3) := by decide +kernel
theorem dX12_init_99 : decode cX12_init 99 = .ok (.aload_n 0, 1) := by decide +kernel
theorem dX12_init_100 : decode cX12_init 100 = .ok (.bipush 16, 2) := by decide +kernel
theorem dX12_init_102 : decode cX12_init 102 = .ok (.newarray .int, 2) := by decide +kernel
theorem dX12_init_104 : decode cX12_init 104 = .ok (.putfield 44, 3) := by decide +kernel
theorem dX12_init_107 : decode cX12_init 107 = .ok (.aload_n 0, 1) := by decide +kernel
theorem dX12_init_108 : decode cX12_init 108 = .ok (.bipush 16, 2) := by decide +kernel
theorem dX12_init_110 : decode cX12_init 110 = .ok (.newarray .int, 2) := by decide +kernel
theorem dX12_init_112 : decode cX12_init 112 = .ok (.putfield 47, 3) := by decide +kernel
theorem dX12_init_115 : decode cX12_init 115 = .ok (.aload_n 0, 1) := by decide +kernel
theorem dX12_init_116 : decode cX12_init 116 = .ok (.bipush 16, 2) := by decide +kernel
theorem dX12_init_118 : decode cX12_init 118 = .ok (.newarray .int, 2) := by decide +kernel
theorem dX12_init_120 : decode cX12_init 120 = .ok (.putfield 50, 3) := by decide +kernel
theorem dX12_init_123 : decode cX12_init 123 = .ok (.aload_n 0, 1) := by decide +kernel
theorem dX12_init_124 : decode cX12_init 124 = .ok (.bipush 16, 2) := by decide +kernel
theorem dX12_init_126 : decode cX12_init 126 = .ok (.newarray .int, 2) := by decide +kernel
theorem dX12_init_128 : decode cX12_init 128 = .ok (.putfield 53, 3) := by decide +kernel
theorem dX12_init_131 : decode cX12_init 131 = .ok (.aload_n 0, 1) := by decide +kernel
theorem dX12_init_132 : decode cX12_init 132 = .ok (.sipush 260, 3) := by decide +kernel
theorem dX12_init_135 : decode cX12_init 135 = .ok (.newarray .int, 2) := by decide +kernel
theorem dX12_init_137 : decode cX12_init 137 = .ok (.putfield 56, 3) := by decide +kernel
theorem dX12_init_140 : decode cX12_init 140 = .ok (.aload_n 0, 1) := by decide +kernel
theorem dX12_init_141 : decode cX12_init 141 = .ok (.bipush 8, 2) := by decide +kernel
theorem dX12_init_143 : decode cX12_init 143 = .ok (.newarray .int, 2) := by decide +kernel
theorem dX12_init_145 : decode cX12_init 145 = .ok (.putfield 59, 3) := by decide +kernel
theorem dX12_init_148 : decode cX12_init 148 = .ok (.aload_n 0, 1) := by decide +kernel
theorem dX12_init_149 : decode cX12_init 149 = .ok (.bipush 24, 2) := by decide +kernel
theorem dX12_init_151 : decode cX12_init 151 = .ok (.newarray .int, 2) := by decide +kernel
theorem dX12_init_153 : decode cX12_init 153 = .ok (.putfield 62, 3) := by decide +kernel
theorem dX12_init_156 : decode cX12_init 156 = .ok (.aload_n 0, 1) := by decide +kernel
theorem dX12_init_157 : decode cX12_init 157 = .ok (.bipush 24, 2) := by decide +kernel
theorem dX12_init_159 : decode cX12_init 159 = .ok (.newarray .int, 2) := by decide +kernel
theorem dX12_init_161 : decode cX12_init 161 = .ok (.putfield 65, 3) := by decide +kernel
theorem dX12_init_164 : decode cX12_init 164 = .ok (.aload_n 0, 1) := by decide +kernel
theorem dX12_init_165 : decode cX12_init 165 = .ok (.bipush 24, 2) := by decide +kernel
theorem dX12_init_167 : decode cX12_init 167 = .ok (.newarray .long, 2) := by decide +kernel
theorem dX12_init_169 : decode cX12_init 169 = .ok (.putfield 68, 3) := by decide +kernel
theorem dX12_init_172 : decode cX12_init 172 = .ok (.aload_n 0, 1) := by decide +kernel
theorem dX12_init_173 : decode cX12_init 173 = .ok (.bipush 24, 2) := by decide +kernel
theorem dX12_init_175 : decode cX12_init 175 = .ok (.newarray .long, 2) := by decide +kernel
theorem dX12_init_177 : decode cX12_init 177 = .ok (.putfield 72, 3) := by decide +kernel
theorem dX12_init_180 : decode cX12_init 180 = .ok (.aload_n 0, 1) := by decide +kernel
theorem dX12_init_181 : decode cX12_init 181 = .ok (.bipush 6, 2) := by decide +kernel
theorem dX12_init_183 : decode cX12_init 183 = .ok (.newarray .int, 2) := by decide +kernel
theorem dX12_init_185 : decode cX12_init 185 = .ok (.putfield 75, 3) := by decide +kernel
theorem dX12_init_188 : decode cX12_init 188 = .ok (.aload_n 0, 1) := by decide +kernel
theorem dX12_init_189 : decode cX12_init 189 = .ok (.bipush 6, 2) := by decide +kernel
theorem dX12_init_191 : decode cX12_init 191 = .ok (.newarray .int, 2) := by decide +kernel
theorem dX12_init_193 : decode cX12_init 193 = .ok (.putfield 78, 3) := by decide +kernel
theorem dX12_init_196 : decode cX12_init 196 = .ok (.aload_n 0, 1) := by decide +kernel
theorem dX12_init_197 : decode cX12_init 197 = .ok (.bipush 6, 2) := by decide +kernel
theorem dX12_init_199 : decode cX12_init 199 = .ok (.newarray .int, 2) := by decide +kernel
theorem dX12_init_201 : decode cX12_init 201 = .ok (.putfield 81, 3) := by decide +kernel
theorem dX12_init_204 : decode cX12_init 204 = .ok (.aload_n 0, 1) := by decide +kernel
theorem dX12_init_205 : decode cX12_init 205 = .ok (.bipush 72, 2) := by decide +kernel
theorem dX12_init_207 : decode cX12_init 207 = .ok (.newarray .int, 2) := by decide +kernel
theorem dX12_init_209 : decode cX12_init 209 = .ok (.putfield 84, 3) := by decide +kernel
theorem dX12_init_212 : decode cX12_init 212 = .ok (.aload_n 0, 1) := by decide +kernel
theorem dX12_init_213 : decode cX12_init 213 = .ok (.bipush 20, 2) := by decide +kernel
theorem dX12_init_215 : decode cX12_init 215 = .ok (.newarray .int, 2) := by decide +kernel
theorem dX12_init_217 : decode cX12_init 217 = .ok (.putfield 87, 3) := by decide +kernel
theorem dX12_init_220 : decode cX12_init 220 = .ok (.aload_n 0, 1) := by decide +kernel
theorem dX12_init_221 : decode cX12_init 221 = .ok (.getfield 7, 3) := by decide +kernel
theorem dX12_init_224 : decode cX12_init 224 = .ok (.sipush 698, 3) := by decide +kernel
theorem dX12_init_227 : decode cX12_init 227 = .ok (.iconst 1, 1) := by decide +kernel
theorem dX12_init_228 : decode cX12_init 228 = .ok (.iastore, 1) := by decide +kernel
theorem dX12_init_229 : decode cX12_init 229 = .ok (.iconst 0, 1) := by decide +kernel
theorem dX12_init_230 : decode cX12_init 230 = .ok (.istore_n 1, 1) := by decide +kernel
theorem dX12_init_231 : decode cX12_init 231 = .ok (.iload_n 1, 1) := by decide +kernel
theorem dX12_init_232 : decode cX12_init 232 = .ok (.bipush 24, 2) := by decide +kernel
theorem dX12_init_234 : decode cX12_init 234 = .ok (.if_icmp .ge 29, 3) := by decide +kernel
theorem dX12_init_237 : decode cX12_init 237 = .ok (.aload_n 0, 1) := by decide +kernel
theorem dX12_init_238 : decode cX12_init 238 = .ok (.getfield 7, 3) := by decide +kernel
theorem dX12_init_241 : decode cX12_init 241 = .ok (.bipush 48, 2) := by decide +kernel
theorem dX12_init_243 : decode cX12_init 243 = .ok (.iload_n 1, 1) := by decide +kernel
theorem dX12_init_244 : decode cX12_init 244 = .ok (.iadd, 1) := by decide +kernel
theorem dX12_init_245 : decode cX12_init 245 = .ok (.iconst 1, 1) := by decide +kernel
theorem dX12_init_246 : decode cX12_init 246 = .ok (.iastore, 1) := by decide +kernel
theorem dX12_init_247 : decode cX12_init 247 = .ok (.aload_n 0, 1) := by decide +kernel
theorem dX12_init_248 : decode cX12_init 248 = .ok (.getfield 7, 3) := by decide +kernel
theorem dX12_init_251 : decode cX12_init 251 = .ok (.bipush 72, 2) := by decide +kernel
theorem dX12_init_253 : decode cX12_init 253 = .ok (.iload_n 1, 1) := by decide +kernel
theorem dX12_init_254 : decode cX12_init 254 = .ok (.iadd, 1) := by decide +kernel
theorem dX12_init_255 : decode cX12_init 255 = .ok (.iconst 1, 1) := by decide +kernel
theorem dX12_init_256 : decode cX12_init 256 = .ok (.iastore, 1) := by decide +kernel
theorem dX12_init_257 : decode cX12_init 257 = .ok (.iinc 1 1, 3) := by decide +kernel
theorem dX12_init_260 : decode cX12_init 260 = .ok (.goto (-29), 3) := by decide +kernel
theorem dX12_init_263 : decode cX12_init 263 = .ok (.return_, 1) := by decide +kernel
theorem dX12_in_0 : decode cX12_in 0 = .ok (.iload_n 0, 1) := by decide +kernel
theorem dX12_in_1 : decode cX12_in 1 = .ok (.iload_n 1, 1) := by decide +kernel
theorem dX12_in_2 : decode cX12_in 2 = .ok (.if_icmp .lt 12, 3) := by decide +kernel
theorem dX12_in_5 : decode cX12_in 5 = .ok (.iload_n 0, 1) := by decide +kernel
theorem dX12_in_6 : decode cX12_in 6 = .ok (.iload_n 2, 1) := by decide +kernel
theorem dX12_in_7 : decode cX12_in 7 = .ok (.if_icmp .gt 7, 3) := by decide +kernel
theorem dX12_in_10 : decode cX12_in 10 = .ok (.iconst 1, 1) := by decide +kernel
theorem dX12_in_11 : decode cX12_in 11 = .ok (.goto 4, 3) := by decide +kernel
theorem dX12_in_14 : decode cX12_in 14 = .ok (.iconst 0, 1) := by decide +kernel
theorem dX12_in_15 : decode cX12_in 15 = .ok (.ireturn, 1) := by decide +kernel
theorem dX12_min_0 : decode cX12_min 0 = .ok (.iload_n 0, 1) := by decide +kernel
theorem dX12_min_1 : decode cX12_min 1 = .ok (.iload_n 1, 1) := by decide +kernel
theorem dX12_min_2 : decode cX12_min 2 = .ok (.if_icmp .ge 7, 3) := by decide +kernel
theorem dX12_min_5 : decode cX12_min 5 = .ok (.iload_n 0, 1) := by decide +kernel
theorem dX12_min_6 : decode cX12_min 6 = .ok (.goto 4, 3) := by decide +kernel
theorem dX12_min_9 : decode cX12_min 9 = .ok (.iload_n 1, 1) := by decide +kernel
theorem dX12_min_10 : decode cX12_min 10 = .ok (.ireturn, 1) := by decide +kernel
theorem dX12_max_0 : decode cX12_max 0 = .ok (.iload_n 0, 1) := by decide +kernel
theorem dX12_max_1 : decode cX12_max 1 = .ok (.iload_n 1, 1) := by decide +kernel
theorem dX12_max_2 : decode cX12_max 2 = .ok (.if_icmp .le 7, 3) := by decide +kernel
theorem dX12_max_5 : decode cX12_max 5 = .ok (.iload_n 0, 1) := by decide +kernel
theorem dX12_max_6 : decode cX12_max 6 = .ok (.goto 4, 3) := by decide +kernel
theorem dX12_max_9 : decode cX12_max 9 = .ok (.iload_n 1, 1) := by decide +kernel
theorem dX12_max_10 : decode cX12_max 10 = .ok (.ireturn, 1) := by decide +kernel
theorem dX12_has_0 : decode cX12_has 0 = .ok (.iload_n 0, 1) := by decide +kernel
theorem dX12_has_1 : decode cX12_has 1 = .ok (.iload_n 1, 1) := by decide +kernel
theorem dX12_has_2 : decode cX12_has 2 = .ok (.ishr, 1) := by decide +kernel
theorem dX12_has_3 : decode cX12_has 3 = .ok (.iconst 1, 1) := by decide +kernel
theorem dX12_has_4 : decode cX12_has 4 = .ok (.iand, 1) := by decide +kernel
theorem dX12_has_5 : decode cX12_has 5 = .ok (.iconst 1, 1) := by decide +kernel
theorem dX12_has_6 : decode cX12_has 6 = .ok (.if_icmp .ne 7, 3) := by decide +kernel
theorem dX12_has_9 : decode cX12_has 9 = .ok (.iconst 1, 1) := by decide +kernel
theorem dX12_has_10 : decode cX12_has 10 = .ok (.goto 4, 3) := by decide +kernel
theorem dX12_has_13 : decode cX12_has 13 = .ok (.iconst 0, 1) := by decide +kernel
theorem dX12_has_14 : decode cX12_has 14 = .ok (.ireturn, 1) := by decide +kernel
theorem dX12_bits_0 : decode cX12_bits 0 = .ok (.iconst 0, 1) := by decide +kernel
theorem dX12_bits_1 : decode cX12_bits 1 = .ok (.istore_n 1, 1) := by decide +kernel
theorem dX12_bits_2 : decode cX12_bits 2 = .ok (.iconst 0, 1) := by decide +kernel
theorem dX12_bits_3 : decode cX12_bits 3 = .ok (.istore_n 2, 1) := by decide +kernel
theorem dX12_bits_4 : decode cX12_bits 4 = .ok (.iload_n 2, 1) := by decide +kernel
theorem dX12_bits_5 : decode cX12_bits 5 = .ok (.bipush 24, 2) := by decide +kernel
theorem dX12_bits_7 : decode cX12_bits 7 = .ok (.if_icmp .ge 17, 3) := by decide +kernel
theorem dX12_bits_10 : decode cX12_bits 10 = .ok (.iload_n 1, 1) := by decide +kernel
theorem dX12_bits_11 : decode cX12_bits 11 = .ok (.iload_n 0, 1) := by decide +kernel
theorem dX12_bits_12 : decode cX12_bits 12 = .ok (.iload_n 2, 1) := by decide +kernel
theorem dX12_bits_13 : decode cX12_bits 13 = .ok (.ishr, 1) := by decide +kernel
theorem dX12_bits_14 : decode cX12_bits 14 = .ok (.iconst 1, 1) := by decide +kernel
theorem dX12_bits_15 : decode cX12_bits 15 = .ok (.iand, 1) := by decide +kernel
theorem dX12_bits_16 : decode cX12_bits 16 = .ok (.iadd, 1) := by decide +kernel
theorem dX12_bits_17 : decode cX12_bits 17 = .ok (.istore_n 1, 1) := by decide +kernel
theorem dX12_bits_18 : decode cX12_bits 18 = .ok (.iinc 2 1, 3) := by decide +kernel
theorem dX12_bits_21 : decode cX12_bits 21 = .ok (.goto (-17), 3) := by decide +kernel
theorem dX12_bits_24 : decode cX12_bits 24 = .ok (.iload_n 1, 1) := by decide +kernel
theorem dX12_bits_25 : decode cX12_bits 25 = .ok (.ireturn, 1) := by decide +kernel
theorem dX12_copies_0 : decode cX12_copies 0 = .ok (.iconst 0, 1) := by decide +kernel
theorem dX12_copies_1 : decode cX12_copies 1 = .ok (.istore_n 2, 1) := by decide +kernel
theorem dX12_copies_2 : decode cX12_copies 2 = .ok (.iload_n 2, 1) := by decide +kernel
theorem dX12_copies_3 : decode cX12_copies 3 = .ok (.sipush 699, 3) := by decide +kernel
theorem dX12_copies_6 : decode cX12_copies 6 = .ok (.if_icmp .ge 15, 3) := by decide +kernel
theorem dX12_copies_9 : decode cX12_copies 9 = .ok (.aload_n 1, 1) := by decide +kernel
theorem dX12_copies_10 : decode cX12_copies 10 = .ok (.iload_n 2, 1) := by decide +kernel
theorem dX12_copies_11 : decode cX12_copies 11 = .ok (.aload_n 0, 1) := by decide +kernel
theorem dX12_copies_12 : decode cX12_copies 12 = .ok (.iload_n 2, 1) := by decide +kernel
theorem dX12_copies_13 : decode cX12_copies 13 = .ok (.iaload, 1) := by decide +kernel
theorem dX12_copies_14 : decode cX12_copies 14 = .ok (.iastore, 1) := by decide +kernel
theorem dX12_copies_15 : decode cX12_copies 15 = .ok (.iinc 2 1, 3) := by decide +kernel
theorem dX12_copies_18 : decode cX12_copies 18 = .ok (.goto (-16), 3) := by decide +kernel
theorem dX12_copies_21 : decode cX12_copies 21 = .ok (.return_, 1) := by decide +kernel
theorem dX12_isRoom_0 : decode cX12_isRoom 0 = .ok (.iload_n 0, 1) := by decide +kernel
theorem dX12_isRoom_1 : decode cX12_isRoom 1 = .ok (.iconst 0, 1) := by decide +kernel
theorem dX12_isRoom_2 : decode cX12_isRoom 2 = .ok (.bipush 23, 2) := by decide +kernel
theorem dX12_isRoom_4 : decode cX12_isRoom 4 = .ok (.invokestatic 90, 3) := by decide +kernel
theorem dX12_isRoom_7 : decode cX12_isRoom 7 = .ok (.ireturn, 1) := by decide +kernel
theorem dX12_felt_0 : decode cX12_felt 0 = .ok (.bipush 120, 2) := by decide +kernel
theorem dX12_felt_2 : decode cX12_felt 2 = .ok (.bipush 24, 2) := by decide +kernel
theorem dX12_felt_4 : decode cX12_felt 4 = .ok (.iload_n 0, 1) := by decide +kernel
theorem dX12_felt_5 : decode cX12_felt 5 = .ok (.imul, 1) := by decide +kernel
theorem dX12_felt_6 : decode cX12_felt 6 = .ok (.iadd, 1) := by decide +kernel
theorem dX12_felt_7 : decode cX12_felt 7 = .ok (.iload_n 1, 1) := by decide +kernel
theorem dX12_felt_8 : decode cX12_felt 8 = .ok (.iadd, 1) := by decide +kernel
theorem dX12_felt_9 : decode cX12_felt 9 = .ok (.ireturn, 1) := by decide +kernel
theorem dX12_feltIn_0 : decode cX12_feltIn 0 = .ok (.iconst 0, 1) := by decide +kernel
theorem dX12_feltIn_1 : decode cX12_feltIn 1 = .ok (.istore_n 2, 1) := by decide +kernel
theorem dX12_feltIn_2 : decode cX12_feltIn 2 = .ok (.iconst 0, 1) := by decide +kernel
theorem dX12_feltIn_3 : decode cX12_feltIn 3 = .ok (.istore_n 3, 1) := by decide +kernel
theorem dX12_feltIn_4 : decode cX12_feltIn 4 = .ok (.iload_n 3, 1) := by decide +kernel
theorem dX12_feltIn_5 : decode cX12_feltIn 5 = .ok (.bipush 24, 2) := by decide +kernel
theorem dX12_feltIn_7 : decode cX12_feltIn 7 = .ok (.if_icmp .ge 22, 3) := by decide +kernel
theorem dX12_feltIn_10 : decode cX12_feltIn 10 = .ok (.iload_n 2, 1) := by decide +kernel
theorem dX12_feltIn_11 : decode cX12_feltIn 11 = .ok (.aload_n 0, 1) := by decide +kernel
theorem dX12_feltIn_12 : decode cX12_feltIn 12 = .ok (.getfield 7, 3) := by decide +kernel
theorem dX12_feltIn_15 : decode cX12_feltIn 15 = .ok (.iload_n 1, 1) := by decide +kernel
theorem dX12_feltIn_16 : decode cX12_feltIn 16 = .ok (.iload_n 3, 1) := by decide +kernel
theorem dX12_feltIn_17 : decode cX12_feltIn 17 = .ok (.invokestatic 94, 3) := by decide +kernel
theorem dX12_feltIn_20 : decode cX12_feltIn 20 = .ok (.iaload, 1) := by decide +kernel
theorem dX12_feltIn_21 : decode cX12_feltIn 21 = .ok (.iadd, 1) := by decide +kernel
theorem dX12_feltIn_22 : decode cX12_feltIn 22 = .ok (.istore_n 2, 1) := by decide +kernel
theorem dX12_feltIn_23 : decode cX12_feltIn 23 = .ok (.iinc 3 1, 3) := by decide +kernel
theorem dX12_feltIn_26 : decode cX12_feltIn 26 = .ok (.goto (-22), 3) := by decide +kernel
theorem dX12_feltIn_29 : decode cX12_feltIn 29 = .ok (.iload_n 2, 1) := by decide +kernel
theorem dX12_feltIn_30 : decode cX12_feltIn 30 = .ok (.ireturn, 1) := by decide +kernel
theorem dX12_takesIn_0 : decode cX12_takesIn 0 = .ok (.aload_n 0, 1) := by decide +kernel
theorem dX12_takesIn_1 : decode cX12_takesIn 1 = .ok (.getfield 7, 3) := by decide +kernel
theorem dX12_takesIn_4 : decode cX12_takesIn 4 = .ok (.iconst 0, 1) := by decide +kernel
theorem dX12_takesIn_5 : decode cX12_takesIn 5 = .ok (.iload_n 1, 1) := by decide +kernel
theorem dX12_takesIn_6 : decode cX12_takesIn 6 = .ok (.iadd, 1) := by decide +kernel
theorem dX12_takesIn_7 : decode cX12_takesIn 7 = .ok (.iaload, 1) := by decide +kernel
theorem dX12_takesIn_8 : decode cX12_takesIn 8 = .ok (.iconst 1, 1) := by decide +kernel
theorem dX12_takesIn_9 : decode cX12_takesIn 9 = .ok (.if_icmp .ne 20, 3) := by decide +kernel
theorem dX12_takesIn_12 : decode cX12_takesIn 12 = .ok (.aload_n 0, 1) := by decide +kernel
theorem dX12_takesIn_13 : decode cX12_takesIn 13 = .ok (.getfield 7, 3) := by decide +kernel
theorem dX12_takesIn_16 : decode cX12_takesIn 16 = .ok (.bipush 48, 2) := by decide +kernel
theorem dX12_takesIn_18 : decode cX12_takesIn 18 = .ok (.iload_n 1, 1) := by decide +kernel
theorem dX12_takesIn_19 : decode cX12_takesIn 19 = .ok (.iadd, 1) := by decide +kernel
theorem dX12_takesIn_20 : decode cX12_takesIn 20 = .ok (.iaload, 1) := by decide +kernel
theorem dX12_takesIn_21 : decode cX12_takesIn 21 = .ok (.iconst 1, 1) := by decide +kernel
theorem dX12_takesIn_22 : decode cX12_takesIn 22 = .ok (.if_icmp .ne 7, 3) := by decide +kernel
theorem dX12_takesIn_25 : decode cX12_takesIn 25 = .ok (.iconst 1, 1) := by decide +kernel
theorem dX12_takesIn_26 : decode cX12_takesIn 26 = .ok (.goto 4, 3) := by decide +kernel
theorem dX12_takesIn_29 : decode cX12_takesIn 29 = .ok (.iconst 0, 1) := by decide +kernel
theorem dX12_takesIn_30 : decode cX12_takesIn 30 = .ok (.ireturn, 1) := by decide +kernel
theorem dX12_turned_0 : decode cX12_turned 0 = .ok (.iconst 0, 1) := by decide +kernel
theorem dX12_turned_1 : decode cX12_turned 1 = .ok (.iconst 3, 1) := by decide +kernel
theorem dX12_turned_2 : decode cX12_turned 2 = .ok (.iload_n 0, 1) := by decide +kernel
theorem dX12_turned_3 : decode cX12_turned 3 = .ok (.iload_n 1, 1) := by decide +kernel
theorem dX12_turned_4 : decode cX12_turned 4 = .ok (.iadd, 1) := by decide +kernel
theorem dX12_turned_5 : decode cX12_turned 5 = .ok (.iconst 1, 1) := by decide +kernel
theorem dX12_turned_6 : decode cX12_turned 6 = .ok (.isub, 1) := by decide +kernel
theorem dX12_turned_7 : decode cX12_turned 7 = .ok (.invokestatic 98, 3) := by decide +kernel
theorem dX12_turned_10 : decode cX12_turned 10 = .ok (.invokestatic 101, 3) := by decide +kernel
theorem dX12_turned_13 : decode cX12_turned 13 = .ok (.ireturn, 1) := by decide +kernel
theorem dX12_above_0 : decode cX12_above 0 = .ok (.iload_n 1, 1) := by decide +kernel
theorem dX12_above_1 : decode cX12_above 1 = .ok (.iconst 4, 1) := by decide +kernel
theorem dX12_above_2 : decode cX12_above 2 = .ok (.idiv, 1) := by decide +kernel
theorem dX12_above_3 : decode cX12_above 3 = .ok (.iconst 5, 1) := by decide +kernel
theorem dX12_above_4 : decode cX12_above 4 = .ok (.if_icmp .ne 6, 3) := by decide +kernel
theorem dX12_above_7 : decode cX12_above 7 = .ok (.bipush 24, 2) := by decide +kernel
theorem dX12_above_9 : decode cX12_above 9 = .ok (.ireturn, 1) := by decide +kernel
theorem dX12_above_10 : decode cX12_above 10 = .ok (.iload_n 1, 1) := by decide +kernel
theorem dX12_above_11 : decode cX12_above 11 = .ok (.iconst 4, 1) := by decide +kernel
theorem dX12_above_12 : decode cX12_above 12 = .ok (.idiv, 1) := by decide +kernel
theorem dX12_above_13 : decode cX12_above 13 = .ok (.iconst 4, 1) := by decide +kernel
theorem dX12_above_14 : decode cX12_above 14 = .ok (.imul, 1) := by decide +kernel
theorem dX12_above_15 : decode cX12_above 15 = .ok (.iconst 4, 1) := by decide +kernel
theorem dX12_above_16 : decode cX12_above 16 = .ok (.iadd, 1) := by decide +kernel
theorem dX12_above_17 : decode cX12_above 17 = .ok (.iload_n 1, 1) := by decide +kernel
theorem dX12_above_18 : decode cX12_above 18 = .ok (.iconst 4, 1) := by decide +kernel
theorem dX12_above_19 : decode cX12_above 19 = .ok (.irem, 1) := by decide +kernel
theorem dX12_above_20 : decode cX12_above 20 = .ok (.aload_n 0, 1) := by decide +kernel
theorem dX12_above_21 : decode cX12_above 21 = .ok (.getfield 7, 3) := by decide +kernel
theorem dX12_above_24 : decode cX12_above 24 = .ok (.bipush 72, 2) := by decide +kernel
theorem dX12_above_26 : decode cX12_above 26 = .ok (.iload_n 1, 1) := by decide +kernel
theorem dX12_above_27 : decode cX12_above 27 = .ok (.iadd, 1) := by decide +kernel
theorem dX12_above_28 : decode cX12_above 28 = .ok (.iaload, 1) := by decide +kernel
theorem dX12_above_29 : decode cX12_above 29 = .ok (.invokestatic 104, 3) := by decide +kernel
theorem dX12_above_32 : decode cX12_above 32 = .ok (.iadd, 1) := by decide +kernel
theorem dX12_above_33 : decode cX12_above 33 = .ok (.ireturn, 1) := by decide +kernel
theorem dX12_laysGuest_0 : decode cX12_laysGuest 0 = .ok (.aload_n 0, 1) := by decide +kernel
theorem dX12_laysGuest_1 : decode cX12_laysGuest 1 = .ok (.getfield 7, 3) := by decide +kernel
theorem dX12_laysGuest_4 : decode cX12_laysGuest 4 = .ok (.iconst 0, 1) := by decide +kernel
theorem dX12_laysGuest_5 : decode cX12_laysGuest 5 = .ok (.iload_n 1, 1) := by decide +kernel
theorem dX12_laysGuest_6 : decode cX12_laysGuest 6 = .ok (.iadd, 1) := by decide +kernel
theorem dX12_laysGuest_7 : decode cX12_laysGuest 7 = .ok (.iload_n 2, 1) := by decide +kernel
theorem dX12_laysGuest_8 : decode cX12_laysGuest 8 = .ok (.iastore, 1) := by decide +kernel
theorem dX12_laysGuest_9 : decode cX12_laysGuest 9 = .ok (.aload_n 0, 1) := by decide +kernel
theorem dX12_laysGuest_10 : decode cX12_laysGuest 10 = .ok (.getfield 7, 3) := by decide +kernel
theorem dX12_laysGuest_13 : decode cX12_laysGuest 13 = .ok (.bipush 24, 2) := by decide +kernel
theorem dX12_laysGuest_15 : decode cX12_laysGuest 15 = .ok (.iload_n 1, 1) := by decide +kernel
theorem dX12_laysGuest_16 : decode cX12_laysGuest 16 = .ok (.iadd, 1) := by decide +kernel
theorem dX12_laysGuest_17 : decode cX12_laysGuest 17 = .ok (.iload_n 3, 1) := by decide +kernel
theorem dX12_laysGuest_18 : decode cX12_laysGuest 18 = .ok (.iastore, 1) := by decide +kernel
theorem dX12_laysGuest_19 : decode cX12_laysGuest 19 = .ok (.iconst 0, 1) := by decide +kernel
theorem dX12_laysGuest_20 : decode cX12_laysGuest 20 = .ok (.istore 4, 2) := by decide +kernel
theorem dX12_laysGuest_22 : decode cX12_laysGuest 22 = .ok (.iload 4, 2) := by decide +kernel
theorem dX12_laysGuest_24 : decode cX12_laysGuest 24 = .ok (.bipush 24, 2) := by decide +kernel
theorem dX12_laysGuest_26 : decode cX12_laysGuest 26 = .ok (.if_icmp .ge 21, 3) := by decide +kernel
theorem dX12_laysGuest_29 : decode cX12_laysGuest 29 = .ok (.aload_n 0, 1) := by decide +kernel
theorem dX12_laysGuest_30 : decode cX12_laysGuest 30 = .ok (.getfield 7, 3) := by decide +kernel
theorem dX12_laysGuest_33 : decode cX12_laysGuest 33 = .ok (.iload_n 1, 1) := by decide +kernel
theorem dX12_laysGuest_34 : decode cX12_laysGuest 34 = .ok (.iload 4, 2) := by decide +kernel
theorem dX12_laysGuest_36 : decode cX12_laysGuest 36 = .ok (.invokestatic 94, 3) := by decide +kernel
theorem dX12_laysGuest_39 : decode cX12_laysGuest 39 = .ok (.iconst 0, 1) := by decide +kernel
theorem dX12_laysGuest_40 : decode cX12_laysGuest 40 = .ok (.iastore, 1) := by decide +kernel
theorem dX12_laysGuest_41 : decode cX12_laysGuest 41 = .ok (.iinc 4 1, 3) := by decide +kernel
theorem dX12_laysGuest_44 : decode cX12_laysGuest 44 = .ok (.goto (-22), 3) := by decide +kernel
theorem dX12_laysGuest_47 : decode cX12_laysGuest 47 = .ok (.return_, 1) := by decide +kernel
theorem dX12_guest_0 : decode cX12_guest 0 = .ok (.iload_n 1, 1) := by decide +kernel
theorem dX12_guest_1 : decode cX12_guest 1 = .ok (.invokestatic 107, 3) := by decide +kernel
theorem dX12_guest_4 : decode cX12_guest 4 = .ok (.ifCond .eq 14, 3) := by decide +kernel
theorem dX12_guest_7 : decode cX12_guest 7 = .ok (.iload_n 2, 1) := by decide +kernel
theorem dX12_guest_8 : decode cX12_guest 8 = .ok (.iconst 0, 1) := by decide +kernel
theorem dX12_guest_9 : decode cX12_guest 9 = .ok (.sipush 9999, 3) := by decide +kernel
theorem dX12_guest_12 : decode cX12_guest 12 = .ok (.invokestatic 90, 3) := by decide +kernel
theorem dX12_guest_15 : decode cX12_guest 15 = .ok (.ifCond .ne 5, 3) := by decide +kernel
theorem dX12_guest_18 : decode cX12_guest 18 = .ok (.iconst 0, 1) := by decide +kernel
theorem dX12_guest_19 : decode cX12_guest 19 = .ok (.ireturn, 1) := by decide +kernel
theorem dX12_guest_20 : decode cX12_guest 20 = .ok (.aload_n 0, 1) := by decide +kernel
theorem dX12_guest_21 : decode cX12_guest 21 = .ok (.iload_n 1, 1) := by decide +kernel
theorem dX12_guest_22 : decode cX12_guest 22 = .ok (.iconst 1, 1) := by decide +kernel
theorem dX12_guest_23 : decode cX12_guest 23 = .ok (.iload_n 2, 1) := by decide +kernel
theorem dX12_guest_24 : decode cX12_guest 24 = .ok (.invokevirtual 111, 3) := by decide +kernel
theorem dX12_guest_27 : decode cX12_guest 27 = .ok (.iconst 1, 1) := by decide +kernel
theorem dX12_guest_28 : decode cX12_guest 28 = .ok (.ireturn, 1) := by decide +kernel
theorem dX12_grille_0 : decode cX12_grille 0 = .ok (.iload_n 1, 1) := by decide +kernel
theorem dX12_grille_1 : decode cX12_grille 1 = .ok (.invokestatic 107, 3) := by decide +kernel
theorem dX12_grille_4 : decode cX12_grille 4 = .ok (.ifCond .ne 5, 3) := by decide +kernel
theorem dX12_grille_7 : decode cX12_grille 7 = .ok (.iconst 0, 1) := by decide +kernel
theorem dX12_grille_8 : decode cX12_grille 8 = .ok (.ireturn, 1) := by decide +kernel
theorem dX12_grille_9 : decode cX12_grille 9 = .ok (.aload_n 0, 1) := by decide +kernel
theorem dX12_grille_10 : decode cX12_grille 10 = .ok (.getfield 7, 3) := by decide +kernel
theorem dX12_grille_13 : decode cX12_grille 13 = .ok (.bipush 48, 2) := by decide +kernel
theorem dX12_grille_15 : decode cX12_grille 15 = .ok (.iload_n 1, 1) := by decide +kernel
theorem dX12_grille_16 : decode cX12_grille 16 = .ok (.iadd, 1) := by decide +kernel
theorem dX12_grille_17 : decode cX12_grille 17 = .ok (.iload_n 2, 1) := by decide +kernel
theorem dX12_grille_18 : decode cX12_grille 18 = .ok (.ifCond .eq 7, 3) := by decide +kernel
theorem dX12_grille_21 : decode cX12_grille 21 = .ok (.iconst 1, 1) := by decide +kernel
theorem dX12_grille_22 : decode cX12_grille 22 = .ok (.goto 4, 3) := by decide +kernel
theorem dX12_grille_25 : decode cX12_grille 25 = .ok (.iconst 0, 1) := by decide +kernel
theorem dX12_grille_26 : decode cX12_grille 26 = .ok (.iastore, 1) := by decide +kernel
theorem dX12_grille_27 : decode cX12_grille 27 = .ok (.iconst 1, 1) := by decide +kernel
theorem dX12_grille_28 : decode cX12_grille 28 = .ok (.ireturn, 1) := by decide +kernel
theorem dX12_louvre_0 : decode cX12_louvre 0 = .ok (.iload_n 1, 1) := by decide +kernel
theorem dX12_louvre_1 : decode cX12_louvre 1 = .ok (.invokestatic 107, 3) := by decide +kernel
theorem dX12_louvre_4 : decode cX12_louvre 4 = .ok (.ifCond .eq 12, 3) := by decide +kernel
theorem dX12_louvre_7 : decode cX12_louvre 7 = .ok (.iload_n 2, 1) := by decide +kernel
theorem dX12_louvre_8 : decode cX12_louvre 8 = .ok (.iconst 0, 1) := by decide +kernel
theorem dX12_louvre_9 : decode cX12_louvre 9 = .ok (.iconst 2, 1) := by decide +kernel
theorem dX12_louvre_10 : decode cX12_louvre 10 = .ok (.invokestatic 90, 3) := by decide +kernel
theorem dX12_louvre_13 : decode cX12_louvre 13 = .ok (.ifCond .ne 5, 3) := by decide +kernel
theorem dX12_louvre_16 : decode cX12_louvre 16 = .ok (.iconst 0, 1) := by decide +kernel
theorem dX12_louvre_17 : decode cX12_louvre 17 = .ok (.ireturn, 1) := by decide +kernel
theorem dX12_louvre_18 : decode cX12_louvre 18 = .ok (.aload_n 0, 1) := by decide +kernel
theorem dX12_louvre_19 : decode cX12_louvre 19 = .ok (.getfield 7, 3) := by decide +kernel
theorem dX12_louvre_22 : decode cX12_louvre 22 = .ok (.bipush 72, 2) := by decide +kernel
theorem dX12_louvre_24 : decode cX12_louvre 24 = .ok (.iload_n 1, 1) := by decide +kernel
theorem dX12_louvre_25 : decode cX12_louvre 25 = .ok (.iadd, 1) := by decide +kernel
theorem dX12_louvre_26 : decode cX12_louvre 26 = .ok (.iload_n 2, 1) := by decide +kernel
theorem dX12_louvre_27 : decode cX12_louvre 27 = .ok (.iastore, 1) := by decide +kernel
theorem dX12_louvre_28 : decode cX12_louvre 28 = .ok (.iconst 1, 1) := by decide +kernel
theorem dX12_louvre_29 : decode cX12_louvre 29 = .ok (.ireturn, 1) := by decide +kernel
theorem dX12_types_0 : decode cX12_types 0 = .ok (.iconst 3, 1) := by decide +kernel
theorem dX12_types_1 : decode cX12_types 1 = .ok (.istore_n 2, 1) := by decide +kernel
theorem dX12_types_2 : decode cX12_types 2 = .ok (.iload_n 2, 1) := by decide +kernel
theorem dX12_types_3 : decode cX12_types 3 = .ok (.ifCond .lt 35, 3) := by decide +kernel
theorem dX12_types_6 : decode cX12_types 6 = .ok (.aload_n 0, 1) := by decide +kernel
theorem dX12_types_7 : decode cX12_types 7 = .ok (.getfield 19, 3) := by decide +kernel
theorem dX12_types_10 : decode cX12_types 10 = .ok (.aload_n 0, 1) := by decide +kernel
theorem dX12_types_11 : decode cX12_types 11 = .ok (.getfield 115, 3) := by decide +kernel
theorem dX12_types_14 : decode cX12_types 14 = .ok (.iload_n 1, 1) := by decide +kernel
theorem dX12_types_15 : decode cX12_types 15 = .ok (.bipush 8, 2) := by decide +kernel
theorem dX12_types_17 : decode cX12_types 17 = .ok (.iload_n 2, 1) := by decide +kernel
theorem dX12_types_18 : decode cX12_types 18 = .ok (.imul, 1) := by decide +kernel
theorem dX12_types_19 : decode cX12_types 19 = .ok (.ishr, 1) := by decide +kernel
theorem dX12_types_20 : decode cX12_types 20 = .ok (.i2b, 1) := by decide +kernel
theorem dX12_types_21 : decode cX12_types 21 = .ok (.bastore, 1) := by decide +kernel
theorem dX12_types_22 : decode cX12_types 22 = .ok (.aload_n 0, 1) := by decide +kernel
theorem dX12_types_23 : decode cX12_types 23 = .ok (.aload_n 0, 1) := by decide +kernel
theorem dX12_types_24 : decode cX12_types 24 = .ok (.getfield 115, 3) := by decide +kernel
theorem dX12_types_27 : decode cX12_types 27 = .ok (.iconst 1, 1) := by decide +kernel
theorem dX12_types_28 : decode cX12_types 28 = .ok (.iadd, 1) := by decide +kernel
theorem dX12_types_29 : decode cX12_types 29 = .ok (.putfield 115, 3) := by decide +kernel
theorem dX12_types_32 : decode cX12_types 32 = .ok (.iinc 2 (-1), 3) := by decide +kernel
theorem dX12_types_35 : decode cX12_types 35 = .ok (.goto (-33), 3) := by decide +kernel
theorem dX12_types_38 : decode cX12_types 38 = .ok (.return_, 1) := by decide +kernel
theorem dX12_feed_0 : decode cX12_feed 0 = .ok (.aload_n 0, 1) := by decide +kernel
theorem dX12_feed_1 : decode cX12_feed 1 = .ok (.getfield 115, 3) := by decide +kernel
theorem dX12_feed_4 : decode cX12_feed 4 = .ok (.bipush 20, 2) := by decide +kernel
theorem dX12_feed_6 : decode cX12_feed 6 = .ok (.iadd, 1) := by decide +kernel
theorem dX12_feed_7 : decode cX12_feed 7 = .ok (.sipush 260, 3) := by decide +kernel
theorem dX12_feed_10 : decode cX12_feed 10 = .ok (.if_icmp .le 5, 3) := by decide +kernel
theorem dX12_feed_13 : decode cX12_feed 13 = .ok (.iconst (-1), 1) := by decide +kernel
theorem dX12_feed_14 : decode cX12_feed 14 = .ok (.ireturn, 1) := by decide +kernel
theorem dX12_feed_15 : decode cX12_feed 15 = .ok (.aload_n 0, 1) := by decide +kernel
theorem dX12_feed_16 : decode cX12_feed 16 = .ok (.iload_n 1, 1) := by decide +kernel
theorem dX12_feed_17 : decode cX12_feed 17 = .ok (.invokevirtual 119, 3) := by decide +kernel
theorem dX12_feed_20 : decode cX12_feed 20 = .ok (.aload_n 0, 1) := by decide +kernel
theorem dX12_feed_21 : decode cX12_feed 21 = .ok (.iload_n 2, 1) := by decide +kernel
theorem dX12_feed_22 : decode cX12_feed 22 = .ok (.invokevirtual 119, 3) := by decide +kernel
theorem dX12_feed_25 : decode cX12_feed 25 = .ok (.aload_n 0, 1) := by decide +kernel
theorem dX12_feed_26 : decode cX12_feed 26 = .ok (.iload_n 3, 1) := by decide +kernel
theorem dX12_feed_27 : decode cX12_feed 27 = .ok (.invokevirtual 119, 3) := by decide +kernel
theorem dX12_feed_30 : decode cX12_feed 30 = .ok (.aload_n 0, 1) := by decide +kernel
theorem dX12_feed_31 : decode cX12_feed 31 = .ok (.iload 4, 2) := by decide +kernel
theorem dX12_feed_33 : decode cX12_feed 33 = .ok (.invokevirtual 119, 3) := by decide +kernel
theorem dX12_feed_36 : decode cX12_feed 36 = .ok (.aload_n 0, 1) := by decide +kernel
theorem dX12_feed_37 : decode cX12_feed 37 = .ok (.iload 5, 2) := by decide +kernel
theorem dX12_feed_39 : decode cX12_feed 39 = .ok (.invokevirtual 119, 3) := by decide +kernel
theorem dX12_feed_42 : decode cX12_feed 42 = .ok (.aload_n 0, 1) := by decide +kernel
theorem dX12_feed_43 : decode cX12_feed 43 = .ok (.getfield 115, 3) := by decide +kernel
theorem dX12_feed_46 : decode cX12_feed 46 = .ok (.ireturn, 1) := by decide +kernel
theorem dX12_octet_0 : decode cX12_octet 0 = .ok (.aload_n 0, 1) := by decide +kernel
theorem dX12_octet_1 : decode cX12_octet 1 = .ok (.getfield 19, 3) := by decide +kernel
theorem dX12_octet_4 : decode cX12_octet 4 = .ok (.iload_n 1, 1) := by decide +kernel
theorem dX12_octet_5 : decode cX12_octet 5 = .ok (.baload, 1) := by decide +kernel
theorem dX12_octet_6 : decode cX12_octet 6 = .ok (.sipush 255, 3) := by decide +kernel
theorem dX12_octet_9 : decode cX12_octet 9 = .ok (.iand, 1) := by decide +kernel
theorem dX12_octet_10 : decode cX12_octet 10 = .ok (.ireturn, 1) := by decide +kernel
theorem dX12_here_0 : decode cX12_here 0 = .ok (.aload_n 0, 1) := by decide +kernel
theorem dX12_here_1 : decode cX12_here 1 = .ok (.getfield 123, 3) := by decide +kernel
theorem dX12_here_4 : decode cX12_here 4 = .ok (.aload_n 0, 1) := by decide +kernel
theorem dX12_here_5 : decode cX12_here 5 = .ok (.getfield 126, 3) := by decide +kernel
theorem dX12_here_8 : decode cX12_here 8 = .ok (.if_icmp .ge 19, 3) := by decide +kernel
theorem dX12_here_11 : decode cX12_here 11 = .ok (.aload_n 0, 1) := by decide +kernel
theorem dX12_here_12 : decode cX12_here 12 = .ok (.getfield 19, 3) := by decide +kernel
theorem dX12_here_15 : decode cX12_here 15 = .ok (.aload_n 0, 1) := by decide +kernel
theorem dX12_here_16 : decode cX12_here 16 = .ok (.getfield 123, 3) := by decide +kernel
theorem dX12_here_19 : decode cX12_here 19 = .ok (.baload, 1) := by decide +kernel
theorem dX12_here_20 : decode cX12_here 20 = .ok (.sipush 255, 3) := by decide +kernel
theorem dX12_here_23 : decode cX12_here 23 = .ok (.iand, 1) := by decide +kernel
theorem dX12_here_24 : decode cX12_here 24 = .ok (.goto 4, 3) := by decide +kernel
theorem dX12_here_27 : decode cX12_here 27 = .ok (.iconst (-1), 1) := by decide +kernel
theorem dX12_here_28 : decode cX12_here 28 = .ok (.ireturn, 1) := by decide +kernel
theorem dX12_isDigit_0 : decode cX12_isDigit 0 = .ok (.aload_n 0, 1) := by decide +kernel
theorem dX12_isDigit_1 : decode cX12_isDigit 1 = .ok (.invokevirtual 129, 3) := by decide +kernel
theorem dX12_isDigit_4 : decode cX12_isDigit 4 = .ok (.bipush 48, 2) := by decide +kernel
theorem dX12_isDigit_6 : decode cX12_isDigit 6 = .ok (.if_icmp .lt 16, 3) := by decide +kernel
theorem dX12_isDigit_9 : decode cX12_isDigit 9 = .ok (.aload_n 0, 1) := by decide +kernel
theorem dX12_isDigit_10 : decode cX12_isDigit 10 = .ok (.invokevirtual 129, 3) := by decide +kernel
theorem dX12_isDigit_13 : decode cX12_isDigit 13 = .ok (.bipush 57, 2) := by decide +kernel
theorem dX12_isDigit_15 : decode cX12_isDigit 15 = .ok (.if_icmp .gt 7, 3) := by decide +kernel
theorem dX12_isDigit_18 : decode cX12_isDigit 18 = .ok (.iconst 1, 1) := by decide +kernel
theorem dX12_isDigit_19 : decode cX12_isDigit 19 = .ok (.goto 4, 3) := by decide +kernel
theorem dX12_isDigit_22 : decode cX12_isDigit 22 = .ok (.iconst 0, 1) := by decide +kernel
theorem dX12_isDigit_23 : decode cX12_isDigit 23 = .ok (.ireturn, 1) := by decide +kernel
theorem dX12_wrongAt_0 : decode cX12_wrongAt 0 = .ok (.aload_n 0, 1) := by decide +kernel
theorem dX12_wrongAt_1 : decode cX12_wrongAt 1 = .ok (.sipush (-1000), 3) := by decide +kernel
theorem dX12_wrongAt_4 : decode cX12_wrongAt 4 = .ok (.iload_n 1, 1) := by decide +kernel
theorem dX12_wrongAt_5 : decode cX12_wrongAt 5 = .ok (.imul, 1) := by decide +kernel
theorem dX12_wrongAt_6 : decode cX12_wrongAt 6 = .ok (.iload_n 2, 1) := by decide +kernel
theorem dX12_wrongAt_7 : decode cX12_wrongAt 7 = .ok (.isub, 1) := by decide +kernel
theorem dX12_wrongAt_8 : decode cX12_wrongAt 8 = .ok (.putfield 133, 3) := by decide +kernel
theorem dX12_wrongAt_11 : decode cX12_wrongAt 11 = .ok (.iconst 0, 1) := by decide +kernel
theorem dX12_wrongAt_12 : decode cX12_wrongAt 12 = .ok (.ireturn, 1) := by decide +kernel
theorem dX12_takes_0 : decode cX12_takes 0 = .ok (.aload_n 0, 1) := by decide +kernel
theorem dX12_takes_1 : decode cX12_takes 1 = .ok (.invokevirtual 129, 3) := by decide +kernel
theorem dX12_takes_4 : decode cX12_takes 4 = .ok (.iload_n 1, 1) := by decide +kernel
theorem dX12_takes_5 : decode cX12_takes 5 = .ok (.if_icmp .eq 13, 3) := by decide +kernel
theorem dX12_takes_8 : decode cX12_takes 8 = .ok (.aload_n 0, 1) := by decide +kernel
theorem dX12_takes_9 : decode cX12_takes 9 = .ok (.iconst 1, 1) := by decide +kernel
theorem dX12_takes_10 : decode cX12_takes 10 = .ok (.aload_n 0, 1) := by decide +kernel
theorem dX12_takes_11 : decode cX12_takes 11 = .ok (.getfield 123, 3) := by decide +kernel
theorem dX12_takes_14 : decode cX12_takes 14 = .ok (.invokevirtual 136, 3) := by decide +kernel
theorem dX12_takes_17 : decode cX12_takes 17 = .ok (.ireturn, 1) := by decide +kernel
theorem dX12_takes_18 : decode cX12_takes 18 = .ok (.aload_n 0, 1) := by decide +kernel
theorem dX12_takes_19 : decode cX12_takes 19 = .ok (.aload_n 0, 1) := by decide +kernel
theorem dX12_takes_20 : decode cX12_takes 20 = .ok (.getfield 123, 3) := by decide +kernel
theorem dX12_takes_23 : decode cX12_takes 23 = .ok (.iconst 1, 1) := by decide +kernel
theorem dX12_takes_24 : decode cX12_takes 24 = .ok (.iadd, 1) := by decide +kernel
theorem dX12_takes_25 : decode cX12_takes 25 = .ok (.putfield 123, 3) := by decide +kernel
theorem dX12_takes_28 : decode cX12_takes 28 = .ok (.iconst 1, 1) := by decide +kernel
theorem dX12_takes_29 : decode cX12_takes 29 = .ok (.ireturn, 1) := by decide +kernel
theorem dX12_readsNumber_0 : decode cX12_readsNumber 0 = .ok (.aload_n 0, 1) := by decide +kernel
theorem dX12_readsNumber_1 : decode cX12_readsNumber 1 = .ok (.getfield 123, 3) := by decide +kernel
theorem dX12_readsNumber_4 : decode cX12_readsNumber 4 = .ok (.istore_n 1, 1) := by decide +kernel
theorem dX12_readsNumber_5 : decode cX12_readsNumber 5 = .ok (.aload_n 0, 1) := by decide +kernel
theorem dX12_readsNumber_6 : decode cX12_readsNumber 6 = .ok (.iconst 0, 1) := by decide +kernel
theorem dX12_readsNumber_7 : decode cX12_readsNumber 7 = .ok (.putfield 140, 3) := by decide +kernel
theorem dX12_readsNumber_10 : decode cX12_readsNumber 10 = .ok (.aload_n 0, 1) := by decide +kernel
theorem dX12_readsNumber_11 : decode cX12_readsNumber 11 = .ok (.invokevirtual 143, 3) := by decide +kernel
theorem dX12_readsNumber_14 : decode cX12_readsNumber 14 = .ok (.ifCond .eq 55, 3) := by decide +kernel
theorem dX12_readsNumber_17 : decode cX12_readsNumber 17 = .ok (.aload_n 0, 1) := by decide +kernel
theorem dX12_readsNumber_18 : decode cX12_readsNumber 18 = .ok (.getfield 123, 3) := by decide +kernel
theorem dX12_readsNumber_21 : decode cX12_readsNumber 21 = .ok (.iload_n 1, 1) := by decide +kernel
theorem dX12_readsNumber_22 : decode cX12_readsNumber 22 = .ok (.iconst 5, 1) := by decide +kernel
theorem dX12_readsNumber_23 : decode cX12_readsNumber 23 = .ok (.iadd, 1) := by decide +kernel
theorem dX12_readsNumber_24 : decode cX12_readsNumber 24 = .ok (.if_icmp .ne 13, 3) := by decide +kernel
theorem dX12_readsNumber_27 : decode cX12_readsNumber 27 = .ok (.aload_n 0, 1) := by decide +kernel
theorem dX12_readsNumber_28 : decode cX12_readsNumber 28 = .ok (.iconst 2, 1) := by decide +kernel
theorem dX12_readsNumber_29 : decode cX12_readsNumber 29 = .ok (.aload_n 0, 1) := by decide +kernel
theorem dX12_readsNumber_30 : decode cX12_readsNumber 30 = .ok (.getfield 123, 3) := by decide +kernel
theorem dX12_readsNumber_33 : decode cX12_readsNumber 33 = .ok (.invokevirtual 136, 3) := by decide +kernel
theorem dX12_readsNumber_36 : decode cX12_readsNumber 36 = .ok (.ireturn, 1) := by decide +kernel
theorem dX12_readsNumber_37 : decode cX12_readsNumber 37 = .ok (.aload_n 0, 1) := by decide +kernel
theorem dX12_readsNumber_38 : decode cX12_readsNumber 38 = .ok (.bipush 10, 2) := by decide +kernel
theorem dX12_readsNumber_40 : decode cX12_readsNumber 40 = .ok (.aload_n 0, 1) := by decide +kernel
theorem dX12_readsNumber_41 : decode cX12_readsNumber 41 = .ok (.getfield 140, 3) := by decide +kernel
theorem dX12_readsNumber_44 : decode cX12_readsNumber 44 = .ok (.imul, 1) := by decide +kernel
theorem dX12_readsNumber_45 : decode cX12_readsNumber 45 = .ok (.aload_n 0, 1) := by decide +kernel
theorem dX12_readsNumber_46 : decode cX12_readsNumber 46 = .ok (.invokevirtual 129, 3) := by decide +kernel
theorem dX12_readsNumber_49 : decode cX12_readsNumber 49 = .ok (.iadd, 1) := by decide +kernel
theorem dX12_readsNumber_50 : decode cX12_readsNumber 50 = .ok (.bipush 48, 2) := by decide +kernel
theorem dX12_readsNumber_52 : decode cX12_readsNumber 52 = .ok (.isub, 1) := by decide +kernel
theorem dX12_readsNumber_53 : decode cX12_readsNumber 53 = .ok (.putfield 140, 3) := by decide +kernel
theorem dX12_readsNumber_56 : decode cX12_readsNumber 56 = .ok (.aload_n 0, 1) := by decide +kernel
theorem dX12_readsNumber_57 : decode cX12_readsNumber 57 = .ok (.aload_n 0, 1) := by decide +kernel
theorem dX12_readsNumber_58 : decode cX12_readsNumber 58 = .ok (.getfield 123, 3) := by decide +kernel
theorem dX12_readsNumber_61 : decode cX12_readsNumber 61 = .ok (.iconst 1, 1) := by decide +kernel
theorem dX12_readsNumber_62 : decode cX12_readsNumber 62 = .ok (.iadd, 1) := by decide +kernel
theorem dX12_readsNumber_63 : decode cX12_readsNumber 63 = .ok (.putfield 123, 3) := by decide +kernel
theorem dX12_readsNumber_66 : decode cX12_readsNumber 66 = .ok (.goto (-56), 3) := by decide +kernel
theorem dX12_readsNumber_69 : decode cX12_readsNumber 69 = .ok (.iconst 1, 1) := by decide +kernel
theorem dX12_readsNumber_70 : decode cX12_readsNumber 70 = .ok (.ireturn, 1) := by decide +kernel
theorem dX12_notes_0 : decode cX12_notes 0 = .ok (.aload_n 0, 1) := by decide +kernel
theorem dX12_notes_1 : decode cX12_notes 1 = .ok (.getfield 23, 3) := by decide +kernel
theorem dX12_notes_4 : decode cX12_notes 4 = .ok (.aload_n 0, 1) := by decide +kernel
theorem dX12_notes_5 : decode cX12_notes 5 = .ok (.getfield 147, 3) := by decide +kernel
theorem dX12_notes_8 : decode cX12_notes 8 = .ok (.ldc 150, 2) := by decide +kernel
theorem dX12_notes_10 : decode cX12_notes 10 = .ok (.iload_n 1, 1) := by decide +kernel
theorem dX12_notes_11 : decode cX12_notes 11 = .ok (.imul, 1) := by decide +kernel
theorem dX12_notes_12 : decode cX12_notes 12 = .ok (.iload_n 2, 1) := by decide +kernel
theorem dX12_notes_13 : decode cX12_notes 13 = .ok (.iadd, 1) := by decide +kernel
theorem dX12_notes_14 : decode cX12_notes 14 = .ok (.iastore, 1) := by decide +kernel
theorem dX12_notes_15 : decode cX12_notes 15 = .ok (.aload_n 0, 1) := by decide +kernel
theorem dX12_notes_16 : decode cX12_notes 16 = .ok (.aload_n 0, 1) := by decide +kernel
theorem dX12_notes_17 : decode cX12_notes 17 = .ok (.getfield 147, 3) := by decide +kernel
theorem dX12_notes_20 : decode cX12_notes 20 = .ok (.iconst 1, 1) := by decide +kernel
theorem dX12_notes_21 : decode cX12_notes 21 = .ok (.iadd, 1) := by decide +kernel
theorem dX12_notes_22 : decode cX12_notes 22 = .ok (.putfield 147, 3) := by decide +kernel
theorem dX12_notes_25 : decode cX12_notes 25 = .ok (.return_, 1) := by decide +kernel
theorem dX12_opens_0 : decode cX12_opens 0 = .ok (.aload_n 0, 1) := by decide +kernel
theorem dX12_opens_1 : decode cX12_opens 1 = .ok (.getfield 151, 3) := by decide +kernel
theorem dX12_opens_4 : decode cX12_opens 4 = .ok (.bipush 6, 2) := by decide +kernel
theorem dX12_opens_6 : decode cX12_opens 6 = .ok (.if_icmp .ne 13, 3) := by decide +kernel
theorem dX12_opens_9 : decode cX12_opens 9 = .ok (.aload_n 0, 1) := by decide +kernel
theorem dX12_opens_10 : decode cX12_opens 10 = .ok (.iconst 5, 1) := by decide +kernel
theorem dX12_opens_11 : decode cX12_opens 11 = .ok (.aload_n 0, 1) := by decide +kernel
theorem dX12_opens_12 : decode cX12_opens 12 = .ok (.getfield 123, 3) := by decide +kernel
theorem dX12_opens_15 : decode cX12_opens 15 = .ok (.invokevirtual 136, 3) := by decide +kernel
theorem dX12_opens_18 : decode cX12_opens 18 = .ok (.ireturn, 1) := by decide +kernel
theorem dX12_opens_19 : decode cX12_opens 19 = .ok (.aload_n 0, 1) := by decide +kernel
theorem dX12_opens_20 : decode cX12_opens 20 = .ok (.aload_n 0, 1) := by decide +kernel
theorem dX12_opens_21 : decode cX12_opens 21 = .ok (.getfield 151, 3) := by decide +kernel
theorem dX12_opens_24 : decode cX12_opens 24 = .ok (.iconst 1, 1) := by decide +kernel
theorem dX12_opens_25 : decode cX12_opens 25 = .ok (.iadd, 1) := by decide +kernel
theorem dX12_opens_26 : decode cX12_opens 26 = .ok (.putfield 151, 3) := by decide +kernel
theorem dX12_opens_29 : decode cX12_opens 29 = .ok (.aload_n 0, 1) := by decide +kernel
theorem dX12_opens_30 : decode cX12_opens 30 = .ok (.getfield 26, 3) := by decide +kernel
theorem dX12_opens_33 : decode cX12_opens 33 = .ok (.aload_n 0, 1) := by decide +kernel
theorem dX12_opens_34 : decode cX12_opens 34 = .ok (.getfield 154, 3) := by decide +kernel
theorem dX12_opens_37 : decode cX12_opens 37 = .ok (.ldc 150, 2) := by decide +kernel
theorem dX12_opens_39 : decode cX12_opens 39 = .ok (.iload_n 1, 1) := by decide +kernel
theorem dX12_opens_40 : decode cX12_opens 40 = .ok (.imul, 1) := by decide +kernel
theorem dX12_opens_41 : decode cX12_opens 41 = .ok (.iastore, 1) := by decide +kernel
theorem dX12_opens_42 : decode cX12_opens 42 = .ok (.aload_n 0, 1) := by decide +kernel
theorem dX12_opens_43 : decode cX12_opens 43 = .ok (.aload_n 0, 1) := by decide +kernel
theorem dX12_opens_44 : decode cX12_opens 44 = .ok (.getfield 154, 3) := by decide +kernel
theorem dX12_opens_47 : decode cX12_opens 47 = .ok (.iconst 1, 1) := by decide +kernel
theorem dX12_opens_48 : decode cX12_opens 48 = .ok (.iadd, 1) := by decide +kernel
theorem dX12_opens_49 : decode cX12_opens 49 = .ok (.putfield 154, 3) := by decide +kernel
theorem dX12_opens_52 : decode cX12_opens 52 = .ok (.aload_n 0, 1) := by decide +kernel
theorem dX12_opens_53 : decode cX12_opens 53 = .ok (.aload_n 0, 1) := by decide +kernel
theorem dX12_opens_54 : decode cX12_opens 54 = .ok (.getfield 123, 3) := by decide +kernel
theorem dX12_opens_57 : decode cX12_opens 57 = .ok (.iconst 1, 1) := by decide +kernel
theorem dX12_opens_58 : decode cX12_opens 58 = .ok (.iadd, 1) := by decide +kernel
theorem dX12_opens_59 : decode cX12_opens 59 = .ok (.putfield 123, 3) := by decide +kernel
theorem dX12_opens_62 : decode cX12_opens 62 = .ok (.iconst 1, 1) := by decide +kernel
theorem dX12_opens_63 : decode cX12_opens 63 = .ok (.ireturn, 1) := by decide +kernel
theorem dX12_waitTop_0 : decode cX12_waitTop 0 = .ok (.aload_n 0, 1) := by decide +kernel
theorem dX12_waitTop_1 : decode cX12_waitTop 1 = .ok (.getfield 154, 3) := by decide +kernel
theorem dX12_waitTop_4 : decode cX12_waitTop 4 = .ok (.ifCond .ne 7, 3) := by decide +kernel
theorem dX12_waitTop_7 : decode cX12_waitTop 7 = .ok (.iconst (-1), 1) := by decide +kernel
theorem dX12_waitTop_8 : decode cX12_waitTop 8 = .ok (.goto 17, 3) := by decide +kernel
theorem dX12_waitTop_11 : decode cX12_waitTop 11 = .ok (.aload_n 0, 1) := by decide +kernel
theorem dX12_waitTop_12 : decode cX12_waitTop 12 = .ok (.getfield 26, 3) := by decide +kernel
theorem dX12_waitTop_15 : decode cX12_waitTop 15 = .ok (.aload_n 0, 1) := by decide +kernel
theorem dX12_waitTop_16 : decode cX12_waitTop 16 = .ok (.getfield 154, 3) := by decide +kernel
theorem dX12_waitTop_19 : decode cX12_waitTop 19 = .ok (.iconst 1, 1) := by decide +kernel
theorem dX12_waitTop_20 : decode cX12_waitTop 20 = .ok (.isub, 1) := by decide +kernel
theorem dX12_waitTop_21 : decode cX12_waitTop 21 = .ok (.iaload, 1) := by decide +kernel
theorem dX12_waitTop_22 : decode cX12_waitTop 22 = .ok (.ldc 150, 2) := by decide +kernel
theorem dX12_waitTop_24 : decode cX12_waitTop 24 = .ok (.idiv, 1) := by decide +kernel
theorem dX12_waitTop_25 : decode cX12_waitTop 25 = .ok (.ireturn, 1) := by decide +kernel
theorem dX12_factOf_0 : decode cX12_factOf 0 = .ok (.iload_n 0, 1) := by decide +kernel
theorem dX12_factOf_1 : decode cX12_factOf 1 = .ok (.tableswitch 125 97 119 #[119, 125, 125, 125, 125, 113, 117, 122, 125, 125, 125, 125, 125, 125, 125, 111, 125, 107, 109, 125, 125, 125, 115], 107) := by decide +kernel
theorem dX12_factOf_108 : decode cX12_factOf 108 = .ok (.iconst 0, 1) := by decide +kernel
theorem dX12_factOf_109 : decode cX12_factOf 109 = .ok (.ireturn, 1) := by decide +kernel
theorem dX12_factOf_110 : decode cX12_factOf 110 = .ok (.iconst 1, 1) := by decide +kernel
theorem dX12_factOf_111 : decode cX12_factOf 111 = .ok (.ireturn, 1) := by decide +kernel
theorem dX12_factOf_112 : decode cX12_factOf 112 = .ok (.iconst 2, 1) := by decide +kernel
theorem dX12_factOf_113 : decode cX12_factOf 113 = .ok (.ireturn, 1) := by decide +kernel
theorem dX12_factOf_114 : decode cX12_factOf 114 = .ok (.iconst 3, 1) := by decide +kernel
theorem dX12_factOf_115 : decode cX12_factOf 115 = .ok (.ireturn, 1) := by decide +kernel
theorem dX12_factOf_116 : decode cX12_factOf 116 = .ok (.iconst 4, 1) := by decide +kernel
theorem dX12_factOf_117 : decode cX12_factOf 117 = .ok (.ireturn, 1) := by decide +kernel
theorem dX12_factOf_118 : decode cX12_factOf 118 = .ok (.iconst 5, 1) := by decide +kernel
theorem dX12_factOf_119 : decode cX12_factOf 119 = .ok (.ireturn, 1) := by decide +kernel
theorem dX12_factOf_120 : decode cX12_factOf 120 = .ok (.bipush 6, 2) := by decide +kernel
theorem dX12_factOf_122 : decode cX12_factOf 122 = .ok (.ireturn, 1) := by decide +kernel
theorem dX12_factOf_123 : decode cX12_factOf 123 = .ok (.bipush 7, 2) := by decide +kernel
theorem dX12_factOf_125 : decode cX12_factOf 125 = .ok (.ireturn, 1) := by decide +kernel
theorem dX12_factOf_126 : decode cX12_factOf 126 = .ok (.iconst (-1), 1) := by decide +kernel
theorem dX12_factOf_127 : decode cX12_factOf 127 = .ok (.ireturn, 1) := by decide +kernel
theorem dX12_sumSign_0 : decode cX12_sumSign 0 = .ok (.iload_n 0, 1) := by decide +kernel
theorem dX12_sumSign_1 : decode cX12_sumSign 1 = .ok (.bipush 43, 2) := by decide +kernel
theorem dX12_sumSign_3 : decode cX12_sumSign 3 = .ok (.if_icmp .ne 7, 3) := by decide +kernel
theorem dX12_sumSign_6 : decode cX12_sumSign 6 = .ok (.iconst 2, 1) := by decide +kernel
theorem dX12_sumSign_7 : decode cX12_sumSign 7 = .ok (.goto 45, 3) := by decide +kernel
theorem dX12_sumSign_10 : decode cX12_sumSign 10 = .ok (.iload_n 0, 1) := by decide +kernel
theorem dX12_sumSign_11 : decode cX12_sumSign 11 = .ok (.bipush 45, 2) := by decide +kernel
theorem dX12_sumSign_13 : decode cX12_sumSign 13 = .ok (.if_icmp .ne 7, 3) := by decide +kernel
theorem dX12_sumSign_16 : decode cX12_sumSign 16 = .ok (.iconst 3, 1) := by decide +kernel
theorem dX12_sumSign_17 : decode cX12_sumSign 17 = .ok (.goto 35, 3) := by decide +kernel
theorem dX12_sumSign_20 : decode cX12_sumSign 20 = .ok (.iload_n 0, 1) := by decide +kernel
theorem dX12_sumSign_21 : decode cX12_sumSign 21 = .ok (.bipush 42, 2) := by decide +kernel
theorem dX12_sumSign_23 : decode cX12_sumSign 23 = .ok (.if_icmp .ne 7, 3) := by decide +kernel
theorem dX12_sumSign_26 : decode cX12_sumSign 26 = .ok (.iconst 4, 1) := by decide +kernel
theorem dX12_sumSign_27 : decode cX12_sumSign 27 = .ok (.goto 25, 3) := by decide +kernel
theorem dX12_sumSign_30 : decode cX12_sumSign 30 = .ok (.iload_n 0, 1) := by decide +kernel
theorem dX12_sumSign_31 : decode cX12_sumSign 31 = .ok (.bipush 47, 2) := by decide +kernel
theorem dX12_sumSign_33 : decode cX12_sumSign 33 = .ok (.if_icmp .ne 7, 3) := by decide +kernel
theorem dX12_sumSign_36 : decode cX12_sumSign 36 = .ok (.iconst 5, 1) := by decide +kernel
theorem dX12_sumSign_37 : decode cX12_sumSign 37 = .ok (.goto 15, 3) := by decide +kernel
theorem dX12_sumSign_40 : decode cX12_sumSign 40 = .ok (.iload_n 0, 1) := by decide +kernel
theorem dX12_sumSign_41 : decode cX12_sumSign 41 = .ok (.bipush 37, 2) := by decide +kernel
theorem dX12_sumSign_43 : decode cX12_sumSign 43 = .ok (.if_icmp .ne 8, 3) := by decide +kernel
theorem dX12_sumSign_46 : decode cX12_sumSign 46 = .ok (.bipush 6, 2) := by decide +kernel
theorem dX12_sumSign_48 : decode cX12_sumSign 48 = .ok (.goto 4, 3) := by decide +kernel
theorem dX12_sumSign_51 : decode cX12_sumSign 51 = .ok (.iconst (-1), 1) := by decide +kernel
theorem dX12_sumSign_52 : decode cX12_sumSign 52 = .ok (.ireturn, 1) := by decide +kernel
theorem dX12_closesSums_0 : decode cX12_closesSums 0 = .ok (.aload_n 0, 1) := by decide +kernel
theorem dX12_closesSums_1 : decode cX12_closesSums 1 = .ok (.invokevirtual 157, 3) := by decide +kernel
theorem dX12_closesSums_4 : decode cX12_closesSums 4 = .ok (.iconst 4, 1) := by decide +kernel
theorem dX12_closesSums_5 : decode cX12_closesSums 5 = .ok (.if_icmp .lt 12, 3) := by decide +kernel
theorem dX12_closesSums_8 : decode cX12_closesSums 8 = .ok (.aload_n 0, 1) := by decide +kernel
theorem dX12_closesSums_9 : decode cX12_closesSums 9 = .ok (.invokevirtual 157, 3) := by decide +kernel
theorem dX12_closesSums_12 : decode cX12_closesSums 12 = .ok (.bipush 6, 2) := by decide +kernel
theorem dX12_closesSums_14 : decode cX12_closesSums 14 = .ok (.if_icmp .le 23, 3) := by decide +kernel
theorem dX12_closesSums_17 : decode cX12_closesSums 17 = .ok (.iload_n 1, 1) := by decide +kernel
theorem dX12_closesSums_18 : decode cX12_closesSums 18 = .ok (.ifCond .eq 41, 3) := by decide +kernel
theorem dX12_closesSums_21 : decode cX12_closesSums 21 = .ok (.aload_n 0, 1) := by decide +kernel
theorem dX12_closesSums_22 : decode cX12_closesSums 22 = .ok (.invokevirtual 157, 3) := by decide +kernel
theorem dX12_closesSums_25 : decode cX12_closesSums 25 = .ok (.iconst 2, 1) := by decide +kernel
theorem dX12_closesSums_26 : decode cX12_closesSums 26 = .ok (.if_icmp .eq 11, 3) := by decide +kernel
theorem dX12_closesSums_29 : decode cX12_closesSums 29 = .ok (.aload_n 0, 1) := by decide +kernel
theorem dX12_closesSums_30 : decode cX12_closesSums 30 = .ok (.invokevirtual 157, 3) := by decide +kernel
theorem dX12_closesSums_33 : decode cX12_closesSums 33 = .ok (.iconst 3, 1) := by decide +kernel
theorem dX12_closesSums_34 : decode cX12_closesSums 34 = .ok (.if_icmp .ne 25, 3) := by decide +kernel
theorem dX12_closesSums_37 : decode cX12_closesSums 37 = .ok (.aload_n 0, 1) := by decide +kernel
theorem dX12_closesSums_38 : decode cX12_closesSums 38 = .ok (.aload_n 0, 1) := by decide +kernel
theorem dX12_closesSums_39 : decode cX12_closesSums 39 = .ok (.invokevirtual 157, 3) := by decide +kernel
theorem dX12_closesSums_42 : decode cX12_closesSums 42 = .ok (.iconst 0, 1) := by decide +kernel
theorem dX12_closesSums_43 : decode cX12_closesSums 43 = .ok (.invokevirtual 160, 3) := by decide +kernel
theorem dX12_closesSums_46 : decode cX12_closesSums 46 = .ok (.aload_n 0, 1) := by decide +kernel
theorem dX12_closesSums_47 : decode cX12_closesSums 47 = .ok (.aload_n 0, 1) := by decide +kernel
theorem dX12_closesSums_48 : decode cX12_closesSums 48 = .ok (.getfield 154, 3) := by decide +kernel
theorem dX12_closesSums_51 : decode cX12_closesSums 51 = .ok (.iconst 1, 1) := by decide +kernel
theorem dX12_closesSums_52 : decode cX12_closesSums 52 = .ok (.isub, 1) := by decide +kernel
theorem dX12_closesSums_53 : decode cX12_closesSums 53 = .ok (.putfield 154, 3) := by decide +kernel
theorem dX12_closesSums_56 : decode cX12_closesSums 56 = .ok (.goto (-56), 3) := by decide +kernel
theorem dX12_closesSums_59 : decode cX12_closesSums 59 = .ok (.return_, 1) := by decide +kernel
theorem dX12_readsFactor_0 : decode cX12_readsFactor 0 = .ok (.aload_n 0, 1) := by decide +kernel
theorem dX12_readsFactor_1 : decode cX12_readsFactor 1 = .ok (.invokevirtual 129, 3) := by decide +kernel
theorem dX12_readsFactor_4 : decode cX12_readsFactor 4 = .ok (.bipush 91, 2) := by decide +kernel
theorem dX12_readsFactor_6 : decode cX12_readsFactor 6 = .ok (.if_icmp .ne 14, 3) := by decide +kernel
theorem dX12_readsFactor_9 : decode cX12_readsFactor 9 = .ok (.aload_n 0, 1) := by decide +kernel
theorem dX12_readsFactor_10 : decode cX12_readsFactor 10 = .ok (.bipush 14, 2) := by decide +kernel
theorem dX12_readsFactor_12 : decode cX12_readsFactor 12 = .ok (.invokevirtual 164, 3) := by decide +kernel
theorem dX12_readsFactor_15 : decode cX12_readsFactor 15 = .ok (.ifCond .ne (-15), 3) := by decide +kernel
theorem dX12_readsFactor_18 : decode cX12_readsFactor 18 = .ok (.iconst 0, 1) := by decide +kernel
theorem dX12_readsFactor_19 : decode cX12_readsFactor 19 = .ok (.ireturn, 1) := by decide +kernel
theorem dX12_readsFactor_20 : decode cX12_readsFactor 20 = .ok (.aload_n 0, 1) := by decide +kernel
theorem dX12_readsFactor_21 : decode cX12_readsFactor 21 = .ok (.invokevirtual 143, 3) := by decide +kernel
theorem dX12_readsFactor_24 : decode cX12_readsFactor 24 = .ok (.ifCond .eq 23, 3) := by decide +kernel
theorem dX12_readsFactor_27 : decode cX12_readsFactor 27 = .ok (.aload_n 0, 1) := by decide +kernel
theorem dX12_readsFactor_28 : decode cX12_readsFactor 28 = .ok (.invokevirtual 167, 3) := by decide +kernel
theorem dX12_readsFactor_31 : decode cX12_readsFactor 31 = .ok (.ifCond .ne 5, 3) := by decide +kernel
theorem dX12_readsFactor_34 : decode cX12_readsFactor 34 = .ok (.iconst 0, 1) := by decide +kernel
theorem dX12_readsFactor_35 : decode cX12_readsFactor 35 = .ok (.ireturn, 1) := by decide +kernel
theorem dX12_readsFactor_36 : decode cX12_readsFactor 36 = .ok (.aload_n 0, 1) := by decide +kernel
theorem dX12_readsFactor_37 : decode cX12_readsFactor 37 = .ok (.iconst 0, 1) := by decide +kernel
theorem dX12_readsFactor_38 : decode cX12_readsFactor 38 = .ok (.aload_n 0, 1) := by decide +kernel
theorem dX12_readsFactor_39 : decode cX12_readsFactor 39 = .ok (.getfield 140, 3) := by decide +kernel
theorem dX12_readsFactor_42 : decode cX12_readsFactor 42 = .ok (.invokevirtual 160, 3) := by decide +kernel
theorem dX12_readsFactor_45 : decode cX12_readsFactor 45 = .ok (.iconst 1, 1) := by decide +kernel
theorem dX12_readsFactor_46 : decode cX12_readsFactor 46 = .ok (.ireturn, 1) := by decide +kernel
theorem dX12_readsFactor_47 : decode cX12_readsFactor 47 = .ok (.aload_n 0, 1) := by decide +kernel
theorem dX12_readsFactor_48 : decode cX12_readsFactor 48 = .ok (.invokevirtual 129, 3) := by decide +kernel
theorem dX12_readsFactor_51 : decode cX12_readsFactor 51 = .ok (.invokestatic 170, 3) := by decide +kernel
theorem dX12_readsFactor_54 : decode cX12_readsFactor 54 = .ok (.istore_n 1, 1) := by decide +kernel
theorem dX12_readsFactor_55 : decode cX12_readsFactor 55 = .ok (.iload_n 1, 1) := by decide +kernel
theorem dX12_readsFactor_56 : decode cX12_readsFactor 56 = .ok (.iconst (-1), 1) := by decide +kernel
theorem dX12_readsFactor_57 : decode cX12_readsFactor 57 = .ok (.if_icmp .ne 13, 3) := by decide +kernel
theorem dX12_readsFactor_60 : decode cX12_readsFactor 60 = .ok (.aload_n 0, 1) := by decide +kernel
theorem dX12_readsFactor_61 : decode cX12_readsFactor 61 = .ok (.iconst 1, 1) := by decide +kernel
theorem dX12_readsFactor_62 : decode cX12_readsFactor 62 = .ok (.aload_n 0, 1) := by decide +kernel
theorem dX12_readsFactor_63 : decode cX12_readsFactor 63 = .ok (.getfield 123, 3) := by decide +kernel
theorem dX12_readsFactor_66 : decode cX12_readsFactor 66 = .ok (.invokevirtual 136, 3) := by decide +kernel
theorem dX12_readsFactor_69 : decode cX12_readsFactor 69 = .ok (.ireturn, 1) := by decide +kernel
theorem dX12_readsFactor_70 : decode cX12_readsFactor 70 = .ok (.aload_n 0, 1) := by decide +kernel
theorem dX12_readsFactor_71 : decode cX12_readsFactor 71 = .ok (.iconst 1, 1) := by decide +kernel
theorem dX12_readsFactor_72 : decode cX12_readsFactor 72 = .ok (.iload_n 1, 1) := by decide +kernel
theorem dX12_readsFactor_73 : decode cX12_readsFactor 73 = .ok (.invokevirtual 160, 3) := by decide +kernel
theorem dX12_readsFactor_76 : decode cX12_readsFactor 76 = .ok (.aload_n 0, 1) := by decide +kernel
theorem dX12_readsFactor_77 : decode cX12_readsFactor 77 = .ok (.aload_n 0, 1) := by decide +kernel
theorem dX12_readsFactor_78 : decode cX12_readsFactor 78 = .ok (.getfield 123, 3) := by decide +kernel
theorem dX12_readsFactor_81 : decode cX12_readsFactor 81 = .ok (.iconst 1, 1) := by decide +kernel
theorem dX12_readsFactor_82 : decode cX12_readsFactor 82 = .ok (.iadd, 1) := by decide +kernel
theorem dX12_readsFactor_83 : decode cX12_readsFactor 83 = .ok (.putfield 123, 3) := by decide +kernel
theorem dX12_readsFactor_86 : decode cX12_readsFactor 86 = .ok (.iconst 1, 1) := by decide +kernel
theorem dX12_readsFactor_87 : decode cX12_readsFactor 87 = .ok (.ireturn, 1) := by decide +kernel
theorem dX12_hasOpenSum_0 : decode cX12_hasOpenSum 0 = .ok (.iload_n 1, 1) := by decide +kernel
theorem dX12_hasOpenSum_1 : decode cX12_hasOpenSum 1 = .ok (.istore_n 2, 1) := by decide +kernel
theorem dX12_hasOpenSum_2 : decode cX12_hasOpenSum 2 = .ok (.iload_n 2, 1) := by decide +kernel
theorem dX12_hasOpenSum_3 : decode cX12_hasOpenSum 3 = .ok (.aload_n 0, 1) := by decide +kernel
theorem dX12_hasOpenSum_4 : decode cX12_hasOpenSum 4 = .ok (.getfield 154, 3) := by decide +kernel
theorem dX12_hasOpenSum_7 : decode cX12_hasOpenSum 7 = .ok (.if_icmp .ge 25, 3) := by decide +kernel
theorem dX12_hasOpenSum_10 : decode cX12_hasOpenSum 10 = .ok (.aload_n 0, 1) := by decide +kernel
theorem dX12_hasOpenSum_11 : decode cX12_hasOpenSum 11 = .ok (.getfield 26, 3) := by decide +kernel
theorem dX12_hasOpenSum_14 : decode cX12_hasOpenSum 14 = .ok (.iload_n 2, 1) := by decide +kernel
theorem dX12_hasOpenSum_15 : decode cX12_hasOpenSum 15 = .ok (.iaload, 1) := by decide +kernel
theorem dX12_hasOpenSum_16 : decode cX12_hasOpenSum 16 = .ok (.ldc 150, 2) := by decide +kernel
theorem dX12_hasOpenSum_18 : decode cX12_hasOpenSum 18 = .ok (.idiv, 1) := by decide +kernel
theorem dX12_hasOpenSum_19 : decode cX12_hasOpenSum 19 = .ok (.bipush 14, 2) := by decide +kernel
theorem dX12_hasOpenSum_21 : decode cX12_hasOpenSum 21 = .ok (.if_icmp .ne 5, 3) := by decide +kernel
theorem dX12_hasOpenSum_24 : decode cX12_hasOpenSum 24 = .ok (.iconst 1, 1) := by decide +kernel
theorem dX12_hasOpenSum_25 : decode cX12_hasOpenSum 25 = .ok (.ireturn, 1) := by decide +kernel
theorem dX12_hasOpenSum_26 : decode cX12_hasOpenSum 26 = .ok (.iinc 2 1, 3) := by decide +kernel
theorem dX12_hasOpenSum_29 : decode cX12_hasOpenSum 29 = .ok (.goto (-27), 3) := by decide +kernel
theorem dX12_hasOpenSum_32 : decode cX12_hasOpenSum 32 = .ok (.iconst 0, 1) := by decide +kernel
theorem dX12_hasOpenSum_33 : decode cX12_hasOpenSum 33 = .ok (.ireturn, 1) := by decide +kernel
theorem dX12_readsSum_0 : decode cX12_readsSum 0 = .ok (.aload_n 0, 1) := by decide +kernel
theorem dX12_readsSum_1 : decode cX12_readsSum 1 = .ok (.getfield 154, 3) := by decide +kernel
theorem dX12_readsSum_4 : decode cX12_readsSum 4 = .ok (.istore_n 1, 1) := by decide +kernel
theorem dX12_readsSum_5 : decode cX12_readsSum 5 = .ok (.aload_n 0, 1) := by decide +kernel
theorem dX12_readsSum_6 : decode cX12_readsSum 6 = .ok (.invokevirtual 174, 3) := by decide +kernel
theorem dX12_readsSum_9 : decode cX12_readsSum 9 = .ok (.ifCond .ne 5, 3) := by decide +kernel
theorem dX12_readsSum_12 : decode cX12_readsSum 12 = .ok (.iconst 0, 1) := by decide +kernel
theorem dX12_readsSum_13 : decode cX12_readsSum 13 = .ok (.ireturn, 1) := by decide +kernel
