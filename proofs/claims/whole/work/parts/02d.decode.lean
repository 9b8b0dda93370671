theorem dX12_breakfast_39 : decode cX12_breakfast 39 = .ok (.aload_n 0, 1) := by decide +kernel
theorem dX12_breakfast_40 : decode cX12_breakfast 40 = .ok (.iload 5, 2) := by decide +kernel
theorem dX12_breakfast_42 : decode cX12_breakfast 42 = .ok (.invokevirtual 227, 3) := by decide +kernel
theorem dX12_breakfast_45 : decode cX12_breakfast 45 = .ok (.iload_n 3, 1) := by decide +kernel
theorem dX12_breakfast_46 : decode cX12_breakfast 46 = .ok (.if_icmp .le 13, 3) := by decide +kernel
theorem dX12_breakfast_49 : decode cX12_breakfast 49 = .ok (.aload_n 0, 1) := by decide +kernel
theorem dX12_breakfast_50 : decode cX12_breakfast 50 = .ok (.iload 5, 2) := by decide +kernel
theorem dX12_breakfast_52 : decode cX12_breakfast 52 = .ok (.invokevirtual 227, 3) := by decide +kernel
theorem dX12_breakfast_55 : decode cX12_breakfast 55 = .ok (.istore_n 3, 1) := by decide +kernel
theorem dX12_breakfast_56 : decode cX12_breakfast 56 = .ok (.iload 5, 2) := by decide +kernel
theorem dX12_breakfast_58 : decode cX12_breakfast 58 = .ok (.istore_n 2, 1) := by decide +kernel
theorem dX12_breakfast_59 : decode cX12_breakfast 59 = .ok (.iload_n 1, 1) := by decide +kernel
theorem dX12_breakfast_60 : decode cX12_breakfast 60 = .ok (.bipush 100, 2) := by decide +kernel
theorem dX12_breakfast_62 : decode cX12_breakfast 62 = .ok (.if_icmp .eq 26, 3) := by decide +kernel
theorem dX12_breakfast_65 : decode cX12_breakfast 65 = .ok (.aload_n 0, 1) := by decide +kernel
theorem dX12_breakfast_66 : decode cX12_breakfast 66 = .ok (.getfield 7, 3) := by decide +kernel
theorem dX12_breakfast_69 : decode cX12_breakfast 69 = .ok (.iload 5, 2) := by decide +kernel
theorem dX12_breakfast_71 : decode cX12_breakfast 71 = .ok (.iload_n 1, 1) := by decide +kernel
theorem dX12_breakfast_72 : decode cX12_breakfast 72 = .ok (.invokestatic 94, 3) := by decide +kernel
theorem dX12_breakfast_75 : decode cX12_breakfast 75 = .ok (.iaload, 1) := by decide +kernel
theorem dX12_breakfast_76 : decode cX12_breakfast 76 = .ok (.ifCond .le 12, 3) := by decide +kernel
theorem dX12_breakfast_79 : decode cX12_breakfast 79 = .ok (.iload 4, 2) := by decide +kernel
theorem dX12_breakfast_81 : decode cX12_breakfast 81 = .ok (.iconst 1, 1) := by decide +kernel
theorem dX12_breakfast_82 : decode cX12_breakfast 82 = .ok (.iload 5, 2) := by decide +kernel
theorem dX12_breakfast_84 : decode cX12_breakfast 84 = .ok (.ishl, 1) := by decide +kernel
theorem dX12_breakfast_85 : decode cX12_breakfast 85 = .ok (.ior, 1) := by decide +kernel
theorem dX12_breakfast_86 : decode cX12_breakfast 86 = .ok (.istore 4, 2) := by decide +kernel
theorem dX12_breakfast_88 : decode cX12_breakfast 88 = .ok (.iinc 5 1, 3) := by decide +kernel
theorem dX12_breakfast_91 : decode cX12_breakfast 91 = .ok (.goto (-65), 3) := by decide +kernel
theorem dX12_breakfast_94 : decode cX12_breakfast 94 = .ok (.iload_n 1, 1) := by decide +kernel
theorem dX12_breakfast_95 : decode cX12_breakfast 95 = .ok (.bipush 100, 2) := by decide +kernel
theorem dX12_breakfast_97 : decode cX12_breakfast 97 = .ok (.if_icmp .ne 7, 3) := by decide +kernel
theorem dX12_breakfast_100 : decode cX12_breakfast 100 = .ok (.iload_n 2, 1) := by decide +kernel
theorem dX12_breakfast_101 : decode cX12_breakfast 101 = .ok (.goto 5, 3) := by decide +kernel
theorem dX12_breakfast_104 : decode cX12_breakfast 104 = .ok (.iload 4, 2) := by decide +kernel
theorem dX12_breakfast_106 : decode cX12_breakfast 106 = .ok (.ireturn, 1) := by decide +kernel
theorem dX12_lowers_0 : decode cX12_lowers 0 = .ok (.aload_n 0, 1) := by decide +kernel
theorem dX12_lowers_1 : decode cX12_lowers 1 = .ok (.getfield 7, 3) := by decide +kernel
theorem dX12_lowers_4 : decode cX12_lowers 4 = .ok (.bipush 96, 2) := by decide +kernel
theorem dX12_lowers_6 : decode cX12_lowers 6 = .ok (.iload_n 2, 1) := by decide +kernel
theorem dX12_lowers_7 : decode cX12_lowers 7 = .ok (.iadd, 1) := by decide +kernel
theorem dX12_lowers_8 : decode cX12_lowers 8 = .ok (.iaload, 1) := by decide +kernel
theorem dX12_lowers_9 : decode cX12_lowers 9 = .ok (.iload 4, 2) := by decide +kernel
theorem dX12_lowers_11 : decode cX12_lowers 11 = .ok (.if_icmp .le 5, 3) := by decide +kernel
theorem dX12_lowers_14 : decode cX12_lowers 14 = .ok (.iconst 0, 1) := by decide +kernel
theorem dX12_lowers_15 : decode cX12_lowers 15 = .ok (.ireturn, 1) := by decide +kernel
theorem dX12_lowers_16 : decode cX12_lowers 16 = .ok (.iconst 0, 1) := by decide +kernel
theorem dX12_lowers_17 : decode cX12_lowers 17 = .ok (.istore 5, 2) := by decide +kernel
theorem dX12_lowers_19 : decode cX12_lowers 19 = .ok (.iconst 0, 1) := by decide +kernel
theorem dX12_lowers_20 : decode cX12_lowers 20 = .ok (.istore 6, 2) := by decide +kernel
theorem dX12_lowers_22 : decode cX12_lowers 22 = .ok (.iload 6, 2) := by decide +kernel
theorem dX12_lowers_24 : decode cX12_lowers 24 = .ok (.iconst 3, 1) := by decide +kernel
theorem dX12_lowers_25 : decode cX12_lowers 25 = .ok (.if_icmp .ge 87, 3) := by decide +kernel
theorem dX12_lowers_28 : decode cX12_lowers 28 = .ok (.aload_n 0, 1) := by decide +kernel
theorem dX12_lowers_29 : decode cX12_lowers 29 = .ok (.getfield 84, 3) := by decide +kernel
theorem dX12_lowers_32 : decode cX12_lowers 32 = .ok (.iconst 3, 1) := by decide +kernel
theorem dX12_lowers_33 : decode cX12_lowers 33 = .ok (.iload_n 1, 1) := by decide +kernel
theorem dX12_lowers_34 : decode cX12_lowers 34 = .ok (.imul, 1) := by decide +kernel
theorem dX12_lowers_35 : decode cX12_lowers 35 = .ok (.iload 6, 2) := by decide +kernel
theorem dX12_lowers_37 : decode cX12_lowers 37 = .ok (.iadd, 1) := by decide +kernel
theorem dX12_lowers_38 : decode cX12_lowers 38 = .ok (.iaload, 1) := by decide +kernel
theorem dX12_lowers_39 : decode cX12_lowers 39 = .ok (.iconst 1, 1) := by decide +kernel
theorem dX12_lowers_40 : decode cX12_lowers 40 = .ok (.iadd, 1) := by decide +kernel
theorem dX12_lowers_41 : decode cX12_lowers 41 = .ok (.iload 6, 2) := by decide +kernel
theorem dX12_lowers_43 : decode cX12_lowers 43 = .ok (.iload_n 3, 1) := by decide +kernel
theorem dX12_lowers_44 : decode cX12_lowers 44 = .ok (.if_icmp .ne 7, 3) := by decide +kernel
theorem dX12_lowers_47 : decode cX12_lowers 47 = .ok (.iconst 0, 1) := by decide +kernel
theorem dX12_lowers_48 : decode cX12_lowers 48 = .ok (.goto 5, 3) := by decide +kernel
theorem dX12_lowers_51 : decode cX12_lowers 51 = .ok (.bipush 100, 2) := by decide +kernel
theorem dX12_lowers_53 : decode cX12_lowers 53 = .ok (.iadd, 1) := by decide +kernel
theorem dX12_lowers_54 : decode cX12_lowers 54 = .ok (.istore 7, 2) := by decide +kernel
theorem dX12_lowers_56 : decode cX12_lowers 56 = .ok (.aload_n 0, 1) := by decide +kernel
theorem dX12_lowers_57 : decode cX12_lowers 57 = .ok (.getfield 84, 3) := by decide +kernel
theorem dX12_lowers_60 : decode cX12_lowers 60 = .ok (.iconst 3, 1) := by decide +kernel
theorem dX12_lowers_61 : decode cX12_lowers 61 = .ok (.iload_n 1, 1) := by decide +kernel
theorem dX12_lowers_62 : decode cX12_lowers 62 = .ok (.imul, 1) := by decide +kernel
theorem dX12_lowers_63 : decode cX12_lowers 63 = .ok (.iload 6, 2) := by decide +kernel
theorem dX12_lowers_65 : decode cX12_lowers 65 = .ok (.iadd, 1) := by decide +kernel
theorem dX12_lowers_66 : decode cX12_lowers 66 = .ok (.iaload, 1) := by decide +kernel
theorem dX12_lowers_67 : decode cX12_lowers 67 = .ok (.ldc_w 312, 3) := by decide +kernel
theorem dX12_lowers_70 : decode cX12_lowers 70 = .ok (.if_icmp .ge 36, 3) := by decide +kernel
theorem dX12_lowers_73 : decode cX12_lowers 73 = .ok (.iload 7, 2) := by decide +kernel
theorem dX12_lowers_75 : decode cX12_lowers 75 = .ok (.aload_n 0, 1) := by decide +kernel
theorem dX12_lowers_76 : decode cX12_lowers 76 = .ok (.getfield 84, 3) := by decide +kernel
theorem dX12_lowers_79 : decode cX12_lowers 79 = .ok (.iconst 3, 1) := by decide +kernel
theorem dX12_lowers_80 : decode cX12_lowers 80 = .ok (.iload_n 2, 1) := by decide +kernel
theorem dX12_lowers_81 : decode cX12_lowers 81 = .ok (.imul, 1) := by decide +kernel
theorem dX12_lowers_82 : decode cX12_lowers 82 = .ok (.iload_n 3, 1) := by decide +kernel
theorem dX12_lowers_83 : decode cX12_lowers 83 = .ok (.iadd, 1) := by decide +kernel
theorem dX12_lowers_84 : decode cX12_lowers 84 = .ok (.iaload, 1) := by decide +kernel
theorem dX12_lowers_85 : decode cX12_lowers 85 = .ok (.if_icmp .lt 6, 3) := by decide +kernel
theorem dX12_lowers_88 : decode cX12_lowers 88 = .ok (.goto 18, 3) := by decide +kernel
theorem dX12_lowers_91 : decode cX12_lowers 91 = .ok (.aload_n 0, 1) := by decide +kernel
theorem dX12_lowers_92 : decode cX12_lowers 92 = .ok (.getfield 84, 3) := by decide +kernel
theorem dX12_lowers_95 : decode cX12_lowers 95 = .ok (.iconst 3, 1) := by decide +kernel
theorem dX12_lowers_96 : decode cX12_lowers 96 = .ok (.iload_n 2, 1) := by decide +kernel
theorem dX12_lowers_97 : decode cX12_lowers 97 = .ok (.imul, 1) := by decide +kernel
theorem dX12_lowers_98 : decode cX12_lowers 98 = .ok (.iload_n 3, 1) := by decide +kernel
theorem dX12_lowers_99 : decode cX12_lowers 99 = .ok (.iadd, 1) := by decide +kernel
theorem dX12_lowers_100 : decode cX12_lowers 100 = .ok (.iload 7, 2) := by decide +kernel
theorem dX12_lowers_102 : decode cX12_lowers 102 = .ok (.iastore, 1) := by decide +kernel
theorem dX12_lowers_103 : decode cX12_lowers 103 = .ok (.iconst 1, 1) := by decide +kernel
theorem dX12_lowers_104 : decode cX12_lowers 104 = .ok (.istore 5, 2) := by decide +kernel
theorem dX12_lowers_106 : decode cX12_lowers 106 = .ok (.iinc 6 1, 3) := by decide +kernel
theorem dX12_lowers_109 : decode cX12_lowers 109 = .ok (.goto (-87), 3) := by decide +kernel
theorem dX12_lowers_112 : decode cX12_lowers 112 = .ok (.iload 5, 2) := by decide +kernel
theorem dX12_lowers_114 : decode cX12_lowers 114 = .ok (.ireturn, 1) := by decide +kernel
theorem dX12_lowersAll_0 : decode cX12_lowersAll 0 = .ok (.iconst 0, 1) := by decide +kernel
theorem dX12_lowersAll_1 : decode cX12_lowersAll 1 = .ok (.istore_n 2, 1) := by decide +kernel
theorem dX12_lowersAll_2 : decode cX12_lowersAll 2 = .ok (.iconst 0, 1) := by decide +kernel
theorem dX12_lowersAll_3 : decode cX12_lowersAll 3 = .ok (.istore_n 3, 1) := by decide +kernel
theorem dX12_lowersAll_4 : decode cX12_lowersAll 4 = .ok (.iload_n 3, 1) := by decide +kernel
theorem dX12_lowersAll_5 : decode cX12_lowersAll 5 = .ok (.bipush 24, 2) := by decide +kernel
theorem dX12_lowersAll_7 : decode cX12_lowersAll 7 = .ok (.if_icmp .ge 74, 3) := by decide +kernel
theorem dX12_lowersAll_10 : decode cX12_lowersAll 10 = .ok (.iload_n 3, 1) := by decide +kernel
theorem dX12_lowersAll_11 : decode cX12_lowersAll 11 = .ok (.iconst 4, 1) := by decide +kernel
theorem dX12_lowersAll_12 : decode cX12_lowersAll 12 = .ok (.idiv, 1) := by decide +kernel
theorem dX12_lowersAll_13 : decode cX12_lowersAll 13 = .ok (.iconst 5, 1) := by decide +kernel
theorem dX12_lowersAll_14 : decode cX12_lowersAll 14 = .ok (.if_icmp .ge 18, 3) := by decide +kernel
theorem dX12_lowersAll_17 : decode cX12_lowersAll 17 = .ok (.aload_n 0, 1) := by decide +kernel
theorem dX12_lowersAll_18 : decode cX12_lowersAll 18 = .ok (.iload_n 3, 1) := by decide +kernel
theorem dX12_lowersAll_19 : decode cX12_lowersAll 19 = .ok (.iconst 4, 1) := by decide +kernel
theorem dX12_lowersAll_20 : decode cX12_lowersAll 20 = .ok (.iadd, 1) := by decide +kernel
theorem dX12_lowersAll_21 : decode cX12_lowersAll 21 = .ok (.iload_n 3, 1) := by decide +kernel
theorem dX12_lowersAll_22 : decode cX12_lowersAll 22 = .ok (.iconst 0, 1) := by decide +kernel
theorem dX12_lowersAll_23 : decode cX12_lowersAll 23 = .ok (.iload_n 1, 1) := by decide +kernel
theorem dX12_lowersAll_24 : decode cX12_lowersAll 24 = .ok (.invokevirtual 344, 3) := by decide +kernel
theorem dX12_lowersAll_27 : decode cX12_lowersAll 27 = .ok (.ifCond .eq 5, 3) := by decide +kernel
theorem dX12_lowersAll_30 : decode cX12_lowersAll 30 = .ok (.iconst 1, 1) := by decide +kernel
theorem dX12_lowersAll_31 : decode cX12_lowersAll 31 = .ok (.istore_n 2, 1) := by decide +kernel
theorem dX12_lowersAll_32 : decode cX12_lowersAll 32 = .ok (.iload_n 3, 1) := by decide +kernel
theorem dX12_lowersAll_33 : decode cX12_lowersAll 33 = .ok (.iconst 4, 1) := by decide +kernel
theorem dX12_lowersAll_34 : decode cX12_lowersAll 34 = .ok (.irem, 1) := by decide +kernel
theorem dX12_lowersAll_35 : decode cX12_lowersAll 35 = .ok (.iconst 3, 1) := by decide +kernel
theorem dX12_lowersAll_36 : decode cX12_lowersAll 36 = .ok (.if_icmp .ge 18, 3) := by decide +kernel
theorem dX12_lowersAll_39 : decode cX12_lowersAll 39 = .ok (.aload_n 0, 1) := by decide +kernel
theorem dX12_lowersAll_40 : decode cX12_lowersAll 40 = .ok (.iload_n 3, 1) := by decide +kernel
theorem dX12_lowersAll_41 : decode cX12_lowersAll 41 = .ok (.iconst 1, 1) := by decide +kernel
theorem dX12_lowersAll_42 : decode cX12_lowersAll 42 = .ok (.iadd, 1) := by decide +kernel
theorem dX12_lowersAll_43 : decode cX12_lowersAll 43 = .ok (.iload_n 3, 1) := by decide +kernel
theorem dX12_lowersAll_44 : decode cX12_lowersAll 44 = .ok (.iconst 1, 1) := by decide +kernel
theorem dX12_lowersAll_45 : decode cX12_lowersAll 45 = .ok (.iload_n 1, 1) := by decide +kernel
theorem dX12_lowersAll_46 : decode cX12_lowersAll 46 = .ok (.invokevirtual 344, 3) := by decide +kernel
theorem dX12_lowersAll_49 : decode cX12_lowersAll 49 = .ok (.ifCond .eq 5, 3) := by decide +kernel
theorem dX12_lowersAll_52 : decode cX12_lowersAll 52 = .ok (.iconst 1, 1) := by decide +kernel
theorem dX12_lowersAll_53 : decode cX12_lowersAll 53 = .ok (.istore_n 2, 1) := by decide +kernel
theorem dX12_lowersAll_54 : decode cX12_lowersAll 54 = .ok (.iload_n 3, 1) := by decide +kernel
theorem dX12_lowersAll_55 : decode cX12_lowersAll 55 = .ok (.iconst 4, 1) := by decide +kernel
theorem dX12_lowersAll_56 : decode cX12_lowersAll 56 = .ok (.irem, 1) := by decide +kernel
theorem dX12_lowersAll_57 : decode cX12_lowersAll 57 = .ok (.ifCond .le 18, 3) := by decide +kernel
theorem dX12_lowersAll_60 : decode cX12_lowersAll 60 = .ok (.aload_n 0, 1) := by decide +kernel
theorem dX12_lowersAll_61 : decode cX12_lowersAll 61 = .ok (.iload_n 3, 1) := by decide +kernel
theorem dX12_lowersAll_62 : decode cX12_lowersAll 62 = .ok (.iconst 1, 1) := by decide +kernel
theorem dX12_lowersAll_63 : decode cX12_lowersAll 63 = .ok (.isub, 1) := by decide +kernel
theorem dX12_lowersAll_64 : decode cX12_lowersAll 64 = .ok (.iload_n 3, 1) := by decide +kernel
theorem dX12_lowersAll_65 : decode cX12_lowersAll 65 = .ok (.iconst 2, 1) := by decide +kernel
theorem dX12_lowersAll_66 : decode cX12_lowersAll 66 = .ok (.iload_n 1, 1) := by decide +kernel
theorem dX12_lowersAll_67 : decode cX12_lowersAll 67 = .ok (.invokevirtual 344, 3) := by decide +kernel
theorem dX12_lowersAll_70 : decode cX12_lowersAll 70 = .ok (.ifCond .eq 5, 3) := by decide +kernel
theorem dX12_lowersAll_73 : decode cX12_lowersAll 73 = .ok (.iconst 1, 1) := by decide +kernel
theorem dX12_lowersAll_74 : decode cX12_lowersAll 74 = .ok (.istore_n 2, 1) := by decide +kernel
theorem dX12_lowersAll_75 : decode cX12_lowersAll 75 = .ok (.iinc 3 1, 3) := by decide +kernel
theorem dX12_lowersAll_78 : decode cX12_lowersAll 78 = .ok (.goto (-74), 3) := by decide +kernel
theorem dX12_lowersAll_81 : decode cX12_lowersAll 81 = .ok (.iload_n 2, 1) := by decide +kernel
theorem dX12_lowersAll_82 : decode cX12_lowersAll 82 = .ok (.ireturn, 1) := by decide +kernel
theorem dX12_ropes_0 : decode cX12_ropes 0 = .ok (.iload_n 1, 1) := by decide +kernel
theorem dX12_ropes_1 : decode cX12_ropes 1 = .ok (.invokestatic 107, 3) := by decide +kernel
theorem dX12_ropes_4 : decode cX12_ropes 4 = .ok (.ifCond .eq 23, 3) := by decide +kernel
theorem dX12_ropes_7 : decode cX12_ropes 7 = .ok (.iload_n 2, 1) := by decide +kernel
theorem dX12_ropes_8 : decode cX12_ropes 8 = .ok (.iconst 0, 1) := by decide +kernel
theorem dX12_ropes_9 : decode cX12_ropes 9 = .ok (.ldc_w 264, 3) := by decide +kernel
theorem dX12_ropes_12 : decode cX12_ropes 12 = .ok (.invokestatic 90, 3) := by decide +kernel
theorem dX12_ropes_15 : decode cX12_ropes 15 = .ok (.ifCond .eq 12, 3) := by decide +kernel
theorem dX12_ropes_18 : decode cX12_ropes 18 = .ok (.iload_n 3, 1) := by decide +kernel
theorem dX12_ropes_19 : decode cX12_ropes 19 = .ok (.iconst 0, 1) := by decide +kernel
theorem dX12_ropes_20 : decode cX12_ropes 20 = .ok (.iconst 1, 1) := by decide +kernel
theorem dX12_ropes_21 : decode cX12_ropes 21 = .ok (.invokestatic 90, 3) := by decide +kernel
theorem dX12_ropes_24 : decode cX12_ropes 24 = .ok (.ifCond .ne 5, 3) := by decide +kernel
theorem dX12_ropes_27 : decode cX12_ropes 27 = .ok (.iconst (-1), 1) := by decide +kernel
theorem dX12_ropes_28 : decode cX12_ropes 28 = .ok (.ireturn, 1) := by decide +kernel
theorem dX12_ropes_29 : decode cX12_ropes 29 = .ok (.iconst 0, 1) := by decide +kernel
theorem dX12_ropes_30 : decode cX12_ropes 30 = .ok (.istore 4, 2) := by decide +kernel
theorem dX12_ropes_32 : decode cX12_ropes 32 = .ok (.iload 4, 2) := by decide +kernel
theorem dX12_ropes_34 : decode cX12_ropes 34 = .ok (.bipush 72, 2) := by decide +kernel
theorem dX12_ropes_36 : decode cX12_ropes 36 = .ok (.if_icmp .ge 19, 3) := by decide +kernel
theorem dX12_ropes_39 : decode cX12_ropes 39 = .ok (.aload_n 0, 1) := by decide +kernel
theorem dX12_ropes_40 : decode cX12_ropes 40 = .ok (.getfield 84, 3) := by decide +kernel
theorem dX12_ropes_43 : decode cX12_ropes 43 = .ok (.iload 4, 2) := by decide +kernel
theorem dX12_ropes_45 : decode cX12_ropes 45 = .ok (.ldc_w 312, 3) := by decide +kernel
theorem dX12_ropes_48 : decode cX12_ropes 48 = .ok (.iastore, 1) := by decide +kernel
theorem dX12_ropes_49 : decode cX12_ropes 49 = .ok (.iinc 4 1, 3) := by decide +kernel
theorem dX12_ropes_52 : decode cX12_ropes 52 = .ok (.goto (-20), 3) := by decide +kernel
theorem dX12_ropes_55 : decode cX12_ropes 55 = .ok (.bipush 20, 2) := by decide +kernel
theorem dX12_ropes_57 : decode cX12_ropes 57 = .ok (.istore 4, 2) := by decide +kernel
theorem dX12_ropes_59 : decode cX12_ropes 59 = .ok (.iload 4, 2) := by decide +kernel
theorem dX12_ropes_61 : decode cX12_ropes 61 = .ok (.bipush 24, 2) := by decide +kernel
theorem dX12_ropes_63 : decode cX12_ropes 63 = .ok (.if_icmp .ge 33, 3) := by decide +kernel
theorem dX12_ropes_66 : decode cX12_ropes 66 = .ok (.aload_n 0, 1) := by decide +kernel
theorem dX12_ropes_67 : decode cX12_ropes 67 = .ok (.getfield 7, 3) := by decide +kernel
theorem dX12_ropes_70 : decode cX12_ropes 70 = .ok (.bipush 96, 2) := by decide +kernel
theorem dX12_ropes_72 : decode cX12_ropes 72 = .ok (.iload 4, 2) := by decide +kernel
theorem dX12_ropes_74 : decode cX12_ropes 74 = .ok (.iadd, 1) := by decide +kernel
theorem dX12_ropes_75 : decode cX12_ropes 75 = .ok (.iaload, 1) := by decide +kernel
theorem dX12_ropes_76 : decode cX12_ropes 76 = .ok (.iload_n 2, 1) := by decide +kernel
theorem dX12_ropes_77 : decode cX12_ropes 77 = .ok (.if_icmp .gt 13, 3) := by decide +kernel
theorem dX12_ropes_80 : decode cX12_ropes 80 = .ok (.aload_n 0, 1) := by decide +kernel
theorem dX12_ropes_81 : decode cX12_ropes 81 = .ok (.getfield 84, 3) := by decide +kernel
theorem dX12_ropes_84 : decode cX12_ropes 84 = .ok (.iconst 3, 1) := by decide +kernel
theorem dX12_ropes_85 : decode cX12_ropes 85 = .ok (.iload 4, 2) := by decide +kernel
theorem dX12_ropes_87 : decode cX12_ropes 87 = .ok (.imul, 1) := by decide +kernel
theorem dX12_ropes_88 : decode cX12_ropes 88 = .ok (.iconst 1, 1) := by decide +kernel
theorem dX12_ropes_89 : decode cX12_ropes 89 = .ok (.iastore, 1) := by decide +kernel
theorem dX12_ropes_90 : decode cX12_ropes 90 = .ok (.iinc 4 1, 3) := by decide +kernel
theorem dX12_ropes_93 : decode cX12_ropes 93 = .ok (.goto (-34), 3) := by decide +kernel
theorem dX12_ropes_96 : decode cX12_ropes 96 = .ok (.iconst 1, 1) := by decide +kernel
theorem dX12_ropes_97 : decode cX12_ropes 97 = .ok (.istore 4, 2) := by decide +kernel
theorem dX12_ropes_99 : decode cX12_ropes 99 = .ok (.iload 4, 2) := by decide +kernel
theorem dX12_ropes_101 : decode cX12_ropes 101 = .ok (.ifCond .eq 13, 3) := by decide +kernel
theorem dX12_ropes_104 : decode cX12_ropes 104 = .ok (.aload_n 0, 1) := by decide +kernel
theorem dX12_ropes_105 : decode cX12_ropes 105 = .ok (.iload_n 2, 1) := by decide +kernel
theorem dX12_ropes_106 : decode cX12_ropes 106 = .ok (.invokevirtual 348, 3) := by decide +kernel
theorem dX12_ropes_109 : decode cX12_ropes 109 = .ok (.istore 4, 2) := by decide +kernel
theorem dX12_ropes_111 : decode cX12_ropes 111 = .ok (.goto (-12), 3) := by decide +kernel
theorem dX12_ropes_114 : decode cX12_ropes 114 = .ok (.aload_n 0, 1) := by decide +kernel
theorem dX12_ropes_115 : decode cX12_ropes 115 = .ok (.getfield 84, 3) := by decide +kernel
theorem dX12_ropes_118 : decode cX12_ropes 118 = .ok (.iconst 3, 1) := by decide +kernel
theorem dX12_ropes_119 : decode cX12_ropes 119 = .ok (.iload_n 1, 1) := by decide +kernel
theorem dX12_ropes_120 : decode cX12_ropes 120 = .ok (.imul, 1) := by decide +kernel
theorem dX12_ropes_121 : decode cX12_ropes 121 = .ok (.iaload, 1) := by decide +kernel
theorem dX12_ropes_122 : decode cX12_ropes 122 = .ok (.aload_n 0, 1) := by decide +kernel
theorem dX12_ropes_123 : decode cX12_ropes 123 = .ok (.getfield 84, 3) := by decide +kernel
theorem dX12_ropes_126 : decode cX12_ropes 126 = .ok (.iconst 3, 1) := by decide +kernel
theorem dX12_ropes_127 : decode cX12_ropes 127 = .ok (.iload_n 1, 1) := by decide +kernel
theorem dX12_ropes_128 : decode cX12_ropes 128 = .ok (.imul, 1) := by decide +kernel
theorem dX12_ropes_129 : decode cX12_ropes 129 = .ok (.iconst 1, 1) := by decide +kernel
theorem dX12_ropes_130 : decode cX12_ropes 130 = .ok (.iadd, 1) := by decide +kernel
theorem dX12_ropes_131 : decode cX12_ropes 131 = .ok (.iaload, 1) := by decide +kernel
theorem dX12_ropes_132 : decode cX12_ropes 132 = .ok (.aload_n 0, 1) := by decide +kernel
theorem dX12_ropes_133 : decode cX12_ropes 133 = .ok (.getfield 84, 3) := by decide +kernel
theorem dX12_ropes_136 : decode cX12_ropes 136 = .ok (.iconst 3, 1) := by decide +kernel
theorem dX12_ropes_137 : decode cX12_ropes 137 = .ok (.iload_n 1, 1) := by decide +kernel
theorem dX12_ropes_138 : decode cX12_ropes 138 = .ok (.imul, 1) := by decide +kernel
theorem dX12_ropes_139 : decode cX12_ropes 139 = .ok (.iconst 2, 1) := by decide +kernel
theorem dX12_ropes_140 : decode cX12_ropes 140 = .ok (.iadd, 1) := by decide +kernel
theorem dX12_ropes_141 : decode cX12_ropes 141 = .ok (.iaload, 1) := by decide +kernel
theorem dX12_ropes_142 : decode cX12_ropes 142 = .ok (.invokestatic 98, 3) := by decide +kernel
theorem dX12_ropes_145 : decode cX12_ropes 145 = .ok (.invokestatic 98, 3) := by decide +kernel
theorem dX12_ropes_148 : decode cX12_ropes 148 = .ok (.istore 5, 2) := by decide +kernel
theorem dX12_ropes_150 : decode cX12_ropes 150 = .ok (.iload 5, 2) := by decide +kernel
theorem dX12_ropes_152 : decode cX12_ropes 152 = .ok (.ldc_w 312, 3) := by decide +kernel
theorem dX12_ropes_155 : decode cX12_ropes 155 = .ok (.if_icmp .lt 6, 3) := by decide +kernel
theorem dX12_ropes_158 : decode cX12_ropes 158 = .ok (.bipush (-2), 2) := by decide +kernel
theorem dX12_ropes_160 : decode cX12_ropes 160 = .ok (.ireturn, 1) := by decide +kernel
theorem dX12_ropes_161 : decode cX12_ropes 161 = .ok (.iload_n 3, 1) := by decide +kernel
theorem dX12_ropes_162 : decode cX12_ropes 162 = .ok (.ifCond .ne 11, 3) := by decide +kernel
theorem dX12_ropes_165 : decode cX12_ropes 165 = .ok (.iload 5, 2) := by decide +kernel
theorem dX12_ropes_167 : decode cX12_ropes 167 = .ok (.bipush 100, 2) := by decide +kernel
theorem dX12_ropes_169 : decode cX12_ropes 169 = .ok (.idiv, 1) := by decide +kernel
theorem dX12_ropes_170 : decode cX12_ropes 170 = .ok (.goto 8, 3) := by decide +kernel
theorem dX12_ropes_173 : decode cX12_ropes 173 = .ok (.iload 5, 2) := by decide +kernel
theorem dX12_ropes_175 : decode cX12_ropes 175 = .ok (.bipush 100, 2) := by decide +kernel
theorem dX12_ropes_177 : decode cX12_ropes 177 = .ok (.irem, 1) := by decide +kernel
theorem dX12_ropes_178 : decode cX12_ropes 178 = .ok (.ireturn, 1) := by decide +kernel
theorem dX12_readsTaps_0 : decode cX12_readsTaps 0 = .ok (.aload_n 0, 1) := by decide +kernel
theorem dX12_readsTaps_1 : decode cX12_readsTaps 1 = .ok (.iconst 0, 1) := by decide +kernel
theorem dX12_readsTaps_2 : decode cX12_readsTaps 2 = .ok (.putfield 140, 3) := by decide +kernel
theorem dX12_readsTaps_5 : decode cX12_readsTaps 5 = .ok (.aload_n 0, 1) := by decide +kernel
theorem dX12_readsTaps_6 : decode cX12_readsTaps 6 = .ok (.invokevirtual 129, 3) := by decide +kernel
theorem dX12_readsTaps_9 : decode cX12_readsTaps 9 = .ok (.bipush 120, 2) := by decide +kernel
theorem dX12_readsTaps_11 : decode cX12_readsTaps 11 = .ok (.if_icmp .eq 13, 3) := by decide +kernel
theorem dX12_readsTaps_14 : decode cX12_readsTaps 14 = .ok (.aload_n 0, 1) := by decide +kernel
theorem dX12_readsTaps_15 : decode cX12_readsTaps 15 = .ok (.iconst 1, 1) := by decide +kernel
theorem dX12_readsTaps_16 : decode cX12_readsTaps 16 = .ok (.aload_n 0, 1) := by decide +kernel
theorem dX12_readsTaps_17 : decode cX12_readsTaps 17 = .ok (.getfield 123, 3) := by decide +kernel
theorem dX12_readsTaps_20 : decode cX12_readsTaps 20 = .ok (.invokevirtual 136, 3) := by decide +kernel
theorem dX12_readsTaps_23 : decode cX12_readsTaps 23 = .ok (.ireturn, 1) := by decide +kernel
theorem dX12_readsTaps_24 : decode cX12_readsTaps 24 = .ok (.aload_n 0, 1) := by decide +kernel
theorem dX12_readsTaps_25 : decode cX12_readsTaps 25 = .ok (.invokevirtual 129, 3) := by decide +kernel
theorem dX12_readsTaps_28 : decode cX12_readsTaps 28 = .ok (.bipush 120, 2) := by decide +kernel
theorem dX12_readsTaps_30 : decode cX12_readsTaps 30 = .ok (.if_icmp .ne 44, 3) := by decide +kernel
theorem dX12_readsTaps_33 : decode cX12_readsTaps 33 = .ok (.aload_n 0, 1) := by decide +kernel
theorem dX12_readsTaps_34 : decode cX12_readsTaps 34 = .ok (.getfield 140, 3) := by decide +kernel
theorem dX12_readsTaps_37 : decode cX12_readsTaps 37 = .ok (.iconst 5, 1) := by decide +kernel
theorem dX12_readsTaps_38 : decode cX12_readsTaps 38 = .ok (.if_icmp .ne 13, 3) := by decide +kernel
theorem dX12_readsTaps_41 : decode cX12_readsTaps 41 = .ok (.aload_n 0, 1) := by decide +kernel
theorem dX12_readsTaps_42 : decode cX12_readsTaps 42 = .ok (.iconst 2, 1) := by decide +kernel
theorem dX12_readsTaps_43 : decode cX12_readsTaps 43 = .ok (.aload_n 0, 1) := by decide +kernel
theorem dX12_readsTaps_44 : decode cX12_readsTaps 44 = .ok (.getfield 123, 3) := by decide +kernel
theorem dX12_readsTaps_47 : decode cX12_readsTaps 47 = .ok (.invokevirtual 136, 3) := by decide +kernel
theorem dX12_readsTaps_50 : decode cX12_readsTaps 50 = .ok (.ireturn, 1) := by decide +kernel
theorem dX12_readsTaps_51 : decode cX12_readsTaps 51 = .ok (.aload_n 0, 1) := by decide +kernel
theorem dX12_readsTaps_52 : decode cX12_readsTaps 52 = .ok (.aload_n 0, 1) := by decide +kernel
theorem dX12_readsTaps_53 : decode cX12_readsTaps 53 = .ok (.getfield 140, 3) := by decide +kernel
theorem dX12_readsTaps_56 : decode cX12_readsTaps 56 = .ok (.iconst 1, 1) := by decide +kernel
theorem dX12_readsTaps_57 : decode cX12_readsTaps 57 = .ok (.iadd, 1) := by decide +kernel
theorem dX12_readsTaps_58 : decode cX12_readsTaps 58 = .ok (.putfield 140, 3) := by decide +kernel
theorem dX12_readsTaps_61 : decode cX12_readsTaps 61 = .ok (.aload_n 0, 1) := by decide +kernel
theorem dX12_readsTaps_62 : decode cX12_readsTaps 62 = .ok (.aload_n 0, 1) := by decide +kernel
theorem dX12_readsTaps_63 : decode cX12_readsTaps 63 = .ok (.getfield 123, 3) := by decide +kernel
theorem dX12_readsTaps_66 : decode cX12_readsTaps 66 = .ok (.iconst 1, 1) := by decide +kernel
theorem dX12_readsTaps_67 : decode cX12_readsTaps 67 = .ok (.iadd, 1) := by decide +kernel
theorem dX12_readsTaps_68 : decode cX12_readsTaps 68 = .ok (.putfield 123, 3) := by decide +kernel
theorem dX12_readsTaps_71 : decode cX12_readsTaps 71 = .ok (.goto (-47), 3) := by decide +kernel
theorem dX12_readsTaps_74 : decode cX12_readsTaps 74 = .ok (.iconst 1, 1) := by decide +kernel
theorem dX12_readsTaps_75 : decode cX12_readsTaps 75 = .ok (.ireturn, 1) := by decide +kernel
theorem dX12_readsLetter_0 : decode cX12_readsLetter 0 = .ok (.aload_n 0, 1) := by decide +kernel
theorem dX12_readsLetter_1 : decode cX12_readsLetter 1 = .ok (.invokevirtual 351, 3) := by decide +kernel
theorem dX12_readsLetter_4 : decode cX12_readsLetter 4 = .ok (.ifCond .ne 5, 3) := by decide +kernel
theorem dX12_readsLetter_7 : decode cX12_readsLetter 7 = .ok (.iconst 0, 1) := by decide +kernel
theorem dX12_readsLetter_8 : decode cX12_readsLetter 8 = .ok (.ireturn, 1) := by decide +kernel
theorem dX12_readsLetter_9 : decode cX12_readsLetter 9 = .ok (.aload_n 0, 1) := by decide +kernel
theorem dX12_readsLetter_10 : decode cX12_readsLetter 10 = .ok (.getfield 140, 3) := by decide +kernel
theorem dX12_readsLetter_13 : decode cX12_readsLetter 13 = .ok (.istore_n 1, 1) := by decide +kernel
theorem dX12_readsLetter_14 : decode cX12_readsLetter 14 = .ok (.aload_n 0, 1) := by decide +kernel
theorem dX12_readsLetter_15 : decode cX12_readsLetter 15 = .ok (.bipush 46, 2) := by decide +kernel
theorem dX12_readsLetter_17 : decode cX12_readsLetter 17 = .ok (.invokevirtual 214, 3) := by decide +kernel
theorem dX12_readsLetter_20 : decode cX12_readsLetter 20 = .ok (.ifCond .eq 10, 3) := by decide +kernel
theorem dX12_readsLetter_23 : decode cX12_readsLetter 23 = .ok (.aload_n 0, 1) := by decide +kernel
theorem dX12_readsLetter_24 : decode cX12_readsLetter 24 = .ok (.invokevirtual 351, 3) := by decide +kernel
theorem dX12_readsLetter_27 : decode cX12_readsLetter 27 = .ok (.ifCond .ne 5, 3) := by decide +kernel
theorem dX12_readsLetter_30 : decode cX12_readsLetter 30 = .ok (.iconst 0, 1) := by decide +kernel
theorem dX12_readsLetter_31 : decode cX12_readsLetter 31 = .ok (.ireturn, 1) := by decide +kernel
theorem dX12_readsLetter_32 : decode cX12_readsLetter 32 = .ok (.iconst 5, 1) := by decide +kernel
theorem dX12_readsLetter_33 : decode cX12_readsLetter 33 = .ok (.iload_n 1, 1) := by decide +kernel
theorem dX12_readsLetter_34 : decode cX12_readsLetter 34 = .ok (.imul, 1) := by decide +kernel
theorem dX12_readsLetter_35 : decode cX12_readsLetter 35 = .ok (.aload_n 0, 1) := by decide +kernel
theorem dX12_readsLetter_36 : decode cX12_readsLetter 36 = .ok (.getfield 140, 3) := by decide +kernel
theorem dX12_readsLetter_39 : decode cX12_readsLetter 39 = .ok (.iadd, 1) := by decide +kernel
theorem dX12_readsLetter_40 : decode cX12_readsLetter 40 = .ok (.bipush 6, 2) := by decide +kernel
theorem dX12_readsLetter_42 : decode cX12_readsLetter 42 = .ok (.isub, 1) := by decide +kernel
theorem dX12_readsLetter_43 : decode cX12_readsLetter 43 = .ok (.istore_n 2, 1) := by decide +kernel
theorem dX12_readsLetter_44 : decode cX12_readsLetter 44 = .ok (.aload_n 0, 1) := by decide +kernel
theorem dX12_readsLetter_45 : decode cX12_readsLetter 45 = .ok (.getfield 87, 3) := by decide +kernel
theorem dX12_readsLetter_48 : decode cX12_readsLetter 48 = .ok (.aload_n 0, 1) := by decide +kernel
theorem dX12_readsLetter_49 : decode cX12_readsLetter 49 = .ok (.getfield 354, 3) := by decide +kernel
theorem dX12_readsLetter_52 : decode cX12_readsLetter 52 = .ok (.iload_n 2, 1) := by decide +kernel
theorem dX12_readsLetter_53 : decode cX12_readsLetter 53 = .ok (.bipush 10, 2) := by decide +kernel
theorem dX12_readsLetter_55 : decode cX12_readsLetter 55 = .ok (.if_icmp .ge 7, 3) := by decide +kernel
theorem dX12_readsLetter_58 : decode cX12_readsLetter 58 = .ok (.iload_n 2, 1) := by decide +kernel
theorem dX12_readsLetter_59 : decode cX12_readsLetter 59 = .ok (.goto 6, 3) := by decide +kernel
theorem dX12_readsLetter_62 : decode cX12_readsLetter 62 = .ok (.iload_n 2, 1) := by decide +kernel
theorem dX12_readsLetter_63 : decode cX12_readsLetter 63 = .ok (.iconst 1, 1) := by decide +kernel
theorem dX12_readsLetter_64 : decode cX12_readsLetter 64 = .ok (.iadd, 1) := by decide +kernel
theorem dX12_readsLetter_65 : decode cX12_readsLetter 65 = .ok (.iastore, 1) := by decide +kernel
theorem dX12_readsLetter_66 : decode cX12_readsLetter 66 = .ok (.aload_n 0, 1) := by decide +kernel
theorem dX12_readsLetter_67 : decode cX12_readsLetter 67 = .ok (.aload_n 0, 1) := by decide +kernel
theorem dX12_readsLetter_68 : decode cX12_readsLetter 68 = .ok (.getfield 354, 3) := by decide +kernel
theorem dX12_readsLetter_71 : decode cX12_readsLetter 71 = .ok (.iconst 1, 1) := by decide +kernel
theorem dX12_readsLetter_72 : decode cX12_readsLetter 72 = .ok (.iadd, 1) := by decide +kernel
theorem dX12_readsLetter_73 : decode cX12_readsLetter 73 = .ok (.putfield 354, 3) := by decide +kernel
theorem dX12_readsLetter_76 : decode cX12_readsLetter 76 = .ok (.iconst 1, 1) := by decide +kernel
theorem dX12_readsLetter_77 : decode cX12_readsLetter 77 = .ok (.ireturn, 1) := by decide +kernel
theorem dX12_readsPause_0 : decode cX12_readsPause 0 = .ok (.aload_n 0, 1) := by decide +kernel
theorem dX12_readsPause_1 : decode cX12_readsPause 1 = .ok (.bipush 46, 2) := by decide +kernel
theorem dX12_readsPause_3 : decode cX12_readsPause 3 = .ok (.invokevirtual 214, 3) := by decide +kernel
theorem dX12_readsPause_6 : decode cX12_readsPause 6 = .ok (.ifCond .eq 12, 3) := by decide +kernel
theorem dX12_readsPause_9 : decode cX12_readsPause 9 = .ok (.aload_n 0, 1) := by decide +kernel
theorem dX12_readsPause_10 : decode cX12_readsPause 10 = .ok (.bipush 46, 2) := by decide +kernel
theorem dX12_readsPause_12 : decode cX12_readsPause 12 = .ok (.invokevirtual 214, 3) := by decide +kernel
theorem dX12_readsPause_15 : decode cX12_readsPause 15 = .ok (.ifCond .ne 5, 3) := by decide +kernel
theorem dX12_readsPause_18 : decode cX12_readsPause 18 = .ok (.iconst 0, 1) := by decide +kernel
theorem dX12_readsPause_19 : decode cX12_readsPause 19 = .ok (.ireturn, 1) := by decide +kernel
theorem dX12_readsPause_20 : decode cX12_readsPause 20 = .ok (.aload_n 0, 1) := by decide +kernel
theorem dX12_readsPause_21 : decode cX12_readsPause 21 = .ok (.invokevirtual 129, 3) := by decide +kernel
theorem dX12_readsPause_24 : decode cX12_readsPause 24 = .ok (.bipush 46, 2) := by decide +kernel
theorem dX12_readsPause_26 : decode cX12_readsPause 26 = .ok (.if_icmp .ne 15, 3) := by decide +kernel
theorem dX12_readsPause_29 : decode cX12_readsPause 29 = .ok (.aload_n 0, 1) := by decide +kernel
theorem dX12_readsPause_30 : decode cX12_readsPause 30 = .ok (.iconst 3, 1) := by decide +kernel
theorem dX12_readsPause_31 : decode cX12_readsPause 31 = .ok (.aload_n 0, 1) := by decide +kernel
theorem dX12_readsPause_32 : decode cX12_readsPause 32 = .ok (.getfield 123, 3) := by decide +kernel
theorem dX12_readsPause_35 : decode cX12_readsPause 35 = .ok (.invokevirtual 136, 3) := by decide +kernel
theorem dX12_readsPause_38 : decode cX12_readsPause 38 = .ok (.ifCond .eq 7, 3) := by decide +kernel
theorem dX12_readsPause_41 : decode cX12_readsPause 41 = .ok (.iconst 1, 1) := by decide +kernel
theorem dX12_readsPause_42 : decode cX12_readsPause 42 = .ok (.goto 4, 3) := by decide +kernel
theorem dX12_readsPause_45 : decode cX12_readsPause 45 = .ok (.iconst 0, 1) := by decide +kernel
theorem dX12_readsPause_46 : decode cX12_readsPause 46 = .ok (.ireturn, 1) := by decide +kernel
theorem dX12_taps_0 : decode cX12_taps 0 = .ok (.iload_n 1, 1) := by decide +kernel
theorem dX12_taps_1 : decode cX12_taps 1 = .ok (.iconst 1, 1) := by decide +kernel
theorem dX12_taps_2 : decode cX12_taps 2 = .ok (.bipush 60, 2) := by decide +kernel
theorem dX12_taps_4 : decode cX12_taps 4 = .ok (.invokestatic 90, 3) := by decide +kernel
theorem dX12_taps_7 : decode cX12_taps 7 = .ok (.ifCond .eq 27, 3) := by decide +kernel
theorem dX12_taps_10 : decode cX12_taps 10 = .ok (.iload_n 2, 1) := by decide +kernel
theorem dX12_taps_11 : decode cX12_taps 11 = .ok (.iconst 0, 1) := by decide +kernel
theorem dX12_taps_12 : decode cX12_taps 12 = .ok (.bipush 19, 2) := by decide +kernel
theorem dX12_taps_14 : decode cX12_taps 14 = .ok (.invokestatic 90, 3) := by decide +kernel
theorem dX12_taps_17 : decode cX12_taps 17 = .ok (.ifCond .ne 9, 3) := by decide +kernel
theorem dX12_taps_20 : decode cX12_taps 20 = .ok (.iload_n 2, 1) := by decide +kernel
theorem dX12_taps_21 : decode cX12_taps 21 = .ok (.bipush 100, 2) := by decide +kernel
theorem dX12_taps_23 : decode cX12_taps 23 = .ok (.if_icmp .ne 11, 3) := by decide +kernel
theorem dX12_taps_26 : decode cX12_taps 26 = .ok (.iload_n 1, 1) := by decide +kernel
theorem dX12_taps_27 : decode cX12_taps 27 = .ok (.aload_n 0, 1) := by decide +kernel
theorem dX12_taps_28 : decode cX12_taps 28 = .ok (.getfield 115, 3) := by decide +kernel
theorem dX12_taps_31 : decode cX12_taps 31 = .ok (.if_icmp .le 5, 3) := by decide +kernel
theorem dX12_taps_34 : decode cX12_taps 34 = .ok (.iconst (-1), 1) := by decide +kernel
theorem dX12_taps_35 : decode cX12_taps 35 = .ok (.ireturn, 1) := by decide +kernel
theorem dX12_taps_36 : decode cX12_taps 36 = .ok (.aload_n 0, 1) := by decide +kernel
theorem dX12_taps_37 : decode cX12_taps 37 = .ok (.iload_n 1, 1) := by decide +kernel
theorem dX12_taps_38 : decode cX12_taps 38 = .ok (.invokevirtual 208, 3) := by decide +kernel
theorem dX12_taps_41 : decode cX12_taps 41 = .ok (.aload_n 0, 1) := by decide +kernel
theorem dX12_taps_42 : decode cX12_taps 42 = .ok (.iconst 0, 1) := by decide +kernel
theorem dX12_taps_43 : decode cX12_taps 43 = .ok (.putfield 354, 3) := by decide +kernel
theorem dX12_taps_46 : decode cX12_taps 46 = .ok (.aload_n 0, 1) := by decide +kernel
theorem dX12_taps_47 : decode cX12_taps 47 = .ok (.invokevirtual 357, 3) := by decide +kernel
theorem dX12_taps_50 : decode cX12_taps 50 = .ok (.istore_n 3, 1) := by decide +kernel
theorem dX12_taps_51 : decode cX12_taps 51 = .ok (.iload_n 3, 1) := by decide +kernel
theorem dX12_taps_52 : decode cX12_taps 52 = .ok (.ifCond .eq 37, 3) := by decide +kernel
theorem dX12_taps_55 : decode cX12_taps 55 = .ok (.aload_n 0, 1) := by decide +kernel
theorem dX12_taps_56 : decode cX12_taps 56 = .ok (.getfield 123, 3) := by decide +kernel
theorem dX12_taps_59 : decode cX12_taps 59 = .ok (.aload_n 0, 1) := by decide +kernel
theorem dX12_taps_60 : decode cX12_taps 60 = .ok (.getfield 126, 3) := by decide +kernel
theorem dX12_taps_63 : decode cX12_taps 63 = .ok (.if_icmp .ge 26, 3) := by decide +kernel
theorem dX12_taps_66 : decode cX12_taps 66 = .ok (.aload_n 0, 1) := by decide +kernel
theorem dX12_taps_67 : decode cX12_taps 67 = .ok (.invokevirtual 360, 3) := by decide +kernel
theorem dX12_taps_70 : decode cX12_taps 70 = .ok (.ifCond .eq 14, 3) := by decide +kernel
theorem dX12_taps_73 : decode cX12_taps 73 = .ok (.aload_n 0, 1) := by decide +kernel
theorem dX12_taps_74 : decode cX12_taps 74 = .ok (.invokevirtual 357, 3) := by decide +kernel
theorem dX12_taps_77 : decode cX12_taps 77 = .ok (.ifCond .eq 7, 3) := by decide +kernel
theorem dX12_taps_80 : decode cX12_taps 80 = .ok (.iconst 1, 1) := by decide +kernel
theorem dX12_taps_81 : decode cX12_taps 81 = .ok (.goto 4, 3) := by decide +kernel
theorem dX12_taps_84 : decode cX12_taps 84 = .ok (.iconst 0, 1) := by decide +kernel
theorem dX12_taps_85 : decode cX12_taps 85 = .ok (.istore_n 3, 1) := by decide +kernel
theorem dX12_taps_86 : decode cX12_taps 86 = .ok (.goto (-35), 3) := by decide +kernel
theorem dX12_taps_89 : decode cX12_taps 89 = .ok (.aload_n 0, 1) := by decide +kernel
theorem dX12_taps_90 : decode cX12_taps 90 = .ok (.iconst 0, 1) := by decide +kernel
theorem dX12_taps_91 : decode cX12_taps 91 = .ok (.putfield 115, 3) := by decide +kernel
theorem dX12_taps_94 : decode cX12_taps 94 = .ok (.iload_n 3, 1) := by decide +kernel
theorem dX12_taps_95 : decode cX12_taps 95 = .ok (.ifCond .ne 8, 3) := by decide +kernel
theorem dX12_taps_98 : decode cX12_taps 98 = .ok (.aload_n 0, 1) := by decide +kernel
theorem dX12_taps_99 : decode cX12_taps 99 = .ok (.getfield 133, 3) := by decide +kernel
theorem dX12_taps_102 : decode cX12_taps 102 = .ok (.ireturn, 1) := by decide +kernel
theorem dX12_taps_103 : decode cX12_taps 103 = .ok (.iload_n 2, 1) := by decide +kernel
theorem dX12_taps_104 : decode cX12_taps 104 = .ok (.bipush 100, 2) := by decide +kernel
theorem dX12_taps_106 : decode cX12_taps 106 = .ok (.if_icmp .ne 10, 3) := by decide +kernel
theorem dX12_taps_109 : decode cX12_taps 109 = .ok (.aload_n 0, 1) := by decide +kernel
theorem dX12_taps_110 : decode cX12_taps 110 = .ok (.getfield 354, 3) := by decide +kernel
theorem dX12_taps_113 : decode cX12_taps 113 = .ok (.goto 22, 3) := by decide +kernel
theorem dX12_taps_116 : decode cX12_taps 116 = .ok (.iload_n 2, 1) := by decide +kernel
theorem dX12_taps_117 : decode cX12_taps 117 = .ok (.aload_n 0, 1) := by decide +kernel
theorem dX12_taps_118 : decode cX12_taps 118 = .ok (.getfield 354, 3) := by decide +kernel
theorem dX12_taps_121 : decode cX12_taps 121 = .ok (.if_icmp .ge 12, 3) := by decide +kernel
theorem dX12_taps_124 : decode cX12_taps 124 = .ok (.aload_n 0, 1) := by decide +kernel
theorem dX12_taps_125 : decode cX12_taps 125 = .ok (.getfield 87, 3) := by decide +kernel
theorem dX12_taps_128 : decode cX12_taps 128 = .ok (.iload_n 2, 1) := by decide +kernel
theorem dX12_taps_129 : decode cX12_taps 129 = .ok (.iaload, 1) := by decide +kernel
theorem dX12_taps_130 : decode cX12_taps 130 = .ok (.goto 5, 3) := by decide +kernel
theorem dX12_taps_133 : decode cX12_taps 133 = .ok (.bipush (-4), 2) := by decide +kernel
theorem dX12_taps_135 : decode cX12_taps 135 = .ok (.ireturn, 1) := by decide +kernel
theorem dX12_tapped_0 : decode cX12_tapped 0 = .ok (.iload_n 1, 1) := by decide +kernel
theorem dX12_tapped_1 : decode cX12_tapped 1 = .ok (.iconst 1, 1) := by decide +kernel
theorem dX12_tapped_2 : decode cX12_tapped 2 = .ok (.bipush 40, 2) := by decide +kernel
theorem dX12_tapped_4 : decode cX12_tapped 4 = .ok (.invokestatic 90, 3) := by decide +kernel
theorem dX12_tapped_7 : decode cX12_tapped 7 = .ok (.ifCond .eq 11, 3) := by decide +kernel
theorem dX12_tapped_10 : decode cX12_tapped 10 = .ok (.iload_n 1, 1) := by decide +kernel
theorem dX12_tapped_11 : decode cX12_tapped 11 = .ok (.aload_n 0, 1) := by decide +kernel
theorem dX12_tapped_12 : decode cX12_tapped 12 = .ok (.getfield 115, 3) := by decide +kernel
theorem dX12_tapped_15 : decode cX12_tapped 15 = .ok (.if_icmp .le 5, 3) := by decide +kernel
theorem dX12_tapped_18 : decode cX12_tapped 18 = .ok (.iconst (-1), 1) := by decide +kernel
theorem dX12_tapped_19 : decode cX12_tapped 19 = .ok (.ireturn, 1) := by decide +kernel
theorem dX12_tapped_20 : decode cX12_tapped 20 = .ok (.aload_n 0, 1) := by decide +kernel
theorem dX12_tapped_21 : decode cX12_tapped 21 = .ok (.iconst 0, 1) := by decide +kernel
theorem dX12_tapped_22 : decode cX12_tapped 22 = .ok (.putfield 115, 3) := by decide +kernel
theorem dX12_tapped_25 : decode cX12_tapped 25 = .ok (.iconst 2, 1) := by decide +kernel
theorem dX12_tapped_26 : decode cX12_tapped 26 = .ok (.iload_n 1, 1) := by decide +kernel
theorem dX12_tapped_27 : decode cX12_tapped 27 = .ok (.imul, 1) := by decide +kernel
theorem dX12_tapped_28 : decode cX12_tapped 28 = .ok (.iconst 2, 1) := by decide +kernel
theorem dX12_tapped_29 : decode cX12_tapped 29 = .ok (.isub, 1) := by decide +kernel
theorem dX12_tapped_30 : decode cX12_tapped 30 = .ok (.istore_n 2, 1) := by decide +kernel
theorem dX12_tapped_31 : decode cX12_tapped 31 = .ok (.iconst 0, 1) := by decide +kernel
theorem dX12_tapped_32 : decode cX12_tapped 32 = .ok (.istore_n 3, 1) := by decide +kernel
theorem dX12_tapped_33 : decode cX12_tapped 33 = .ok (.iload_n 3, 1) := by decide +kernel
theorem dX12_tapped_34 : decode cX12_tapped 34 = .ok (.iload_n 1, 1) := by decide +kernel
theorem dX12_tapped_35 : decode cX12_tapped 35 = .ok (.if_icmp .ge 73, 3) := by decide +kernel
theorem dX12_tapped_38 : decode cX12_tapped 38 = .ok (.aload_n 0, 1) := by decide +kernel
theorem dX12_tapped_39 : decode cX12_tapped 39 = .ok (.iload_n 3, 1) := by decide +kernel
theorem dX12_tapped_40 : decode cX12_tapped 40 = .ok (.invokevirtual 338, 3) := by decide +kernel
theorem dX12_tapped_43 : decode cX12_tapped 43 = .ok (.bipush 65, 2) := by decide +kernel
theorem dX12_tapped_45 : decode cX12_tapped 45 = .ok (.isub, 1) := by decide +kernel
theorem dX12_tapped_46 : decode cX12_tapped 46 = .ok (.istore 4, 2) := by decide +kernel
theorem dX12_tapped_48 : decode cX12_tapped 48 = .ok (.iload 4, 2) := by decide +kernel
theorem dX12_tapped_50 : decode cX12_tapped 50 = .ok (.iconst 0, 1) := by decide +kernel
theorem dX12_tapped_51 : decode cX12_tapped 51 = .ok (.bipush 25, 2) := by decide +kernel
theorem dX12_tapped_53 : decode cX12_tapped 53 = .ok (.invokestatic 90, 3) := by decide +kernel
theorem dX12_tapped_56 : decode cX12_tapped 56 = .ok (.ifCond .ne 9, 3) := by decide +kernel
theorem dX12_tapped_59 : decode cX12_tapped 59 = .ok (.sipush (-1000), 3) := by decide +kernel
theorem dX12_tapped_62 : decode cX12_tapped 62 = .ok (.iload_n 3, 1) := by decide +kernel
theorem dX12_tapped_63 : decode cX12_tapped 63 = .ok (.isub, 1) := by decide +kernel
theorem dX12_tapped_64 : decode cX12_tapped 64 = .ok (.ireturn, 1) := by decide +kernel
theorem dX12_tapped_65 : decode cX12_tapped 65 = .ok (.iload 4, 2) := by decide +kernel
theorem dX12_tapped_67 : decode cX12_tapped 67 = .ok (.bipush 10, 2) := by decide +kernel
theorem dX12_tapped_69 : decode cX12_tapped 69 = .ok (.if_icmp .ne 6, 3) := by decide +kernel
theorem dX12_tapped_72 : decode cX12_tapped 72 = .ok (.iconst 2, 1) := by decide +kernel
theorem dX12_tapped_73 : decode cX12_tapped 73 = .ok (.istore 4, 2) := by decide +kernel
theorem dX12_tapped_75 : decode cX12_tapped 75 = .ok (.iload 4, 2) := by decide +kernel
theorem dX12_tapped_77 : decode cX12_tapped 77 = .ok (.bipush 10, 2) := by decide +kernel
theorem dX12_tapped_79 : decode cX12_tapped 79 = .ok (.if_icmp .le 9, 3) := by decide +kernel
theorem dX12_tapped_82 : decode cX12_tapped 82 = .ok (.iload 4, 2) := by decide +kernel
theorem dX12_tapped_84 : decode cX12_tapped 84 = .ok (.iconst 1, 1) := by decide +kernel
theorem dX12_tapped_85 : decode cX12_tapped 85 = .ok (.isub, 1) := by decide +kernel
theorem dX12_tapped_86 : decode cX12_tapped 86 = .ok (.istore 4, 2) := by decide +kernel
theorem dX12_tapped_88 : decode cX12_tapped 88 = .ok (.iload_n 2, 1) := by decide +kernel
theorem dX12_tapped_89 : decode cX12_tapped 89 = .ok (.iload 4, 2) := by decide +kernel
theorem dX12_tapped_91 : decode cX12_tapped 91 = .ok (.iconst 5, 1) := by decide +kernel
theorem dX12_tapped_92 : decode cX12_tapped 92 = .ok (.idiv, 1) := by decide +kernel
theorem dX12_tapped_93 : decode cX12_tapped 93 = .ok (.iadd, 1) := by decide +kernel
theorem dX12_tapped_94 : decode cX12_tapped 94 = .ok (.iload 4, 2) := by decide +kernel
theorem dX12_tapped_96 : decode cX12_tapped 96 = .ok (.iconst 5, 1) := by decide +kernel
theorem dX12_tapped_97 : decode cX12_tapped 97 = .ok (.irem, 1) := by decide +kernel
theorem dX12_tapped_98 : decode cX12_tapped 98 = .ok (.iadd, 1) := by decide +kernel
theorem dX12_tapped_99 : decode cX12_tapped 99 = .ok (.iconst 3, 1) := by decide +kernel
theorem dX12_tapped_100 : decode cX12_tapped 100 = .ok (.iadd, 1) := by decide +kernel
theorem dX12_tapped_101 : decode cX12_tapped 101 = .ok (.istore_n 2, 1) := by decide +kernel
theorem dX12_tapped_102 : decode cX12_tapped 102 = .ok (.iinc 3 1, 3) := by decide +kernel
theorem dX12_tapped_105 : decode cX12_tapped 105 = .ok (.goto (-72), 3) := by decide +kernel
theorem dX12_tapped_108 : decode cX12_tapped 108 = .ok (.iload_n 2, 1) := by decide +kernel
theorem dX12_tapped_109 : decode cX12_tapped 109 = .ok (.ireturn, 1) := by decide +kernel
theorem dX12_roundOf_0 : decode cX12_roundOf 0 = .ok (.iconst 1, 1) := by decide +kernel
theorem dX12_roundOf_1 : decode cX12_roundOf 1 = .ok (.istore_n 2, 1) := by decide +kernel
theorem dX12_roundOf_2 : decode cX12_roundOf 2 = .ok (.aload_n 0, 1) := by decide +kernel
theorem dX12_roundOf_3 : decode cX12_roundOf 3 = .ok (.iload_n 1, 1) := by decide +kernel
theorem dX12_roundOf_4 : decode cX12_roundOf 4 = .ok (.invokevirtual 338, 3) := by decide +kernel
theorem dX12_roundOf_7 : decode cX12_roundOf 7 = .ok (.istore_n 3, 1) := by decide +kernel
theorem dX12_roundOf_8 : decode cX12_roundOf 8 = .ok (.iload_n 3, 1) := by decide +kernel
theorem dX12_roundOf_9 : decode cX12_roundOf 9 = .ok (.iload_n 1, 1) := by decide +kernel
theorem dX12_roundOf_10 : decode cX12_roundOf 10 = .ok (.if_icmp .eq 16, 3) := by decide +kernel
theorem dX12_roundOf_13 : decode cX12_roundOf 13 = .ok (.aload_n 0, 1) := by decide +kernel
theorem dX12_roundOf_14 : decode cX12_roundOf 14 = .ok (.iload_n 3, 1) := by decide +kernel
theorem dX12_roundOf_15 : decode cX12_roundOf 15 = .ok (.invokevirtual 338, 3) := by decide +kernel
theorem dX12_roundOf_18 : decode cX12_roundOf 18 = .ok (.istore_n 3, 1) := by decide +kernel
theorem dX12_roundOf_19 : decode cX12_roundOf 19 = .ok (.iload_n 2, 1) := by decide +kernel
theorem dX12_roundOf_20 : decode cX12_roundOf 20 = .ok (.iconst 1, 1) := by decide +kernel
theorem dX12_roundOf_21 : decode cX12_roundOf 21 = .ok (.iadd, 1) := by decide +kernel
theorem dX12_roundOf_22 : decode cX12_roundOf 22 = .ok (.istore_n 2, 1) := by decide +kernel
theorem dX12_roundOf_23 : decode cX12_roundOf 23 = .ok (.goto (-15), 3) := by decide +kernel
theorem dX12_roundOf_26 : decode cX12_roundOf 26 = .ok (.iload_n 2, 1) := by decide +kernel
theorem dX12_roundOf_27 : decode cX12_roundOf 27 = .ok (.ireturn, 1) := by decide +kernel
theorem dX12_isOnceEach_0 : decode cX12_isOnceEach 0 = .ok (.iconst 0, 1) := by decide +kernel
theorem dX12_isOnceEach_1 : decode cX12_isOnceEach 1 = .ok (.istore_n 2, 1) := by decide +kernel
theorem dX12_isOnceEach_2 : decode cX12_isOnceEach 2 = .ok (.iconst 0, 1) := by decide +kernel
theorem dX12_isOnceEach_3 : decode cX12_isOnceEach 3 = .ok (.istore_n 3, 1) := by decide +kernel
theorem dX12_isOnceEach_4 : decode cX12_isOnceEach 4 = .ok (.iload_n 3, 1) := by decide +kernel
theorem dX12_isOnceEach_5 : decode cX12_isOnceEach 5 = .ok (.iload_n 1, 1) := by decide +kernel
theorem dX12_isOnceEach_6 : decode cX12_isOnceEach 6 = .ok (.if_icmp .ge 42, 3) := by decide +kernel
theorem dX12_isOnceEach_9 : decode cX12_isOnceEach 9 = .ok (.aload_n 0, 1) := by decide +kernel
theorem dX12_isOnceEach_10 : decode cX12_isOnceEach 10 = .ok (.iload_n 3, 1) := by decide +kernel
theorem dX12_isOnceEach_11 : decode cX12_isOnceEach 11 = .ok (.invokevirtual 338, 3) := by decide +kernel
theorem dX12_isOnceEach_14 : decode cX12_isOnceEach 14 = .ok (.iload_n 1, 1) := by decide +kernel
theorem dX12_isOnceEach_15 : decode cX12_isOnceEach 15 = .ok (.if_icmp .ge 15, 3) := by decide +kernel
theorem dX12_isOnceEach_18 : decode cX12_isOnceEach 18 = .ok (.iload_n 2, 1) := by decide +kernel
theorem dX12_isOnceEach_19 : decode cX12_isOnceEach 19 = .ok (.aload_n 0, 1) := by decide +kernel
theorem dX12_isOnceEach_20 : decode cX12_isOnceEach 20 = .ok (.iload_n 3, 1) := by decide +kernel
theorem dX12_isOnceEach_21 : decode cX12_isOnceEach 21 = .ok (.invokevirtual 338, 3) := by decide +kernel
theorem dX12_isOnceEach_24 : decode cX12_isOnceEach 24 = .ok (.invokestatic 326, 3) := by decide +kernel
theorem dX12_isOnceEach_27 : decode cX12_isOnceEach 27 = .ok (.ifCond .eq 5, 3) := by decide +kernel
theorem dX12_isOnceEach_30 : decode cX12_isOnceEach 30 = .ok (.iconst 0, 1) := by decide +kernel
theorem dX12_isOnceEach_31 : decode cX12_isOnceEach 31 = .ok (.ireturn, 1) := by decide +kernel
theorem dX12_isOnceEach_32 : decode cX12_isOnceEach 32 = .ok (.iload_n 2, 1) := by decide +kernel
theorem dX12_isOnceEach_33 : decode cX12_isOnceEach 33 = .ok (.iconst 1, 1) := by decide +kernel
theorem dX12_isOnceEach_34 : decode cX12_isOnceEach 34 = .ok (.aload_n 0, 1) := by decide +kernel
theorem dX12_isOnceEach_35 : decode cX12_isOnceEach 35 = .ok (.iload_n 3, 1) := by decide +kernel
theorem dX12_isOnceEach_36 : decode cX12_isOnceEach 36 = .ok (.invokevirtual 338, 3) := by decide +kernel
theorem dX12_isOnceEach_39 : decode cX12_isOnceEach 39 = .ok (.ishl, 1) := by decide +kernel
theorem dX12_isOnceEach_40 : decode cX12_isOnceEach 40 = .ok (.ior, 1) := by decide +kernel
theorem dX12_isOnceEach_41 : decode cX12_isOnceEach 41 = .ok (.istore_n 2, 1) := by decide +kernel
theorem dX12_isOnceEach_42 : decode cX12_isOnceEach 42 = .ok (.iinc 3 1, 3) := by decide +kernel
theorem dX12_isOnceEach_45 : decode cX12_isOnceEach 45 = .ok (.goto (-41), 3) := by decide +kernel
theorem dX12_isOnceEach_48 : decode cX12_isOnceEach 48 = .ok (.iconst 1, 1) := by decide +kernel
theorem dX12_isOnceEach_49 : decode cX12_isOnceEach 49 = .ok (.ireturn, 1) := by decide +kernel
theorem dX12_linen_0 : decode cX12_linen 0 = .ok (.iload_n 1, 1) := by decide +kernel
theorem dX12_linen_1 : decode cX12_linen 1 = .ok (.iconst 1, 1) := by decide +kernel
theorem dX12_linen_2 : decode cX12_linen 2 = .ok (.bipush 24, 2) := by decide +kernel
theorem dX12_linen_4 : decode cX12_linen 4 = .ok (.invokestatic 90, 3) := by decide +kernel
theorem dX12_linen_7 : decode cX12_linen 7 = .ok (.ifCond .eq 44, 3) := by decide +kernel
theorem dX12_linen_10 : decode cX12_linen 10 = .ok (.iload_n 2, 1) := by decide +kernel
theorem dX12_linen_11 : decode cX12_linen 11 = .ok (.iconst 0, 1) := by decide +kernel
theorem dX12_linen_12 : decode cX12_linen 12 = .ok (.ldc_w 312, 3) := by decide +kernel
theorem dX12_linen_15 : decode cX12_linen 15 = .ok (.invokestatic 90, 3) := by decide +kernel
theorem dX12_linen_18 : decode cX12_linen 18 = .ok (.ifCond .eq 33, 3) := by decide +kernel
theorem dX12_linen_21 : decode cX12_linen 21 = .ok (.iload_n 3, 1) := by decide +kernel
theorem dX12_linen_22 : decode cX12_linen 22 = .ok (.bipush 100, 2) := by decide +kernel
theorem dX12_linen_24 : decode cX12_linen 24 = .ok (.bipush 101, 2) := by decide +kernel
theorem dX12_linen_26 : decode cX12_linen 26 = .ok (.invokestatic 90, 3) := by decide +kernel
theorem dX12_linen_29 : decode cX12_linen 29 = .ok (.ifCond .ne 14, 3) := by decide +kernel
theorem dX12_linen_32 : decode cX12_linen 32 = .ok (.iload_n 3, 1) := by decide +kernel
theorem dX12_linen_33 : decode cX12_linen 33 = .ok (.iconst 0, 1) := by decide +kernel
theorem dX12_linen_34 : decode cX12_linen 34 = .ok (.iload_n 1, 1) := by decide +kernel
theorem dX12_linen_35 : decode cX12_linen 35 = .ok (.iconst 1, 1) := by decide +kernel
theorem dX12_linen_36 : decode cX12_linen 36 = .ok (.isub, 1) := by decide +kernel
theorem dX12_linen_37 : decode cX12_linen 37 = .ok (.invokestatic 90, 3) := by decide +kernel
theorem dX12_linen_40 : decode cX12_linen 40 = .ok (.ifCond .eq 11, 3) := by decide +kernel
theorem dX12_linen_43 : decode cX12_linen 43 = .ok (.iload_n 1, 1) := by decide +kernel
theorem dX12_linen_44 : decode cX12_linen 44 = .ok (.aload_n 0, 1) := by decide +kernel
theorem dX12_linen_45 : decode cX12_linen 45 = .ok (.getfield 115, 3) := by decide +kernel
theorem dX12_linen_48 : decode cX12_linen 48 = .ok (.if_icmp .le 5, 3) := by decide +kernel
theorem dX12_linen_51 : decode cX12_linen 51 = .ok (.iconst (-1), 1) := by decide +kernel
theorem dX12_linen_52 : decode cX12_linen 52 = .ok (.ireturn, 1) := by decide +kernel
theorem dX12_linen_53 : decode cX12_linen 53 = .ok (.aload_n 0, 1) := by decide +kernel
theorem dX12_linen_54 : decode cX12_linen 54 = .ok (.iconst 0, 1) := by decide +kernel
theorem dX12_linen_55 : decode cX12_linen 55 = .ok (.putfield 115, 3) := by decide +kernel
theorem dX12_linen_58 : decode cX12_linen 58 = .ok (.aload_n 0, 1) := by decide +kernel
theorem dX12_linen_59 : decode cX12_linen 59 = .ok (.iload_n 1, 1) := by decide +kernel
theorem dX12_linen_60 : decode cX12_linen 60 = .ok (.invokevirtual 363, 3) := by decide +kernel
theorem dX12_linen_63 : decode cX12_linen 63 = .ok (.ifCond .ne 6, 3) := by decide +kernel
theorem dX12_linen_66 : decode cX12_linen 66 = .ok (.bipush (-2), 2) := by decide +kernel
theorem dX12_linen_68 : decode cX12_linen 68 = .ok (.ireturn, 1) := by decide +kernel
theorem dX12_linen_69 : decode cX12_linen 69 = .ok (.iload_n 3, 1) := by decide +kernel
theorem dX12_linen_70 : decode cX12_linen 70 = .ok (.bipush 100, 2) := by decide +kernel
theorem dX12_linen_72 : decode cX12_linen 72 = .ok (.if_icmp .ge 42, 3) := by decide +kernel
theorem dX12_linen_75 : decode cX12_linen 75 = .ok (.iload_n 3, 1) := by decide +kernel
theorem dX12_linen_76 : decode cX12_linen 76 = .ok (.istore 4, 2) := by decide +kernel
theorem dX12_linen_78 : decode cX12_linen 78 = .ok (.iload_n 2, 1) := by decide +kernel
theorem dX12_linen_79 : decode cX12_linen 79 = .ok (.aload_n 0, 1) := by decide +kernel
theorem dX12_linen_80 : decode cX12_linen 80 = .ok (.iload_n 3, 1) := by decide +kernel
theorem dX12_linen_81 : decode cX12_linen 81 = .ok (.invokevirtual 366, 3) := by decide +kernel
theorem dX12_linen_84 : decode cX12_linen 84 = .ok (.irem, 1) := by decide +kernel
theorem dX12_linen_85 : decode cX12_linen 85 = .ok (.istore 5, 2) := by decide +kernel
theorem dX12_linen_87 : decode cX12_linen 87 = .ok (.iconst 0, 1) := by decide +kernel
theorem dX12_linen_88 : decode cX12_linen 88 = .ok (.istore 6, 2) := by decide +kernel
theorem dX12_linen_90 : decode cX12_linen 90 = .ok (.iload 6, 2) := by decide +kernel
theorem dX12_linen_92 : decode cX12_linen 92 = .ok (.iload 5, 2) := by decide +kernel
theorem dX12_linen_94 : decode cX12_linen 94 = .ok (.if_icmp .ge 17, 3) := by decide +kernel
theorem dX12_linen_97 : decode cX12_linen 97 = .ok (.aload_n 0, 1) := by decide +kernel
theorem dX12_linen_98 : decode cX12_linen 98 = .ok (.iload 4, 2) := by decide +kernel
theorem dX12_linen_100 : decode cX12_linen 100 = .ok (.invokevirtual 338, 3) := by decide +kernel
theorem dX12_linen_103 : decode cX12_linen 103 = .ok (.istore 4, 2) := by decide +kernel
theorem dX12_linen_105 : decode cX12_linen 105 = .ok (.iinc 6 1, 3) := by decide +kernel
theorem dX12_linen_108 : decode cX12_linen 108 = .ok (.goto (-18), 3) := by decide +kernel
theorem dX12_linen_111 : decode cX12_linen 111 = .ok (.iload 4, 2) := by decide +kernel
theorem dX12_linen_113 : decode cX12_linen 113 = .ok (.ireturn, 1) := by decide +kernel
theorem dX12_linen_114 : decode cX12_linen 114 = .ok (.iconst 1, 1) := by decide +kernel
theorem dX12_linen_115 : decode cX12_linen 115 = .ok (.istore 4, 2) := by decide +kernel
theorem dX12_linen_117 : decode cX12_linen 117 = .ok (.iconst 1, 1) := by decide +kernel
theorem dX12_linen_118 : decode cX12_linen 118 = .ok (.iload_n 1, 1) := by decide +kernel
theorem dX12_linen_119 : decode cX12_linen 119 = .ok (.ishl, 1) := by decide +kernel
theorem dX12_linen_120 : decode cX12_linen 120 = .ok (.iconst 1, 1) := by decide +kernel
theorem dX12_linen_121 : decode cX12_linen 121 = .ok (.isub, 1) := by decide +kernel
theorem dX12_linen_122 : decode cX12_linen 122 = .ok (.istore 5, 2) := by decide +kernel
theorem dX12_linen_124 : decode cX12_linen 124 = .ok (.iconst 0, 1) := by decide +kernel
theorem dX12_linen_125 : decode cX12_linen 125 = .ok (.istore 6, 2) := by decide +kernel
theorem dX12_linen_127 : decode cX12_linen 127 = .ok (.iconst 0, 1) := by decide +kernel
theorem dX12_linen_128 : decode cX12_linen 128 = .ok (.istore 7, 2) := by decide +kernel
theorem dX12_linen_130 : decode cX12_linen 130 = .ok (.iload 7, 2) := by decide +kernel
theorem dX12_linen_132 : decode cX12_linen 132 = .ok (.iload_n 1, 1) := by decide +kernel
theorem dX12_linen_133 : decode cX12_linen 133 = .ok (.if_icmp .ge 99, 3) := by decide +kernel
theorem dX12_linen_136 : decode cX12_linen 136 = .ok (.iload 4, 2) := by decide +kernel
theorem dX12_linen_138 : decode cX12_linen 138 = .ok (.iload 4, 2) := by decide +kernel
theorem dX12_linen_140 : decode cX12_linen 140 = .ok (.aload_n 0, 1) := by decide +kernel
theorem dX12_linen_141 : decode cX12_linen 141 = .ok (.iload 7, 2) := by decide +kernel
theorem dX12_linen_143 : decode cX12_linen 143 = .ok (.invokevirtual 366, 3) := by decide +kernel
theorem dX12_linen_146 : decode cX12_linen 146 = .ok (.invokestatic 297, 3) := by decide +kernel
theorem dX12_linen_149 : decode cX12_linen 149 = .ok (.idiv, 1) := by decide +kernel
theorem dX12_linen_150 : decode cX12_linen 150 = .ok (.aload_n 0, 1) := by decide +kernel
theorem dX12_linen_151 : decode cX12_linen 151 = .ok (.iload 7, 2) := by decide +kernel
theorem dX12_linen_153 : decode cX12_linen 153 = .ok (.invokevirtual 366, 3) := by decide +kernel
theorem dX12_linen_156 : decode cX12_linen 156 = .ok (.imul, 1) := by decide +kernel
theorem dX12_linen_157 : decode cX12_linen 157 = .ok (.istore 4, 2) := by decide +kernel
theorem dX12_linen_159 : decode cX12_linen 159 = .ok (.iload 5, 2) := by decide +kernel
theorem dX12_linen_161 : decode cX12_linen 161 = .ok (.iload 7, 2) := by decide +kernel
theorem dX12_linen_163 : decode cX12_linen 163 = .ok (.invokestatic 326, 3) := by decide +kernel
theorem dX12_linen_166 : decode cX12_linen 166 = .ok (.ifCond .ne 6, 3) := by decide +kernel
theorem dX12_linen_169 : decode cX12_linen 169 = .ok (.goto 57, 3) := by decide +kernel
theorem dX12_linen_172 : decode cX12_linen 172 = .ok (.iload 6, 2) := by decide +kernel
theorem dX12_linen_174 : decode cX12_linen 174 = .ok (.iconst 1, 1) := by decide +kernel
theorem dX12_linen_175 : decode cX12_linen 175 = .ok (.iadd, 1) := by decide +kernel
theorem dX12_linen_176 : decode cX12_linen 176 = .ok (.istore 6, 2) := by decide +kernel
theorem dX12_linen_178 : decode cX12_linen 178 = .ok (.aload_n 0, 1) := by decide +kernel
theorem dX12_linen_179 : decode cX12_linen 179 = .ok (.iload 7, 2) := by decide +kernel
theorem dX12_linen_181 : decode cX12_linen 181 = .ok (.invokevirtual 338, 3) := by decide +kernel
theorem dX12_linen_184 : decode cX12_linen 184 = .ok (.istore 8, 2) := by decide +kernel
theorem dX12_linen_186 : decode cX12_linen 186 = .ok (.iload 5, 2) := by decide +kernel
theorem dX12_linen_188 : decode cX12_linen 188 = .ok (.iconst 1, 1) := by decide +kernel
theorem dX12_linen_189 : decode cX12_linen 189 = .ok (.iload 7, 2) := by decide +kernel
theorem dX12_linen_191 : decode cX12_linen 191 = .ok (.ishl, 1) := by decide +kernel
theorem dX12_linen_192 : decode cX12_linen 192 = .ok (.iconst (-1), 1) := by decide +kernel
theorem dX12_linen_193 : decode cX12_linen 193 = .ok (.ixor, 1) := by decide +kernel
theorem dX12_linen_194 : decode cX12_linen 194 = .ok (.iand, 1) := by decide +kernel
theorem dX12_linen_195 : decode cX12_linen 195 = .ok (.istore 5, 2) := by decide +kernel
theorem dX12_linen_197 : decode cX12_linen 197 = .ok (.iload 8, 2) := by decide +kernel
theorem dX12_linen_199 : decode cX12_linen 199 = .ok (.iload 7, 2) := by decide +kernel
theorem dX12_linen_201 : decode cX12_linen 201 = .ok (.if_icmp .eq 25, 3) := by decide +kernel
theorem dX12_linen_204 : decode cX12_linen 204 = .ok (.iload 5, 2) := by decide +kernel
theorem dX12_linen_206 : decode cX12_linen 206 = .ok (.iconst 1, 1) := by decide +kernel
theorem dX12_linen_207 : decode cX12_linen 207 = .ok (.iload 8, 2) := by decide +kernel
theorem dX12_linen_209 : decode cX12_linen 209 = .ok (.ishl, 1) := by decide +kernel
theorem dX12_linen_210 : decode cX12_linen 210 = .ok (.iconst (-1), 1) := by decide +kernel
theorem dX12_linen_211 : decode cX12_linen 211 = .ok (.ixor, 1) := by decide +kernel
theorem dX12_linen_212 : decode cX12_linen 212 = .ok (.iand, 1) := by decide +kernel
theorem dX12_linen_213 : decode cX12_linen 213 = .ok (.istore 5, 2) := by decide +kernel
theorem dX12_linen_215 : decode cX12_linen 215 = .ok (.aload_n 0, 1) := by decide +kernel
theorem dX12_linen_216 : decode cX12_linen 216 = .ok (.iload 8, 2) := by decide +kernel
theorem dX12_linen_218 : decode cX12_linen 218 = .ok (.invokevirtual 338, 3) := by decide +kernel
theorem dX12_linen_221 : decode cX12_linen 221 = .ok (.istore 8, 2) := by decide +kernel
theorem dX12_linen_223 : decode cX12_linen 223 = .ok (.goto (-26), 3) := by decide +kernel
theorem dX12_linen_226 : decode cX12_linen 226 = .ok (.iinc 7 1, 3) := by decide +kernel
theorem dX12_linen_229 : decode cX12_linen 229 = .ok (.goto (-99), 3) := by decide +kernel
theorem dX12_linen_232 : decode cX12_linen 232 = .ok (.iload_n 3, 1) := by decide +kernel
theorem dX12_linen_233 : decode cX12_linen 233 = .ok (.bipush 100, 2) := by decide +kernel
theorem dX12_linen_235 : decode cX12_linen 235 = .ok (.if_icmp .ne 8, 3) := by decide +kernel
theorem dX12_linen_238 : decode cX12_linen 238 = .ok (.iload 4, 2) := by decide +kernel
theorem dX12_linen_240 : decode cX12_linen 240 = .ok (.goto 5, 3) := by decide +kernel
theorem dX12_linen_243 : decode cX12_linen 243 = .ok (.iload 6, 2) := by decide +kernel
theorem dX12_linen_245 : decode cX12_linen 245 = .ok (.ireturn, 1) := by decide +kernel
theorem dX12_placeOf_0 : decode cX12_placeOf 0 = .ok (.iconst 0, 1) := by decide +kernel
theorem dX12_placeOf_1 : decode cX12_placeOf 1 = .ok (.istore_n 2, 1) := by decide +kernel
theorem dX12_placeOf_2 : decode cX12_placeOf 2 = .ok (.iconst 0, 1) := by decide +kernel
theorem dX12_placeOf_3 : decode cX12_placeOf 3 = .ok (.istore_n 3, 1) := by decide +kernel
theorem dX12_placeOf_4 : decode cX12_placeOf 4 = .ok (.iload_n 3, 1) := by decide +kernel
theorem dX12_placeOf_5 : decode cX12_placeOf 5 = .ok (.bipush 24, 2) := by decide +kernel
theorem dX12_placeOf_7 : decode cX12_placeOf 7 = .ok (.if_icmp .ge 56, 3) := by decide +kernel
theorem dX12_placeOf_10 : decode cX12_placeOf 10 = .ok (.aload_n 0, 1) := by decide +kernel
theorem dX12_placeOf_11 : decode cX12_placeOf 11 = .ok (.getfield 7, 3) := by decide +kernel
theorem dX12_placeOf_14 : decode cX12_placeOf 14 = .ok (.iconst 0, 1) := by decide +kernel
theorem dX12_placeOf_15 : decode cX12_placeOf 15 = .ok (.iload_n 3, 1) := by decide +kernel
theorem dX12_placeOf_16 : decode cX12_placeOf 16 = .ok (.iadd, 1) := by decide +kernel
theorem dX12_placeOf_17 : decode cX12_placeOf 17 = .ok (.iaload, 1) := by decide +kernel
theorem dX12_placeOf_18 : decode cX12_placeOf 18 = .ok (.iconst 1, 1) := by decide +kernel
theorem dX12_placeOf_19 : decode cX12_placeOf 19 = .ok (.if_icmp .ne 38, 3) := by decide +kernel
theorem dX12_placeOf_22 : decode cX12_placeOf 22 = .ok (.aload_n 0, 1) := by decide +kernel
theorem dX12_placeOf_23 : decode cX12_placeOf 23 = .ok (.iload_n 3, 1) := by decide +kernel
theorem dX12_placeOf_24 : decode cX12_placeOf 24 = .ok (.invokevirtual 227, 3) := by decide +kernel
theorem dX12_placeOf_27 : decode cX12_placeOf 27 = .ok (.aload_n 0, 1) := by decide +kernel
theorem dX12_placeOf_28 : decode cX12_placeOf 28 = .ok (.iload_n 1, 1) := by decide +kernel
theorem dX12_placeOf_29 : decode cX12_placeOf 29 = .ok (.invokevirtual 227, 3) := by decide +kernel
theorem dX12_placeOf_32 : decode cX12_placeOf 32 = .ok (.if_icmp .lt 21, 3) := by decide +kernel
theorem dX12_placeOf_35 : decode cX12_placeOf 35 = .ok (.aload_n 0, 1) := by decide +kernel
theorem dX12_placeOf_36 : decode cX12_placeOf 36 = .ok (.iload_n 3, 1) := by decide +kernel
theorem dX12_placeOf_37 : decode cX12_placeOf 37 = .ok (.invokevirtual 227, 3) := by decide +kernel
theorem dX12_placeOf_40 : decode cX12_placeOf 40 = .ok (.aload_n 0, 1) := by decide +kernel
theorem dX12_placeOf_41 : decode cX12_placeOf 41 = .ok (.iload_n 1, 1) := by decide +kernel
theorem dX12_placeOf_42 : decode cX12_placeOf 42 = .ok (.invokevirtual 227, 3) := by decide +kernel
theorem dX12_placeOf_45 : decode cX12_placeOf 45 = .ok (.if_icmp .ne 12, 3) := by decide +kernel
theorem dX12_placeOf_48 : decode cX12_placeOf 48 = .ok (.iload_n 3, 1) := by decide +kernel
theorem dX12_placeOf_49 : decode cX12_placeOf 49 = .ok (.iload_n 1, 1) := by decide +kernel
theorem dX12_placeOf_50 : decode cX12_placeOf 50 = .ok (.if_icmp .ge 7, 3) := by decide +kernel
theorem dX12_placeOf_53 : decode cX12_placeOf 53 = .ok (.iload_n 2, 1) := by decide +kernel
theorem dX12_placeOf_54 : decode cX12_placeOf 54 = .ok (.iconst 1, 1) := by decide +kernel
theorem dX12_placeOf_55 : decode cX12_placeOf 55 = .ok (.iadd, 1) := by decide +kernel
theorem dX12_placeOf_56 : decode cX12_placeOf 56 = .ok (.istore_n 2, 1) := by decide +kernel
theorem dX12_placeOf_57 : decode cX12_placeOf 57 = .ok (.iinc 3 1, 3) := by decide +kernel
theorem dX12_placeOf_60 : decode cX12_placeOf 60 = .ok (.goto (-56), 3) := by decide +kernel
theorem dX12_placeOf_63 : decode cX12_placeOf 63 = .ok (.iload_n 2, 1) := by decide +kernel
theorem dX12_placeOf_64 : decode cX12_placeOf 64 = .ok (.ireturn, 1) := by decide +kernel
theorem dX12_dust_0 : decode cX12_dust 0 = .ok (.iload_n 1, 1) := by decide +kernel
theorem dX12_dust_1 : decode cX12_dust 1 = .ok (.iconst 0, 1) := by decide +kernel
theorem dX12_dust_2 : decode cX12_dust 2 = .ok (.iconst 1, 1) := by decide +kernel
theorem dX12_dust_3 : decode cX12_dust 3 = .ok (.invokestatic 90, 3) := by decide +kernel
theorem dX12_dust_6 : decode cX12_dust 6 = .ok (.ifCond .ne 5, 3) := by decide +kernel
theorem dX12_dust_9 : decode cX12_dust 9 = .ok (.iconst (-1), 1) := by decide +kernel
theorem dX12_dust_10 : decode cX12_dust 10 = .ok (.ireturn, 1) := by decide +kernel
theorem dX12_dust_11 : decode cX12_dust 11 = .ok (.aload_n 0, 1) := by decide +kernel
theorem dX12_dust_12 : decode cX12_dust 12 = .ok (.iconst 0, 1) := by decide +kernel
theorem dX12_dust_13 : decode cX12_dust 13 = .ok (.invokevirtual 291, 3) := by decide +kernel
theorem dX12_dust_16 : decode cX12_dust 16 = .ok (.istore_n 2, 1) := by decide +kernel
theorem dX12_dust_17 : decode cX12_dust 17 = .ok (.iload_n 2, 1) := by decide +kernel
theorem dX12_dust_18 : decode cX12_dust 18 = .ok (.ifCond .ne 6, 3) := by decide +kernel
theorem dX12_dust_21 : decode cX12_dust 21 = .ok (.bipush (-2), 2) := by decide +kernel
theorem dX12_dust_23 : decode cX12_dust 23 = .ok (.ireturn, 1) := by decide +kernel
theorem dX12_dust_24 : decode cX12_dust 24 = .ok (.iconst 0, 1) := by decide +kernel
theorem dX12_dust_25 : decode cX12_dust 25 = .ok (.istore_n 3, 1) := by decide +kernel
theorem dX12_dust_26 : decode cX12_dust 26 = .ok (.iload_n 3, 1) := by decide +kernel
theorem dX12_dust_27 : decode cX12_dust 27 = .ok (.bipush 24, 2) := by decide +kernel
theorem dX12_dust_29 : decode cX12_dust 29 = .ok (.if_icmp .ge 61, 3) := by decide +kernel
theorem dX12_dust_32 : decode cX12_dust 32 = .ok (.aload_n 0, 1) := by decide +kernel
theorem dX12_dust_33 : decode cX12_dust 33 = .ok (.getfield 7, 3) := by decide +kernel
theorem dX12_dust_36 : decode cX12_dust 36 = .ok (.iconst 0, 1) := by decide +kernel
theorem dX12_dust_37 : decode cX12_dust 37 = .ok (.iload_n 3, 1) := by decide +kernel
theorem dX12_dust_38 : decode cX12_dust 38 = .ok (.iadd, 1) := by decide +kernel
theorem dX12_dust_39 : decode cX12_dust 39 = .ok (.iaload, 1) := by decide +kernel
theorem dX12_dust_40 : decode cX12_dust 40 = .ok (.ifCond .ne 6, 3) := by decide +kernel
theorem dX12_dust_43 : decode cX12_dust 43 = .ok (.goto 41, 3) := by decide +kernel
theorem dX12_dust_46 : decode cX12_dust 46 = .ok (.iload_n 1, 1) := by decide +kernel
theorem dX12_dust_47 : decode cX12_dust 47 = .ok (.ifCond .ne 13, 3) := by decide +kernel
theorem dX12_dust_50 : decode cX12_dust 50 = .ok (.aload_n 0, 1) := by decide +kernel
theorem dX12_dust_51 : decode cX12_dust 51 = .ok (.iload_n 3, 1) := by decide +kernel
theorem dX12_dust_52 : decode cX12_dust 52 = .ok (.invokevirtual 369, 3) := by decide +kernel
theorem dX12_dust_55 : decode cX12_dust 55 = .ok (.ifCond .ne 5, 3) := by decide +kernel
theorem dX12_dust_58 : decode cX12_dust 58 = .ok (.iload_n 3, 1) := by decide +kernel
theorem dX12_dust_59 : decode cX12_dust 59 = .ok (.ireturn, 1) := by decide +kernel
theorem dX12_dust_60 : decode cX12_dust 60 = .ok (.iload_n 1, 1) := by decide +kernel
theorem dX12_dust_61 : decode cX12_dust 61 = .ok (.iconst 1, 1) := by decide +kernel
theorem dX12_dust_62 : decode cX12_dust 62 = .ok (.if_icmp .ne 22, 3) := by decide +kernel
theorem dX12_dust_65 : decode cX12_dust 65 = .ok (.aload_n 0, 1) := by decide +kernel
theorem dX12_dust_66 : decode cX12_dust 66 = .ok (.iload_n 3, 1) := by decide +kernel
theorem dX12_dust_67 : decode cX12_dust 67 = .ok (.invokevirtual 369, 3) := by decide +kernel
theorem dX12_dust_70 : decode cX12_dust 70 = .ok (.iload_n 2, 1) := by decide +kernel
theorem dX12_dust_71 : decode cX12_dust 71 = .ok (.iconst 1, 1) := by decide +kernel
theorem dX12_dust_72 : decode cX12_dust 72 = .ok (.isub, 1) := by decide +kernel
theorem dX12_dust_73 : decode cX12_dust 73 = .ok (.iconst 2, 1) := by decide +kernel
theorem dX12_dust_74 : decode cX12_dust 74 = .ok (.idiv, 1) := by decide +kernel
theorem dX12_dust_75 : decode cX12_dust 75 = .ok (.if_icmp .ne 9, 3) := by decide +kernel
theorem dX12_dust_78 : decode cX12_dust 78 = .ok (.aload_n 0, 1) := by decide +kernel
theorem dX12_dust_79 : decode cX12_dust 79 = .ok (.iload_n 3, 1) := by decide +kernel
theorem dX12_dust_80 : decode cX12_dust 80 = .ok (.invokevirtual 227, 3) := by decide +kernel
theorem dX12_dust_83 : decode cX12_dust 83 = .ok (.ireturn, 1) := by decide +kernel
theorem dX12_dust_84 : decode cX12_dust 84 = .ok (.iinc 3 1, 3) := by decide +kernel
theorem dX12_dust_87 : decode cX12_dust 87 = .ok (.goto (-61), 3) := by decide +kernel
theorem dX12_dust_90 : decode cX12_dust 90 = .ok (.bipush (-2), 2) := by decide +kernel
theorem dX12_dust_92 : decode cX12_dust 92 = .ok (.ireturn, 1) := by decide +kernel
theorem dX12_seed_0 : decode cX12_seed 0 = .ok (.iload_n 1, 1) := by decide +kernel
theorem dX12_seed_1 : decode cX12_seed 1 = .ok (.iconst 0, 1) := by decide +kernel
theorem dX12_seed_2 : decode cX12_seed 2 = .ok (.ldc_w 372, 3) := by decide +kernel
theorem dX12_seed_5 : decode cX12_seed 5 = .ok (.invokestatic 90, 3) := by decide +kernel
theorem dX12_seed_8 : decode cX12_seed 8 = .ok (.ifCond .ne 5, 3) := by decide +kernel
theorem dX12_seed_11 : decode cX12_seed 11 = .ok (.iconst 0, 1) := by decide +kernel
theorem dX12_seed_12 : decode cX12_seed 12 = .ok (.ireturn, 1) := by decide +kernel
theorem dX12_seed_13 : decode cX12_seed 13 = .ok (.aload_n 0, 1) := by decide +kernel
theorem dX12_seed_14 : decode cX12_seed 14 = .ok (.getfield 7, 3) := by decide +kernel
theorem dX12_seed_17 : decode cX12_seed 17 = .ok (.sipush 698, 3) := by decide +kernel
theorem dX12_seed_20 : decode cX12_seed 20 = .ok (.iload_n 1, 1) := by decide +kernel
theorem dX12_seed_21 : decode cX12_seed 21 = .ok (.iastore, 1) := by decide +kernel
theorem dX12_seed_22 : decode cX12_seed 22 = .ok (.iconst 1, 1) := by decide +kernel
theorem dX12_seed_23 : decode cX12_seed 23 = .ok (.ireturn, 1) := by decide +kernel
theorem dX12_keep_0 : decode cX12_keep 0 = .ok (.aload_n 0, 1) := by decide +kernel
theorem dX12_keep_1 : decode cX12_keep 1 = .ok (.iconst 1, 1) := by decide +kernel
theorem dX12_keep_2 : decode cX12_keep 2 = .ok (.putfield 373, 3) := by decide +kernel
theorem dX12_keep_5 : decode cX12_keep 5 = .ok (.aload_n 0, 1) := by decide +kernel
theorem dX12_keep_6 : decode cX12_keep 6 = .ok (.getfield 7, 3) := by decide +kernel
theorem dX12_keep_9 : decode cX12_keep 9 = .ok (.aload_n 0, 1) := by decide +kernel
theorem dX12_keep_10 : decode cX12_keep 10 = .ok (.getfield 16, 3) := by decide +kernel
theorem dX12_keep_13 : decode cX12_keep 13 = .ok (.invokestatic 248, 3) := by decide +kernel
theorem dX12_keep_16 : decode cX12_keep 16 = .ok (.aload_n 0, 1) := by decide +kernel
theorem dX12_keep_17 : decode cX12_keep 17 = .ok (.getfield 7, 3) := by decide +kernel
theorem dX12_keep_20 : decode cX12_keep 20 = .ok (.sipush 697, 3) := by decide +kernel
theorem dX12_keep_23 : decode cX12_keep 23 = .ok (.iaload, 1) := by decide +kernel
theorem dX12_keep_24 : decode cX12_keep 24 = .ok (.ireturn, 1) := by decide +kernel
theorem dX12_undo_0 : decode cX12_undo 0 = .ok (.aload_n 0, 1) := by decide +kernel
theorem dX12_undo_1 : decode cX12_undo 1 = .ok (.getfield 373, 3) := by decide +kernel
theorem dX12_undo_4 : decode cX12_undo 4 = .ok (.ifCond .ne 5, 3) := by decide +kernel
theorem dX12_undo_7 : decode cX12_undo 7 = .ok (.iconst 0, 1) := by decide +kernel
theorem dX12_undo_8 : decode cX12_undo 8 = .ok (.ireturn, 1) := by decide +kernel
theorem dX12_undo_9 : decode cX12_undo 9 = .ok (.aload_n 0, 1) := by decide +kernel
theorem dX12_undo_10 : decode cX12_undo 10 = .ok (.getfield 16, 3) := by decide +kernel
theorem dX12_undo_13 : decode cX12_undo 13 = .ok (.aload_n 0, 1) := by decide +kernel
theorem dX12_undo_14 : decode cX12_undo 14 = .ok (.getfield 7, 3) := by decide +kernel
theorem dX12_undo_17 : decode cX12_undo 17 = .ok (.invokestatic 248, 3) := by decide +kernel
theorem dX12_undo_20 : decode cX12_undo 20 = .ok (.iconst 1, 1) := by decide +kernel
theorem dX12_undo_21 : decode cX12_undo 21 = .ok (.ireturn, 1) := by decide +kernel
theorem dX12_check_0 : decode cX12_check 0 = .ok (.iload_n 1, 1) := by decide +kernel
theorem dX12_check_1 : decode cX12_check 1 = .ok (.iconst 0, 1) := by decide +kernel
theorem dX12_check_2 : decode cX12_check 2 = .ok (.bipush 24, 2) := by decide +kernel
theorem dX12_check_4 : decode cX12_check 4 = .ok (.invokestatic 90, 3) := by decide +kernel
theorem dX12_check_7 : decode cX12_check 7 = .ok (.ifCond .eq 11, 3) := by decide +kernel
theorem dX12_check_10 : decode cX12_check 10 = .ok (.iload_n 1, 1) := by decide +kernel
theorem dX12_check_11 : decode cX12_check 11 = .ok (.aload_n 0, 1) := by decide +kernel
theorem dX12_check_12 : decode cX12_check 12 = .ok (.getfield 115, 3) := by decide +kernel
theorem dX12_check_15 : decode cX12_check 15 = .ok (.if_icmp .le 6, 3) := by decide +kernel
theorem dX12_check_18 : decode cX12_check 18 = .ok (.bipush (-2), 2) := by decide +kernel
theorem dX12_check_20 : decode cX12_check 20 = .ok (.ireturn, 1) := by decide +kernel
theorem dX12_check_21 : decode cX12_check 21 = .ok (.aload_n 0, 1) := by decide +kernel
theorem dX12_check_22 : decode cX12_check 22 = .ok (.iconst 0, 1) := by decide +kernel
theorem dX12_check_23 : decode cX12_check 23 = .ok (.putfield 115, 3) := by decide +kernel
theorem dX12_check_26 : decode cX12_check 26 = .ok (.iconst 0, 1) := by decide +kernel
theorem dX12_check_27 : decode cX12_check 27 = .ok (.istore_n 2, 1) := by decide +kernel
theorem dX12_check_28 : decode cX12_check 28 = .ok (.iload_n 2, 1) := by decide +kernel
theorem dX12_check_29 : decode cX12_check 29 = .ok (.iload_n 1, 1) := by decide +kernel
theorem dX12_check_30 : decode cX12_check 30 = .ok (.if_icmp .ge 48, 3) := by decide +kernel
theorem dX12_check_33 : decode cX12_check 33 = .ok (.aload_n 0, 1) := by decide +kernel
theorem dX12_check_34 : decode cX12_check 34 = .ok (.iload_n 2, 1) := by decide +kernel
theorem dX12_check_35 : decode cX12_check 35 = .ok (.invokevirtual 338, 3) := by decide +kernel
theorem dX12_check_38 : decode cX12_check 38 = .ok (.aload_n 0, 1) := by decide +kernel
theorem dX12_check_39 : decode cX12_check 39 = .ok (.getfield 7, 3) := by decide +kernel
theorem dX12_check_42 : decode cX12_check 42 = .ok (.iconst 0, 1) := by decide +kernel
theorem dX12_check_43 : decode cX12_check 43 = .ok (.iload_n 2, 1) := by decide +kernel
theorem dX12_check_44 : decode cX12_check 44 = .ok (.iadd, 1) := by decide +kernel
theorem dX12_check_45 : decode cX12_check 45 = .ok (.iaload, 1) := by decide +kernel
theorem dX12_check_46 : decode cX12_check 46 = .ok (.iconst 1, 1) := by decide +kernel
theorem dX12_check_47 : decode cX12_check 47 = .ok (.if_icmp .ne 19, 3) := by decide +kernel
theorem dX12_check_50 : decode cX12_check 50 = .ok (.aload_n 0, 1) := by decide +kernel
theorem dX12_check_51 : decode cX12_check 51 = .ok (.getfield 7, 3) := by decide +kernel
theorem dX12_check_54 : decode cX12_check 54 = .ok (.bipush 24, 2) := by decide +kernel
theorem dX12_check_56 : decode cX12_check 56 = .ok (.iload_n 2, 1) := by decide +kernel
theorem dX12_check_57 : decode cX12_check 57 = .ok (.iadd, 1) := by decide +kernel
theorem dX12_check_58 : decode cX12_check 58 = .ok (.iaload, 1) := by decide +kernel
theorem dX12_check_59 : decode cX12_check 59 = .ok (.sipush 256, 3) := by decide +kernel
theorem dX12_check_62 : decode cX12_check 62 = .ok (.irem, 1) := by decide +kernel
theorem dX12_check_63 : decode cX12_check 63 = .ok (.goto 4, 3) := by decide +kernel
theorem dX12_check_66 : decode cX12_check 66 = .ok (.iconst 0, 1) := by decide +kernel
theorem dX12_check_67 : decode cX12_check 67 = .ok (.if_icmp .eq 5, 3) := by decide +kernel
theorem dX12_check_70 : decode cX12_check 70 = .ok (.iload_n 2, 1) := by decide +kernel
theorem dX12_check_71 : decode cX12_check 71 = .ok (.ireturn, 1) := by decide +kernel
theorem dX12_check_72 : decode cX12_check 72 = .ok (.iinc 2 1, 3) := by decide +kernel
theorem dX12_check_75 : decode cX12_check 75 = .ok (.goto (-47), 3) := by decide +kernel
theorem dX12_check_78 : decode cX12_check 78 = .ok (.iconst (-1), 1) := by decide +kernel
theorem dX12_check_79 : decode cX12_check 79 = .ok (.ireturn, 1) := by decide +kernel
theorem dX12_setOf_0 : decode cX12_setOf 0 = .ok (.iconst 0, 1) := by decide +kernel
theorem dX12_setOf_1 : decode cX12_setOf 1 = .ok (.istore_n 2, 1) := by decide +kernel
theorem dX12_setOf_2 : decode cX12_setOf 2 = .ok (.iconst 0, 1) := by decide +kernel
theorem dX12_setOf_3 : decode cX12_setOf 3 = .ok (.istore_n 3, 1) := by decide +kernel
theorem dX12_setOf_4 : decode cX12_setOf 4 = .ok (.iload_n 3, 1) := by decide +kernel
theorem dX12_setOf_5 : decode cX12_setOf 5 = .ok (.bipush 24, 2) := by decide +kernel
theorem dX12_setOf_7 : decode cX12_setOf 7 = .ok (.if_icmp .ge 22, 3) := by decide +kernel
theorem dX12_setOf_10 : decode cX12_setOf 10 = .ok (.iload_n 2, 1) := by decide +kernel
theorem dX12_setOf_11 : decode cX12_setOf 11 = .ok (.aload_n 0, 1) := by decide +kernel
theorem dX12_setOf_12 : decode cX12_setOf 12 = .ok (.getfield 7, 3) := by decide +kernel
theorem dX12_setOf_15 : decode cX12_setOf 15 = .ok (.iload_n 1, 1) := by decide +kernel
theorem dX12_setOf_16 : decode cX12_setOf 16 = .ok (.iload_n 3, 1) := by decide +kernel
theorem dX12_setOf_17 : decode cX12_setOf 17 = .ok (.iadd, 1) := by decide +kernel
theorem dX12_setOf_18 : decode cX12_setOf 18 = .ok (.iaload, 1) := by decide +kernel
theorem dX12_setOf_19 : decode cX12_setOf 19 = .ok (.iload_n 3, 1) := by decide +kernel
theorem dX12_setOf_20 : decode cX12_setOf 20 = .ok (.ishl, 1) := by decide +kernel
theorem dX12_setOf_21 : decode cX12_setOf 21 = .ok (.ior, 1) := by decide +kernel
theorem dX12_setOf_22 : decode cX12_setOf 22 = .ok (.istore_n 2, 1) := by decide +kernel
theorem dX12_setOf_23 : decode cX12_setOf 23 = .ok (.iinc 3 1, 3) := by decide +kernel
theorem dX12_setOf_26 : decode cX12_setOf 26 = .ok (.goto (-22), 3) := by decide +kernel
theorem dX12_setOf_29 : decode cX12_setOf 29 = .ok (.iload_n 2, 1) := by decide +kernel
theorem dX12_setOf_30 : decode cX12_setOf 30 = .ok (.ireturn, 1) := by decide +kernel
theorem dX12_count_0 : decode cX12_count 0 = .ok (.iload_n 1, 1) := by decide +kernel
theorem dX12_count_1 : decode cX12_count 1 = .ok (.tableswitch 115 0 8 #[51, 60, 69, 75, 82, 87, 92, 101, 108], 51) := by decide +kernel
theorem dX12_count_52 : decode cX12_count 52 = .ok (.aload_n 0, 1) := by decide +kernel
theorem dX12_count_53 : decode cX12_count 53 = .ok (.getfield 7, 3) := by decide +kernel
theorem dX12_count_56 : decode cX12_count 56 = .ok (.sipush 697, 3) := by decide +kernel
theorem dX12_count_59 : decode cX12_count 59 = .ok (.iaload, 1) := by decide +kernel
theorem dX12_count_60 : decode cX12_count 60 = .ok (.ireturn, 1) := by decide +kernel
theorem dX12_count_61 : decode cX12_count 61 = .ok (.aload_n 0, 1) := by decide +kernel
theorem dX12_count_62 : decode cX12_count 62 = .ok (.getfield 7, 3) := by decide +kernel
theorem dX12_count_65 : decode cX12_count 65 = .ok (.sipush 696, 3) := by decide +kernel
theorem dX12_count_68 : decode cX12_count 68 = .ok (.iaload, 1) := by decide +kernel
theorem dX12_count_69 : decode cX12_count 69 = .ok (.ireturn, 1) := by decide +kernel
theorem dX12_count_70 : decode cX12_count 70 = .ok (.aload_n 0, 1) := by decide +kernel
theorem dX12_count_71 : decode cX12_count 71 = .ok (.iconst 0, 1) := by decide +kernel
theorem dX12_count_72 : decode cX12_count 72 = .ok (.invokevirtual 377, 3) := by decide +kernel
theorem dX12_count_75 : decode cX12_count 75 = .ok (.ireturn, 1) := by decide +kernel
theorem dX12_count_76 : decode cX12_count 76 = .ok (.aload_n 0, 1) := by decide +kernel
theorem dX12_count_77 : decode cX12_count 77 = .ok (.bipush 48, 2) := by decide +kernel
theorem dX12_count_79 : decode cX12_count 79 = .ok (.invokevirtual 377, 3) := by decide +kernel
theorem dX12_count_82 : decode cX12_count 82 = .ok (.ireturn, 1) := by decide +kernel
theorem dX12_count_83 : decode cX12_count 83 = .ok (.aload_n 0, 1) := by decide +kernel
theorem dX12_count_84 : decode cX12_count 84 = .ok (.getfield 217, 3) := by decide +kernel
theorem dX12_count_87 : decode cX12_count 87 = .ok (.ireturn, 1) := by decide +kernel
theorem dX12_count_88 : decode cX12_count 88 = .ok (.aload_n 0, 1) := by decide +kernel
theorem dX12_count_89 : decode cX12_count 89 = .ok (.getfield 115, 3) := by decide +kernel
theorem dX12_count_92 : decode cX12_count 92 = .ok (.ireturn, 1) := by decide +kernel
theorem dX12_count_93 : decode cX12_count 93 = .ok (.aload_n 0, 1) := by decide +kernel
theorem dX12_count_94 : decode cX12_count 94 = .ok (.getfield 7, 3) := by decide +kernel
theorem dX12_count_97 : decode cX12_count 97 = .ok (.sipush 698, 3) := by decide +kernel
theorem dX12_count_100 : decode cX12_count 100 = .ok (.iaload, 1) := by decide +kernel
theorem dX12_count_101 : decode cX12_count 101 = .ok (.ireturn, 1) := by decide +kernel
theorem dX12_count_102 : decode cX12_count 102 = .ok (.aload_n 0, 1) := by decide +kernel
theorem dX12_count_103 : decode cX12_count 103 = .ok (.bipush 24, 2) := by decide +kernel
theorem dX12_count_105 : decode cX12_count 105 = .ok (.invokevirtual 291, 3) := by decide +kernel
theorem dX12_count_108 : decode cX12_count 108 = .ok (.ireturn, 1) := by decide +kernel
theorem dX12_count_109 : decode cX12_count 109 = .ok (.aload_n 0, 1) := by decide +kernel
theorem dX12_count_110 : decode cX12_count 110 = .ok (.bipush 96, 2) := by decide +kernel
theorem dX12_count_112 : decode cX12_count 112 = .ok (.invokevirtual 291, 3) := by decide +kernel
theorem dX12_count_115 : decode cX12_count 115 = .ok (.ireturn, 1) := by decide +kernel
theorem dX12_count_116 : decode cX12_count 116 = .ok (.iconst (-1), 1) := by decide +kernel
theorem dX12_count_117 : decode cX12_count 117 = .ok (.ireturn, 1) := by decide +kernel
theorem dJ6_bitCount_0f7a4_0 : decode cJ6_bitCount_0f7a4 0 = .ok (.iload_n 0, 1) := by decide +kernel
theorem dJ6_bitCount_0f7a4_1 : decode cJ6_bitCount_0f7a4 1 = .ok (.iload_n 0, 1) := by decide +kernel
theorem dJ6_bitCount_0f7a4_2 : decode cJ6_bitCount_0f7a4 2 = .ok (.iconst 1, 1) := by decide +kernel
theorem dJ6_bitCount_0f7a4_3 : decode cJ6_bitCount_0f7a4 3 = .ok (.iushr, 1) := by decide +kernel
theorem dJ6_bitCount_0f7a4_4 : decode cJ6_bitCount_0f7a4 4 = .ok (.ldc_w 265, 3) := by decide +kernel
theorem dJ6_bitCount_0f7a4_7 : decode cJ6_bitCount_0f7a4 7 = .ok (.iand, 1) := by decide +kernel
theorem dJ6_bitCount_0f7a4_8 : decode cJ6_bitCount_0f7a4 8 = .ok (.isub, 1) := by decide +kernel
theorem dJ6_bitCount_0f7a4_9 : decode cJ6_bitCount_0f7a4 9 = .ok (.istore_n 0, 1) := by decide +kernel
theorem dJ6_bitCount_0f7a4_10 : decode cJ6_bitCount_0f7a4 10 = .ok (.iload_n 0, 1) := by decide +kernel
theorem dJ6_bitCount_0f7a4_11 : decode cJ6_bitCount_0f7a4 11 = .ok (.ldc_w 266, 3) := by decide +kernel
theorem dJ6_bitCount_0f7a4_14 : decode cJ6_bitCount_0f7a4 14 = .ok (.iand, 1) := by decide +kernel
theorem dJ6_bitCount_0f7a4_15 : decode cJ6_bitCount_0f7a4 15 = .ok (.iload_n 0, 1) := by decide +kernel
theorem dJ6_bitCount_0f7a4_16 : decode cJ6_bitCount_0f7a4 16 = .ok (.iconst 2, 1) := by decide +kernel
theorem dJ6_bitCount_0f7a4_17 : decode cJ6_bitCount_0f7a4 17 = .ok (.iushr, 1) := by decide +kernel
theorem dJ6_bitCount_0f7a4_18 : decode cJ6_bitCount_0f7a4 18 = .ok (.ldc_w 266, 3) := by decide +kernel
theorem dJ6_bitCount_0f7a4_21 : decode cJ6_bitCount_0f7a4 21 = .ok (.iand, 1) := by decide +kernel
theorem dJ6_bitCount_0f7a4_22 : decode cJ6_bitCount_0f7a4 22 = .ok (.iadd, 1) := by decide +kernel
theorem dJ6_bitCount_0f7a4_23 : decode cJ6_bitCount_0f7a4 23 = .ok (.istore_n 0, 1) := by decide +kernel
theorem dJ6_bitCount_0f7a4_24 : decode cJ6_bitCount_0f7a4 24 = .ok (.iload_n 0, 1) := by decide +kernel
theorem dJ6_bitCount_0f7a4_25 : decode cJ6_bitCount_0f7a4 25 = .ok (.iload_n 0, 1) := by decide +kernel
theorem dJ6_bitCount_0f7a4_26 : decode cJ6_bitCount_0f7a4 26 = .ok (.iconst 4, 1) := by decide +kernel
theorem dJ6_bitCount_0f7a4_27 : decode cJ6_bitCount_0f7a4 27 = .ok (.iushr, 1) := by decide +kernel
theorem dJ6_bitCount_0f7a4_28 : decode cJ6_bitCount_0f7a4 28 = .ok (.iadd, 1) := by decide +kernel
theorem dJ6_bitCount_0f7a4_29 : decode cJ6_bitCount_0f7a4 29 = .ok (.ldc_w 267, 3) := by decide +kernel
theorem dJ6_bitCount_0f7a4_32 : decode cJ6_bitCount_0f7a4 32 = .ok (.iand, 1) := by decide +kernel
theorem dJ6_bitCount_0f7a4_33 : decode cJ6_bitCount_0f7a4 33 = .ok (.istore_n 0, 1) := by decide +kernel
theorem dJ6_bitCount_0f7a4_34 : decode cJ6_bitCount_0f7a4 34 = .ok (.iload_n 0, 1) := by decide +kernel
theorem dJ6_bitCount_0f7a4_35 : decode cJ6_bitCount_0f7a4 35 = .ok (.iload_n 0, 1) := by decide +kernel
theorem dJ6_bitCount_0f7a4_36 : decode cJ6_bitCount_0f7a4 36 = .ok (.bipush 8, 2) := by decide +kernel
theorem dJ6_bitCount_0f7a4_38 : decode cJ6_bitCount_0f7a4 38 = .ok (.iushr, 1) := by decide +kernel
theorem dJ6_bitCount_0f7a4_39 : decode cJ6_bitCount_0f7a4 39 = .ok (.iadd, 1) := by decide +kernel
theorem dJ6_bitCount_0f7a4_40 : decode cJ6_bitCount_0f7a4 40 = .ok (.istore_n 0, 1) := by decide +kernel
theorem dJ6_bitCount_0f7a4_41 : decode cJ6_bitCount_0f7a4 41 = .ok (.iload_n 0, 1) := by decide +kernel
theorem dJ6_bitCount_0f7a4_42 : decode cJ6_bitCount_0f7a4 42 = .ok (.iload_n 0, 1) := by decide +kernel
theorem dJ6_bitCount_0f7a4_43 : decode cJ6_bitCount_0f7a4 43 = .ok (.bipush 16, 2) := by decide +kernel
theorem dJ6_bitCount_0f7a4_45 : decode cJ6_bitCount_0f7a4 45 = .ok (.iushr, 1) := by decide +kernel
theorem dJ6_bitCount_0f7a4_46 : decode cJ6_bitCount_0f7a4 46 = .ok (.iadd, 1) := by decide +kernel
theorem dJ6_bitCount_0f7a4_47 : decode cJ6_bitCount_0f7a4 47 = .ok (.istore_n 0, 1) := by decide +kernel
theorem dJ6_bitCount_0f7a4_48 : decode cJ6_bitCount_0f7a4 48 = .ok (.iload_n 0, 1) := by decide +kernel
theorem dJ6_bitCount_0f7a4_49 : decode cJ6_bitCount_0f7a4 49 = .ok (.bipush 63, 2) := by decide +kernel
theorem dJ6_bitCount_0f7a4_51 : decode cJ6_bitCount_0f7a4 51 = .ok (.iand, 1) := by decide +kernel
theorem dJ6_bitCount_0f7a4_52 : decode cJ6_bitCount_0f7a4 52 = .ok (.ireturn, 1) := by decide +kernel
theorem dJ9_max_7cf53_0 : decode cJ9_max_7cf53 0 = .ok (.iload_n 0, 1) := by decide +kernel
theorem dJ9_max_7cf53_1 : decode cJ9_max_7cf53 1 = .ok (.iload_n 1, 1) := by decide +kernel
theorem dJ9_max_7cf53_2 : decode cJ9_max_7cf53 2 = .ok (.if_icmp .lt 7, 3) := by decide +kernel
theorem dJ9_max_7cf53_5 : decode cJ9_max_7cf53 5 = .ok (.iload_n 0, 1) := by decide +kernel
theorem dJ9_max_7cf53_6 : decode cJ9_max_7cf53 6 = .ok (.goto 4, 3) := by decide +kernel
theorem dJ9_max_7cf53_9 : decode cJ9_max_7cf53 9 = .ok (.iload_n 1, 1) := by decide +kernel
theorem dJ9_max_7cf53_10 : decode cJ9_max_7cf53 10 = .ok (.ireturn, 1) := by decide +kernel
theorem dJ9_min_7cf53_0 : decode cJ9_min_7cf53 0 = .ok (.iload_n 0, 1) := by decide +kernel
theorem dJ9_min_7cf53_1 : decode cJ9_min_7cf53 1 = .ok (.iload_n 1, 1) := by decide +kernel
theorem dJ9_min_7cf53_2 : decode cJ9_min_7cf53 2 = .ok (.if_icmp .gt 7, 3) := by decide +kernel
theorem dJ9_min_7cf53_5 : decode cJ9_min_7cf53 5 = .ok (.iload_n 0, 1) := by decide +kernel
theorem dJ9_min_7cf53_6 : decode cJ9_min_7cf53 6 = .ok (.goto 4, 3) := by decide +kernel
theorem dJ9_min_7cf53_9 : decode cJ9_min_7cf53 9 = .ok (.iload_n 1, 1) := by decide +kernel
theorem dJ9_min_7cf53_10 : decode cJ9_min_7cf53 10 = .ok (.ireturn, 1) := by decide +kernel
theorem dJ7_fill_53178_0 : decode cJ7_fill_53178 0 = .ok (.iconst 0, 1) := by decide +kernel
theorem dJ7_fill_53178_1 : decode cJ7_fill_53178 1 = .ok (.istore_n 2, 1) := by decide +kernel
theorem dJ7_fill_53178_2 : decode cJ7_fill_53178 2 = .ok (.aload_n 0, 1) := by decide +kernel
theorem dJ7_fill_53178_3 : decode cJ7_fill_53178 3 = .ok (.arraylength, 1) := by decide +kernel
theorem dJ7_fill_53178_4 : decode cJ7_fill_53178 4 = .ok (.istore_n 3, 1) := by decide +kernel
theorem dJ7_fill_53178_5 : decode cJ7_fill_53178 5 = .ok (.iload_n 2, 1) := by decide +kernel
theorem dJ7_fill_53178_6 : decode cJ7_fill_53178 6 = .ok (.iload_n 3, 1) := by decide +kernel
theorem dJ7_fill_53178_7 : decode cJ7_fill_53178 7 = .ok (.if_icmp .ge 13, 3) := by decide +kernel
theorem dJ7_fill_53178_10 : decode cJ7_fill_53178 10 = .ok (.aload_n 0, 1) := by decide +kernel
theorem dJ7_fill_53178_11 : decode cJ7_fill_53178 11 = .ok (.iload_n 2, 1) := by decide +kernel
theorem dJ7_fill_53178_12 : decode cJ7_fill_53178 12 = .ok (.iload_n 1, 1) := by decide +kernel
theorem dJ7_fill_53178_13 : decode cJ7_fill_53178 13 = .ok (.iastore, 1) := by decide +kernel
theorem dJ7_fill_53178_14 : decode cJ7_fill_53178 14 = .ok (.iinc 2 1, 3) := by decide +kernel
theorem dJ7_fill_53178_17 : decode cJ7_fill_53178 17 = .ok (.goto (-12), 3) := by decide +kernel
theorem dJ7_fill_53178_20 : decode cJ7_fill_53178 20 = .ok (.return_, 1) := by decide +kernel
theorem dL_law_0 : decode cL_law 0 = .ok (.new 7, 3) := by decide +kernel
theorem dL_law_3 : decode cL_law 3 = .ok (.dup, 1) := by decide +kernel
theorem dL_law_4 : decode cL_law 4 = .ok (.invokespecial 9, 3) := by decide +kernel
theorem dL_law_7 : decode cL_law 7 = .ok (.astore_n 1, 1) := by decide +kernel
theorem dL_law_8 : decode cL_law 8 = .ok (.new 10, 3) := by decide +kernel
theorem dL_law_11 : decode cL_law 11 = .ok (.dup, 1) := by decide +kernel
theorem dL_law_12 : decode cL_law 12 = .ok (.invokespecial 12, 3) := by decide +kernel
theorem dL_law_15 : decode cL_law 15 = .ok (.astore_n 2, 1) := by decide +kernel
theorem dL_law_16 : decode cL_law 16 = .ok (.iconst 0, 1) := by decide +kernel
theorem dL_law_17 : decode cL_law 17 = .ok (.istore_n 3, 1) := by decide +kernel
theorem dL_law_18 : decode cL_law 18 = .ok (.iload_n 3, 1) := by decide +kernel
theorem dL_law_19 : decode cL_law 19 = .ok (.aload_n 0, 1) := by decide +kernel
theorem dL_law_20 : decode cL_law 20 = .ok (.arraylength, 1) := by decide +kernel
theorem dL_law_21 : decode cL_law 21 = .ok (.bipush 6, 2) := by decide +kernel
theorem dL_law_23 : decode cL_law 23 = .ok (.isub, 1) := by decide +kernel
theorem dL_law_24 : decode cL_law 24 = .ok (.if_icmp .gt 1087, 3) := by decide +kernel
theorem dL_law_27 : decode cL_law 27 = .ok (.aload_n 0, 1) := by decide +kernel
theorem dL_law_28 : decode cL_law 28 = .ok (.iload_n 3, 1) := by decide +kernel
theorem dL_law_29 : decode cL_law 29 = .ok (.iaload, 1) := by decide +kernel
theorem dL_law_30 : decode cL_law 30 = .ok (.bipush 31, 2) := by decide +kernel
theorem dL_law_32 : decode cL_law 32 = .ok (.iand, 1) := by decide +kernel
theorem dL_law_33 : decode cL_law 33 = .ok (.tableswitch 1072 0 29 #[135, 168, 217, 250, 313, 336, 359, 382, 415, 448, 481, 514, 567, 590, 623, 636, 679, 712, 745, 789, 812, 855, 888, 911, 954, 977, 1000, 1013, 1026, 1049], 135) := by decide +kernel
theorem dL_law_168 : decode cL_law 168 = .ok (.aload_n 1, 1) := by decide +kernel
theorem dL_law_169 : decode cL_law 169 = .ok (.aload_n 0, 1) := by decide +kernel
theorem dL_law_170 : decode cL_law 170 = .ok (.iload_n 3, 1) := by decide +kernel
theorem dL_law_171 : decode cL_law 171 = .ok (.iconst 1, 1) := by decide +kernel
theorem dL_law_172 : decode cL_law 172 = .ok (.iadd, 1) := by decide +kernel
theorem dL_law_173 : decode cL_law 173 = .ok (.iaload, 1) := by decide +kernel
theorem dL_law_174 : decode cL_law 174 = .ok (.aload_n 0, 1) := by decide +kernel
theorem dL_law_175 : decode cL_law 175 = .ok (.iload_n 3, 1) := by decide +kernel
theorem dL_law_176 : decode cL_law 176 = .ok (.iconst 2, 1) := by decide +kernel
theorem dL_law_177 : decode cL_law 177 = .ok (.iadd, 1) := by decide +kernel
theorem dL_law_178 : decode cL_law 178 = .ok (.iaload, 1) := by decide +kernel
theorem dL_law_179 : decode cL_law 179 = .ok (.invokevirtual 13, 3) := by decide +kernel
theorem dL_law_182 : decode cL_law 182 = .ok (.aload_n 2, 1) := by decide +kernel
theorem dL_law_183 : decode cL_law 183 = .ok (.aload_n 0, 1) := by decide +kernel
theorem dL_law_184 : decode cL_law 184 = .ok (.iload_n 3, 1) := by decide +kernel
theorem dL_law_185 : decode cL_law 185 = .ok (.iconst 1, 1) := by decide +kernel
theorem dL_law_186 : decode cL_law 186 = .ok (.iadd, 1) := by decide +kernel
theorem dL_law_187 : decode cL_law 187 = .ok (.iaload, 1) := by decide +kernel
theorem dL_law_188 : decode cL_law 188 = .ok (.aload_n 0, 1) := by decide +kernel
theorem dL_law_189 : decode cL_law 189 = .ok (.iload_n 3, 1) := by decide +kernel
theorem dL_law_190 : decode cL_law 190 = .ok (.iconst 2, 1) := by decide +kernel
theorem dL_law_191 : decode cL_law 191 = .ok (.iadd, 1) := by decide +kernel
theorem dL_law_192 : decode cL_law 192 = .ok (.iaload, 1) := by decide +kernel
theorem dL_law_193 : decode cL_law 193 = .ok (.invokevirtual 17, 3) := by decide +kernel
theorem dL_law_196 : decode cL_law 196 = .ok (.if_icmp .eq 909, 3) := by decide +kernel
theorem dL_law_199 : decode cL_law 199 = .ok (.iconst 0, 1) := by decide +kernel
theorem dL_law_200 : decode cL_law 200 = .ok (.ireturn, 1) := by decide +kernel
theorem dL_law_201 : decode cL_law 201 = .ok (.aload_n 1, 1) := by decide +kernel
theorem dL_law_202 : decode cL_law 202 = .ok (.aload_n 0, 1) := by decide +kernel
theorem dL_law_203 : decode cL_law 203 = .ok (.iload_n 3, 1) := by decide +kernel
theorem dL_law_204 : decode cL_law 204 = .ok (.iconst 1, 1) := by decide +kernel
theorem dL_law_205 : decode cL_law 205 = .ok (.iadd, 1) := by decide +kernel
theorem dL_law_206 : decode cL_law 206 = .ok (.iaload, 1) := by decide +kernel
theorem dL_law_207 : decode cL_law 207 = .ok (.aload_n 0, 1) := by decide +kernel
theorem dL_law_208 : decode cL_law 208 = .ok (.iload_n 3, 1) := by decide +kernel
theorem dL_law_209 : decode cL_law 209 = .ok (.iconst 2, 1) := by decide +kernel
theorem dL_law_210 : decode cL_law 210 = .ok (.iadd, 1) := by decide +kernel
theorem dL_law_211 : decode cL_law 211 = .ok (.iaload, 1) := by decide +kernel
theorem dL_law_212 : decode cL_law 212 = .ok (.ifCond .eq 7, 3) := by decide +kernel
theorem dL_law_215 : decode cL_law 215 = .ok (.iconst 1, 1) := by decide +kernel
theorem dL_law_216 : decode cL_law 216 = .ok (.goto 4, 3) := by decide +kernel
theorem dL_law_219 : decode cL_law 219 = .ok (.iconst 0, 1) := by decide +kernel
theorem dL_law_220 : decode cL_law 220 = .ok (.invokevirtual 18, 3) := by decide +kernel
theorem dL_law_223 : decode cL_law 223 = .ok (.aload_n 2, 1) := by decide +kernel
theorem dL_law_224 : decode cL_law 224 = .ok (.aload_n 0, 1) := by decide +kernel
theorem dL_law_225 : decode cL_law 225 = .ok (.iload_n 3, 1) := by decide +kernel
theorem dL_law_226 : decode cL_law 226 = .ok (.iconst 1, 1) := by decide +kernel
theorem dL_law_227 : decode cL_law 227 = .ok (.iadd, 1) := by decide +kernel
theorem dL_law_228 : decode cL_law 228 = .ok (.iaload, 1) := by decide +kernel
theorem dL_law_229 : decode cL_law 229 = .ok (.aload_n 0, 1) := by decide +kernel
theorem dL_law_230 : decode cL_law 230 = .ok (.iload_n 3, 1) := by decide +kernel
theorem dL_law_231 : decode cL_law 231 = .ok (.iconst 2, 1) := by decide +kernel
theorem dL_law_232 : decode cL_law 232 = .ok (.iadd, 1) := by decide +kernel
theorem dL_law_233 : decode cL_law 233 = .ok (.iaload, 1) := by decide +kernel
theorem dL_law_234 : decode cL_law 234 = .ok (.ifCond .eq 7, 3) := by decide +kernel
theorem dL_law_237 : decode cL_law 237 = .ok (.iconst 1, 1) := by decide +kernel
theorem dL_law_238 : decode cL_law 238 = .ok (.goto 4, 3) := by decide +kernel
theorem dL_law_241 : decode cL_law 241 = .ok (.iconst 0, 1) := by decide +kernel
theorem dL_law_242 : decode cL_law 242 = .ok (.invokevirtual 22, 3) := by decide +kernel
theorem dL_law_245 : decode cL_law 245 = .ok (.if_icmp .eq 860, 3) := by decide +kernel
theorem dL_law_248 : decode cL_law 248 = .ok (.iconst 0, 1) := by decide +kernel
theorem dL_law_249 : decode cL_law 249 = .ok (.ireturn, 1) := by decide +kernel
theorem dL_law_250 : decode cL_law 250 = .ok (.aload_n 1, 1) := by decide +kernel
theorem dL_law_251 : decode cL_law 251 = .ok (.aload_n 0, 1) := by decide +kernel
theorem dL_law_252 : decode cL_law 252 = .ok (.iload_n 3, 1) := by decide +kernel
theorem dL_law_253 : decode cL_law 253 = .ok (.iconst 1, 1) := by decide +kernel
theorem dL_law_254 : decode cL_law 254 = .ok (.iadd, 1) := by decide +kernel
theorem dL_law_255 : decode cL_law 255 = .ok (.iaload, 1) := by decide +kernel
theorem dL_law_256 : decode cL_law 256 = .ok (.aload_n 0, 1) := by decide +kernel
theorem dL_law_257 : decode cL_law 257 = .ok (.iload_n 3, 1) := by decide +kernel
theorem dL_law_258 : decode cL_law 258 = .ok (.iconst 2, 1) := by decide +kernel
theorem dL_law_259 : decode cL_law 259 = .ok (.iadd, 1) := by decide +kernel
theorem dL_law_260 : decode cL_law 260 = .ok (.iaload, 1) := by decide +kernel
theorem dL_law_261 : decode cL_law 261 = .ok (.invokevirtual 23, 3) := by decide +kernel
theorem dL_law_264 : decode cL_law 264 = .ok (.aload_n 2, 1) := by decide +kernel
theorem dL_law_265 : decode cL_law 265 = .ok (.aload_n 0, 1) := by decide +kernel
theorem dL_law_266 : decode cL_law 266 = .ok (.iload_n 3, 1) := by decide +kernel
theorem dL_law_267 : decode cL_law 267 = .ok (.iconst 1, 1) := by decide +kernel
theorem dL_law_268 : decode cL_law 268 = .ok (.iadd, 1) := by decide +kernel
theorem dL_law_269 : decode cL_law 269 = .ok (.iaload, 1) := by decide +kernel
theorem dL_law_270 : decode cL_law 270 = .ok (.aload_n 0, 1) := by decide +kernel
theorem dL_law_271 : decode cL_law 271 = .ok (.iload_n 3, 1) := by decide +kernel
theorem dL_law_272 : decode cL_law 272 = .ok (.iconst 2, 1) := by decide +kernel
theorem dL_law_273 : decode cL_law 273 = .ok (.iadd, 1) := by decide +kernel
theorem dL_law_274 : decode cL_law 274 = .ok (.iaload, 1) := by decide +kernel
theorem dL_law_275 : decode cL_law 275 = .ok (.invokevirtual 26, 3) := by decide +kernel
theorem dL_law_278 : decode cL_law 278 = .ok (.if_icmp .eq 827, 3) := by decide +kernel
theorem dL_law_281 : decode cL_law 281 = .ok (.iconst 0, 1) := by decide +kernel
theorem dL_law_282 : decode cL_law 282 = .ok (.ireturn, 1) := by decide +kernel
theorem dL_law_283 : decode cL_law 283 = .ok (.aload_n 1, 1) := by decide +kernel
theorem dL_law_284 : decode cL_law 284 = .ok (.aload_n 0, 1) := by decide +kernel
theorem dL_law_285 : decode cL_law 285 = .ok (.iload_n 3, 1) := by decide +kernel
theorem dL_law_286 : decode cL_law 286 = .ok (.iconst 1, 1) := by decide +kernel
theorem dL_law_287 : decode cL_law 287 = .ok (.iadd, 1) := by decide +kernel
theorem dL_law_288 : decode cL_law 288 = .ok (.iaload, 1) := by decide +kernel
theorem dL_law_289 : decode cL_law 289 = .ok (.aload_n 0, 1) := by decide +kernel
theorem dL_law_290 : decode cL_law 290 = .ok (.iload_n 3, 1) := by decide +kernel
theorem dL_law_291 : decode cL_law 291 = .ok (.iconst 2, 1) := by decide +kernel
theorem dL_law_292 : decode cL_law 292 = .ok (.iadd, 1) := by decide +kernel
theorem dL_law_293 : decode cL_law 293 = .ok (.iaload, 1) := by decide +kernel
theorem dL_law_294 : decode cL_law 294 = .ok (.aload_n 0, 1) := by decide +kernel
theorem dL_law_295 : decode cL_law 295 = .ok (.iload_n 3, 1) := by decide +kernel
theorem dL_law_296 : decode cL_law 296 = .ok (.iconst 3, 1) := by decide +kernel
theorem dL_law_297 : decode cL_law 297 = .ok (.iadd, 1) := by decide +kernel
theorem dL_law_298 : decode cL_law 298 = .ok (.iaload, 1) := by decide +kernel
theorem dL_law_299 : decode cL_law 299 = .ok (.aload_n 0, 1) := by decide +kernel
theorem dL_law_300 : decode cL_law 300 = .ok (.iload_n 3, 1) := by decide +kernel
theorem dL_law_301 : decode cL_law 301 = .ok (.iconst 4, 1) := by decide +kernel
theorem dL_law_302 : decode cL_law 302 = .ok (.iadd, 1) := by decide +kernel
theorem dL_law_303 : decode cL_law 303 = .ok (.iaload, 1) := by decide +kernel
theorem dL_law_304 : decode cL_law 304 = .ok (.aload_n 0, 1) := by decide +kernel
theorem dL_law_305 : decode cL_law 305 = .ok (.iload_n 3, 1) := by decide +kernel
theorem dL_law_306 : decode cL_law 306 = .ok (.iconst 5, 1) := by decide +kernel
theorem dL_law_307 : decode cL_law 307 = .ok (.iadd, 1) := by decide +kernel
theorem dL_law_308 : decode cL_law 308 = .ok (.iaload, 1) := by decide +kernel
theorem dL_law_309 : decode cL_law 309 = .ok (.invokevirtual 27, 3) := by decide +kernel
theorem dL_law_312 : decode cL_law 312 = .ok (.aload_n 2, 1) := by decide +kernel
theorem dL_law_313 : decode cL_law 313 = .ok (.aload_n 0, 1) := by decide +kernel
theorem dL_law_314 : decode cL_law 314 = .ok (.iload_n 3, 1) := by decide +kernel
theorem dL_law_315 : decode cL_law 315 = .ok (.iconst 1, 1) := by decide +kernel
theorem dL_law_316 : decode cL_law 316 = .ok (.iadd, 1) := by decide +kernel
theorem dL_law_317 : decode cL_law 317 = .ok (.iaload, 1) := by decide +kernel
theorem dL_law_318 : decode cL_law 318 = .ok (.aload_n 0, 1) := by decide +kernel
theorem dL_law_319 : decode cL_law 319 = .ok (.iload_n 3, 1) := by decide +kernel
theorem dL_law_320 : decode cL_law 320 = .ok (.iconst 2, 1) := by decide +kernel
theorem dL_law_321 : decode cL_law 321 = .ok (.iadd, 1) := by decide +kernel
theorem dL_law_322 : decode cL_law 322 = .ok (.iaload, 1) := by decide +kernel
theorem dL_law_323 : decode cL_law 323 = .ok (.aload_n 0, 1) := by decide +kernel
theorem dL_law_324 : decode cL_law 324 = .ok (.iload_n 3, 1) := by decide +kernel
theorem dL_law_325 : decode cL_law 325 = .ok (.iconst 3, 1) := by decide +kernel
theorem dL_law_326 : decode cL_law 326 = .ok (.iadd, 1) := by decide +kernel
theorem dL_law_327 : decode cL_law 327 = .ok (.iaload, 1) := by decide +kernel
theorem dL_law_328 : decode cL_law 328 = .ok (.aload_n 0, 1) := by decide +kernel
theorem dL_law_329 : decode cL_law 329 = .ok (.iload_n 3, 1) := by decide +kernel
theorem dL_law_330 : decode cL_law 330 = .ok (.iconst 4, 1) := by decide +kernel
theorem dL_law_331 : decode cL_law 331 = .ok (.iadd, 1) := by decide +kernel
theorem dL_law_332 : decode cL_law 332 = .ok (.iaload, 1) := by decide +kernel
theorem dL_law_333 : decode cL_law 333 = .ok (.aload_n 0, 1) := by decide +kernel
theorem dL_law_334 : decode cL_law 334 = .ok (.iload_n 3, 1) := by decide +kernel
theorem dL_law_335 : decode cL_law 335 = .ok (.iconst 5, 1) := by decide +kernel
theorem dL_law_336 : decode cL_law 336 = .ok (.iadd, 1) := by decide +kernel
theorem dL_law_337 : decode cL_law 337 = .ok (.iaload, 1) := by decide +kernel
theorem dL_law_338 : decode cL_law 338 = .ok (.invokevirtual 31, 3) := by decide +kernel
theorem dL_law_341 : decode cL_law 341 = .ok (.if_icmp .eq 764, 3) := by decide +kernel
theorem dL_law_344 : decode cL_law 344 = .ok (.iconst 0, 1) := by decide +kernel
theorem dL_law_345 : decode cL_law 345 = .ok (.ireturn, 1) := by decide +kernel
theorem dL_law_346 : decode cL_law 346 = .ok (.aload_n 1, 1) := by decide +kernel
theorem dL_law_347 : decode cL_law 347 = .ok (.aload_n 0, 1) := by decide +kernel
theorem dL_law_348 : decode cL_law 348 = .ok (.iload_n 3, 1) := by decide +kernel
theorem dL_law_349 : decode cL_law 349 = .ok (.iconst 1, 1) := by decide +kernel
theorem dL_law_350 : decode cL_law 350 = .ok (.iadd, 1) := by decide +kernel
theorem dL_law_351 : decode cL_law 351 = .ok (.iaload, 1) := by decide +kernel
theorem dL_law_352 : decode cL_law 352 = .ok (.invokevirtual 32, 3) := by decide +kernel
theorem dL_law_355 : decode cL_law 355 = .ok (.aload_n 2, 1) := by decide +kernel
theorem dL_law_356 : decode cL_law 356 = .ok (.aload_n 0, 1) := by decide +kernel
theorem dL_law_357 : decode cL_law 357 = .ok (.iload_n 3, 1) := by decide +kernel
theorem dL_law_358 : decode cL_law 358 = .ok (.iconst 1, 1) := by decide +kernel
theorem dL_law_359 : decode cL_law 359 = .ok (.iadd, 1) := by decide +kernel
theorem dL_law_360 : decode cL_law 360 = .ok (.iaload, 1) := by decide +kernel
theorem dL_law_361 : decode cL_law 361 = .ok (.invokevirtual 36, 3) := by decide +kernel
theorem dL_law_364 : decode cL_law 364 = .ok (.if_icmp .eq 741, 3) := by decide +kernel
theorem dL_law_367 : decode cL_law 367 = .ok (.iconst 0, 1) := by decide +kernel
theorem dL_law_368 : decode cL_law 368 = .ok (.ireturn, 1) := by decide +kernel
theorem dL_law_369 : decode cL_law 369 = .ok (.aload_n 1, 1) := by decide +kernel
theorem dL_law_370 : decode cL_law 370 = .ok (.aload_n 0, 1) := by decide +kernel
theorem dL_law_371 : decode cL_law 371 = .ok (.iload_n 3, 1) := by decide +kernel
theorem dL_law_372 : decode cL_law 372 = .ok (.iconst 1, 1) := by decide +kernel
theorem dL_law_373 : decode cL_law 373 = .ok (.iadd, 1) := by decide +kernel
theorem dL_law_374 : decode cL_law 374 = .ok (.iaload, 1) := by decide +kernel
theorem dL_law_375 : decode cL_law 375 = .ok (.invokevirtual 37, 3) := by decide +kernel
theorem dL_law_378 : decode cL_law 378 = .ok (.aload_n 2, 1) := by decide +kernel
theorem dL_law_379 : decode cL_law 379 = .ok (.aload_n 0, 1) := by decide +kernel
theorem dL_law_380 : decode cL_law 380 = .ok (.iload_n 3, 1) := by decide +kernel
theorem dL_law_381 : decode cL_law 381 = .ok (.iconst 1, 1) := by decide +kernel
theorem dL_law_382 : decode cL_law 382 = .ok (.iadd, 1) := by decide +kernel
theorem dL_law_383 : decode cL_law 383 = .ok (.iaload, 1) := by decide +kernel
theorem dL_law_384 : decode cL_law 384 = .ok (.invokevirtual 40, 3) := by decide +kernel
theorem dL_law_387 : decode cL_law 387 = .ok (.if_icmp .eq 718, 3) := by decide +kernel
theorem dL_law_390 : decode cL_law 390 = .ok (.iconst 0, 1) := by decide +kernel
theorem dL_law_391 : decode cL_law 391 = .ok (.ireturn, 1) := by decide +kernel
theorem dL_law_392 : decode cL_law 392 = .ok (.aload_n 1, 1) := by decide +kernel
theorem dL_law_393 : decode cL_law 393 = .ok (.aload_n 0, 1) := by decide +kernel
theorem dL_law_394 : decode cL_law 394 = .ok (.iload_n 3, 1) := by decide +kernel
theorem dL_law_395 : decode cL_law 395 = .ok (.iconst 1, 1) := by decide +kernel
theorem dL_law_396 : decode cL_law 396 = .ok (.iadd, 1) := by decide +kernel
theorem dL_law_397 : decode cL_law 397 = .ok (.iaload, 1) := by decide +kernel
theorem dL_law_398 : decode cL_law 398 = .ok (.invokevirtual 41, 3) := by decide +kernel
theorem dL_law_401 : decode cL_law 401 = .ok (.aload_n 2, 1) := by decide +kernel
theorem dL_law_402 : decode cL_law 402 = .ok (.aload_n 0, 1) := by decide +kernel
theorem dL_law_403 : decode cL_law 403 = .ok (.iload_n 3, 1) := by decide +kernel
theorem dL_law_404 : decode cL_law 404 = .ok (.iconst 1, 1) := by decide +kernel
theorem dL_law_405 : decode cL_law 405 = .ok (.iadd, 1) := by decide +kernel
theorem dL_law_406 : decode cL_law 406 = .ok (.iaload, 1) := by decide +kernel
theorem dL_law_407 : decode cL_law 407 = .ok (.invokevirtual 44, 3) := by decide +kernel
theorem dL_law_410 : decode cL_law 410 = .ok (.if_icmp .eq 695, 3) := by decide +kernel
theorem dL_law_413 : decode cL_law 413 = .ok (.iconst 0, 1) := by decide +kernel
theorem dL_law_414 : decode cL_law 414 = .ok (.ireturn, 1) := by decide +kernel
theorem dL_law_415 : decode cL_law 415 = .ok (.aload_n 1, 1) := by decide +kernel
theorem dL_law_416 : decode cL_law 416 = .ok (.aload_n 0, 1) := by decide +kernel
theorem dL_law_417 : decode cL_law 417 = .ok (.iload_n 3, 1) := by decide +kernel
theorem dL_law_418 : decode cL_law 418 = .ok (.iconst 1, 1) := by decide +kernel
theorem dL_law_419 : decode cL_law 419 = .ok (.iadd, 1) := by decide +kernel
theorem dL_law_420 : decode cL_law 420 = .ok (.iaload, 1) := by decide +kernel
theorem dL_law_421 : decode cL_law 421 = .ok (.aload_n 0, 1) := by decide +kernel
theorem dL_law_422 : decode cL_law 422 = .ok (.iload_n 3, 1) := by decide +kernel
theorem dL_law_423 : decode cL_law 423 = .ok (.iconst 2, 1) := by decide +kernel
theorem dL_law_424 : decode cL_law 424 = .ok (.iadd, 1) := by decide +kernel
theorem dL_law_425 : decode cL_law 425 = .ok (.iaload, 1) := by decide +kernel
theorem dL_law_426 : decode cL_law 426 = .ok (.invokevirtual 45, 3) := by decide +kernel
theorem dL_law_429 : decode cL_law 429 = .ok (.aload_n 2, 1) := by decide +kernel
theorem dL_law_430 : decode cL_law 430 = .ok (.aload_n 0, 1) := by decide +kernel
theorem dL_law_431 : decode cL_law 431 = .ok (.iload_n 3, 1) := by decide +kernel
theorem dL_law_432 : decode cL_law 432 = .ok (.iconst 1, 1) := by decide +kernel
theorem dL_law_433 : decode cL_law 433 = .ok (.iadd, 1) := by decide +kernel
theorem dL_law_434 : decode cL_law 434 = .ok (.iaload, 1) := by decide +kernel
theorem dL_law_435 : decode cL_law 435 = .ok (.aload_n 0, 1) := by decide +kernel
theorem dL_law_436 : decode cL_law 436 = .ok (.iload_n 3, 1) := by decide +kernel
theorem dL_law_437 : decode cL_law 437 = .ok (.iconst 2, 1) := by decide +kernel
theorem dL_law_438 : decode cL_law 438 = .ok (.iadd, 1) := by decide +kernel
theorem dL_law_439 : decode cL_law 439 = .ok (.iaload, 1) := by decide +kernel
theorem dL_law_440 : decode cL_law 440 = .ok (.invokevirtual 49, 3) := by decide +kernel
theorem dL_law_443 : decode cL_law 443 = .ok (.if_icmp .eq 662, 3) := by decide +kernel
theorem dL_law_446 : decode cL_law 446 = .ok (.iconst 0, 1) := by decide +kernel
theorem dL_law_447 : decode cL_law 447 = .ok (.ireturn, 1) := by decide +kernel
theorem dL_law_448 : decode cL_law 448 = .ok (.aload_n 1, 1) := by decide +kernel
theorem dL_law_449 : decode cL_law 449 = .ok (.aload_n 0, 1) := by decide +kernel
theorem dL_law_450 : decode cL_law 450 = .ok (.iload_n 3, 1) := by decide +kernel
theorem dL_law_451 : decode cL_law 451 = .ok (.iconst 1, 1) := by decide +kernel
theorem dL_law_452 : decode cL_law 452 = .ok (.iadd, 1) := by decide +kernel
theorem dL_law_453 : decode cL_law 453 = .ok (.iaload, 1) := by decide +kernel
theorem dL_law_454 : decode cL_law 454 = .ok (.aload_n 0, 1) := by decide +kernel
theorem dL_law_455 : decode cL_law 455 = .ok (.iload_n 3, 1) := by decide +kernel
theorem dL_law_456 : decode cL_law 456 = .ok (.iconst 2, 1) := by decide +kernel
theorem dL_law_457 : decode cL_law 457 = .ok (.iadd, 1) := by decide +kernel
theorem dL_law_458 : decode cL_law 458 = .ok (.iaload, 1) := by decide +kernel
theorem dL_law_459 : decode cL_law 459 = .ok (.invokevirtual 50, 3) := by decide +kernel
theorem dL_law_462 : decode cL_law 462 = .ok (.aload_n 2, 1) := by decide +kernel
theorem dL_law_463 : decode cL_law 463 = .ok (.aload_n 0, 1) := by decide +kernel
theorem dL_law_464 : decode cL_law 464 = .ok (.iload_n 3, 1) := by decide +kernel
theorem dL_law_465 : decode cL_law 465 = .ok (.iconst 1, 1) := by decide +kernel
theorem dL_law_466 : decode cL_law 466 = .ok (.iadd, 1) := by decide +kernel
theorem dL_law_467 : decode cL_law 467 = .ok (.iaload, 1) := by decide +kernel
theorem dL_law_468 : decode cL_law 468 = .ok (.aload_n 0, 1) := by decide +kernel
theorem dL_law_469 : decode cL_law 469 = .ok (.iload_n 3, 1) := by decide +kernel
theorem dL_law_470 : decode cL_law 470 = .ok (.iconst 2, 1) := by decide +kernel
theorem dL_law_471 : decode cL_law 471 = .ok (.iadd, 1) := by decide +kernel
theorem dL_law_472 : decode cL_law 472 = .ok (.iaload, 1) := by decide +kernel
theorem dL_law_473 : decode cL_law 473 = .ok (.invokevirtual 53, 3) := by decide +kernel
theorem dL_law_476 : decode cL_law 476 = .ok (.if_icmp .eq 629, 3) := by decide +kernel
theorem dL_law_479 : decode cL_law 479 = .ok (.iconst 0, 1) := by decide +kernel
theorem dL_law_480 : decode cL_law 480 = .ok (.ireturn, 1) := by decide +kernel
theorem dL_law_481 : decode cL_law 481 = .ok (.aload_n 1, 1) := by decide +kernel
theorem dL_law_482 : decode cL_law 482 = .ok (.aload_n 0, 1) := by decide +kernel
theorem dL_law_483 : decode cL_law 483 = .ok (.iload_n 3, 1) := by decide +kernel
theorem dL_law_484 : decode cL_law 484 = .ok (.iconst 1, 1) := by decide +kernel
theorem dL_law_485 : decode cL_law 485 = .ok (.iadd, 1) := by decide +kernel
theorem dL_law_486 : decode cL_law 486 = .ok (.iaload, 1) := by decide +kernel
theorem dL_law_487 : decode cL_law 487 = .ok (.aload_n 0, 1) := by decide +kernel
theorem dL_law_488 : decode cL_law 488 = .ok (.iload_n 3, 1) := by decide +kernel
theorem dL_law_489 : decode cL_law 489 = .ok (.iconst 2, 1) := by decide +kernel
theorem dL_law_490 : decode cL_law 490 = .ok (.iadd, 1) := by decide +kernel
theorem dL_law_491 : decode cL_law 491 = .ok (.iaload, 1) := by decide +kernel
theorem dL_law_492 : decode cL_law 492 = .ok (.invokevirtual 54, 3) := by decide +kernel
theorem dL_law_495 : decode cL_law 495 = .ok (.aload_n 2, 1) := by decide +kernel
theorem dL_law_496 : decode cL_law 496 = .ok (.aload_n 0, 1) := by decide +kernel
theorem dL_law_497 : decode cL_law 497 = .ok (.iload_n 3, 1) := by decide +kernel
theorem dL_law_498 : decode cL_law 498 = .ok (.iconst 1, 1) := by decide +kernel
theorem dL_law_499 : decode cL_law 499 = .ok (.iadd, 1) := by decide +kernel
theorem dL_law_500 : decode cL_law 500 = .ok (.iaload, 1) := by decide +kernel
theorem dL_law_501 : decode cL_law 501 = .ok (.aload_n 0, 1) := by decide +kernel
theorem dL_law_502 : decode cL_law 502 = .ok (.iload_n 3, 1) := by decide +kernel
theorem dL_law_503 : decode cL_law 503 = .ok (.iconst 2, 1) := by decide +kernel
theorem dL_law_504 : decode cL_law 504 = .ok (.iadd, 1) := by decide +kernel
theorem dL_law_505 : decode cL_law 505 = .ok (.iaload, 1) := by decide +kernel
theorem dL_law_506 : decode cL_law 506 = .ok (.invokevirtual 57, 3) := by decide +kernel
theorem dL_law_509 : decode cL_law 509 = .ok (.if_icmp .eq 596, 3) := by decide +kernel
theorem dL_law_512 : decode cL_law 512 = .ok (.iconst 0, 1) := by decide +kernel
theorem dL_law_513 : decode cL_law 513 = .ok (.ireturn, 1) := by decide +kernel
theorem dL_law_514 : decode cL_law 514 = .ok (.aload_n 1, 1) := by decide +kernel
theorem dL_law_515 : decode cL_law 515 = .ok (.aload_n 0, 1) := by decide +kernel
theorem dL_law_516 : decode cL_law 516 = .ok (.iload_n 3, 1) := by decide +kernel
theorem dL_law_517 : decode cL_law 517 = .ok (.iconst 1, 1) := by decide +kernel
theorem dL_law_518 : decode cL_law 518 = .ok (.iadd, 1) := by decide +kernel
theorem dL_law_519 : decode cL_law 519 = .ok (.iaload, 1) := by decide +kernel
theorem dL_law_520 : decode cL_law 520 = .ok (.aload_n 0, 1) := by decide +kernel
theorem dL_law_521 : decode cL_law 521 = .ok (.iload_n 3, 1) := by decide +kernel
theorem dL_law_522 : decode cL_law 522 = .ok (.iconst 2, 1) := by decide +kernel
theorem dL_law_523 : decode cL_law 523 = .ok (.iadd, 1) := by decide +kernel
theorem dL_law_524 : decode cL_law 524 = .ok (.iaload, 1) := by decide +kernel
theorem dL_law_525 : decode cL_law 525 = .ok (.invokevirtual 58, 3) := by decide +kernel
theorem dL_law_528 : decode cL_law 528 = .ok (.aload_n 2, 1) := by decide +kernel
theorem dL_law_529 : decode cL_law 529 = .ok (.aload_n 0, 1) := by decide +kernel
theorem dL_law_530 : decode cL_law 530 = .ok (.iload_n 3, 1) := by decide +kernel
theorem dL_law_531 : decode cL_law 531 = .ok (.iconst 1, 1) := by decide +kernel
theorem dL_law_532 : decode cL_law 532 = .ok (.iadd, 1) := by decide +kernel
theorem dL_law_533 : decode cL_law 533 = .ok (.iaload, 1) := by decide +kernel
theorem dL_law_534 : decode cL_law 534 = .ok (.aload_n 0, 1) := by decide +kernel
theorem dL_law_535 : decode cL_law 535 = .ok (.iload_n 3, 1) := by decide +kernel
theorem dL_law_536 : decode cL_law 536 = .ok (.iconst 2, 1) := by decide +kernel
theorem dL_law_537 : decode cL_law 537 = .ok (.iadd, 1) := by decide +kernel
theorem dL_law_538 : decode cL_law 538 = .ok (.iaload, 1) := by decide +kernel
theorem dL_law_539 : decode cL_law 539 = .ok (.invokevirtual 61, 3) := by decide +kernel
theorem dL_law_542 : decode cL_law 542 = .ok (.if_icmp .eq 563, 3) := by decide +kernel
theorem dL_law_545 : decode cL_law 545 = .ok (.iconst 0, 1) := by decide +kernel
theorem dL_law_546 : decode cL_law 546 = .ok (.ireturn, 1) := by decide +kernel
theorem dL_law_547 : decode cL_law 547 = .ok (.aload_n 1, 1) := by decide +kernel
theorem dL_law_548 : decode cL_law 548 = .ok (.aload_n 0, 1) := by decide +kernel
theorem dL_law_549 : decode cL_law 549 = .ok (.iload_n 3, 1) := by decide +kernel
theorem dL_law_550 : decode cL_law 550 = .ok (.iconst 1, 1) := by decide +kernel
theorem dL_law_551 : decode cL_law 551 = .ok (.iadd, 1) := by decide +kernel
theorem dL_law_552 : decode cL_law 552 = .ok (.iaload, 1) := by decide +kernel
theorem dL_law_553 : decode cL_law 553 = .ok (.aload_n 0, 1) := by decide +kernel
theorem dL_law_554 : decode cL_law 554 = .ok (.iload_n 3, 1) := by decide +kernel
theorem dL_law_555 : decode cL_law 555 = .ok (.iconst 2, 1) := by decide +kernel
theorem dL_law_556 : decode cL_law 556 = .ok (.iadd, 1) := by decide +kernel
theorem dL_law_557 : decode cL_law 557 = .ok (.iaload, 1) := by decide +kernel
theorem dL_law_558 : decode cL_law 558 = .ok (.aload_n 0, 1) := by decide +kernel
theorem dL_law_559 : decode cL_law 559 = .ok (.iload_n 3, 1) := by decide +kernel
theorem dL_law_560 : decode cL_law 560 = .ok (.iconst 3, 1) := by decide +kernel
theorem dL_law_561 : decode cL_law 561 = .ok (.iadd, 1) := by decide +kernel
theorem dL_law_562 : decode cL_law 562 = .ok (.iaload, 1) := by decide +kernel
theorem dL_law_563 : decode cL_law 563 = .ok (.aload_n 0, 1) := by decide +kernel
theorem dL_law_564 : decode cL_law 564 = .ok (.iload_n 3, 1) := by decide +kernel
theorem dL_law_565 : decode cL_law 565 = .ok (.iconst 4, 1) := by decide +kernel
theorem dL_law_566 : decode cL_law 566 = .ok (.iadd, 1) := by decide +kernel
theorem dL_law_567 : decode cL_law 567 = .ok (.iaload, 1) := by decide +kernel
theorem dL_law_568 : decode cL_law 568 = .ok (.invokevirtual 62, 3) := by decide +kernel
theorem dL_law_571 : decode cL_law 571 = .ok (.aload_n 2, 1) := by decide +kernel
theorem dL_law_572 : decode cL_law 572 = .ok (.aload_n 0, 1) := by decide +kernel
theorem dL_law_573 : decode cL_law 573 = .ok (.iload_n 3, 1) := by decide +kernel
theorem dL_law_574 : decode cL_law 574 = .ok (.iconst 1, 1) := by decide +kernel
theorem dL_law_575 : decode cL_law 575 = .ok (.iadd, 1) := by decide +kernel
theorem dL_law_576 : decode cL_law 576 = .ok (.iaload, 1) := by decide +kernel
theorem dL_law_577 : decode cL_law 577 = .ok (.aload_n 0, 1) := by decide +kernel
theorem dL_law_578 : decode cL_law 578 = .ok (.iload_n 3, 1) := by decide +kernel
theorem dL_law_579 : decode cL_law 579 = .ok (.iconst 2, 1) := by decide +kernel
theorem dL_law_580 : decode cL_law 580 = .ok (.iadd, 1) := by decide +kernel
theorem dL_law_581 : decode cL_law 581 = .ok (.iaload, 1) := by decide +kernel
theorem dL_law_582 : decode cL_law 582 = .ok (.aload_n 0, 1) := by decide +kernel
theorem dL_law_583 : decode cL_law 583 = .ok (.iload_n 3, 1) := by decide +kernel
theorem dL_law_584 : decode cL_law 584 = .ok (.iconst 3, 1) := by decide +kernel
theorem dL_law_585 : decode cL_law 585 = .ok (.iadd, 1) := by decide +kernel
theorem dL_law_586 : decode cL_law 586 = .ok (.iaload, 1) := by decide +kernel
theorem dL_law_587 : decode cL_law 587 = .ok (.aload_n 0, 1) := by decide +kernel
theorem dL_law_588 : decode cL_law 588 = .ok (.iload_n 3, 1) := by decide +kernel
theorem dL_law_589 : decode cL_law 589 = .ok (.iconst 4, 1) := by decide +kernel
theorem dL_law_590 : decode cL_law 590 = .ok (.iadd, 1) := by decide +kernel
theorem dL_law_591 : decode cL_law 591 = .ok (.iaload, 1) := by decide +kernel
theorem dL_law_592 : decode cL_law 592 = .ok (.invokevirtual 66, 3) := by decide +kernel
theorem dL_law_595 : decode cL_law 595 = .ok (.if_icmp .eq 510, 3) := by decide +kernel
theorem dL_law_598 : decode cL_law 598 = .ok (.iconst 0, 1) := by decide +kernel
theorem dL_law_599 : decode cL_law 599 = .ok (.ireturn, 1) := by decide +kernel
theorem dL_law_600 : decode cL_law 600 = .ok (.aload_n 1, 1) := by decide +kernel
theorem dL_law_601 : decode cL_law 601 = .ok (.aload_n 0, 1) := by decide +kernel
theorem dL_law_602 : decode cL_law 602 = .ok (.iload_n 3, 1) := by decide +kernel
theorem dL_law_603 : decode cL_law 603 = .ok (.iconst 1, 1) := by decide +kernel
theorem dL_law_604 : decode cL_law 604 = .ok (.iadd, 1) := by decide +kernel
theorem dL_law_605 : decode cL_law 605 = .ok (.iaload, 1) := by decide +kernel
theorem dL_law_606 : decode cL_law 606 = .ok (.invokevirtual 67, 3) := by decide +kernel
theorem dL_law_609 : decode cL_law 609 = .ok (.aload_n 2, 1) := by decide +kernel
theorem dL_law_610 : decode cL_law 610 = .ok (.aload_n 0, 1) := by decide +kernel
theorem dL_law_611 : decode cL_law 611 = .ok (.iload_n 3, 1) := by decide +kernel
theorem dL_law_612 : decode cL_law 612 = .ok (.iconst 1, 1) := by decide +kernel
theorem dL_law_613 : decode cL_law 613 = .ok (.iadd, 1) := by decide +kernel
theorem dL_law_614 : decode cL_law 614 = .ok (.iaload, 1) := by decide +kernel
theorem dL_law_615 : decode cL_law 615 = .ok (.invokevirtual 70, 3) := by decide +kernel
theorem dL_law_618 : decode cL_law 618 = .ok (.if_icmp .eq 487, 3) := by decide +kernel
theorem dL_law_621 : decode cL_law 621 = .ok (.iconst 0, 1) := by decide +kernel
theorem dL_law_622 : decode cL_law 622 = .ok (.ireturn, 1) := by decide +kernel
theorem dL_law_623 : decode cL_law 623 = .ok (.aload_n 1, 1) := by decide +kernel
theorem dL_law_624 : decode cL_law 624 = .ok (.aload_n 0, 1) := by decide +kernel
theorem dL_law_625 : decode cL_law 625 = .ok (.iload_n 3, 1) := by decide +kernel
theorem dL_law_626 : decode cL_law 626 = .ok (.iconst 1, 1) := by decide +kernel
theorem dL_law_627 : decode cL_law 627 = .ok (.iadd, 1) := by decide +kernel
theorem dL_law_628 : decode cL_law 628 = .ok (.iaload, 1) := by decide +kernel
theorem dL_law_629 : decode cL_law 629 = .ok (.aload_n 0, 1) := by decide +kernel
theorem dL_law_630 : decode cL_law 630 = .ok (.iload_n 3, 1) := by decide +kernel
theorem dL_law_631 : decode cL_law 631 = .ok (.iconst 2, 1) := by decide +kernel
theorem dL_law_632 : decode cL_law 632 = .ok (.iadd, 1) := by decide +kernel
theorem dL_law_633 : decode cL_law 633 = .ok (.iaload, 1) := by decide +kernel
theorem dL_law_634 : decode cL_law 634 = .ok (.invokevirtual 71, 3) := by decide +kernel
theorem dL_law_637 : decode cL_law 637 = .ok (.aload_n 2, 1) := by decide +kernel
theorem dL_law_638 : decode cL_law 638 = .ok (.aload_n 0, 1) := by decide +kernel
theorem dL_law_639 : decode cL_law 639 = .ok (.iload_n 3, 1) := by decide +kernel
theorem dL_law_640 : decode cL_law 640 = .ok (.iconst 1, 1) := by decide +kernel
theorem dL_law_641 : decode cL_law 641 = .ok (.iadd, 1) := by decide +kernel
theorem dL_law_642 : decode cL_law 642 = .ok (.iaload, 1) := by decide +kernel
theorem dL_law_643 : decode cL_law 643 = .ok (.aload_n 0, 1) := by decide +kernel
theorem dL_law_644 : decode cL_law 644 = .ok (.iload_n 3, 1) := by decide +kernel
theorem dL_law_645 : decode cL_law 645 = .ok (.iconst 2, 1) := by decide +kernel
theorem dL_law_646 : decode cL_law 646 = .ok (.iadd, 1) := by decide +kernel
theorem dL_law_647 : decode cL_law 647 = .ok (.iaload, 1) := by decide +kernel
theorem dL_law_648 : decode cL_law 648 = .ok (.invokevirtual 74, 3) := by decide +kernel
theorem dL_law_651 : decode cL_law 651 = .ok (.if_icmp .eq 454, 3) := by decide +kernel
theorem dL_law_654 : decode cL_law 654 = .ok (.iconst 0, 1) := by decide +kernel
theorem dL_law_655 : decode cL_law 655 = .ok (.ireturn, 1) := by decide +kernel
theorem dL_law_656 : decode cL_law 656 = .ok (.aload_n 1, 1) := by decide +kernel
theorem dL_law_657 : decode cL_law 657 = .ok (.invokevirtual 75, 3) := by decide +kernel
theorem dL_law_660 : decode cL_law 660 = .ok (.aload_n 2, 1) := by decide +kernel
theorem dL_law_661 : decode cL_law 661 = .ok (.invokevirtual 79, 3) := by decide +kernel
theorem dL_law_664 : decode cL_law 664 = .ok (.if_icmp .eq 441, 3) := by decide +kernel
theorem dL_law_667 : decode cL_law 667 = .ok (.iconst 0, 1) := by decide +kernel
theorem dL_law_668 : decode cL_law 668 = .ok (.ireturn, 1) := by decide +kernel
theorem dL_law_669 : decode cL_law 669 = .ok (.aload_n 1, 1) := by decide +kernel
theorem dL_law_670 : decode cL_law 670 = .ok (.aload_n 0, 1) := by decide +kernel
theorem dL_law_671 : decode cL_law 671 = .ok (.iload_n 3, 1) := by decide +kernel
theorem dL_law_672 : decode cL_law 672 = .ok (.iconst 1, 1) := by decide +kernel
theorem dL_law_673 : decode cL_law 673 = .ok (.iadd, 1) := by decide +kernel
theorem dL_law_674 : decode cL_law 674 = .ok (.iaload, 1) := by decide +kernel
theorem dL_law_675 : decode cL_law 675 = .ok (.aload_n 0, 1) := by decide +kernel
theorem dL_law_676 : decode cL_law 676 = .ok (.iload_n 3, 1) := by decide +kernel
theorem dL_law_677 : decode cL_law 677 = .ok (.iconst 2, 1) := by decide +kernel
theorem dL_law_678 : decode cL_law 678 = .ok (.iadd, 1) := by decide +kernel
theorem dL_law_679 : decode cL_law 679 = .ok (.iaload, 1) := by decide +kernel
theorem dL_law_680 : decode cL_law 680 = .ok (.aload_n 0, 1) := by decide +kernel
theorem dL_law_681 : decode cL_law 681 = .ok (.iload_n 3, 1) := by decide +kernel
theorem dL_law_682 : decode cL_law 682 = .ok (.iconst 3, 1) := by decide +kernel
theorem dL_law_683 : decode cL_law 683 = .ok (.iadd, 1) := by decide +kernel
theorem dL_law_684 : decode cL_law 684 = .ok (.iaload, 1) := by decide +kernel
theorem dL_law_685 : decode cL_law 685 = .ok (.invokevirtual 80, 3) := by decide +kernel
theorem dL_law_688 : decode cL_law 688 = .ok (.aload_n 2, 1) := by decide +kernel
theorem dL_law_689 : decode cL_law 689 = .ok (.aload_n 0, 1) := by decide +kernel
theorem dL_law_690 : decode cL_law 690 = .ok (.iload_n 3, 1) := by decide +kernel
theorem dL_law_691 : decode cL_law 691 = .ok (.iconst 1, 1) := by decide +kernel
theorem dL_law_692 : decode cL_law 692 = .ok (.iadd, 1) := by decide +kernel
theorem dL_law_693 : decode cL_law 693 = .ok (.iaload, 1) := by decide +kernel
theorem dL_law_694 : decode cL_law 694 = .ok (.aload_n 0, 1) := by decide +kernel
theorem dL_law_695 : decode cL_law 695 = .ok (.iload_n 3, 1) := by decide +kernel
theorem dL_law_696 : decode cL_law 696 = .ok (.iconst 2, 1) := by decide +kernel
theorem dL_law_697 : decode cL_law 697 = .ok (.iadd, 1) := by decide +kernel
theorem dL_law_698 : decode cL_law 698 = .ok (.iaload, 1) := by decide +kernel
theorem dL_law_699 : decode cL_law 699 = .ok (.aload_n 0, 1) := by decide +kernel
theorem dL_law_700 : decode cL_law 700 = .ok (.iload_n 3, 1) := by decide +kernel
theorem dL_law_701 : decode cL_law 701 = .ok (.iconst 3, 1) := by decide +kernel
theorem dL_law_702 : decode cL_law 702 = .ok (.iadd, 1) := by decide +kernel
theorem dL_law_703 : decode cL_law 703 = .ok (.iaload, 1) := by decide +kernel
theorem dL_law_704 : decode cL_law 704 = .ok (.invokevirtual 84, 3) := by decide +kernel
theorem dL_law_707 : decode cL_law 707 = .ok (.if_icmp .eq 398, 3) := by decide +kernel
theorem dL_law_710 : decode cL_law 710 = .ok (.iconst 0, 1) := by decide +kernel
theorem dL_law_711 : decode cL_law 711 = .ok (.ireturn, 1) := by decide +kernel
theorem dL_law_712 : decode cL_law 712 = .ok (.aload_n 1, 1) := by decide +kernel
theorem dL_law_713 : decode cL_law 713 = .ok (.aload_n 0, 1) := by decide +kernel
theorem dL_law_714 : decode cL_law 714 = .ok (.iload_n 3, 1) := by decide +kernel
theorem dL_law_715 : decode cL_law 715 = .ok (.iconst 1, 1) := by decide +kernel
theorem dL_law_716 : decode cL_law 716 = .ok (.iadd, 1) := by decide +kernel
theorem dL_law_717 : decode cL_law 717 = .ok (.iaload, 1) := by decide +kernel
theorem dL_law_718 : decode cL_law 718 = .ok (.aload_n 0, 1) := by decide +kernel
theorem dL_law_719 : decode cL_law 719 = .ok (.iload_n 3, 1) := by decide +kernel
theorem dL_law_720 : decode cL_law 720 = .ok (.iconst 2, 1) := by decide +kernel
theorem dL_law_721 : decode cL_law 721 = .ok (.iadd, 1) := by decide +kernel
theorem dL_law_722 : decode cL_law 722 = .ok (.iaload, 1) := by decide +kernel
theorem dL_law_723 : decode cL_law 723 = .ok (.invokevirtual 85, 3) := by decide +kernel
theorem dL_law_726 : decode cL_law 726 = .ok (.aload_n 2, 1) := by decide +kernel
theorem dL_law_727 : decode cL_law 727 = .ok (.aload_n 0, 1) := by decide +kernel
theorem dL_law_728 : decode cL_law 728 = .ok (.iload_n 3, 1) := by decide +kernel
theorem dL_law_729 : decode cL_law 729 = .ok (.iconst 1, 1) := by decide +kernel
theorem dL_law_730 : decode cL_law 730 = .ok (.iadd, 1) := by decide +kernel
theorem dL_law_731 : decode cL_law 731 = .ok (.iaload, 1) := by decide +kernel
theorem dL_law_732 : decode cL_law 732 = .ok (.aload_n 0, 1) := by decide +kernel
theorem dL_law_733 : decode cL_law 733 = .ok (.iload_n 3, 1) := by decide +kernel
theorem dL_law_734 : decode cL_law 734 = .ok (.iconst 2, 1) := by decide +kernel
theorem dL_law_735 : decode cL_law 735 = .ok (.iadd, 1) := by decide +kernel
theorem dL_law_736 : decode cL_law 736 = .ok (.iaload, 1) := by decide +kernel
theorem dL_law_737 : decode cL_law 737 = .ok (.invokevirtual 88, 3) := by decide +kernel
theorem dL_law_740 : decode cL_law 740 = .ok (.if_icmp .eq 365, 3) := by decide +kernel
theorem dL_law_743 : decode cL_law 743 = .ok (.iconst 0, 1) := by decide +kernel
theorem dL_law_744 : decode cL_law 744 = .ok (.ireturn, 1) := by decide +kernel
theorem dL_law_745 : decode cL_law 745 = .ok (.aload_n 1, 1) := by decide +kernel
theorem dL_law_746 : decode cL_law 746 = .ok (.aload_n 0, 1) := by decide +kernel
theorem dL_law_747 : decode cL_law 747 = .ok (.iload_n 3, 1) := by decide +kernel
theorem dL_law_748 : decode cL_law 748 = .ok (.iconst 1, 1) := by decide +kernel
theorem dL_law_749 : decode cL_law 749 = .ok (.iadd, 1) := by decide +kernel
theorem dL_law_750 : decode cL_law 750 = .ok (.iaload, 1) := by decide +kernel
theorem dL_law_751 : decode cL_law 751 = .ok (.aload_n 0, 1) := by decide +kernel
theorem dL_law_752 : decode cL_law 752 = .ok (.iload_n 3, 1) := by decide +kernel
theorem dL_law_753 : decode cL_law 753 = .ok (.iconst 2, 1) := by decide +kernel
theorem dL_law_754 : decode cL_law 754 = .ok (.iadd, 1) := by decide +kernel
theorem dL_law_755 : decode cL_law 755 = .ok (.iaload, 1) := by decide +kernel
theorem dL_law_756 : decode cL_law 756 = .ok (.invokevirtual 89, 3) := by decide +kernel
theorem dL_law_759 : decode cL_law 759 = .ok (.aload_n 2, 1) := by decide +kernel
theorem dL_law_760 : decode cL_law 760 = .ok (.aload_n 0, 1) := by decide +kernel
theorem dL_law_761 : decode cL_law 761 = .ok (.iload_n 3, 1) := by decide +kernel
theorem dL_law_762 : decode cL_law 762 = .ok (.iconst 1, 1) := by decide +kernel
theorem dL_law_763 : decode cL_law 763 = .ok (.iadd, 1) := by decide +kernel
theorem dL_law_764 : decode cL_law 764 = .ok (.iaload, 1) := by decide +kernel
theorem dL_law_765 : decode cL_law 765 = .ok (.aload_n 0, 1) := by decide +kernel
theorem dL_law_766 : decode cL_law 766 = .ok (.iload_n 3, 1) := by decide +kernel
theorem dL_law_767 : decode cL_law 767 = .ok (.iconst 2, 1) := by decide +kernel
theorem dL_law_768 : decode cL_law 768 = .ok (.iadd, 1) := by decide +kernel
theorem dL_law_769 : decode cL_law 769 = .ok (.iaload, 1) := by decide +kernel
theorem dL_law_770 : decode cL_law 770 = .ok (.invokevirtual 92, 3) := by decide +kernel
theorem dL_law_773 : decode cL_law 773 = .ok (.if_icmp .eq 332, 3) := by decide +kernel
theorem dL_law_776 : decode cL_law 776 = .ok (.iconst 0, 1) := by decide +kernel
theorem dL_law_777 : decode cL_law 777 = .ok (.ireturn, 1) := by decide +kernel
theorem dL_law_778 : decode cL_law 778 = .ok (.aload_n 1, 1) := by decide +kernel
theorem dL_law_779 : decode cL_law 779 = .ok (.aload_n 0, 1) := by decide +kernel
theorem dL_law_780 : decode cL_law 780 = .ok (.iload_n 3, 1) := by decide +kernel
theorem dL_law_781 : decode cL_law 781 = .ok (.iconst 1, 1) := by decide +kernel
theorem dL_law_782 : decode cL_law 782 = .ok (.iadd, 1) := by decide +kernel
theorem dL_law_783 : decode cL_law 783 = .ok (.iaload, 1) := by decide +kernel
theorem dL_law_784 : decode cL_law 784 = .ok (.aload_n 0, 1) := by decide +kernel
theorem dL_law_785 : decode cL_law 785 = .ok (.iload_n 3, 1) := by decide +kernel
theorem dL_law_786 : decode cL_law 786 = .ok (.iconst 2, 1) := by decide +kernel
theorem dL_law_787 : decode cL_law 787 = .ok (.iadd, 1) := by decide +kernel
theorem dL_law_788 : decode cL_law 788 = .ok (.iaload, 1) := by decide +kernel
theorem dL_law_789 : decode cL_law 789 = .ok (.aload_n 0, 1) := by decide +kernel
theorem dL_law_790 : decode cL_law 790 = .ok (.iload_n 3, 1) := by decide +kernel
theorem dL_law_791 : decode cL_law 791 = .ok (.iconst 3, 1) := by decide +kernel
theorem dL_law_792 : decode cL_law 792 = .ok (.iadd, 1) := by decide +kernel
theorem dL_law_793 : decode cL_law 793 = .ok (.iaload, 1) := by decide +kernel
theorem dL_law_794 : decode cL_law 794 = .ok (.invokevirtual 93, 3) := by decide +kernel
theorem dL_law_797 : decode cL_law 797 = .ok (.aload_n 2, 1) := by decide +kernel
theorem dL_law_798 : decode cL_law 798 = .ok (.aload_n 0, 1) := by decide +kernel
theorem dL_law_799 : decode cL_law 799 = .ok (.iload_n 3, 1) := by decide +kernel
theorem dL_law_800 : decode cL_law 800 = .ok (.iconst 1, 1) := by decide +kernel
theorem dL_law_801 : decode cL_law 801 = .ok (.iadd, 1) := by decide +kernel
theorem dL_law_802 : decode cL_law 802 = .ok (.iaload, 1) := by decide +kernel
theorem dL_law_803 : decode cL_law 803 = .ok (.aload_n 0, 1) := by decide +kernel
theorem dL_law_804 : decode cL_law 804 = .ok (.iload_n 3, 1) := by decide +kernel
theorem dL_law_805 : decode cL_law 805 = .ok (.iconst 2, 1) := by decide +kernel
theorem dL_law_806 : decode cL_law 806 = .ok (.iadd, 1) := by decide +kernel
theorem dL_law_807 : decode cL_law 807 = .ok (.iaload, 1) := by decide +kernel
theorem dL_law_808 : decode cL_law 808 = .ok (.aload_n 0, 1) := by decide +kernel
theorem dL_law_809 : decode cL_law 809 = .ok (.iload_n 3, 1) := by decide +kernel
theorem dL_law_810 : decode cL_law 810 = .ok (.iconst 3, 1) := by decide +kernel
theorem dL_law_811 : decode cL_law 811 = .ok (.iadd, 1) := by decide +kernel
theorem dL_law_812 : decode cL_law 812 = .ok (.iaload, 1) := by decide +kernel
theorem dL_law_813 : decode cL_law 813 = .ok (.invokevirtual 97, 3) := by decide +kernel
theorem dL_law_816 : decode cL_law 816 = .ok (.lcmp, 1) := by decide +kernel
theorem dL_law_817 : decode cL_law 817 = .ok (.ifCond .eq 288, 3) := by decide +kernel
theorem dL_law_820 : decode cL_law 820 = .ok (.iconst 0, 1) := by decide +kernel
theorem dL_law_821 : decode cL_law 821 = .ok (.ireturn, 1) := by decide +kernel
theorem dL_law_822 : decode cL_law 822 = .ok (.aload_n 1, 1) := by decide +kernel
theorem dL_law_823 : decode cL_law 823 = .ok (.aload_n 0, 1) := by decide +kernel
theorem dL_law_824 : decode cL_law 824 = .ok (.iload_n 3, 1) := by decide +kernel
theorem dL_law_825 : decode cL_law 825 = .ok (.iconst 1, 1) := by decide +kernel
theorem dL_law_826 : decode cL_law 826 = .ok (.iadd, 1) := by decide +kernel
theorem dL_law_827 : decode cL_law 827 = .ok (.iaload, 1) := by decide +kernel
theorem dL_law_828 : decode cL_law 828 = .ok (.invokevirtual 98, 3) := by decide +kernel
theorem dL_law_831 : decode cL_law 831 = .ok (.aload_n 2, 1) := by decide +kernel
theorem dL_law_832 : decode cL_law 832 = .ok (.aload_n 0, 1) := by decide +kernel
theorem dL_law_833 : decode cL_law 833 = .ok (.iload_n 3, 1) := by decide +kernel
theorem dL_law_834 : decode cL_law 834 = .ok (.iconst 1, 1) := by decide +kernel
theorem dL_law_835 : decode cL_law 835 = .ok (.iadd, 1) := by decide +kernel
theorem dL_law_836 : decode cL_law 836 = .ok (.iaload, 1) := by decide +kernel
theorem dL_law_837 : decode cL_law 837 = .ok (.invokevirtual 101, 3) := by decide +kernel
theorem dL_law_840 : decode cL_law 840 = .ok (.if_icmp .eq 265, 3) := by decide +kernel
theorem dL_law_843 : decode cL_law 843 = .ok (.iconst 0, 1) := by decide +kernel
theorem dL_law_844 : decode cL_law 844 = .ok (.ireturn, 1) := by decide +kernel
theorem dL_law_845 : decode cL_law 845 = .ok (.aload_n 1, 1) := by decide +kernel
theorem dL_law_846 : decode cL_law 846 = .ok (.aload_n 0, 1) := by decide +kernel
theorem dL_law_847 : decode cL_law 847 = .ok (.iload_n 3, 1) := by decide +kernel
theorem dL_law_848 : decode cL_law 848 = .ok (.iconst 1, 1) := by decide +kernel
theorem dL_law_849 : decode cL_law 849 = .ok (.iadd, 1) := by decide +kernel
theorem dL_law_850 : decode cL_law 850 = .ok (.iaload, 1) := by decide +kernel
theorem dL_law_851 : decode cL_law 851 = .ok (.aload_n 0, 1) := by decide +kernel
theorem dL_law_852 : decode cL_law 852 = .ok (.iload_n 3, 1) := by decide +kernel
theorem dL_law_853 : decode cL_law 853 = .ok (.iconst 2, 1) := by decide +kernel
theorem dL_law_854 : decode cL_law 854 = .ok (.iadd, 1) := by decide +kernel
theorem dL_law_855 : decode cL_law 855 = .ok (.iaload, 1) := by decide +kernel
theorem dL_law_856 : decode cL_law 856 = .ok (.aload_n 0, 1) := by decide +kernel
theorem dL_law_857 : decode cL_law 857 = .ok (.iload_n 3, 1) := by decide +kernel
theorem dL_law_858 : decode cL_law 858 = .ok (.iconst 3, 1) := by decide +kernel
theorem dL_law_859 : decode cL_law 859 = .ok (.iadd, 1) := by decide +kernel
theorem dL_law_860 : decode cL_law 860 = .ok (.iaload, 1) := by decide +kernel
theorem dL_law_861 : decode cL_law 861 = .ok (.invokevirtual 102, 3) := by decide +kernel
theorem dL_law_864 : decode cL_law 864 = .ok (.aload_n 2, 1) := by decide +kernel
theorem dL_law_865 : decode cL_law 865 = .ok (.aload_n 0, 1) := by decide +kernel
theorem dL_law_866 : decode cL_law 866 = .ok (.iload_n 3, 1) := by decide +kernel
theorem dL_law_867 : decode cL_law 867 = .ok (.iconst 1, 1) := by decide +kernel
theorem dL_law_868 : decode cL_law 868 = .ok (.iadd, 1) := by decide +kernel
theorem dL_law_869 : decode cL_law 869 = .ok (.iaload, 1) := by decide +kernel
theorem dL_law_870 : decode cL_law 870 = .ok (.aload_n 0, 1) := by decide +kernel
theorem dL_law_871 : decode cL_law 871 = .ok (.iload_n 3, 1) := by decide +kernel
theorem dL_law_872 : decode cL_law 872 = .ok (.iconst 2, 1) := by decide +kernel
theorem dL_law_873 : decode cL_law 873 = .ok (.iadd, 1) := by decide +kernel
theorem dL_law_874 : decode cL_law 874 = .ok (.iaload, 1) := by decide +kernel
theorem dL_law_875 : decode cL_law 875 = .ok (.aload_n 0, 1) := by decide +kernel
theorem dL_law_876 : decode cL_law 876 = .ok (.iload_n 3, 1) := by decide +kernel
theorem dL_law_877 : decode cL_law 877 = .ok (.iconst 3, 1) := by decide +kernel
theorem dL_law_878 : decode cL_law 878 = .ok (.iadd, 1) := by decide +kernel
theorem dL_law_879 : decode cL_law 879 = .ok (.iaload, 1) := by decide +kernel
theorem dL_law_880 : decode cL_law 880 = .ok (.invokevirtual 105, 3) := by decide +kernel
theorem dL_law_883 : decode cL_law 883 = .ok (.if_icmp .eq 222, 3) := by decide +kernel
theorem dL_law_886 : decode cL_law 886 = .ok (.iconst 0, 1) := by decide +kernel
theorem dL_law_887 : decode cL_law 887 = .ok (.ireturn, 1) := by decide +kernel
theorem dL_law_888 : decode cL_law 888 = .ok (.aload_n 1, 1) := by decide +kernel
theorem dL_law_889 : decode cL_law 889 = .ok (.aload_n 0, 1) := by decide +kernel
theorem dL_law_890 : decode cL_law 890 = .ok (.iload_n 3, 1) := by decide +kernel
theorem dL_law_891 : decode cL_law 891 = .ok (.iconst 1, 1) := by decide +kernel
theorem dL_law_892 : decode cL_law 892 = .ok (.iadd, 1) := by decide +kernel
theorem dL_law_893 : decode cL_law 893 = .ok (.iaload, 1) := by decide +kernel
theorem dL_law_894 : decode cL_law 894 = .ok (.aload_n 0, 1) := by decide +kernel
theorem dL_law_895 : decode cL_law 895 = .ok (.iload_n 3, 1) := by decide +kernel
theorem dL_law_896 : decode cL_law 896 = .ok (.iconst 2, 1) := by decide +kernel
theorem dL_law_897 : decode cL_law 897 = .ok (.iadd, 1) := by decide +kernel
theorem dL_law_898 : decode cL_law 898 = .ok (.iaload, 1) := by decide +kernel
theorem dL_law_899 : decode cL_law 899 = .ok (.invokevirtual 106, 3) := by decide +kernel
theorem dL_law_902 : decode cL_law 902 = .ok (.aload_n 2, 1) := by decide +kernel
theorem dL_law_903 : decode cL_law 903 = .ok (.aload_n 0, 1) := by decide +kernel
theorem dL_law_904 : decode cL_law 904 = .ok (.iload_n 3, 1) := by decide +kernel
theorem dL_law_905 : decode cL_law 905 = .ok (.iconst 1, 1) := by decide +kernel
theorem dL_law_906 : decode cL_law 906 = .ok (.iadd, 1) := by decide +kernel
theorem dL_law_907 : decode cL_law 907 = .ok (.iaload, 1) := by decide +kernel
theorem dL_law_908 : decode cL_law 908 = .ok (.aload_n 0, 1) := by decide +kernel
theorem dL_law_909 : decode cL_law 909 = .ok (.iload_n 3, 1) := by decide +kernel
theorem dL_law_910 : decode cL_law 910 = .ok (.iconst 2, 1) := by decide +kernel
theorem dL_law_911 : decode cL_law 911 = .ok (.iadd, 1) := by decide +kernel
theorem dL_law_912 : decode cL_law 912 = .ok (.iaload, 1) := by decide +kernel
theorem dL_law_913 : decode cL_law 913 = .ok (.invokevirtual 109, 3) := by decide +kernel
theorem dL_law_916 : decode cL_law 916 = .ok (.if_icmp .eq 189, 3) := by decide +kernel
theorem dL_law_919 : decode cL_law 919 = .ok (.iconst 0, 1) := by decide +kernel
theorem dL_law_920 : decode cL_law 920 = .ok (.ireturn, 1) := by decide +kernel
theorem dL_law_921 : decode cL_law 921 = .ok (.aload_n 1, 1) := by decide +kernel
theorem dL_law_922 : decode cL_law 922 = .ok (.aload_n 0, 1) := by decide +kernel
theorem dL_law_923 : decode cL_law 923 = .ok (.iload_n 3, 1) := by decide +kernel
theorem dL_law_924 : decode cL_law 924 = .ok (.iconst 1, 1) := by decide +kernel
theorem dL_law_925 : decode cL_law 925 = .ok (.iadd, 1) := by decide +kernel
theorem dL_law_926 : decode cL_law 926 = .ok (.iaload, 1) := by decide +kernel
theorem dL_law_927 : decode cL_law 927 = .ok (.invokevirtual 110, 3) := by decide +kernel
theorem dL_law_930 : decode cL_law 930 = .ok (.aload_n 2, 1) := by decide +kernel
theorem dL_law_931 : decode cL_law 931 = .ok (.aload_n 0, 1) := by decide +kernel
theorem dL_law_932 : decode cL_law 932 = .ok (.iload_n 3, 1) := by decide +kernel
theorem dL_law_933 : decode cL_law 933 = .ok (.iconst 1, 1) := by decide +kernel
theorem dL_law_934 : decode cL_law 934 = .ok (.iadd, 1) := by decide +kernel
theorem dL_law_935 : decode cL_law 935 = .ok (.iaload, 1) := by decide +kernel
theorem dL_law_936 : decode cL_law 936 = .ok (.invokevirtual 113, 3) := by decide +kernel
theorem dL_law_939 : decode cL_law 939 = .ok (.if_icmp .eq 166, 3) := by decide +kernel
theorem dL_law_942 : decode cL_law 942 = .ok (.iconst 0, 1) := by decide +kernel
theorem dL_law_943 : decode cL_law 943 = .ok (.ireturn, 1) := by decide +kernel
theorem dL_law_944 : decode cL_law 944 = .ok (.aload_n 1, 1) := by decide +kernel
theorem dL_law_945 : decode cL_law 945 = .ok (.aload_n 0, 1) := by decide +kernel
theorem dL_law_946 : decode cL_law 946 = .ok (.iload_n 3, 1) := by decide +kernel
theorem dL_law_947 : decode cL_law 947 = .ok (.iconst 1, 1) := by decide +kernel
theorem dL_law_948 : decode cL_law 948 = .ok (.iadd, 1) := by decide +kernel
theorem dL_law_949 : decode cL_law 949 = .ok (.iaload, 1) := by decide +kernel
theorem dL_law_950 : decode cL_law 950 = .ok (.aload_n 0, 1) := by decide +kernel
theorem dL_law_951 : decode cL_law 951 = .ok (.iload_n 3, 1) := by decide +kernel
theorem dL_law_952 : decode cL_law 952 = .ok (.iconst 2, 1) := by decide +kernel
theorem dL_law_953 : decode cL_law 953 = .ok (.iadd, 1) := by decide +kernel
theorem dL_law_954 : decode cL_law 954 = .ok (.iaload, 1) := by decide +kernel
theorem dL_law_955 : decode cL_law 955 = .ok (.aload_n 0, 1) := by decide +kernel
theorem dL_law_956 : decode cL_law 956 = .ok (.iload_n 3, 1) := by decide +kernel
theorem dL_law_957 : decode cL_law 957 = .ok (.iconst 3, 1) := by decide +kernel
theorem dL_law_958 : decode cL_law 958 = .ok (.iadd, 1) := by decide +kernel
theorem dL_law_959 : decode cL_law 959 = .ok (.iaload, 1) := by decide +kernel
theorem dL_law_960 : decode cL_law 960 = .ok (.invokevirtual 114, 3) := by decide +kernel
theorem dL_law_963 : decode cL_law 963 = .ok (.aload_n 2, 1) := by decide +kernel
theorem dL_law_964 : decode cL_law 964 = .ok (.aload_n 0, 1) := by decide +kernel
theorem dL_law_965 : decode cL_law 965 = .ok (.iload_n 3, 1) := by decide +kernel
theorem dL_law_966 : decode cL_law 966 = .ok (.iconst 1, 1) := by decide +kernel
theorem dL_law_967 : decode cL_law 967 = .ok (.iadd, 1) := by decide +kernel
theorem dL_law_968 : decode cL_law 968 = .ok (.iaload, 1) := by decide +kernel
theorem dL_law_969 : decode cL_law 969 = .ok (.aload_n 0, 1) := by decide +kernel
theorem dL_law_970 : decode cL_law 970 = .ok (.iload_n 3, 1) := by decide +kernel
theorem dL_law_971 : decode cL_law 971 = .ok (.iconst 2, 1) := by decide +kernel
theorem dL_law_972 : decode cL_law 972 = .ok (.iadd, 1) := by decide +kernel
theorem dL_law_973 : decode cL_law 973 = .ok (.iaload, 1) := by decide +kernel
theorem dL_law_974 : decode cL_law 974 = .ok (.aload_n 0, 1) := by decide +kernel
theorem dL_law_975 : decode cL_law 975 = .ok (.iload_n 3, 1) := by decide +kernel
theorem dL_law_976 : decode cL_law 976 = .ok (.iconst 3, 1) := by decide +kernel
theorem dL_law_977 : decode cL_law 977 = .ok (.iadd, 1) := by decide +kernel
theorem dL_law_978 : decode cL_law 978 = .ok (.iaload, 1) := by decide +kernel
theorem dL_law_979 : decode cL_law 979 = .ok (.invokevirtual 117, 3) := by decide +kernel
theorem dL_law_982 : decode cL_law 982 = .ok (.if_icmp .eq 123, 3) := by decide +kernel
theorem dL_law_985 : decode cL_law 985 = .ok (.iconst 0, 1) := by decide +kernel
theorem dL_law_986 : decode cL_law 986 = .ok (.ireturn, 1) := by decide +kernel
theorem dL_law_987 : decode cL_law 987 = .ok (.aload_n 1, 1) := by decide +kernel
theorem dL_law_988 : decode cL_law 988 = .ok (.aload_n 0, 1) := by decide +kernel
theorem dL_law_989 : decode cL_law 989 = .ok (.iload_n 3, 1) := by decide +kernel
theorem dL_law_990 : decode cL_law 990 = .ok (.iconst 1, 1) := by decide +kernel
theorem dL_law_991 : decode cL_law 991 = .ok (.iadd, 1) := by decide +kernel
theorem dL_law_992 : decode cL_law 992 = .ok (.iaload, 1) := by decide +kernel
theorem dL_law_993 : decode cL_law 993 = .ok (.invokevirtual 118, 3) := by decide +kernel
theorem dL_law_996 : decode cL_law 996 = .ok (.aload_n 2, 1) := by decide +kernel
theorem dL_law_997 : decode cL_law 997 = .ok (.aload_n 0, 1) := by decide +kernel
theorem dL_law_998 : decode cL_law 998 = .ok (.iload_n 3, 1) := by decide +kernel
theorem dL_law_999 : decode cL_law 999 = .ok (.iconst 1, 1) := by decide +kernel
theorem dL_law_1000 : decode cL_law 1000 = .ok (.iadd, 1) := by decide +kernel
theorem dL_law_1001 : decode cL_law 1001 = .ok (.iaload, 1) := by decide +kernel
theorem dL_law_1002 : decode cL_law 1002 = .ok (.invokevirtual 121, 3) := by decide +kernel
theorem dL_law_1005 : decode cL_law 1005 = .ok (.if_icmp .eq 100, 3) := by decide +kernel
theorem dL_law_1008 : decode cL_law 1008 = .ok (.iconst 0, 1) := by decide +kernel
theorem dL_law_1009 : decode cL_law 1009 = .ok (.ireturn, 1) := by decide +kernel
theorem dL_law_1010 : decode cL_law 1010 = .ok (.aload_n 1, 1) := by decide +kernel
theorem dL_law_1011 : decode cL_law 1011 = .ok (.aload_n 0, 1) := by decide +kernel
theorem dL_law_1012 : decode cL_law 1012 = .ok (.iload_n 3, 1) := by decide +kernel
theorem dL_law_1013 : decode cL_law 1013 = .ok (.iconst 1, 1) := by decide +kernel
theorem dL_law_1014 : decode cL_law 1014 = .ok (.iadd, 1) := by decide +kernel
theorem dL_law_1015 : decode cL_law 1015 = .ok (.iaload, 1) := by decide +kernel
theorem dL_law_1016 : decode cL_law 1016 = .ok (.invokevirtual 122, 3) := by decide +kernel
theorem dL_law_1019 : decode cL_law 1019 = .ok (.aload_n 2, 1) := by decide +kernel
theorem dL_law_1020 : decode cL_law 1020 = .ok (.aload_n 0, 1) := by decide +kernel
theorem dL_law_1021 : decode cL_law 1021 = .ok (.iload_n 3, 1) := by decide +kernel
theorem dL_law_1022 : decode cL_law 1022 = .ok (.iconst 1, 1) := by decide +kernel
theorem dL_law_1023 : decode cL_law 1023 = .ok (.iadd, 1) := by decide +kernel
theorem dL_law_1024 : decode cL_law 1024 = .ok (.iaload, 1) := by decide +kernel
theorem dL_law_1025 : decode cL_law 1025 = .ok (.invokevirtual 126, 3) := by decide +kernel
theorem dL_law_1028 : decode cL_law 1028 = .ok (.if_icmp .eq 77, 3) := by decide +kernel
theorem dL_law_1031 : decode cL_law 1031 = .ok (.iconst 0, 1) := by decide +kernel
theorem dL_law_1032 : decode cL_law 1032 = .ok (.ireturn, 1) := by decide +kernel
theorem dL_law_1033 : decode cL_law 1033 = .ok (.aload_n 1, 1) := by decide +kernel
theorem dL_law_1034 : decode cL_law 1034 = .ok (.invokevirtual 127, 3) := by decide +kernel
theorem dL_law_1037 : decode cL_law 1037 = .ok (.aload_n 2, 1) := by decide +kernel
theorem dL_law_1038 : decode cL_law 1038 = .ok (.invokevirtual 130, 3) := by decide +kernel
theorem dL_law_1041 : decode cL_law 1041 = .ok (.if_icmp .eq 64, 3) := by decide +kernel
theorem dL_law_1044 : decode cL_law 1044 = .ok (.iconst 0, 1) := by decide +kernel
theorem dL_law_1045 : decode cL_law 1045 = .ok (.ireturn, 1) := by decide +kernel
theorem dL_law_1046 : decode cL_law 1046 = .ok (.aload_n 1, 1) := by decide +kernel
theorem dL_law_1047 : decode cL_law 1047 = .ok (.invokevirtual 131, 3) := by decide +kernel
theorem dL_law_1050 : decode cL_law 1050 = .ok (.aload_n 2, 1) := by decide +kernel
theorem dL_law_1051 : decode cL_law 1051 = .ok (.invokevirtual 135, 3) := by decide +kernel
theorem dL_law_1054 : decode cL_law 1054 = .ok (.if_icmp .eq 51, 3) := by decide +kernel
theorem dL_law_1057 : decode cL_law 1057 = .ok (.iconst 0, 1) := by decide +kernel
theorem dL_law_1058 : decode cL_law 1058 = .ok (.ireturn, 1) := by decide +kernel
theorem dL_law_1059 : decode cL_law 1059 = .ok (.aload_n 1, 1) := by decide +kernel
theorem dL_law_1060 : decode cL_law 1060 = .ok (.aload_n 0, 1) := by decide +kernel
theorem dL_law_1061 : decode cL_law 1061 = .ok (.iload_n 3, 1) := by decide +kernel
theorem dL_law_1062 : decode cL_law 1062 = .ok (.iconst 1, 1) := by decide +kernel
theorem dL_law_1063 : decode cL_law 1063 = .ok (.iadd, 1) := by decide +kernel
theorem dL_law_1064 : decode cL_law 1064 = .ok (.iaload, 1) := by decide +kernel
theorem dL_law_1065 : decode cL_law 1065 = .ok (.invokevirtual 136, 3) := by decide +kernel
theorem dL_law_1068 : decode cL_law 1068 = .ok (.aload_n 2, 1) := by decide +kernel
theorem dL_law_1069 : decode cL_law 1069 = .ok (.aload_n 0, 1) := by decide +kernel
theorem dL_law_1070 : decode cL_law 1070 = .ok (.iload_n 3, 1) := by decide +kernel
theorem dL_law_1071 : decode cL_law 1071 = .ok (.iconst 1, 1) := by decide +kernel
theorem dL_law_1072 : decode cL_law 1072 = .ok (.iadd, 1) := by decide +kernel
theorem dL_law_1073 : decode cL_law 1073 = .ok (.iaload, 1) := by decide +kernel
theorem dL_law_1074 : decode cL_law 1074 = .ok (.invokevirtual 139, 3) := by decide +kernel
theorem dL_law_1077 : decode cL_law 1077 = .ok (.if_icmp .eq 28, 3) := by decide +kernel
theorem dL_law_1080 : decode cL_law 1080 = .ok (.iconst 0, 1) := by decide +kernel
theorem dL_law_1081 : decode cL_law 1081 = .ok (.ireturn, 1) := by decide +kernel
theorem dL_law_1082 : decode cL_law 1082 = .ok (.aload_n 1, 1) := by decide +kernel
theorem dL_law_1083 : decode cL_law 1083 = .ok (.aload_n 0, 1) := by decide +kernel
theorem dL_law_1084 : decode cL_law 1084 = .ok (.iload_n 3, 1) := by decide +kernel
theorem dL_law_1085 : decode cL_law 1085 = .ok (.iconst 1, 1) := by decide +kernel
theorem dL_law_1086 : decode cL_law 1086 = .ok (.iadd, 1) := by decide +kernel
theorem dL_law_1087 : decode cL_law 1087 = .ok (.iaload, 1) := by decide +kernel
theorem dL_law_1088 : decode cL_law 1088 = .ok (.invokevirtual 140, 3) := by decide +kernel
theorem dL_law_1091 : decode cL_law 1091 = .ok (.aload_n 2, 1) := by decide +kernel
theorem dL_law_1092 : decode cL_law 1092 = .ok (.aload_n 0, 1) := by decide +kernel
theorem dL_law_1093 : decode cL_law 1093 = .ok (.iload_n 3, 1) := by decide +kernel
theorem dL_law_1094 : decode cL_law 1094 = .ok (.iconst 1, 1) := by decide +kernel
theorem dL_law_1095 : decode cL_law 1095 = .ok (.iadd, 1) := by decide +kernel
theorem dL_law_1096 : decode cL_law 1096 = .ok (.iaload, 1) := by decide +kernel
theorem dL_law_1097 : decode cL_law 1097 = .ok (.invokevirtual 143, 3) := by decide +kernel
theorem dL_law_1100 : decode cL_law 1100 = .ok (.if_icmp .eq 5, 3) := by decide +kernel
theorem dL_law_1103 : decode cL_law 1103 = .ok (.iconst 0, 1) := by decide +kernel
theorem dL_law_1104 : decode cL_law 1104 = .ok (.ireturn, 1) := by decide +kernel
theorem dL_law_1105 : decode cL_law 1105 = .ok (.iinc 3 6, 3) := by decide +kernel
theorem dL_law_1108 : decode cL_law 1108 = .ok (.goto (-1090), 3) := by decide +kernel
theorem dL_law_1111 : decode cL_law 1111 = .ok (.iconst 1, 1) := by decide +kernel
theorem dL_law_1112 : decode cL_law 1112 = .ok (.ireturn, 1) := by decide +kernel
