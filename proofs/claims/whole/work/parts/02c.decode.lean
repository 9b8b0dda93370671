theorem dX12_readsSum_14 : decode cX12_readsSum 14 = .ok (.aload_n 0, 1) := by decide +kernel
theorem dX12_readsSum_15 : decode cX12_readsSum 15 = .ok (.invokevirtual 129, 3) := by decide +kernel
theorem dX12_readsSum_18 : decode cX12_readsSum 18 = .ok (.invokestatic 177, 3) := by decide +kernel
theorem dX12_readsSum_21 : decode cX12_readsSum 21 = .ok (.istore_n 2, 1) := by decide +kernel
theorem dX12_readsSum_22 : decode cX12_readsSum 22 = .ok (.iload_n 2, 1) := by decide +kernel
theorem dX12_readsSum_23 : decode cX12_readsSum 23 = .ok (.iconst (-1), 1) := by decide +kernel
theorem dX12_readsSum_24 : decode cX12_readsSum 24 = .ok (.if_icmp .eq 59, 3) := by decide +kernel
theorem dX12_readsSum_27 : decode cX12_readsSum 27 = .ok (.aload_n 0, 1) := by decide +kernel
theorem dX12_readsSum_28 : decode cX12_readsSum 28 = .ok (.iload_n 2, 1) := by decide +kernel
theorem dX12_readsSum_29 : decode cX12_readsSum 29 = .ok (.iconst 4, 1) := by decide +kernel
theorem dX12_readsSum_30 : decode cX12_readsSum 30 = .ok (.if_icmp .ge 7, 3) := by decide +kernel
theorem dX12_readsSum_33 : decode cX12_readsSum 33 = .ok (.iconst 1, 1) := by decide +kernel
theorem dX12_readsSum_34 : decode cX12_readsSum 34 = .ok (.goto 4, 3) := by decide +kernel
theorem dX12_readsSum_37 : decode cX12_readsSum 37 = .ok (.iconst 0, 1) := by decide +kernel
theorem dX12_readsSum_38 : decode cX12_readsSum 38 = .ok (.invokevirtual 180, 3) := by decide +kernel
theorem dX12_readsSum_41 : decode cX12_readsSum 41 = .ok (.aload_n 0, 1) := by decide +kernel
theorem dX12_readsSum_42 : decode cX12_readsSum 42 = .ok (.getfield 26, 3) := by decide +kernel
theorem dX12_readsSum_45 : decode cX12_readsSum 45 = .ok (.aload_n 0, 1) := by decide +kernel
theorem dX12_readsSum_46 : decode cX12_readsSum 46 = .ok (.getfield 154, 3) := by decide +kernel
theorem dX12_readsSum_49 : decode cX12_readsSum 49 = .ok (.ldc 150, 2) := by decide +kernel
theorem dX12_readsSum_51 : decode cX12_readsSum 51 = .ok (.iload_n 2, 1) := by decide +kernel
theorem dX12_readsSum_52 : decode cX12_readsSum 52 = .ok (.imul, 1) := by decide +kernel
theorem dX12_readsSum_53 : decode cX12_readsSum 53 = .ok (.iastore, 1) := by decide +kernel
theorem dX12_readsSum_54 : decode cX12_readsSum 54 = .ok (.aload_n 0, 1) := by decide +kernel
theorem dX12_readsSum_55 : decode cX12_readsSum 55 = .ok (.aload_n 0, 1) := by decide +kernel
theorem dX12_readsSum_56 : decode cX12_readsSum 56 = .ok (.getfield 154, 3) := by decide +kernel
theorem dX12_readsSum_59 : decode cX12_readsSum 59 = .ok (.iconst 1, 1) := by decide +kernel
theorem dX12_readsSum_60 : decode cX12_readsSum 60 = .ok (.iadd, 1) := by decide +kernel
theorem dX12_readsSum_61 : decode cX12_readsSum 61 = .ok (.putfield 154, 3) := by decide +kernel
theorem dX12_readsSum_64 : decode cX12_readsSum 64 = .ok (.aload_n 0, 1) := by decide +kernel
theorem dX12_readsSum_65 : decode cX12_readsSum 65 = .ok (.aload_n 0, 1) := by decide +kernel
theorem dX12_readsSum_66 : decode cX12_readsSum 66 = .ok (.getfield 123, 3) := by decide +kernel
theorem dX12_readsSum_69 : decode cX12_readsSum 69 = .ok (.iconst 1, 1) := by decide +kernel
theorem dX12_readsSum_70 : decode cX12_readsSum 70 = .ok (.iadd, 1) := by decide +kernel
theorem dX12_readsSum_71 : decode cX12_readsSum 71 = .ok (.putfield 123, 3) := by decide +kernel
theorem dX12_readsSum_74 : decode cX12_readsSum 74 = .ok (.aload_n 0, 1) := by decide +kernel
theorem dX12_readsSum_75 : decode cX12_readsSum 75 = .ok (.invokevirtual 174, 3) := by decide +kernel
theorem dX12_readsSum_78 : decode cX12_readsSum 78 = .ok (.ifCond .ne 85, 3) := by decide +kernel
theorem dX12_readsSum_81 : decode cX12_readsSum 81 = .ok (.iconst 0, 1) := by decide +kernel
theorem dX12_readsSum_82 : decode cX12_readsSum 82 = .ok (.ireturn, 1) := by decide +kernel
theorem dX12_readsSum_83 : decode cX12_readsSum 83 = .ok (.aload_n 0, 1) := by decide +kernel
theorem dX12_readsSum_84 : decode cX12_readsSum 84 = .ok (.invokevirtual 129, 3) := by decide +kernel
theorem dX12_readsSum_87 : decode cX12_readsSum 87 = .ok (.bipush 93, 2) := by decide +kernel
theorem dX12_readsSum_89 : decode cX12_readsSum 89 = .ok (.if_icmp .ne 49, 3) := by decide +kernel
theorem dX12_readsSum_92 : decode cX12_readsSum 92 = .ok (.aload_n 0, 1) := by decide +kernel
theorem dX12_readsSum_93 : decode cX12_readsSum 93 = .ok (.iload_n 1, 1) := by decide +kernel
theorem dX12_readsSum_94 : decode cX12_readsSum 94 = .ok (.invokevirtual 184, 3) := by decide +kernel
theorem dX12_readsSum_97 : decode cX12_readsSum 97 = .ok (.ifCond .eq 41, 3) := by decide +kernel
theorem dX12_readsSum_100 : decode cX12_readsSum 100 = .ok (.aload_n 0, 1) := by decide +kernel
theorem dX12_readsSum_101 : decode cX12_readsSum 101 = .ok (.iconst 1, 1) := by decide +kernel
theorem dX12_readsSum_102 : decode cX12_readsSum 102 = .ok (.invokevirtual 180, 3) := by decide +kernel
theorem dX12_readsSum_105 : decode cX12_readsSum 105 = .ok (.aload_n 0, 1) := by decide +kernel
theorem dX12_readsSum_106 : decode cX12_readsSum 106 = .ok (.aload_n 0, 1) := by decide +kernel
theorem dX12_readsSum_107 : decode cX12_readsSum 107 = .ok (.getfield 154, 3) := by decide +kernel
theorem dX12_readsSum_110 : decode cX12_readsSum 110 = .ok (.iconst 1, 1) := by decide +kernel
theorem dX12_readsSum_111 : decode cX12_readsSum 111 = .ok (.isub, 1) := by decide +kernel
theorem dX12_readsSum_112 : decode cX12_readsSum 112 = .ok (.putfield 154, 3) := by decide +kernel
theorem dX12_readsSum_115 : decode cX12_readsSum 115 = .ok (.aload_n 0, 1) := by decide +kernel
theorem dX12_readsSum_116 : decode cX12_readsSum 116 = .ok (.aload_n 0, 1) := by decide +kernel
theorem dX12_readsSum_117 : decode cX12_readsSum 117 = .ok (.getfield 151, 3) := by decide +kernel
theorem dX12_readsSum_120 : decode cX12_readsSum 120 = .ok (.iconst 1, 1) := by decide +kernel
theorem dX12_readsSum_121 : decode cX12_readsSum 121 = .ok (.isub, 1) := by decide +kernel
theorem dX12_readsSum_122 : decode cX12_readsSum 122 = .ok (.putfield 151, 3) := by decide +kernel
theorem dX12_readsSum_125 : decode cX12_readsSum 125 = .ok (.aload_n 0, 1) := by decide +kernel
theorem dX12_readsSum_126 : decode cX12_readsSum 126 = .ok (.aload_n 0, 1) := by decide +kernel
theorem dX12_readsSum_127 : decode cX12_readsSum 127 = .ok (.getfield 123, 3) := by decide +kernel
theorem dX12_readsSum_130 : decode cX12_readsSum 130 = .ok (.iconst 1, 1) := by decide +kernel
theorem dX12_readsSum_131 : decode cX12_readsSum 131 = .ok (.iadd, 1) := by decide +kernel
theorem dX12_readsSum_132 : decode cX12_readsSum 132 = .ok (.putfield 123, 3) := by decide +kernel
theorem dX12_readsSum_135 : decode cX12_readsSum 135 = .ok (.goto 28, 3) := by decide +kernel
theorem dX12_readsSum_138 : decode cX12_readsSum 138 = .ok (.aload_n 0, 1) := by decide +kernel
theorem dX12_readsSum_139 : decode cX12_readsSum 139 = .ok (.iload_n 1, 1) := by decide +kernel
theorem dX12_readsSum_140 : decode cX12_readsSum 140 = .ok (.invokevirtual 184, 3) := by decide +kernel
theorem dX12_readsSum_143 : decode cX12_readsSum 143 = .ok (.ifCond .eq 13, 3) := by decide +kernel
theorem dX12_readsSum_146 : decode cX12_readsSum 146 = .ok (.aload_n 0, 1) := by decide +kernel
theorem dX12_readsSum_147 : decode cX12_readsSum 147 = .ok (.iconst 1, 1) := by decide +kernel
theorem dX12_readsSum_148 : decode cX12_readsSum 148 = .ok (.aload_n 0, 1) := by decide +kernel
theorem dX12_readsSum_149 : decode cX12_readsSum 149 = .ok (.getfield 123, 3) := by decide +kernel
theorem dX12_readsSum_152 : decode cX12_readsSum 152 = .ok (.invokevirtual 136, 3) := by decide +kernel
theorem dX12_readsSum_155 : decode cX12_readsSum 155 = .ok (.ireturn, 1) := by decide +kernel
theorem dX12_readsSum_156 : decode cX12_readsSum 156 = .ok (.aload_n 0, 1) := by decide +kernel
theorem dX12_readsSum_157 : decode cX12_readsSum 157 = .ok (.iconst 1, 1) := by decide +kernel
theorem dX12_readsSum_158 : decode cX12_readsSum 158 = .ok (.invokevirtual 180, 3) := by decide +kernel
theorem dX12_readsSum_161 : decode cX12_readsSum 161 = .ok (.iconst 1, 1) := by decide +kernel
theorem dX12_readsSum_162 : decode cX12_readsSum 162 = .ok (.ireturn, 1) := by decide +kernel
theorem dX12_readsSum_163 : decode cX12_readsSum 163 = .ok (.goto (-149), 3) := by decide +kernel
theorem dX12_endsPiece_0 : decode cX12_endsPiece 0 = .ok (.aload_n 0, 1) := by decide +kernel
theorem dX12_endsPiece_1 : decode cX12_endsPiece 1 = .ok (.invokevirtual 157, 3) := by decide +kernel
theorem dX12_endsPiece_4 : decode cX12_endsPiece 4 = .ok (.bipush 10, 2) := by decide +kernel
theorem dX12_endsPiece_6 : decode cX12_endsPiece 6 = .ok (.if_icmp .ne 33, 3) := by decide +kernel
theorem dX12_endsPiece_9 : decode cX12_endsPiece 9 = .ok (.aload_n 0, 1) := by decide +kernel
theorem dX12_endsPiece_10 : decode cX12_endsPiece 10 = .ok (.bipush 10, 2) := by decide +kernel
theorem dX12_endsPiece_12 : decode cX12_endsPiece 12 = .ok (.iconst 0, 1) := by decide +kernel
theorem dX12_endsPiece_13 : decode cX12_endsPiece 13 = .ok (.invokevirtual 160, 3) := by decide +kernel
theorem dX12_endsPiece_16 : decode cX12_endsPiece 16 = .ok (.aload_n 0, 1) := by decide +kernel
theorem dX12_endsPiece_17 : decode cX12_endsPiece 17 = .ok (.aload_n 0, 1) := by decide +kernel
theorem dX12_endsPiece_18 : decode cX12_endsPiece 18 = .ok (.getfield 154, 3) := by decide +kernel
theorem dX12_endsPiece_21 : decode cX12_endsPiece 21 = .ok (.iconst 1, 1) := by decide +kernel
theorem dX12_endsPiece_22 : decode cX12_endsPiece 22 = .ok (.isub, 1) := by decide +kernel
theorem dX12_endsPiece_23 : decode cX12_endsPiece 23 = .ok (.putfield 154, 3) := by decide +kernel
theorem dX12_endsPiece_26 : decode cX12_endsPiece 26 = .ok (.aload_n 0, 1) := by decide +kernel
theorem dX12_endsPiece_27 : decode cX12_endsPiece 27 = .ok (.aload_n 0, 1) := by decide +kernel
theorem dX12_endsPiece_28 : decode cX12_endsPiece 28 = .ok (.getfield 151, 3) := by decide +kernel
theorem dX12_endsPiece_31 : decode cX12_endsPiece 31 = .ok (.iconst 1, 1) := by decide +kernel
theorem dX12_endsPiece_32 : decode cX12_endsPiece 32 = .ok (.isub, 1) := by decide +kernel
theorem dX12_endsPiece_33 : decode cX12_endsPiece 33 = .ok (.putfield 151, 3) := by decide +kernel
theorem dX12_endsPiece_36 : decode cX12_endsPiece 36 = .ok (.goto (-36), 3) := by decide +kernel
theorem dX12_endsPiece_39 : decode cX12_endsPiece 39 = .ok (.return_, 1) := by decide +kernel
theorem dX12_lands_0 : decode cX12_lands 0 = .ok (.aload_n 0, 1) := by decide +kernel
theorem dX12_lands_1 : decode cX12_lands 1 = .ok (.invokevirtual 157, 3) := by decide +kernel
theorem dX12_lands_4 : decode cX12_lands 4 = .ok (.bipush 11, 2) := by decide +kernel
theorem dX12_lands_6 : decode cX12_lands 6 = .ok (.if_icmp .eq 16, 3) := by decide +kernel
theorem dX12_lands_9 : decode cX12_lands 9 = .ok (.iload_n 1, 1) := by decide +kernel
theorem dX12_lands_10 : decode cX12_lands 10 = .ok (.ifCond .eq 63, 3) := by decide +kernel
theorem dX12_lands_13 : decode cX12_lands 13 = .ok (.aload_n 0, 1) := by decide +kernel
theorem dX12_lands_14 : decode cX12_lands 14 = .ok (.invokevirtual 157, 3) := by decide +kernel
theorem dX12_lands_17 : decode cX12_lands 17 = .ok (.bipush 12, 2) := by decide +kernel
theorem dX12_lands_19 : decode cX12_lands 19 = .ok (.if_icmp .ne 54, 3) := by decide +kernel
theorem dX12_lands_22 : decode cX12_lands 22 = .ok (.aload_n 0, 1) := by decide +kernel
theorem dX12_lands_23 : decode cX12_lands 23 = .ok (.getfield 26, 3) := by decide +kernel
theorem dX12_lands_26 : decode cX12_lands 26 = .ok (.aload_n 0, 1) := by decide +kernel
theorem dX12_lands_27 : decode cX12_lands 27 = .ok (.getfield 154, 3) := by decide +kernel
theorem dX12_lands_30 : decode cX12_lands 30 = .ok (.iconst 1, 1) := by decide +kernel
theorem dX12_lands_31 : decode cX12_lands 31 = .ok (.isub, 1) := by decide +kernel
theorem dX12_lands_32 : decode cX12_lands 32 = .ok (.iaload, 1) := by decide +kernel
theorem dX12_lands_33 : decode cX12_lands 33 = .ok (.ldc 150, 2) := by decide +kernel
theorem dX12_lands_35 : decode cX12_lands 35 = .ok (.irem, 1) := by decide +kernel
theorem dX12_lands_36 : decode cX12_lands 36 = .ok (.istore_n 2, 1) := by decide +kernel
theorem dX12_lands_37 : decode cX12_lands 37 = .ok (.aload_n 0, 1) := by decide +kernel
theorem dX12_lands_38 : decode cX12_lands 38 = .ok (.getfield 23, 3) := by decide +kernel
theorem dX12_lands_41 : decode cX12_lands 41 = .ok (.iload_n 2, 1) := by decide +kernel
theorem dX12_lands_42 : decode cX12_lands 42 = .ok (.ldc 150, 2) := by decide +kernel
theorem dX12_lands_44 : decode cX12_lands 44 = .ok (.aload_n 0, 1) := by decide +kernel
theorem dX12_lands_45 : decode cX12_lands 45 = .ok (.getfield 23, 3) := by decide +kernel
theorem dX12_lands_48 : decode cX12_lands 48 = .ok (.iload_n 2, 1) := by decide +kernel
theorem dX12_lands_49 : decode cX12_lands 49 = .ok (.iaload, 1) := by decide +kernel
theorem dX12_lands_50 : decode cX12_lands 50 = .ok (.ldc 150, 2) := by decide +kernel
theorem dX12_lands_52 : decode cX12_lands 52 = .ok (.idiv, 1) := by decide +kernel
theorem dX12_lands_53 : decode cX12_lands 53 = .ok (.imul, 1) := by decide +kernel
theorem dX12_lands_54 : decode cX12_lands 54 = .ok (.aload_n 0, 1) := by decide +kernel
theorem dX12_lands_55 : decode cX12_lands 55 = .ok (.getfield 147, 3) := by decide +kernel
theorem dX12_lands_58 : decode cX12_lands 58 = .ok (.iadd, 1) := by decide +kernel
theorem dX12_lands_59 : decode cX12_lands 59 = .ok (.iastore, 1) := by decide +kernel
theorem dX12_lands_60 : decode cX12_lands 60 = .ok (.aload_n 0, 1) := by decide +kernel
theorem dX12_lands_61 : decode cX12_lands 61 = .ok (.aload_n 0, 1) := by decide +kernel
theorem dX12_lands_62 : decode cX12_lands 62 = .ok (.getfield 154, 3) := by decide +kernel
theorem dX12_lands_65 : decode cX12_lands 65 = .ok (.iconst 1, 1) := by decide +kernel
theorem dX12_lands_66 : decode cX12_lands 66 = .ok (.isub, 1) := by decide +kernel
theorem dX12_lands_67 : decode cX12_lands 67 = .ok (.putfield 154, 3) := by decide +kernel
theorem dX12_lands_70 : decode cX12_lands 70 = .ok (.goto (-70), 3) := by decide +kernel
theorem dX12_lands_73 : decode cX12_lands 73 = .ok (.return_, 1) := by decide +kernel
theorem dX12_jumps_0 : decode cX12_jumps 0 = .ok (.aload_n 0, 1) := by decide +kernel
theorem dX12_jumps_1 : decode cX12_jumps 1 = .ok (.getfield 26, 3) := by decide +kernel
theorem dX12_jumps_4 : decode cX12_jumps 4 = .ok (.aload_n 0, 1) := by decide +kernel
theorem dX12_jumps_5 : decode cX12_jumps 5 = .ok (.getfield 154, 3) := by decide +kernel
theorem dX12_jumps_8 : decode cX12_jumps 8 = .ok (.ldc 150, 2) := by decide +kernel
theorem dX12_jumps_10 : decode cX12_jumps 10 = .ok (.iload_n 1, 1) := by decide +kernel
theorem dX12_jumps_11 : decode cX12_jumps 11 = .ok (.imul, 1) := by decide +kernel
theorem dX12_jumps_12 : decode cX12_jumps 12 = .ok (.aload_n 0, 1) := by decide +kernel
theorem dX12_jumps_13 : decode cX12_jumps 13 = .ok (.getfield 147, 3) := by decide +kernel
theorem dX12_jumps_16 : decode cX12_jumps 16 = .ok (.iadd, 1) := by decide +kernel
theorem dX12_jumps_17 : decode cX12_jumps 17 = .ok (.iastore, 1) := by decide +kernel
theorem dX12_jumps_18 : decode cX12_jumps 18 = .ok (.aload_n 0, 1) := by decide +kernel
theorem dX12_jumps_19 : decode cX12_jumps 19 = .ok (.aload_n 0, 1) := by decide +kernel
theorem dX12_jumps_20 : decode cX12_jumps 20 = .ok (.getfield 154, 3) := by decide +kernel
theorem dX12_jumps_23 : decode cX12_jumps 23 = .ok (.iconst 1, 1) := by decide +kernel
theorem dX12_jumps_24 : decode cX12_jumps 24 = .ok (.iadd, 1) := by decide +kernel
theorem dX12_jumps_25 : decode cX12_jumps 25 = .ok (.putfield 154, 3) := by decide +kernel
theorem dX12_jumps_28 : decode cX12_jumps 28 = .ok (.aload_n 0, 1) := by decide +kernel
theorem dX12_jumps_29 : decode cX12_jumps 29 = .ok (.iload_n 1, 1) := by decide +kernel
theorem dX12_jumps_30 : decode cX12_jumps 30 = .ok (.iconst 0, 1) := by decide +kernel
theorem dX12_jumps_31 : decode cX12_jumps 31 = .ok (.invokevirtual 160, 3) := by decide +kernel
theorem dX12_jumps_34 : decode cX12_jumps 34 = .ok (.aload_n 0, 1) := by decide +kernel
theorem dX12_jumps_35 : decode cX12_jumps 35 = .ok (.aload_n 0, 1) := by decide +kernel
theorem dX12_jumps_36 : decode cX12_jumps 36 = .ok (.getfield 123, 3) := by decide +kernel
theorem dX12_jumps_39 : decode cX12_jumps 39 = .ok (.iconst 1, 1) := by decide +kernel
theorem dX12_jumps_40 : decode cX12_jumps 40 = .ok (.iadd, 1) := by decide +kernel
theorem dX12_jumps_41 : decode cX12_jumps 41 = .ok (.putfield 123, 3) := by decide +kernel
theorem dX12_jumps_44 : decode cX12_jumps 44 = .ok (.return_, 1) := by decide +kernel
theorem dX12_readsCompared_0 : decode cX12_readsCompared 0 = .ok (.aload_n 0, 1) := by decide +kernel
theorem dX12_readsCompared_1 : decode cX12_readsCompared 1 = .ok (.invokevirtual 187, 3) := by decide +kernel
theorem dX12_readsCompared_4 : decode cX12_readsCompared 4 = .ok (.ifCond .ne 5, 3) := by decide +kernel
theorem dX12_readsCompared_7 : decode cX12_readsCompared 7 = .ok (.iconst 0, 1) := by decide +kernel
theorem dX12_readsCompared_8 : decode cX12_readsCompared 8 = .ok (.ireturn, 1) := by decide +kernel
theorem dX12_readsCompared_9 : decode cX12_readsCompared 9 = .ok (.aload_n 0, 1) := by decide +kernel
theorem dX12_readsCompared_10 : decode cX12_readsCompared 10 = .ok (.invokevirtual 129, 3) := by decide +kernel
theorem dX12_readsCompared_13 : decode cX12_readsCompared 13 = .ok (.bipush 60, 2) := by decide +kernel
theorem dX12_readsCompared_15 : decode cX12_readsCompared 15 = .ok (.if_icmp .ne 8, 3) := by decide +kernel
theorem dX12_readsCompared_18 : decode cX12_readsCompared 18 = .ok (.bipush 7, 2) := by decide +kernel
theorem dX12_readsCompared_20 : decode cX12_readsCompared 20 = .ok (.goto 32, 3) := by decide +kernel
theorem dX12_readsCompared_23 : decode cX12_readsCompared 23 = .ok (.aload_n 0, 1) := by decide +kernel
theorem dX12_readsCompared_24 : decode cX12_readsCompared 24 = .ok (.invokevirtual 129, 3) := by decide +kernel
theorem dX12_readsCompared_27 : decode cX12_readsCompared 27 = .ok (.bipush 62, 2) := by decide +kernel
theorem dX12_readsCompared_29 : decode cX12_readsCompared 29 = .ok (.if_icmp .ne 8, 3) := by decide +kernel
theorem dX12_readsCompared_32 : decode cX12_readsCompared 32 = .ok (.bipush 8, 2) := by decide +kernel
theorem dX12_readsCompared_34 : decode cX12_readsCompared 34 = .ok (.goto 18, 3) := by decide +kernel
theorem dX12_readsCompared_37 : decode cX12_readsCompared 37 = .ok (.aload_n 0, 1) := by decide +kernel
theorem dX12_readsCompared_38 : decode cX12_readsCompared 38 = .ok (.invokevirtual 129, 3) := by decide +kernel
theorem dX12_readsCompared_41 : decode cX12_readsCompared 41 = .ok (.bipush 61, 2) := by decide +kernel
theorem dX12_readsCompared_43 : decode cX12_readsCompared 43 = .ok (.if_icmp .ne 8, 3) := by decide +kernel
theorem dX12_readsCompared_46 : decode cX12_readsCompared 46 = .ok (.bipush 9, 2) := by decide +kernel
theorem dX12_readsCompared_48 : decode cX12_readsCompared 48 = .ok (.goto 4, 3) := by decide +kernel
theorem dX12_readsCompared_51 : decode cX12_readsCompared 51 = .ok (.iconst (-1), 1) := by decide +kernel
theorem dX12_readsCompared_52 : decode cX12_readsCompared 52 = .ok (.istore_n 1, 1) := by decide +kernel
theorem dX12_readsCompared_53 : decode cX12_readsCompared 53 = .ok (.iload_n 1, 1) := by decide +kernel
theorem dX12_readsCompared_54 : decode cX12_readsCompared 54 = .ok (.iconst (-1), 1) := by decide +kernel
theorem dX12_readsCompared_55 : decode cX12_readsCompared 55 = .ok (.if_icmp .ne 13, 3) := by decide +kernel
theorem dX12_readsCompared_58 : decode cX12_readsCompared 58 = .ok (.aload_n 0, 1) := by decide +kernel
theorem dX12_readsCompared_59 : decode cX12_readsCompared 59 = .ok (.iconst 1, 1) := by decide +kernel
theorem dX12_readsCompared_60 : decode cX12_readsCompared 60 = .ok (.aload_n 0, 1) := by decide +kernel
theorem dX12_readsCompared_61 : decode cX12_readsCompared 61 = .ok (.getfield 123, 3) := by decide +kernel
theorem dX12_readsCompared_64 : decode cX12_readsCompared 64 = .ok (.invokevirtual 136, 3) := by decide +kernel
theorem dX12_readsCompared_67 : decode cX12_readsCompared 67 = .ok (.ireturn, 1) := by decide +kernel
theorem dX12_readsCompared_68 : decode cX12_readsCompared 68 = .ok (.aload_n 0, 1) := by decide +kernel
theorem dX12_readsCompared_69 : decode cX12_readsCompared 69 = .ok (.aload_n 0, 1) := by decide +kernel
theorem dX12_readsCompared_70 : decode cX12_readsCompared 70 = .ok (.getfield 123, 3) := by decide +kernel
theorem dX12_readsCompared_73 : decode cX12_readsCompared 73 = .ok (.iconst 1, 1) := by decide +kernel
theorem dX12_readsCompared_74 : decode cX12_readsCompared 74 = .ok (.iadd, 1) := by decide +kernel
theorem dX12_readsCompared_75 : decode cX12_readsCompared 75 = .ok (.putfield 123, 3) := by decide +kernel
theorem dX12_readsCompared_78 : decode cX12_readsCompared 78 = .ok (.aload_n 0, 1) := by decide +kernel
theorem dX12_readsCompared_79 : decode cX12_readsCompared 79 = .ok (.invokevirtual 187, 3) := by decide +kernel
theorem dX12_readsCompared_82 : decode cX12_readsCompared 82 = .ok (.ifCond .ne 5, 3) := by decide +kernel
theorem dX12_readsCompared_85 : decode cX12_readsCompared 85 = .ok (.iconst 0, 1) := by decide +kernel
theorem dX12_readsCompared_86 : decode cX12_readsCompared 86 = .ok (.ireturn, 1) := by decide +kernel
theorem dX12_readsCompared_87 : decode cX12_readsCompared 87 = .ok (.aload_n 0, 1) := by decide +kernel
theorem dX12_readsCompared_88 : decode cX12_readsCompared 88 = .ok (.iload_n 1, 1) := by decide +kernel
theorem dX12_readsCompared_89 : decode cX12_readsCompared 89 = .ok (.iconst 0, 1) := by decide +kernel
theorem dX12_readsCompared_90 : decode cX12_readsCompared 90 = .ok (.invokevirtual 160, 3) := by decide +kernel
theorem dX12_readsCompared_93 : decode cX12_readsCompared 93 = .ok (.aload_n 0, 1) := by decide +kernel
theorem dX12_readsCompared_94 : decode cX12_readsCompared 94 = .ok (.invokevirtual 190, 3) := by decide +kernel
theorem dX12_readsCompared_97 : decode cX12_readsCompared 97 = .ok (.iconst 1, 1) := by decide +kernel
theorem dX12_readsCompared_98 : decode cX12_readsCompared 98 = .ok (.ireturn, 1) := by decide +kernel
theorem dX12_readsCondition_0 : decode cX12_readsCondition 0 = .ok (.aload_n 0, 1) := by decide +kernel
theorem dX12_readsCondition_1 : decode cX12_readsCondition 1 = .ok (.invokevirtual 129, 3) := by decide +kernel
theorem dX12_readsCondition_4 : decode cX12_readsCondition 4 = .ok (.bipush 40, 2) := by decide +kernel
theorem dX12_readsCondition_6 : decode cX12_readsCondition 6 = .ok (.if_icmp .eq 13, 3) := by decide +kernel
theorem dX12_readsCondition_9 : decode cX12_readsCondition 9 = .ok (.aload_n 0, 1) := by decide +kernel
theorem dX12_readsCondition_10 : decode cX12_readsCondition 10 = .ok (.iconst 1, 1) := by decide +kernel
theorem dX12_readsCondition_11 : decode cX12_readsCondition 11 = .ok (.aload_n 0, 1) := by decide +kernel
theorem dX12_readsCondition_12 : decode cX12_readsCondition 12 = .ok (.getfield 123, 3) := by decide +kernel
theorem dX12_readsCondition_15 : decode cX12_readsCondition 15 = .ok (.invokevirtual 136, 3) := by decide +kernel
theorem dX12_readsCondition_18 : decode cX12_readsCondition 18 = .ok (.ireturn, 1) := by decide +kernel
theorem dX12_readsCondition_19 : decode cX12_readsCondition 19 = .ok (.aload_n 0, 1) := by decide +kernel
theorem dX12_readsCondition_20 : decode cX12_readsCondition 20 = .ok (.iconst 0, 1) := by decide +kernel
theorem dX12_readsCondition_21 : decode cX12_readsCondition 21 = .ok (.putfield 151, 3) := by decide +kernel
theorem dX12_readsCondition_24 : decode cX12_readsCondition 24 = .ok (.aload_n 0, 1) := by decide +kernel
theorem dX12_readsCondition_25 : decode cX12_readsCondition 25 = .ok (.iconst 0, 1) := by decide +kernel
theorem dX12_readsCondition_26 : decode cX12_readsCondition 26 = .ok (.putfield 154, 3) := by decide +kernel
theorem dX12_readsCondition_29 : decode cX12_readsCondition 29 = .ok (.aload_n 0, 1) := by decide +kernel
theorem dX12_readsCondition_30 : decode cX12_readsCondition 30 = .ok (.bipush 13, 2) := by decide +kernel
theorem dX12_readsCondition_32 : decode cX12_readsCondition 32 = .ok (.invokevirtual 164, 3) := by decide +kernel
theorem dX12_readsCondition_35 : decode cX12_readsCondition 35 = .ok (.ifCond .ne 5, 3) := by decide +kernel
theorem dX12_readsCondition_38 : decode cX12_readsCondition 38 = .ok (.iconst 0, 1) := by decide +kernel
theorem dX12_readsCondition_39 : decode cX12_readsCondition 39 = .ok (.ireturn, 1) := by decide +kernel
theorem dX12_readsCondition_40 : decode cX12_readsCondition 40 = .ok (.aload_n 0, 1) := by decide +kernel
theorem dX12_readsCondition_41 : decode cX12_readsCondition 41 = .ok (.invokevirtual 129, 3) := by decide +kernel
theorem dX12_readsCondition_44 : decode cX12_readsCondition 44 = .ok (.bipush 33, 2) := by decide +kernel
theorem dX12_readsCondition_46 : decode cX12_readsCondition 46 = .ok (.if_icmp .eq 12, 3) := by decide +kernel
theorem dX12_readsCondition_49 : decode cX12_readsCondition 49 = .ok (.aload_n 0, 1) := by decide +kernel
theorem dX12_readsCondition_50 : decode cX12_readsCondition 50 = .ok (.invokevirtual 129, 3) := by decide +kernel
theorem dX12_readsCondition_53 : decode cX12_readsCondition 53 = .ok (.bipush 40, 2) := by decide +kernel
theorem dX12_readsCondition_55 : decode cX12_readsCondition 55 = .ok (.if_icmp .ne 28, 3) := by decide +kernel
theorem dX12_readsCondition_58 : decode cX12_readsCondition 58 = .ok (.aload_n 0, 1) := by decide +kernel
theorem dX12_readsCondition_59 : decode cX12_readsCondition 59 = .ok (.aload_n 0, 1) := by decide +kernel
theorem dX12_readsCondition_60 : decode cX12_readsCondition 60 = .ok (.invokevirtual 129, 3) := by decide +kernel
theorem dX12_readsCondition_63 : decode cX12_readsCondition 63 = .ok (.bipush 33, 2) := by decide +kernel
theorem dX12_readsCondition_65 : decode cX12_readsCondition 65 = .ok (.if_icmp .ne 8, 3) := by decide +kernel
theorem dX12_readsCondition_68 : decode cX12_readsCondition 68 = .ok (.bipush 10, 2) := by decide +kernel
theorem dX12_readsCondition_70 : decode cX12_readsCondition 70 = .ok (.goto 5, 3) := by decide +kernel
theorem dX12_readsCondition_73 : decode cX12_readsCondition 73 = .ok (.bipush 13, 2) := by decide +kernel
theorem dX12_readsCondition_75 : decode cX12_readsCondition 75 = .ok (.invokevirtual 164, 3) := by decide +kernel
theorem dX12_readsCondition_78 : decode cX12_readsCondition 78 = .ok (.ifCond .ne (-38), 3) := by decide +kernel
theorem dX12_readsCondition_81 : decode cX12_readsCondition 81 = .ok (.iconst 0, 1) := by decide +kernel
theorem dX12_readsCondition_82 : decode cX12_readsCondition 82 = .ok (.ireturn, 1) := by decide +kernel
theorem dX12_readsCondition_83 : decode cX12_readsCondition 83 = .ok (.aload_n 0, 1) := by decide +kernel
theorem dX12_readsCondition_84 : decode cX12_readsCondition 84 = .ok (.invokevirtual 193, 3) := by decide +kernel
theorem dX12_readsCondition_87 : decode cX12_readsCondition 87 = .ok (.ifCond .ne 5, 3) := by decide +kernel
theorem dX12_readsCondition_90 : decode cX12_readsCondition 90 = .ok (.iconst 0, 1) := by decide +kernel
theorem dX12_readsCondition_91 : decode cX12_readsCondition 91 = .ok (.ireturn, 1) := by decide +kernel
theorem dX12_readsCondition_92 : decode cX12_readsCondition 92 = .ok (.aload_n 0, 1) := by decide +kernel
theorem dX12_readsCondition_93 : decode cX12_readsCondition 93 = .ok (.invokevirtual 129, 3) := by decide +kernel
theorem dX12_readsCondition_96 : decode cX12_readsCondition 96 = .ok (.bipush 41, 2) := by decide +kernel
theorem dX12_readsCondition_98 : decode cX12_readsCondition 98 = .ok (.if_icmp .ne 54, 3) := by decide +kernel
theorem dX12_readsCondition_101 : decode cX12_readsCondition 101 = .ok (.aload_n 0, 1) := by decide +kernel
theorem dX12_readsCondition_102 : decode cX12_readsCondition 102 = .ok (.iconst 1, 1) := by decide +kernel
theorem dX12_readsCondition_103 : decode cX12_readsCondition 103 = .ok (.invokevirtual 196, 3) := by decide +kernel
theorem dX12_readsCondition_106 : decode cX12_readsCondition 106 = .ok (.aload_n 0, 1) := by decide +kernel
theorem dX12_readsCondition_107 : decode cX12_readsCondition 107 = .ok (.aload_n 0, 1) := by decide +kernel
theorem dX12_readsCondition_108 : decode cX12_readsCondition 108 = .ok (.getfield 154, 3) := by decide +kernel
theorem dX12_readsCondition_111 : decode cX12_readsCondition 111 = .ok (.iconst 1, 1) := by decide +kernel
theorem dX12_readsCondition_112 : decode cX12_readsCondition 112 = .ok (.isub, 1) := by decide +kernel
theorem dX12_readsCondition_113 : decode cX12_readsCondition 113 = .ok (.putfield 154, 3) := by decide +kernel
theorem dX12_readsCondition_116 : decode cX12_readsCondition 116 = .ok (.aload_n 0, 1) := by decide +kernel
theorem dX12_readsCondition_117 : decode cX12_readsCondition 117 = .ok (.aload_n 0, 1) := by decide +kernel
theorem dX12_readsCondition_118 : decode cX12_readsCondition 118 = .ok (.getfield 151, 3) := by decide +kernel
theorem dX12_readsCondition_121 : decode cX12_readsCondition 121 = .ok (.iconst 1, 1) := by decide +kernel
theorem dX12_readsCondition_122 : decode cX12_readsCondition 122 = .ok (.isub, 1) := by decide +kernel
theorem dX12_readsCondition_123 : decode cX12_readsCondition 123 = .ok (.putfield 151, 3) := by decide +kernel
theorem dX12_readsCondition_126 : decode cX12_readsCondition 126 = .ok (.aload_n 0, 1) := by decide +kernel
theorem dX12_readsCondition_127 : decode cX12_readsCondition 127 = .ok (.aload_n 0, 1) := by decide +kernel
theorem dX12_readsCondition_128 : decode cX12_readsCondition 128 = .ok (.getfield 123, 3) := by decide +kernel
theorem dX12_readsCondition_131 : decode cX12_readsCondition 131 = .ok (.iconst 1, 1) := by decide +kernel
theorem dX12_readsCondition_132 : decode cX12_readsCondition 132 = .ok (.iadd, 1) := by decide +kernel
theorem dX12_readsCondition_133 : decode cX12_readsCondition 133 = .ok (.putfield 123, 3) := by decide +kernel
theorem dX12_readsCondition_136 : decode cX12_readsCondition 136 = .ok (.aload_n 0, 1) := by decide +kernel
theorem dX12_readsCondition_137 : decode cX12_readsCondition 137 = .ok (.getfield 154, 3) := by decide +kernel
theorem dX12_readsCondition_140 : decode cX12_readsCondition 140 = .ok (.ifCond .ne 5, 3) := by decide +kernel
theorem dX12_readsCondition_143 : decode cX12_readsCondition 143 = .ok (.iconst 1, 1) := by decide +kernel
theorem dX12_readsCondition_144 : decode cX12_readsCondition 144 = .ok (.ireturn, 1) := by decide +kernel
theorem dX12_readsCondition_145 : decode cX12_readsCondition 145 = .ok (.aload_n 0, 1) := by decide +kernel
theorem dX12_readsCondition_146 : decode cX12_readsCondition 146 = .ok (.invokevirtual 190, 3) := by decide +kernel
theorem dX12_readsCondition_149 : decode cX12_readsCondition 149 = .ok (.goto (-57), 3) := by decide +kernel
theorem dX12_readsCondition_152 : decode cX12_readsCondition 152 = .ok (.aload_n 0, 1) := by decide +kernel
theorem dX12_readsCondition_153 : decode cX12_readsCondition 153 = .ok (.invokevirtual 129, 3) := by decide +kernel
theorem dX12_readsCondition_156 : decode cX12_readsCondition 156 = .ok (.bipush 38, 2) := by decide +kernel
theorem dX12_readsCondition_158 : decode cX12_readsCondition 158 = .ok (.if_icmp .eq 22, 3) := by decide +kernel
theorem dX12_readsCondition_161 : decode cX12_readsCondition 161 = .ok (.aload_n 0, 1) := by decide +kernel
theorem dX12_readsCondition_162 : decode cX12_readsCondition 162 = .ok (.invokevirtual 129, 3) := by decide +kernel
theorem dX12_readsCondition_165 : decode cX12_readsCondition 165 = .ok (.bipush 124, 2) := by decide +kernel
theorem dX12_readsCondition_167 : decode cX12_readsCondition 167 = .ok (.if_icmp .eq 13, 3) := by decide +kernel
theorem dX12_readsCondition_170 : decode cX12_readsCondition 170 = .ok (.aload_n 0, 1) := by decide +kernel
theorem dX12_readsCondition_171 : decode cX12_readsCondition 171 = .ok (.iconst 1, 1) := by decide +kernel
theorem dX12_readsCondition_172 : decode cX12_readsCondition 172 = .ok (.aload_n 0, 1) := by decide +kernel
theorem dX12_readsCondition_173 : decode cX12_readsCondition 173 = .ok (.getfield 123, 3) := by decide +kernel
theorem dX12_readsCondition_176 : decode cX12_readsCondition 176 = .ok (.invokevirtual 136, 3) := by decide +kernel
theorem dX12_readsCondition_179 : decode cX12_readsCondition 179 = .ok (.ireturn, 1) := by decide +kernel
theorem dX12_readsCondition_180 : decode cX12_readsCondition 180 = .ok (.aload_n 0, 1) := by decide +kernel
theorem dX12_readsCondition_181 : decode cX12_readsCondition 181 = .ok (.aload_n 0, 1) := by decide +kernel
theorem dX12_readsCondition_182 : decode cX12_readsCondition 182 = .ok (.invokevirtual 129, 3) := by decide +kernel
theorem dX12_readsCondition_185 : decode cX12_readsCondition 185 = .ok (.bipush 124, 2) := by decide +kernel
theorem dX12_readsCondition_187 : decode cX12_readsCondition 187 = .ok (.if_icmp .ne 7, 3) := by decide +kernel
theorem dX12_readsCondition_190 : decode cX12_readsCondition 190 = .ok (.iconst 1, 1) := by decide +kernel
theorem dX12_readsCondition_191 : decode cX12_readsCondition 191 = .ok (.goto 4, 3) := by decide +kernel
theorem dX12_readsCondition_194 : decode cX12_readsCondition 194 = .ok (.iconst 0, 1) := by decide +kernel
theorem dX12_readsCondition_195 : decode cX12_readsCondition 195 = .ok (.invokevirtual 196, 3) := by decide +kernel
theorem dX12_readsCondition_198 : decode cX12_readsCondition 198 = .ok (.aload_n 0, 1) := by decide +kernel
theorem dX12_readsCondition_199 : decode cX12_readsCondition 199 = .ok (.aload_n 0, 1) := by decide +kernel
theorem dX12_readsCondition_200 : decode cX12_readsCondition 200 = .ok (.invokevirtual 129, 3) := by decide +kernel
theorem dX12_readsCondition_203 : decode cX12_readsCondition 203 = .ok (.bipush 38, 2) := by decide +kernel
theorem dX12_readsCondition_205 : decode cX12_readsCondition 205 = .ok (.if_icmp .ne 8, 3) := by decide +kernel
theorem dX12_readsCondition_208 : decode cX12_readsCondition 208 = .ok (.bipush 11, 2) := by decide +kernel
theorem dX12_readsCondition_210 : decode cX12_readsCondition 210 = .ok (.goto 5, 3) := by decide +kernel
theorem dX12_readsCondition_213 : decode cX12_readsCondition 213 = .ok (.bipush 12, 2) := by decide +kernel
theorem dX12_readsCondition_215 : decode cX12_readsCondition 215 = .ok (.invokevirtual 199, 3) := by decide +kernel
theorem dX12_readsCondition_218 : decode cX12_readsCondition 218 = .ok (.goto (-178), 3) := by decide +kernel
theorem dX12_readsRule_0 : decode cX12_readsRule 0 = .ok (.aload_n 0, 1) := by decide +kernel
theorem dX12_readsRule_1 : decode cX12_readsRule 1 = .ok (.invokevirtual 129, 3) := by decide +kernel
theorem dX12_readsRule_4 : decode cX12_readsRule 4 = .ok (.istore_n 1, 1) := by decide +kernel
theorem dX12_readsRule_5 : decode cX12_readsRule 5 = .ok (.iload_n 1, 1) := by decide +kernel
theorem dX12_readsRule_6 : decode cX12_readsRule 6 = .ok (.bipush 99, 2) := by decide +kernel
theorem dX12_readsRule_8 : decode cX12_readsRule 8 = .ok (.if_icmp .eq 31, 3) := by decide +kernel
theorem dX12_readsRule_11 : decode cX12_readsRule 11 = .ok (.iload_n 1, 1) := by decide +kernel
theorem dX12_readsRule_12 : decode cX12_readsRule 12 = .ok (.bipush 107, 2) := by decide +kernel
theorem dX12_readsRule_14 : decode cX12_readsRule 14 = .ok (.if_icmp .eq 25, 3) := by decide +kernel
theorem dX12_readsRule_17 : decode cX12_readsRule 17 = .ok (.iload_n 1, 1) := by decide +kernel
theorem dX12_readsRule_18 : decode cX12_readsRule 18 = .ok (.bipush 100, 2) := by decide +kernel
theorem dX12_readsRule_20 : decode cX12_readsRule 20 = .ok (.if_icmp .eq 19, 3) := by decide +kernel
theorem dX12_readsRule_23 : decode cX12_readsRule 23 = .ok (.iload_n 1, 1) := by decide +kernel
theorem dX12_readsRule_24 : decode cX12_readsRule 24 = .ok (.bipush 120, 2) := by decide +kernel
theorem dX12_readsRule_26 : decode cX12_readsRule 26 = .ok (.if_icmp .eq 13, 3) := by decide +kernel
theorem dX12_readsRule_29 : decode cX12_readsRule 29 = .ok (.aload_n 0, 1) := by decide +kernel
theorem dX12_readsRule_30 : decode cX12_readsRule 30 = .ok (.iconst 1, 1) := by decide +kernel
theorem dX12_readsRule_31 : decode cX12_readsRule 31 = .ok (.aload_n 0, 1) := by decide +kernel
theorem dX12_readsRule_32 : decode cX12_readsRule 32 = .ok (.getfield 123, 3) := by decide +kernel
theorem dX12_readsRule_35 : decode cX12_readsRule 35 = .ok (.invokevirtual 136, 3) := by decide +kernel
theorem dX12_readsRule_38 : decode cX12_readsRule 38 = .ok (.ireturn, 1) := by decide +kernel
theorem dX12_readsRule_39 : decode cX12_readsRule 39 = .ok (.aload_n 0, 1) := by decide +kernel
theorem dX12_readsRule_40 : decode cX12_readsRule 40 = .ok (.getfield 202, 3) := by decide +kernel
theorem dX12_readsRule_43 : decode cX12_readsRule 43 = .ok (.bipush 16, 2) := by decide +kernel
theorem dX12_readsRule_45 : decode cX12_readsRule 45 = .ok (.if_icmp .ne 13, 3) := by decide +kernel
theorem dX12_readsRule_48 : decode cX12_readsRule 48 = .ok (.aload_n 0, 1) := by decide +kernel
theorem dX12_readsRule_49 : decode cX12_readsRule 49 = .ok (.iconst 4, 1) := by decide +kernel
theorem dX12_readsRule_50 : decode cX12_readsRule 50 = .ok (.aload_n 0, 1) := by decide +kernel
theorem dX12_readsRule_51 : decode cX12_readsRule 51 = .ok (.getfield 123, 3) := by decide +kernel
theorem dX12_readsRule_54 : decode cX12_readsRule 54 = .ok (.invokevirtual 136, 3) := by decide +kernel
theorem dX12_readsRule_57 : decode cX12_readsRule 57 = .ok (.ireturn, 1) := by decide +kernel
theorem dX12_readsRule_58 : decode cX12_readsRule 58 = .ok (.aload_n 0, 1) := by decide +kernel
theorem dX12_readsRule_59 : decode cX12_readsRule 59 = .ok (.getfield 29, 3) := by decide +kernel
theorem dX12_readsRule_62 : decode cX12_readsRule 62 = .ok (.aload_n 0, 1) := by decide +kernel
theorem dX12_readsRule_63 : decode cX12_readsRule 63 = .ok (.getfield 202, 3) := by decide +kernel
theorem dX12_readsRule_66 : decode cX12_readsRule 66 = .ok (.iload_n 1, 1) := by decide +kernel
theorem dX12_readsRule_67 : decode cX12_readsRule 67 = .ok (.iastore, 1) := by decide +kernel
theorem dX12_readsRule_68 : decode cX12_readsRule 68 = .ok (.aload_n 0, 1) := by decide +kernel
theorem dX12_readsRule_69 : decode cX12_readsRule 69 = .ok (.aload_n 0, 1) := by decide +kernel
theorem dX12_readsRule_70 : decode cX12_readsRule 70 = .ok (.getfield 123, 3) := by decide +kernel
theorem dX12_readsRule_73 : decode cX12_readsRule 73 = .ok (.iconst 1, 1) := by decide +kernel
theorem dX12_readsRule_74 : decode cX12_readsRule 74 = .ok (.iadd, 1) := by decide +kernel
theorem dX12_readsRule_75 : decode cX12_readsRule 75 = .ok (.putfield 123, 3) := by decide +kernel
theorem dX12_readsRule_78 : decode cX12_readsRule 78 = .ok (.aload_n 0, 1) := by decide +kernel
theorem dX12_readsRule_79 : decode cX12_readsRule 79 = .ok (.getfield 32, 3) := by decide +kernel
theorem dX12_readsRule_82 : decode cX12_readsRule 82 = .ok (.aload_n 0, 1) := by decide +kernel
theorem dX12_readsRule_83 : decode cX12_readsRule 83 = .ok (.getfield 202, 3) := by decide +kernel
theorem dX12_readsRule_86 : decode cX12_readsRule 86 = .ok (.aload_n 0, 1) := by decide +kernel
theorem dX12_readsRule_87 : decode cX12_readsRule 87 = .ok (.getfield 147, 3) := by decide +kernel
theorem dX12_readsRule_90 : decode cX12_readsRule 90 = .ok (.iastore, 1) := by decide +kernel
theorem dX12_readsRule_91 : decode cX12_readsRule 91 = .ok (.aload_n 0, 1) := by decide +kernel
theorem dX12_readsRule_92 : decode cX12_readsRule 92 = .ok (.iconst 0, 1) := by decide +kernel
theorem dX12_readsRule_93 : decode cX12_readsRule 93 = .ok (.putfield 151, 3) := by decide +kernel
theorem dX12_readsRule_96 : decode cX12_readsRule 96 = .ok (.aload_n 0, 1) := by decide +kernel
theorem dX12_readsRule_97 : decode cX12_readsRule 97 = .ok (.iconst 0, 1) := by decide +kernel
theorem dX12_readsRule_98 : decode cX12_readsRule 98 = .ok (.putfield 154, 3) := by decide +kernel
theorem dX12_readsRule_101 : decode cX12_readsRule 101 = .ok (.iload_n 1, 1) := by decide +kernel
theorem dX12_readsRule_102 : decode cX12_readsRule 102 = .ok (.bipush 120, 2) := by decide +kernel
theorem dX12_readsRule_104 : decode cX12_readsRule 104 = .ok (.if_icmp .eq 12, 3) := by decide +kernel
theorem dX12_readsRule_107 : decode cX12_readsRule 107 = .ok (.aload_n 0, 1) := by decide +kernel
theorem dX12_readsRule_108 : decode cX12_readsRule 108 = .ok (.invokevirtual 187, 3) := by decide +kernel
theorem dX12_readsRule_111 : decode cX12_readsRule 111 = .ok (.ifCond .ne 5, 3) := by decide +kernel
theorem dX12_readsRule_114 : decode cX12_readsRule 114 = .ok (.iconst 0, 1) := by decide +kernel
theorem dX12_readsRule_115 : decode cX12_readsRule 115 = .ok (.ireturn, 1) := by decide +kernel
theorem dX12_readsRule_116 : decode cX12_readsRule 116 = .ok (.aload_n 0, 1) := by decide +kernel
theorem dX12_readsRule_117 : decode cX12_readsRule 117 = .ok (.getfield 35, 3) := by decide +kernel
theorem dX12_readsRule_120 : decode cX12_readsRule 120 = .ok (.aload_n 0, 1) := by decide +kernel
theorem dX12_readsRule_121 : decode cX12_readsRule 121 = .ok (.getfield 202, 3) := by decide +kernel
theorem dX12_readsRule_124 : decode cX12_readsRule 124 = .ok (.aload_n 0, 1) := by decide +kernel
theorem dX12_readsRule_125 : decode cX12_readsRule 125 = .ok (.getfield 147, 3) := by decide +kernel
theorem dX12_readsRule_128 : decode cX12_readsRule 128 = .ok (.iastore, 1) := by decide +kernel
theorem dX12_readsRule_129 : decode cX12_readsRule 129 = .ok (.aload_n 0, 1) := by decide +kernel
theorem dX12_readsRule_130 : decode cX12_readsRule 130 = .ok (.invokevirtual 205, 3) := by decide +kernel
theorem dX12_readsRule_133 : decode cX12_readsRule 133 = .ok (.ifCond .ne 5, 3) := by decide +kernel
theorem dX12_readsRule_136 : decode cX12_readsRule 136 = .ok (.iconst 0, 1) := by decide +kernel
theorem dX12_readsRule_137 : decode cX12_readsRule 137 = .ok (.ireturn, 1) := by decide +kernel
theorem dX12_readsRule_138 : decode cX12_readsRule 138 = .ok (.aload_n 0, 1) := by decide +kernel
theorem dX12_readsRule_139 : decode cX12_readsRule 139 = .ok (.getfield 38, 3) := by decide +kernel
theorem dX12_readsRule_142 : decode cX12_readsRule 142 = .ok (.aload_n 0, 1) := by decide +kernel
theorem dX12_readsRule_143 : decode cX12_readsRule 143 = .ok (.getfield 202, 3) := by decide +kernel
theorem dX12_readsRule_146 : decode cX12_readsRule 146 = .ok (.aload_n 0, 1) := by decide +kernel
theorem dX12_readsRule_147 : decode cX12_readsRule 147 = .ok (.getfield 147, 3) := by decide +kernel
theorem dX12_readsRule_150 : decode cX12_readsRule 150 = .ok (.iastore, 1) := by decide +kernel
theorem dX12_readsRule_151 : decode cX12_readsRule 151 = .ok (.aload_n 0, 1) := by decide +kernel
theorem dX12_readsRule_152 : decode cX12_readsRule 152 = .ok (.aload_n 0, 1) := by decide +kernel
theorem dX12_readsRule_153 : decode cX12_readsRule 153 = .ok (.getfield 202, 3) := by decide +kernel
theorem dX12_readsRule_156 : decode cX12_readsRule 156 = .ok (.iconst 1, 1) := by decide +kernel
theorem dX12_readsRule_157 : decode cX12_readsRule 157 = .ok (.iadd, 1) := by decide +kernel
theorem dX12_readsRule_158 : decode cX12_readsRule 158 = .ok (.putfield 202, 3) := by decide +kernel
theorem dX12_readsRule_161 : decode cX12_readsRule 161 = .ok (.iconst 1, 1) := by decide +kernel
theorem dX12_readsRule_162 : decode cX12_readsRule 162 = .ok (.ireturn, 1) := by decide +kernel
theorem dX12_beginsText_0 : decode cX12_beginsText 0 = .ok (.aload_n 0, 1) := by decide +kernel
theorem dX12_beginsText_1 : decode cX12_beginsText 1 = .ok (.iconst 0, 1) := by decide +kernel
theorem dX12_beginsText_2 : decode cX12_beginsText 2 = .ok (.putfield 123, 3) := by decide +kernel
theorem dX12_beginsText_5 : decode cX12_beginsText 5 = .ok (.aload_n 0, 1) := by decide +kernel
theorem dX12_beginsText_6 : decode cX12_beginsText 6 = .ok (.iload_n 1, 1) := by decide +kernel
theorem dX12_beginsText_7 : decode cX12_beginsText 7 = .ok (.putfield 126, 3) := by decide +kernel
theorem dX12_beginsText_10 : decode cX12_beginsText 10 = .ok (.aload_n 0, 1) := by decide +kernel
theorem dX12_beginsText_11 : decode cX12_beginsText 11 = .ok (.iconst 0, 1) := by decide +kernel
theorem dX12_beginsText_12 : decode cX12_beginsText 12 = .ok (.putfield 147, 3) := by decide +kernel
theorem dX12_beginsText_15 : decode cX12_beginsText 15 = .ok (.aload_n 0, 1) := by decide +kernel
theorem dX12_beginsText_16 : decode cX12_beginsText 16 = .ok (.iconst 0, 1) := by decide +kernel
theorem dX12_beginsText_17 : decode cX12_beginsText 17 = .ok (.putfield 202, 3) := by decide +kernel
theorem dX12_beginsText_20 : decode cX12_beginsText 20 = .ok (.return_, 1) := by decide +kernel
theorem dX12_law_0 : decode cX12_law 0 = .ok (.iload_n 1, 1) := by decide +kernel
theorem dX12_law_1 : decode cX12_law 1 = .ok (.iconst 1, 1) := by decide +kernel
theorem dX12_law_2 : decode cX12_law 2 = .ok (.sipush 240, 3) := by decide +kernel
theorem dX12_law_5 : decode cX12_law 5 = .ok (.invokestatic 90, 3) := by decide +kernel
theorem dX12_law_8 : decode cX12_law 8 = .ok (.ifCond .eq 11, 3) := by decide +kernel
theorem dX12_law_11 : decode cX12_law 11 = .ok (.iload_n 1, 1) := by decide +kernel
theorem dX12_law_12 : decode cX12_law 12 = .ok (.aload_n 0, 1) := by decide +kernel
theorem dX12_law_13 : decode cX12_law 13 = .ok (.getfield 115, 3) := by decide +kernel
theorem dX12_law_16 : decode cX12_law 16 = .ok (.if_icmp .le 5, 3) := by decide +kernel
theorem dX12_law_19 : decode cX12_law 19 = .ok (.iconst (-1), 1) := by decide +kernel
theorem dX12_law_20 : decode cX12_law 20 = .ok (.ireturn, 1) := by decide +kernel
theorem dX12_law_21 : decode cX12_law 21 = .ok (.aload_n 0, 1) := by decide +kernel
theorem dX12_law_22 : decode cX12_law 22 = .ok (.iload_n 1, 1) := by decide +kernel
theorem dX12_law_23 : decode cX12_law 23 = .ok (.invokevirtual 208, 3) := by decide +kernel
theorem dX12_law_26 : decode cX12_law 26 = .ok (.aload_n 0, 1) := by decide +kernel
theorem dX12_law_27 : decode cX12_law 27 = .ok (.invokevirtual 211, 3) := by decide +kernel
theorem dX12_law_30 : decode cX12_law 30 = .ok (.istore_n 2, 1) := by decide +kernel
theorem dX12_law_31 : decode cX12_law 31 = .ok (.iload_n 2, 1) := by decide +kernel
theorem dX12_law_32 : decode cX12_law 32 = .ok (.ifCond .eq 39, 3) := by decide +kernel
theorem dX12_law_35 : decode cX12_law 35 = .ok (.aload_n 0, 1) := by decide +kernel
theorem dX12_law_36 : decode cX12_law 36 = .ok (.getfield 123, 3) := by decide +kernel
theorem dX12_law_39 : decode cX12_law 39 = .ok (.aload_n 0, 1) := by decide +kernel
theorem dX12_law_40 : decode cX12_law 40 = .ok (.getfield 126, 3) := by decide +kernel
theorem dX12_law_43 : decode cX12_law 43 = .ok (.if_icmp .ge 28, 3) := by decide +kernel
theorem dX12_law_46 : decode cX12_law 46 = .ok (.aload_n 0, 1) := by decide +kernel
theorem dX12_law_47 : decode cX12_law 47 = .ok (.bipush 59, 2) := by decide +kernel
theorem dX12_law_49 : decode cX12_law 49 = .ok (.invokevirtual 214, 3) := by decide +kernel
theorem dX12_law_52 : decode cX12_law 52 = .ok (.ifCond .eq 14, 3) := by decide +kernel
theorem dX12_law_55 : decode cX12_law 55 = .ok (.aload_n 0, 1) := by decide +kernel
theorem dX12_law_56 : decode cX12_law 56 = .ok (.invokevirtual 211, 3) := by decide +kernel
theorem dX12_law_59 : decode cX12_law 59 = .ok (.ifCond .eq 7, 3) := by decide +kernel
theorem dX12_law_62 : decode cX12_law 62 = .ok (.iconst 1, 1) := by decide +kernel
theorem dX12_law_63 : decode cX12_law 63 = .ok (.goto 4, 3) := by decide +kernel
theorem dX12_law_66 : decode cX12_law 66 = .ok (.iconst 0, 1) := by decide +kernel
theorem dX12_law_67 : decode cX12_law 67 = .ok (.istore_n 2, 1) := by decide +kernel
theorem dX12_law_68 : decode cX12_law 68 = .ok (.goto (-37), 3) := by decide +kernel
theorem dX12_law_71 : decode cX12_law 71 = .ok (.aload_n 0, 1) := by decide +kernel
theorem dX12_law_72 : decode cX12_law 72 = .ok (.iconst 0, 1) := by decide +kernel
theorem dX12_law_73 : decode cX12_law 73 = .ok (.putfield 115, 3) := by decide +kernel
theorem dX12_law_76 : decode cX12_law 76 = .ok (.iload_n 2, 1) := by decide +kernel
theorem dX12_law_77 : decode cX12_law 77 = .ok (.ifCond .ne 8, 3) := by decide +kernel
theorem dX12_law_80 : decode cX12_law 80 = .ok (.aload_n 0, 1) := by decide +kernel
theorem dX12_law_81 : decode cX12_law 81 = .ok (.getfield 133, 3) := by decide +kernel
theorem dX12_law_84 : decode cX12_law 84 = .ok (.ireturn, 1) := by decide +kernel
theorem dX12_law_85 : decode cX12_law 85 = .ok (.aload_n 0, 1) := by decide +kernel
theorem dX12_law_86 : decode cX12_law 86 = .ok (.aload_n 0, 1) := by decide +kernel
theorem dX12_law_87 : decode cX12_law 87 = .ok (.getfield 202, 3) := by decide +kernel
theorem dX12_law_90 : decode cX12_law 90 = .ok (.putfield 217, 3) := by decide +kernel
theorem dX12_law_93 : decode cX12_law 93 = .ok (.iconst 0, 1) := by decide +kernel
theorem dX12_law_94 : decode cX12_law 94 = .ok (.istore_n 3, 1) := by decide +kernel
theorem dX12_law_95 : decode cX12_law 95 = .ok (.iload_n 3, 1) := by decide +kernel
theorem dX12_law_96 : decode cX12_law 96 = .ok (.aload_n 0, 1) := by decide +kernel
theorem dX12_law_97 : decode cX12_law 97 = .ok (.getfield 147, 3) := by decide +kernel
theorem dX12_law_100 : decode cX12_law 100 = .ok (.if_icmp .ge 21, 3) := by decide +kernel
theorem dX12_law_103 : decode cX12_law 103 = .ok (.aload_n 0, 1) := by decide +kernel
theorem dX12_law_104 : decode cX12_law 104 = .ok (.getfield 41, 3) := by decide +kernel
theorem dX12_law_107 : decode cX12_law 107 = .ok (.iload_n 3, 1) := by decide +kernel
theorem dX12_law_108 : decode cX12_law 108 = .ok (.aload_n 0, 1) := by decide +kernel
theorem dX12_law_109 : decode cX12_law 109 = .ok (.getfield 23, 3) := by decide +kernel
theorem dX12_law_112 : decode cX12_law 112 = .ok (.iload_n 3, 1) := by decide +kernel
theorem dX12_law_113 : decode cX12_law 113 = .ok (.iaload, 1) := by decide +kernel
theorem dX12_law_114 : decode cX12_law 114 = .ok (.iastore, 1) := by decide +kernel
theorem dX12_law_115 : decode cX12_law 115 = .ok (.iinc 3 1, 3) := by decide +kernel
theorem dX12_law_118 : decode cX12_law 118 = .ok (.goto (-23), 3) := by decide +kernel
theorem dX12_law_121 : decode cX12_law 121 = .ok (.iconst 0, 1) := by decide +kernel
theorem dX12_law_122 : decode cX12_law 122 = .ok (.istore_n 3, 1) := by decide +kernel
theorem dX12_law_123 : decode cX12_law 123 = .ok (.iload_n 3, 1) := by decide +kernel
theorem dX12_law_124 : decode cX12_law 124 = .ok (.aload_n 0, 1) := by decide +kernel
theorem dX12_law_125 : decode cX12_law 125 = .ok (.getfield 202, 3) := by decide +kernel
theorem dX12_law_128 : decode cX12_law 128 = .ok (.if_icmp .ge 57, 3) := by decide +kernel
theorem dX12_law_131 : decode cX12_law 131 = .ok (.aload_n 0, 1) := by decide +kernel
theorem dX12_law_132 : decode cX12_law 132 = .ok (.getfield 44, 3) := by decide +kernel
theorem dX12_law_135 : decode cX12_law 135 = .ok (.iload_n 3, 1) := by decide +kernel
theorem dX12_law_136 : decode cX12_law 136 = .ok (.aload_n 0, 1) := by decide +kernel
theorem dX12_law_137 : decode cX12_law 137 = .ok (.getfield 29, 3) := by decide +kernel
theorem dX12_law_140 : decode cX12_law 140 = .ok (.iload_n 3, 1) := by decide +kernel
theorem dX12_law_141 : decode cX12_law 141 = .ok (.iaload, 1) := by decide +kernel
theorem dX12_law_142 : decode cX12_law 142 = .ok (.iastore, 1) := by decide +kernel
theorem dX12_law_143 : decode cX12_law 143 = .ok (.aload_n 0, 1) := by decide +kernel
theorem dX12_law_144 : decode cX12_law 144 = .ok (.getfield 47, 3) := by decide +kernel
theorem dX12_law_147 : decode cX12_law 147 = .ok (.iload_n 3, 1) := by decide +kernel
theorem dX12_law_148 : decode cX12_law 148 = .ok (.aload_n 0, 1) := by decide +kernel
theorem dX12_law_149 : decode cX12_law 149 = .ok (.getfield 32, 3) := by decide +kernel
theorem dX12_law_152 : decode cX12_law 152 = .ok (.iload_n 3, 1) := by decide +kernel
theorem dX12_law_153 : decode cX12_law 153 = .ok (.iaload, 1) := by decide +kernel
theorem dX12_law_154 : decode cX12_law 154 = .ok (.iastore, 1) := by decide +kernel
theorem dX12_law_155 : decode cX12_law 155 = .ok (.aload_n 0, 1) := by decide +kernel
theorem dX12_law_156 : decode cX12_law 156 = .ok (.getfield 50, 3) := by decide +kernel
theorem dX12_law_159 : decode cX12_law 159 = .ok (.iload_n 3, 1) := by decide +kernel
theorem dX12_law_160 : decode cX12_law 160 = .ok (.aload_n 0, 1) := by decide +kernel
theorem dX12_law_161 : decode cX12_law 161 = .ok (.getfield 35, 3) := by decide +kernel
theorem dX12_law_164 : decode cX12_law 164 = .ok (.iload_n 3, 1) := by decide +kernel
theorem dX12_law_165 : decode cX12_law 165 = .ok (.iaload, 1) := by decide +kernel
theorem dX12_law_166 : decode cX12_law 166 = .ok (.iastore, 1) := by decide +kernel
theorem dX12_law_167 : decode cX12_law 167 = .ok (.aload_n 0, 1) := by decide +kernel
theorem dX12_law_168 : decode cX12_law 168 = .ok (.getfield 53, 3) := by decide +kernel
theorem dX12_law_171 : decode cX12_law 171 = .ok (.iload_n 3, 1) := by decide +kernel
theorem dX12_law_172 : decode cX12_law 172 = .ok (.aload_n 0, 1) := by decide +kernel
theorem dX12_law_173 : decode cX12_law 173 = .ok (.getfield 38, 3) := by decide +kernel
theorem dX12_law_176 : decode cX12_law 176 = .ok (.iload_n 3, 1) := by decide +kernel
theorem dX12_law_177 : decode cX12_law 177 = .ok (.iaload, 1) := by decide +kernel
theorem dX12_law_178 : decode cX12_law 178 = .ok (.iastore, 1) := by decide +kernel
theorem dX12_law_179 : decode cX12_law 179 = .ok (.iinc 3 1, 3) := by decide +kernel
theorem dX12_law_182 : decode cX12_law 182 = .ok (.goto (-59), 3) := by decide +kernel
theorem dX12_law_185 : decode cX12_law 185 = .ok (.aload_n 0, 1) := by decide +kernel
theorem dX12_law_186 : decode cX12_law 186 = .ok (.getfield 202, 3) := by decide +kernel
theorem dX12_law_189 : decode cX12_law 189 = .ok (.ireturn, 1) := by decide +kernel
theorem dX12_reckon_0 : decode cX12_reckon 0 = .ok (.iload_n 0, 1) := by decide +kernel
theorem dX12_reckon_1 : decode cX12_reckon 1 = .ok (.tableswitch 85 2 8 #[43, 47, 51, 55, 59, 63, 74], 43) := by decide +kernel
theorem dX12_reckon_44 : decode cX12_reckon 44 = .ok (.iload_n 1, 1) := by decide +kernel
theorem dX12_reckon_45 : decode cX12_reckon 45 = .ok (.iload_n 2, 1) := by decide +kernel
theorem dX12_reckon_46 : decode cX12_reckon 46 = .ok (.iadd, 1) := by decide +kernel
theorem dX12_reckon_47 : decode cX12_reckon 47 = .ok (.ireturn, 1) := by decide +kernel
theorem dX12_reckon_48 : decode cX12_reckon 48 = .ok (.iload_n 1, 1) := by decide +kernel
theorem dX12_reckon_49 : decode cX12_reckon 49 = .ok (.iload_n 2, 1) := by decide +kernel
theorem dX12_reckon_50 : decode cX12_reckon 50 = .ok (.isub, 1) := by decide +kernel
theorem dX12_reckon_51 : decode cX12_reckon 51 = .ok (.ireturn, 1) := by decide +kernel
theorem dX12_reckon_52 : decode cX12_reckon 52 = .ok (.iload_n 1, 1) := by decide +kernel
theorem dX12_reckon_53 : decode cX12_reckon 53 = .ok (.iload_n 2, 1) := by decide +kernel
theorem dX12_reckon_54 : decode cX12_reckon 54 = .ok (.imul, 1) := by decide +kernel
theorem dX12_reckon_55 : decode cX12_reckon 55 = .ok (.ireturn, 1) := by decide +kernel
theorem dX12_reckon_56 : decode cX12_reckon 56 = .ok (.iload_n 1, 1) := by decide +kernel
theorem dX12_reckon_57 : decode cX12_reckon 57 = .ok (.iload_n 2, 1) := by decide +kernel
theorem dX12_reckon_58 : decode cX12_reckon 58 = .ok (.idiv, 1) := by decide +kernel
theorem dX12_reckon_59 : decode cX12_reckon 59 = .ok (.ireturn, 1) := by decide +kernel
theorem dX12_reckon_60 : decode cX12_reckon 60 = .ok (.iload_n 1, 1) := by decide +kernel
theorem dX12_reckon_61 : decode cX12_reckon 61 = .ok (.iload_n 2, 1) := by decide +kernel
theorem dX12_reckon_62 : decode cX12_reckon 62 = .ok (.irem, 1) := by decide +kernel
theorem dX12_reckon_63 : decode cX12_reckon 63 = .ok (.ireturn, 1) := by decide +kernel
theorem dX12_reckon_64 : decode cX12_reckon 64 = .ok (.iload_n 1, 1) := by decide +kernel
theorem dX12_reckon_65 : decode cX12_reckon 65 = .ok (.iload_n 2, 1) := by decide +kernel
theorem dX12_reckon_66 : decode cX12_reckon 66 = .ok (.if_icmp .ge 7, 3) := by decide +kernel
theorem dX12_reckon_69 : decode cX12_reckon 69 = .ok (.iconst 1, 1) := by decide +kernel
theorem dX12_reckon_70 : decode cX12_reckon 70 = .ok (.goto 4, 3) := by decide +kernel
theorem dX12_reckon_73 : decode cX12_reckon 73 = .ok (.iconst 0, 1) := by decide +kernel
theorem dX12_reckon_74 : decode cX12_reckon 74 = .ok (.ireturn, 1) := by decide +kernel
theorem dX12_reckon_75 : decode cX12_reckon 75 = .ok (.iload_n 1, 1) := by decide +kernel
theorem dX12_reckon_76 : decode cX12_reckon 76 = .ok (.iload_n 2, 1) := by decide +kernel
theorem dX12_reckon_77 : decode cX12_reckon 77 = .ok (.if_icmp .le 7, 3) := by decide +kernel
theorem dX12_reckon_80 : decode cX12_reckon 80 = .ok (.iconst 1, 1) := by decide +kernel
theorem dX12_reckon_81 : decode cX12_reckon 81 = .ok (.goto 4, 3) := by decide +kernel
theorem dX12_reckon_84 : decode cX12_reckon 84 = .ok (.iconst 0, 1) := by decide +kernel
theorem dX12_reckon_85 : decode cX12_reckon 85 = .ok (.ireturn, 1) := by decide +kernel
theorem dX12_reckon_86 : decode cX12_reckon 86 = .ok (.iload_n 1, 1) := by decide +kernel
theorem dX12_reckon_87 : decode cX12_reckon 87 = .ok (.iload_n 2, 1) := by decide +kernel
theorem dX12_reckon_88 : decode cX12_reckon 88 = .ok (.if_icmp .ne 7, 3) := by decide +kernel
theorem dX12_reckon_91 : decode cX12_reckon 91 = .ok (.iconst 1, 1) := by decide +kernel
theorem dX12_reckon_92 : decode cX12_reckon 92 = .ok (.goto 4, 3) := by decide +kernel
theorem dX12_reckon_95 : decode cX12_reckon 95 = .ok (.iconst 0, 1) := by decide +kernel
theorem dX12_reckon_96 : decode cX12_reckon 96 = .ok (.ireturn, 1) := by decide +kernel
theorem dX12_comesTo_0 : decode cX12_comesTo 0 = .ok (.iconst 0, 1) := by decide +kernel
theorem dX12_comesTo_1 : decode cX12_comesTo 1 = .ok (.istore_n 3, 1) := by decide +kernel
theorem dX12_comesTo_2 : decode cX12_comesTo 2 = .ok (.sipush 260, 3) := by decide +kernel
theorem dX12_comesTo_5 : decode cX12_comesTo 5 = .ok (.iload_n 1, 1) := by decide +kernel
theorem dX12_comesTo_6 : decode cX12_comesTo 6 = .ok (.sipush 260, 3) := by decide +kernel
theorem dX12_comesTo_9 : decode cX12_comesTo 9 = .ok (.idiv, 1) := by decide +kernel
theorem dX12_comesTo_10 : decode cX12_comesTo 10 = .ok (.imul, 1) := by decide +kernel
theorem dX12_comesTo_11 : decode cX12_comesTo 11 = .ok (.istore 4, 2) := by decide +kernel
theorem dX12_comesTo_13 : decode cX12_comesTo 13 = .ok (.iload_n 1, 1) := by decide +kernel
theorem dX12_comesTo_14 : decode cX12_comesTo 14 = .ok (.istore 5, 2) := by decide +kernel
theorem dX12_comesTo_16 : decode cX12_comesTo 16 = .ok (.iload 5, 2) := by decide +kernel
theorem dX12_comesTo_18 : decode cX12_comesTo 18 = .ok (.iload_n 2, 1) := by decide +kernel
theorem dX12_comesTo_19 : decode cX12_comesTo 19 = .ok (.if_icmp .ge 214, 3) := by decide +kernel
theorem dX12_comesTo_22 : decode cX12_comesTo 22 = .ok (.aload_n 0, 1) := by decide +kernel
theorem dX12_comesTo_23 : decode cX12_comesTo 23 = .ok (.getfield 41, 3) := by decide +kernel
theorem dX12_comesTo_26 : decode cX12_comesTo 26 = .ok (.iload 5, 2) := by decide +kernel
theorem dX12_comesTo_28 : decode cX12_comesTo 28 = .ok (.iaload, 1) := by decide +kernel
theorem dX12_comesTo_29 : decode cX12_comesTo 29 = .ok (.ldc 150, 2) := by decide +kernel
theorem dX12_comesTo_31 : decode cX12_comesTo 31 = .ok (.idiv, 1) := by decide +kernel
theorem dX12_comesTo_32 : decode cX12_comesTo 32 = .ok (.istore 6, 2) := by decide +kernel
theorem dX12_comesTo_34 : decode cX12_comesTo 34 = .ok (.aload_n 0, 1) := by decide +kernel
theorem dX12_comesTo_35 : decode cX12_comesTo 35 = .ok (.getfield 41, 3) := by decide +kernel
theorem dX12_comesTo_38 : decode cX12_comesTo 38 = .ok (.iload 5, 2) := by decide +kernel
theorem dX12_comesTo_40 : decode cX12_comesTo 40 = .ok (.iaload, 1) := by decide +kernel
theorem dX12_comesTo_41 : decode cX12_comesTo 41 = .ok (.ldc 150, 2) := by decide +kernel
theorem dX12_comesTo_43 : decode cX12_comesTo 43 = .ok (.irem, 1) := by decide +kernel
theorem dX12_comesTo_44 : decode cX12_comesTo 44 = .ok (.istore 7, 2) := by decide +kernel
theorem dX12_comesTo_46 : decode cX12_comesTo 46 = .ok (.iload 5, 2) := by decide +kernel
theorem dX12_comesTo_48 : decode cX12_comesTo 48 = .ok (.iconst 1, 1) := by decide +kernel
theorem dX12_comesTo_49 : decode cX12_comesTo 49 = .ok (.iadd, 1) := by decide +kernel
theorem dX12_comesTo_50 : decode cX12_comesTo 50 = .ok (.istore 5, 2) := by decide +kernel
theorem dX12_comesTo_52 : decode cX12_comesTo 52 = .ok (.iload 6, 2) := by decide +kernel
theorem dX12_comesTo_54 : decode cX12_comesTo 54 = .ok (.ifCond .eq 9, 3) := by decide +kernel
theorem dX12_comesTo_57 : decode cX12_comesTo 57 = .ok (.iload 6, 2) := by decide +kernel
theorem dX12_comesTo_59 : decode cX12_comesTo 59 = .ok (.iconst 1, 1) := by decide +kernel
theorem dX12_comesTo_60 : decode cX12_comesTo 60 = .ok (.if_icmp .ne 33, 3) := by decide +kernel
theorem dX12_comesTo_63 : decode cX12_comesTo 63 = .ok (.aload_n 0, 1) := by decide +kernel
theorem dX12_comesTo_64 : decode cX12_comesTo 64 = .ok (.getfield 56, 3) := by decide +kernel
theorem dX12_comesTo_67 : decode cX12_comesTo 67 = .ok (.iload_n 3, 1) := by decide +kernel
theorem dX12_comesTo_68 : decode cX12_comesTo 68 = .ok (.iload 6, 2) := by decide +kernel
theorem dX12_comesTo_70 : decode cX12_comesTo 70 = .ok (.ifCond .ne 8, 3) := by decide +kernel
theorem dX12_comesTo_73 : decode cX12_comesTo 73 = .ok (.iload 7, 2) := by decide +kernel
theorem dX12_comesTo_75 : decode cX12_comesTo 75 = .ok (.goto 10, 3) := by decide +kernel
theorem dX12_comesTo_78 : decode cX12_comesTo 78 = .ok (.aload_n 0, 1) := by decide +kernel
theorem dX12_comesTo_79 : decode cX12_comesTo 79 = .ok (.getfield 59, 3) := by decide +kernel
theorem dX12_comesTo_82 : decode cX12_comesTo 82 = .ok (.iload 7, 2) := by decide +kernel
theorem dX12_comesTo_84 : decode cX12_comesTo 84 = .ok (.iaload, 1) := by decide +kernel
theorem dX12_comesTo_85 : decode cX12_comesTo 85 = .ok (.iastore, 1) := by decide +kernel
theorem dX12_comesTo_86 : decode cX12_comesTo 86 = .ok (.iload_n 3, 1) := by decide +kernel
theorem dX12_comesTo_87 : decode cX12_comesTo 87 = .ok (.iconst 1, 1) := by decide +kernel
theorem dX12_comesTo_88 : decode cX12_comesTo 88 = .ok (.iadd, 1) := by decide +kernel
theorem dX12_comesTo_89 : decode cX12_comesTo 89 = .ok (.istore_n 3, 1) := by decide +kernel
theorem dX12_comesTo_90 : decode cX12_comesTo 90 = .ok (.goto 140, 3) := by decide +kernel
theorem dX12_comesTo_93 : decode cX12_comesTo 93 = .ok (.iload 6, 2) := by decide +kernel
theorem dX12_comesTo_95 : decode cX12_comesTo 95 = .ok (.bipush 10, 2) := by decide +kernel
theorem dX12_comesTo_97 : decode cX12_comesTo 97 = .ok (.if_icmp .ne 24, 3) := by decide +kernel
theorem dX12_comesTo_100 : decode cX12_comesTo 100 = .ok (.aload_n 0, 1) := by decide +kernel
theorem dX12_comesTo_101 : decode cX12_comesTo 101 = .ok (.getfield 56, 3) := by decide +kernel
theorem dX12_comesTo_104 : decode cX12_comesTo 104 = .ok (.iload_n 3, 1) := by decide +kernel
theorem dX12_comesTo_105 : decode cX12_comesTo 105 = .ok (.iconst 1, 1) := by decide +kernel
theorem dX12_comesTo_106 : decode cX12_comesTo 106 = .ok (.isub, 1) := by decide +kernel
theorem dX12_comesTo_107 : decode cX12_comesTo 107 = .ok (.iconst 1, 1) := by decide +kernel
theorem dX12_comesTo_108 : decode cX12_comesTo 108 = .ok (.aload_n 0, 1) := by decide +kernel
theorem dX12_comesTo_109 : decode cX12_comesTo 109 = .ok (.getfield 56, 3) := by decide +kernel
theorem dX12_comesTo_112 : decode cX12_comesTo 112 = .ok (.iload_n 3, 1) := by decide +kernel
theorem dX12_comesTo_113 : decode cX12_comesTo 113 = .ok (.iconst 1, 1) := by decide +kernel
theorem dX12_comesTo_114 : decode cX12_comesTo 114 = .ok (.isub, 1) := by decide +kernel
theorem dX12_comesTo_115 : decode cX12_comesTo 115 = .ok (.iaload, 1) := by decide +kernel
theorem dX12_comesTo_116 : decode cX12_comesTo 116 = .ok (.isub, 1) := by decide +kernel
theorem dX12_comesTo_117 : decode cX12_comesTo 117 = .ok (.iastore, 1) := by decide +kernel
theorem dX12_comesTo_118 : decode cX12_comesTo 118 = .ok (.goto 112, 3) := by decide +kernel
theorem dX12_comesTo_121 : decode cX12_comesTo 121 = .ok (.iload 6, 2) := by decide +kernel
theorem dX12_comesTo_123 : decode cX12_comesTo 123 = .ok (.bipush 11, 2) := by decide +kernel
theorem dX12_comesTo_125 : decode cX12_comesTo 125 = .ok (.if_icmp .eq 10, 3) := by decide +kernel
theorem dX12_comesTo_128 : decode cX12_comesTo 128 = .ok (.iload 6, 2) := by decide +kernel
theorem dX12_comesTo_130 : decode cX12_comesTo 130 = .ok (.bipush 12, 2) := by decide +kernel
theorem dX12_comesTo_132 : decode cX12_comesTo 132 = .ok (.if_icmp .ne 43, 3) := by decide +kernel
theorem dX12_comesTo_135 : decode cX12_comesTo 135 = .ok (.aload_n 0, 1) := by decide +kernel
theorem dX12_comesTo_136 : decode cX12_comesTo 136 = .ok (.getfield 56, 3) := by decide +kernel
theorem dX12_comesTo_139 : decode cX12_comesTo 139 = .ok (.iload_n 3, 1) := by decide +kernel
theorem dX12_comesTo_140 : decode cX12_comesTo 140 = .ok (.iconst 1, 1) := by decide +kernel
theorem dX12_comesTo_141 : decode cX12_comesTo 141 = .ok (.isub, 1) := by decide +kernel
theorem dX12_comesTo_142 : decode cX12_comesTo 142 = .ok (.iaload, 1) := by decide +kernel
theorem dX12_comesTo_143 : decode cX12_comesTo 143 = .ok (.iload 6, 2) := by decide +kernel
theorem dX12_comesTo_145 : decode cX12_comesTo 145 = .ok (.bipush 12, 2) := by decide +kernel
theorem dX12_comesTo_147 : decode cX12_comesTo 147 = .ok (.if_icmp .ne 7, 3) := by decide +kernel
theorem dX12_comesTo_150 : decode cX12_comesTo 150 = .ok (.iconst 1, 1) := by decide +kernel
theorem dX12_comesTo_151 : decode cX12_comesTo 151 = .ok (.goto 4, 3) := by decide +kernel
theorem dX12_comesTo_154 : decode cX12_comesTo 154 = .ok (.iconst 0, 1) := by decide +kernel
theorem dX12_comesTo_155 : decode cX12_comesTo 155 = .ok (.if_icmp .ne 13, 3) := by decide +kernel
theorem dX12_comesTo_158 : decode cX12_comesTo 158 = .ok (.iload 4, 2) := by decide +kernel
theorem dX12_comesTo_160 : decode cX12_comesTo 160 = .ok (.iload 7, 2) := by decide +kernel
theorem dX12_comesTo_162 : decode cX12_comesTo 162 = .ok (.iadd, 1) := by decide +kernel
theorem dX12_comesTo_163 : decode cX12_comesTo 163 = .ok (.istore 5, 2) := by decide +kernel
theorem dX12_comesTo_165 : decode cX12_comesTo 165 = .ok (.goto 65, 3) := by decide +kernel
theorem dX12_comesTo_168 : decode cX12_comesTo 168 = .ok (.iload_n 3, 1) := by decide +kernel
theorem dX12_comesTo_169 : decode cX12_comesTo 169 = .ok (.iconst 1, 1) := by decide +kernel
theorem dX12_comesTo_170 : decode cX12_comesTo 170 = .ok (.isub, 1) := by decide +kernel
theorem dX12_comesTo_171 : decode cX12_comesTo 171 = .ok (.istore_n 3, 1) := by decide +kernel
theorem dX12_comesTo_172 : decode cX12_comesTo 172 = .ok (.goto 58, 3) := by decide +kernel
theorem dX12_comesTo_175 : decode cX12_comesTo 175 = .ok (.iload_n 3, 1) := by decide +kernel
theorem dX12_comesTo_176 : decode cX12_comesTo 176 = .ok (.iconst 1, 1) := by decide +kernel
theorem dX12_comesTo_177 : decode cX12_comesTo 177 = .ok (.isub, 1) := by decide +kernel
theorem dX12_comesTo_178 : decode cX12_comesTo 178 = .ok (.istore_n 3, 1) := by decide +kernel
theorem dX12_comesTo_179 : decode cX12_comesTo 179 = .ok (.iload 6, 2) := by decide +kernel
theorem dX12_comesTo_181 : decode cX12_comesTo 181 = .ok (.iconst 5, 1) := by decide +kernel
theorem dX12_comesTo_182 : decode cX12_comesTo 182 = .ok (.if_icmp .eq 10, 3) := by decide +kernel
theorem dX12_comesTo_185 : decode cX12_comesTo 185 = .ok (.iload 6, 2) := by decide +kernel
theorem dX12_comesTo_187 : decode cX12_comesTo 187 = .ok (.bipush 6, 2) := by decide +kernel
theorem dX12_comesTo_189 : decode cX12_comesTo 189 = .ok (.if_icmp .ne 14, 3) := by decide +kernel
theorem dX12_comesTo_192 : decode cX12_comesTo 192 = .ok (.aload_n 0, 1) := by decide +kernel
theorem dX12_comesTo_193 : decode cX12_comesTo 193 = .ok (.getfield 56, 3) := by decide +kernel
theorem dX12_comesTo_196 : decode cX12_comesTo 196 = .ok (.iload_n 3, 1) := by decide +kernel
theorem dX12_comesTo_197 : decode cX12_comesTo 197 = .ok (.iaload, 1) := by decide +kernel
theorem dX12_comesTo_198 : decode cX12_comesTo 198 = .ok (.ifCond .ne 5, 3) := by decide +kernel
theorem dX12_comesTo_201 : decode cX12_comesTo 201 = .ok (.iconst 0, 1) := by decide +kernel
theorem dX12_comesTo_202 : decode cX12_comesTo 202 = .ok (.ireturn, 1) := by decide +kernel
theorem dX12_comesTo_203 : decode cX12_comesTo 203 = .ok (.aload_n 0, 1) := by decide +kernel
theorem dX12_comesTo_204 : decode cX12_comesTo 204 = .ok (.getfield 56, 3) := by decide +kernel
theorem dX12_comesTo_207 : decode cX12_comesTo 207 = .ok (.iload_n 3, 1) := by decide +kernel
theorem dX12_comesTo_208 : decode cX12_comesTo 208 = .ok (.iconst 1, 1) := by decide +kernel
theorem dX12_comesTo_209 : decode cX12_comesTo 209 = .ok (.isub, 1) := by decide +kernel
theorem dX12_comesTo_210 : decode cX12_comesTo 210 = .ok (.iload 6, 2) := by decide +kernel
theorem dX12_comesTo_212 : decode cX12_comesTo 212 = .ok (.aload_n 0, 1) := by decide +kernel
theorem dX12_comesTo_213 : decode cX12_comesTo 213 = .ok (.getfield 56, 3) := by decide +kernel
theorem dX12_comesTo_216 : decode cX12_comesTo 216 = .ok (.iload_n 3, 1) := by decide +kernel
theorem dX12_comesTo_217 : decode cX12_comesTo 217 = .ok (.iconst 1, 1) := by decide +kernel
theorem dX12_comesTo_218 : decode cX12_comesTo 218 = .ok (.isub, 1) := by decide +kernel
theorem dX12_comesTo_219 : decode cX12_comesTo 219 = .ok (.iaload, 1) := by decide +kernel
theorem dX12_comesTo_220 : decode cX12_comesTo 220 = .ok (.aload_n 0, 1) := by decide +kernel
theorem dX12_comesTo_221 : decode cX12_comesTo 221 = .ok (.getfield 56, 3) := by decide +kernel
theorem dX12_comesTo_224 : decode cX12_comesTo 224 = .ok (.iload_n 3, 1) := by decide +kernel
theorem dX12_comesTo_225 : decode cX12_comesTo 225 = .ok (.iaload, 1) := by decide +kernel
theorem dX12_comesTo_226 : decode cX12_comesTo 226 = .ok (.invokestatic 220, 3) := by decide +kernel
theorem dX12_comesTo_229 : decode cX12_comesTo 229 = .ok (.iastore, 1) := by decide +kernel
theorem dX12_comesTo_230 : decode cX12_comesTo 230 = .ok (.goto (-214), 3) := by decide +kernel
theorem dX12_comesTo_233 : decode cX12_comesTo 233 = .ok (.aload_n 0, 1) := by decide +kernel
theorem dX12_comesTo_234 : decode cX12_comesTo 234 = .ok (.getfield 56, 3) := by decide +kernel
theorem dX12_comesTo_237 : decode cX12_comesTo 237 = .ok (.iconst 0, 1) := by decide +kernel
theorem dX12_comesTo_238 : decode cX12_comesTo 238 = .ok (.iaload, 1) := by decide +kernel
theorem dX12_comesTo_239 : decode cX12_comesTo 239 = .ok (.ireturn, 1) := by decide +kernel
theorem dX12_byLaw_0 : decode cX12_byLaw 0 = .ok (.iconst 0, 1) := by decide +kernel
theorem dX12_byLaw_1 : decode cX12_byLaw 1 = .ok (.istore_n 3, 1) := by decide +kernel
theorem dX12_byLaw_2 : decode cX12_byLaw 2 = .ok (.iload_n 3, 1) := by decide +kernel
theorem dX12_byLaw_3 : decode cX12_byLaw 3 = .ok (.aload_n 0, 1) := by decide +kernel
theorem dX12_byLaw_4 : decode cX12_byLaw 4 = .ok (.getfield 217, 3) := by decide +kernel
theorem dX12_byLaw_7 : decode cX12_byLaw 7 = .ok (.if_icmp .ge 82, 3) := by decide +kernel
theorem dX12_byLaw_10 : decode cX12_byLaw 10 = .ok (.aload_n 0, 1) := by decide +kernel
theorem dX12_byLaw_11 : decode cX12_byLaw 11 = .ok (.getfield 44, 3) := by decide +kernel
theorem dX12_byLaw_14 : decode cX12_byLaw 14 = .ok (.iload_n 3, 1) := by decide +kernel
theorem dX12_byLaw_15 : decode cX12_byLaw 15 = .ok (.iaload, 1) := by decide +kernel
theorem dX12_byLaw_16 : decode cX12_byLaw 16 = .ok (.iload_n 1, 1) := by decide +kernel
theorem dX12_byLaw_17 : decode cX12_byLaw 17 = .ok (.if_icmp .ne 66, 3) := by decide +kernel
theorem dX12_byLaw_20 : decode cX12_byLaw 20 = .ok (.aload_n 0, 1) := by decide +kernel
theorem dX12_byLaw_21 : decode cX12_byLaw 21 = .ok (.aload_n 0, 1) := by decide +kernel
theorem dX12_byLaw_22 : decode cX12_byLaw 22 = .ok (.getfield 50, 3) := by decide +kernel
theorem dX12_byLaw_25 : decode cX12_byLaw 25 = .ok (.iload_n 3, 1) := by decide +kernel
theorem dX12_byLaw_26 : decode cX12_byLaw 26 = .ok (.iaload, 1) := by decide +kernel
theorem dX12_byLaw_27 : decode cX12_byLaw 27 = .ok (.aload_n 0, 1) := by decide +kernel
theorem dX12_byLaw_28 : decode cX12_byLaw 28 = .ok (.getfield 53, 3) := by decide +kernel
theorem dX12_byLaw_31 : decode cX12_byLaw 31 = .ok (.iload_n 3, 1) := by decide +kernel
theorem dX12_byLaw_32 : decode cX12_byLaw 32 = .ok (.iaload, 1) := by decide +kernel
theorem dX12_byLaw_33 : decode cX12_byLaw 33 = .ok (.invokevirtual 224, 3) := by decide +kernel
theorem dX12_byLaw_36 : decode cX12_byLaw 36 = .ok (.iconst 1, 1) := by decide +kernel
theorem dX12_byLaw_37 : decode cX12_byLaw 37 = .ok (.if_icmp .eq 6, 3) := by decide +kernel
theorem dX12_byLaw_40 : decode cX12_byLaw 40 = .ok (.goto 43, 3) := by decide +kernel
theorem dX12_byLaw_43 : decode cX12_byLaw 43 = .ok (.aload_n 0, 1) := by decide +kernel
theorem dX12_byLaw_44 : decode cX12_byLaw 44 = .ok (.aload_n 0, 1) := by decide +kernel
theorem dX12_byLaw_45 : decode cX12_byLaw 45 = .ok (.getfield 47, 3) := by decide +kernel
theorem dX12_byLaw_48 : decode cX12_byLaw 48 = .ok (.iload_n 3, 1) := by decide +kernel
theorem dX12_byLaw_49 : decode cX12_byLaw 49 = .ok (.iaload, 1) := by decide +kernel
theorem dX12_byLaw_50 : decode cX12_byLaw 50 = .ok (.aload_n 0, 1) := by decide +kernel
theorem dX12_byLaw_51 : decode cX12_byLaw 51 = .ok (.getfield 50, 3) := by decide +kernel
theorem dX12_byLaw_54 : decode cX12_byLaw 54 = .ok (.iload_n 3, 1) := by decide +kernel
theorem dX12_byLaw_55 : decode cX12_byLaw 55 = .ok (.iaload, 1) := by decide +kernel
theorem dX12_byLaw_56 : decode cX12_byLaw 56 = .ok (.invokevirtual 224, 3) := by decide +kernel
theorem dX12_byLaw_59 : decode cX12_byLaw 59 = .ok (.istore 4, 2) := by decide +kernel
theorem dX12_byLaw_61 : decode cX12_byLaw 61 = .ok (.iload 4, 2) := by decide +kernel
theorem dX12_byLaw_63 : decode cX12_byLaw 63 = .ok (.ifCond .ge 7, 3) := by decide +kernel
theorem dX12_byLaw_66 : decode cX12_byLaw 66 = .ok (.iconst 0, 1) := by decide +kernel
theorem dX12_byLaw_67 : decode cX12_byLaw 67 = .ok (.goto 15, 3) := by decide +kernel
theorem dX12_byLaw_70 : decode cX12_byLaw 70 = .ok (.iload 4, 2) := by decide +kernel
theorem dX12_byLaw_72 : decode cX12_byLaw 72 = .ok (.iload_n 2, 1) := by decide +kernel
theorem dX12_byLaw_73 : decode cX12_byLaw 73 = .ok (.if_icmp .le 7, 3) := by decide +kernel
theorem dX12_byLaw_76 : decode cX12_byLaw 76 = .ok (.iload_n 2, 1) := by decide +kernel
theorem dX12_byLaw_77 : decode cX12_byLaw 77 = .ok (.goto 5, 3) := by decide +kernel
theorem dX12_byLaw_80 : decode cX12_byLaw 80 = .ok (.iload 4, 2) := by decide +kernel
theorem dX12_byLaw_82 : decode cX12_byLaw 82 = .ok (.ireturn, 1) := by decide +kernel
theorem dX12_byLaw_83 : decode cX12_byLaw 83 = .ok (.iinc 3 1, 3) := by decide +kernel
theorem dX12_byLaw_86 : decode cX12_byLaw 86 = .ok (.goto (-84), 3) := by decide +kernel
theorem dX12_byLaw_89 : decode cX12_byLaw 89 = .ok (.iconst 0, 1) := by decide +kernel
theorem dX12_byLaw_90 : decode cX12_byLaw 90 = .ok (.ireturn, 1) := by decide +kernel
theorem dX12_holdsAny_0 : decode cX12_holdsAny 0 = .ok (.iconst 0, 1) := by decide +kernel
theorem dX12_holdsAny_1 : decode cX12_holdsAny 1 = .ok (.istore_n 2, 1) := by decide +kernel
theorem dX12_holdsAny_2 : decode cX12_holdsAny 2 = .ok (.iload_n 2, 1) := by decide +kernel
theorem dX12_holdsAny_3 : decode cX12_holdsAny 3 = .ok (.aload_n 0, 1) := by decide +kernel
theorem dX12_holdsAny_4 : decode cX12_holdsAny 4 = .ok (.getfield 217, 3) := by decide +kernel
theorem dX12_holdsAny_7 : decode cX12_holdsAny 7 = .ok (.if_icmp .ge 41, 3) := by decide +kernel
theorem dX12_holdsAny_10 : decode cX12_holdsAny 10 = .ok (.aload_n 0, 1) := by decide +kernel
theorem dX12_holdsAny_11 : decode cX12_holdsAny 11 = .ok (.getfield 44, 3) := by decide +kernel
theorem dX12_holdsAny_14 : decode cX12_holdsAny 14 = .ok (.iload_n 2, 1) := by decide +kernel
theorem dX12_holdsAny_15 : decode cX12_holdsAny 15 = .ok (.iaload, 1) := by decide +kernel
theorem dX12_holdsAny_16 : decode cX12_holdsAny 16 = .ok (.iload_n 1, 1) := by decide +kernel
theorem dX12_holdsAny_17 : decode cX12_holdsAny 17 = .ok (.if_icmp .ne 25, 3) := by decide +kernel
theorem dX12_holdsAny_20 : decode cX12_holdsAny 20 = .ok (.aload_n 0, 1) := by decide +kernel
theorem dX12_holdsAny_21 : decode cX12_holdsAny 21 = .ok (.aload_n 0, 1) := by decide +kernel
theorem dX12_holdsAny_22 : decode cX12_holdsAny 22 = .ok (.getfield 50, 3) := by decide +kernel
theorem dX12_holdsAny_25 : decode cX12_holdsAny 25 = .ok (.iload_n 2, 1) := by decide +kernel
theorem dX12_holdsAny_26 : decode cX12_holdsAny 26 = .ok (.iaload, 1) := by decide +kernel
theorem dX12_holdsAny_27 : decode cX12_holdsAny 27 = .ok (.aload_n 0, 1) := by decide +kernel
theorem dX12_holdsAny_28 : decode cX12_holdsAny 28 = .ok (.getfield 53, 3) := by decide +kernel
theorem dX12_holdsAny_31 : decode cX12_holdsAny 31 = .ok (.iload_n 2, 1) := by decide +kernel
theorem dX12_holdsAny_32 : decode cX12_holdsAny 32 = .ok (.iaload, 1) := by decide +kernel
theorem dX12_holdsAny_33 : decode cX12_holdsAny 33 = .ok (.invokevirtual 224, 3) := by decide +kernel
theorem dX12_holdsAny_36 : decode cX12_holdsAny 36 = .ok (.iconst 1, 1) := by decide +kernel
theorem dX12_holdsAny_37 : decode cX12_holdsAny 37 = .ok (.if_icmp .ne 5, 3) := by decide +kernel
theorem dX12_holdsAny_40 : decode cX12_holdsAny 40 = .ok (.iconst 1, 1) := by decide +kernel
theorem dX12_holdsAny_41 : decode cX12_holdsAny 41 = .ok (.ireturn, 1) := by decide +kernel
theorem dX12_holdsAny_42 : decode cX12_holdsAny 42 = .ok (.iinc 2 1, 3) := by decide +kernel
theorem dX12_holdsAny_45 : decode cX12_holdsAny 45 = .ok (.goto (-43), 3) := by decide +kernel
theorem dX12_holdsAny_48 : decode cX12_holdsAny 48 = .ok (.iconst 0, 1) := by decide +kernel
theorem dX12_holdsAny_49 : decode cX12_holdsAny 49 = .ok (.ireturn, 1) := by decide +kernel
theorem dX12_asks_0 : decode cX12_asks 0 = .ok (.aload_n 0, 1) := by decide +kernel
theorem dX12_asks_1 : decode cX12_asks 1 = .ok (.getfield 59, 3) := by decide +kernel
theorem dX12_asks_4 : decode cX12_asks 4 = .ok (.iconst 0, 1) := by decide +kernel
theorem dX12_asks_5 : decode cX12_asks 5 = .ok (.iload_n 1, 1) := by decide +kernel
theorem dX12_asks_6 : decode cX12_asks 6 = .ok (.iastore, 1) := by decide +kernel
theorem dX12_asks_7 : decode cX12_asks 7 = .ok (.aload_n 0, 1) := by decide +kernel
theorem dX12_asks_8 : decode cX12_asks 8 = .ok (.getfield 59, 3) := by decide +kernel
theorem dX12_asks_11 : decode cX12_asks 11 = .ok (.iconst 1, 1) := by decide +kernel
theorem dX12_asks_12 : decode cX12_asks 12 = .ok (.aload_n 0, 1) := by decide +kernel
theorem dX12_asks_13 : decode cX12_asks 13 = .ok (.getfield 7, 3) := by decide +kernel
theorem dX12_asks_16 : decode cX12_asks 16 = .ok (.bipush 24, 2) := by decide +kernel
theorem dX12_asks_18 : decode cX12_asks 18 = .ok (.iload_n 1, 1) := by decide +kernel
theorem dX12_asks_19 : decode cX12_asks 19 = .ok (.iadd, 1) := by decide +kernel
theorem dX12_asks_20 : decode cX12_asks 20 = .ok (.iaload, 1) := by decide +kernel
theorem dX12_asks_21 : decode cX12_asks 21 = .ok (.iastore, 1) := by decide +kernel
theorem dX12_asks_22 : decode cX12_asks 22 = .ok (.aload_n 0, 1) := by decide +kernel
theorem dX12_asks_23 : decode cX12_asks 23 = .ok (.getfield 59, 3) := by decide +kernel
theorem dX12_asks_26 : decode cX12_asks 26 = .ok (.iconst 2, 1) := by decide +kernel
theorem dX12_asks_27 : decode cX12_asks 27 = .ok (.iload_n 2, 1) := by decide +kernel
theorem dX12_asks_28 : decode cX12_asks 28 = .ok (.iastore, 1) := by decide +kernel
theorem dX12_asks_29 : decode cX12_asks 29 = .ok (.aload_n 0, 1) := by decide +kernel
theorem dX12_asks_30 : decode cX12_asks 30 = .ok (.getfield 59, 3) := by decide +kernel
theorem dX12_asks_33 : decode cX12_asks 33 = .ok (.iconst 3, 1) := by decide +kernel
theorem dX12_asks_34 : decode cX12_asks 34 = .ok (.iload_n 2, 1) := by decide +kernel
theorem dX12_asks_35 : decode cX12_asks 35 = .ok (.iconst 4, 1) := by decide +kernel
theorem dX12_asks_36 : decode cX12_asks 36 = .ok (.idiv, 1) := by decide +kernel
theorem dX12_asks_37 : decode cX12_asks 37 = .ok (.iastore, 1) := by decide +kernel
theorem dX12_asks_38 : decode cX12_asks 38 = .ok (.aload_n 0, 1) := by decide +kernel
theorem dX12_asks_39 : decode cX12_asks 39 = .ok (.getfield 59, 3) := by decide +kernel
theorem dX12_asks_42 : decode cX12_asks 42 = .ok (.iconst 4, 1) := by decide +kernel
theorem dX12_asks_43 : decode cX12_asks 43 = .ok (.aload_n 0, 1) := by decide +kernel
theorem dX12_asks_44 : decode cX12_asks 44 = .ok (.iload_n 2, 1) := by decide +kernel
theorem dX12_asks_45 : decode cX12_asks 45 = .ok (.invokevirtual 227, 3) := by decide +kernel
theorem dX12_asks_48 : decode cX12_asks 48 = .ok (.iastore, 1) := by decide +kernel
theorem dX12_asks_49 : decode cX12_asks 49 = .ok (.aload_n 0, 1) := by decide +kernel
theorem dX12_asks_50 : decode cX12_asks 50 = .ok (.getfield 59, 3) := by decide +kernel
theorem dX12_asks_53 : decode cX12_asks 53 = .ok (.iconst 5, 1) := by decide +kernel
theorem dX12_asks_54 : decode cX12_asks 54 = .ok (.aload_n 0, 1) := by decide +kernel
theorem dX12_asks_55 : decode cX12_asks 55 = .ok (.getfield 7, 3) := by decide +kernel
theorem dX12_asks_58 : decode cX12_asks 58 = .ok (.bipush 96, 2) := by decide +kernel
theorem dX12_asks_60 : decode cX12_asks 60 = .ok (.iload_n 2, 1) := by decide +kernel
theorem dX12_asks_61 : decode cX12_asks 61 = .ok (.iadd, 1) := by decide +kernel
theorem dX12_asks_62 : decode cX12_asks 62 = .ok (.iaload, 1) := by decide +kernel
theorem dX12_asks_63 : decode cX12_asks 63 = .ok (.iastore, 1) := by decide +kernel
theorem dX12_asks_64 : decode cX12_asks 64 = .ok (.aload_n 0, 1) := by decide +kernel
theorem dX12_asks_65 : decode cX12_asks 65 = .ok (.getfield 59, 3) := by decide +kernel
theorem dX12_asks_68 : decode cX12_asks 68 = .ok (.bipush 6, 2) := by decide +kernel
theorem dX12_asks_70 : decode cX12_asks 70 = .ok (.iload_n 3, 1) := by decide +kernel
theorem dX12_asks_71 : decode cX12_asks 71 = .ok (.iastore, 1) := by decide +kernel
theorem dX12_asks_72 : decode cX12_asks 72 = .ok (.aload_n 0, 1) := by decide +kernel
theorem dX12_asks_73 : decode cX12_asks 73 = .ok (.getfield 59, 3) := by decide +kernel
theorem dX12_asks_76 : decode cX12_asks 76 = .ok (.bipush 7, 2) := by decide +kernel
theorem dX12_asks_78 : decode cX12_asks 78 = .ok (.aload_n 0, 1) := by decide +kernel
theorem dX12_asks_79 : decode cX12_asks 79 = .ok (.getfield 7, 3) := by decide +kernel
theorem dX12_asks_82 : decode cX12_asks 82 = .ok (.sipush 697, 3) := by decide +kernel
theorem dX12_asks_85 : decode cX12_asks 85 = .ok (.iaload, 1) := by decide +kernel
theorem dX12_asks_86 : decode cX12_asks 86 = .ok (.bipush 24, 2) := by decide +kernel
theorem dX12_asks_88 : decode cX12_asks 88 = .ok (.irem, 1) := by decide +kernel
theorem dX12_asks_89 : decode cX12_asks 89 = .ok (.iastore, 1) := by decide +kernel
theorem dX12_asks_90 : decode cX12_asks 90 = .ok (.return_, 1) := by decide +kernel
theorem dX12_readsAmount_0 : decode cX12_readsAmount 0 = .ok (.aload_n 0, 1) := by decide +kernel
theorem dX12_readsAmount_1 : decode cX12_readsAmount 1 = .ok (.getfield 123, 3) := by decide +kernel
theorem dX12_readsAmount_4 : decode cX12_readsAmount 4 = .ok (.istore_n 2, 1) := by decide +kernel
theorem dX12_readsAmount_5 : decode cX12_readsAmount 5 = .ok (.aload_n 0, 1) := by decide +kernel
theorem dX12_readsAmount_6 : decode cX12_readsAmount 6 = .ok (.invokevirtual 143, 3) := by decide +kernel
theorem dX12_readsAmount_9 : decode cX12_readsAmount 9 = .ok (.ifCond .ne 13, 3) := by decide +kernel
theorem dX12_readsAmount_12 : decode cX12_readsAmount 12 = .ok (.aload_n 0, 1) := by decide +kernel
theorem dX12_readsAmount_13 : decode cX12_readsAmount 13 = .ok (.iconst 1, 1) := by decide +kernel
theorem dX12_readsAmount_14 : decode cX12_readsAmount 14 = .ok (.aload_n 0, 1) := by decide +kernel
theorem dX12_readsAmount_15 : decode cX12_readsAmount 15 = .ok (.getfield 123, 3) := by decide +kernel
theorem dX12_readsAmount_18 : decode cX12_readsAmount 18 = .ok (.invokevirtual 136, 3) := by decide +kernel
theorem dX12_readsAmount_21 : decode cX12_readsAmount 21 = .ok (.ireturn, 1) := by decide +kernel
theorem dX12_readsAmount_22 : decode cX12_readsAmount 22 = .ok (.aload_n 0, 1) := by decide +kernel
theorem dX12_readsAmount_23 : decode cX12_readsAmount 23 = .ok (.iconst 0, 1) := by decide +kernel
theorem dX12_readsAmount_24 : decode cX12_readsAmount 24 = .ok (.putfield 140, 3) := by decide +kernel
theorem dX12_readsAmount_27 : decode cX12_readsAmount 27 = .ok (.aload_n 0, 1) := by decide +kernel
theorem dX12_readsAmount_28 : decode cX12_readsAmount 28 = .ok (.invokevirtual 143, 3) := by decide +kernel
theorem dX12_readsAmount_31 : decode cX12_readsAmount 31 = .ok (.ifCond .eq 55, 3) := by decide +kernel
theorem dX12_readsAmount_34 : decode cX12_readsAmount 34 = .ok (.aload_n 0, 1) := by decide +kernel
theorem dX12_readsAmount_35 : decode cX12_readsAmount 35 = .ok (.getfield 123, 3) := by decide +kernel
theorem dX12_readsAmount_38 : decode cX12_readsAmount 38 = .ok (.iload_n 2, 1) := by decide +kernel
theorem dX12_readsAmount_39 : decode cX12_readsAmount 39 = .ok (.iload_n 1, 1) := by decide +kernel
theorem dX12_readsAmount_40 : decode cX12_readsAmount 40 = .ok (.iadd, 1) := by decide +kernel
theorem dX12_readsAmount_41 : decode cX12_readsAmount 41 = .ok (.if_icmp .ne 13, 3) := by decide +kernel
theorem dX12_readsAmount_44 : decode cX12_readsAmount 44 = .ok (.aload_n 0, 1) := by decide +kernel
theorem dX12_readsAmount_45 : decode cX12_readsAmount 45 = .ok (.iconst 2, 1) := by decide +kernel
theorem dX12_readsAmount_46 : decode cX12_readsAmount 46 = .ok (.aload_n 0, 1) := by decide +kernel
theorem dX12_readsAmount_47 : decode cX12_readsAmount 47 = .ok (.getfield 123, 3) := by decide +kernel
theorem dX12_readsAmount_50 : decode cX12_readsAmount 50 = .ok (.invokevirtual 136, 3) := by decide +kernel
theorem dX12_readsAmount_53 : decode cX12_readsAmount 53 = .ok (.ireturn, 1) := by decide +kernel
theorem dX12_readsAmount_54 : decode cX12_readsAmount 54 = .ok (.aload_n 0, 1) := by decide +kernel
theorem dX12_readsAmount_55 : decode cX12_readsAmount 55 = .ok (.bipush 10, 2) := by decide +kernel
theorem dX12_readsAmount_57 : decode cX12_readsAmount 57 = .ok (.aload_n 0, 1) := by decide +kernel
theorem dX12_readsAmount_58 : decode cX12_readsAmount 58 = .ok (.getfield 140, 3) := by decide +kernel
theorem dX12_readsAmount_61 : decode cX12_readsAmount 61 = .ok (.imul, 1) := by decide +kernel
theorem dX12_readsAmount_62 : decode cX12_readsAmount 62 = .ok (.aload_n 0, 1) := by decide +kernel
theorem dX12_readsAmount_63 : decode cX12_readsAmount 63 = .ok (.invokevirtual 129, 3) := by decide +kernel
theorem dX12_readsAmount_66 : decode cX12_readsAmount 66 = .ok (.iadd, 1) := by decide +kernel
theorem dX12_readsAmount_67 : decode cX12_readsAmount 67 = .ok (.bipush 48, 2) := by decide +kernel
theorem dX12_readsAmount_69 : decode cX12_readsAmount 69 = .ok (.isub, 1) := by decide +kernel
theorem dX12_readsAmount_70 : decode cX12_readsAmount 70 = .ok (.putfield 140, 3) := by decide +kernel
theorem dX12_readsAmount_73 : decode cX12_readsAmount 73 = .ok (.aload_n 0, 1) := by decide +kernel
theorem dX12_readsAmount_74 : decode cX12_readsAmount 74 = .ok (.aload_n 0, 1) := by decide +kernel
theorem dX12_readsAmount_75 : decode cX12_readsAmount 75 = .ok (.getfield 123, 3) := by decide +kernel
theorem dX12_readsAmount_78 : decode cX12_readsAmount 78 = .ok (.iconst 1, 1) := by decide +kernel
theorem dX12_readsAmount_79 : decode cX12_readsAmount 79 = .ok (.iadd, 1) := by decide +kernel
theorem dX12_readsAmount_80 : decode cX12_readsAmount 80 = .ok (.putfield 123, 3) := by decide +kernel
theorem dX12_readsAmount_83 : decode cX12_readsAmount 83 = .ok (.goto (-56), 3) := by decide +kernel
theorem dX12_readsAmount_86 : decode cX12_readsAmount 86 = .ok (.iconst 1, 1) := by decide +kernel
theorem dX12_readsAmount_87 : decode cX12_readsAmount 87 = .ok (.ireturn, 1) := by decide +kernel
theorem dX12_readsRoom_0 : decode cX12_readsRoom 0 = .ok (.aload_n 0, 1) := by decide +kernel
theorem dX12_readsRoom_1 : decode cX12_readsRoom 1 = .ok (.getfield 123, 3) := by decide +kernel
theorem dX12_readsRoom_4 : decode cX12_readsRoom 4 = .ok (.istore_n 1, 1) := by decide +kernel
theorem dX12_readsRoom_5 : decode cX12_readsRoom 5 = .ok (.aload_n 0, 1) := by decide +kernel
theorem dX12_readsRoom_6 : decode cX12_readsRoom 6 = .ok (.iconst 2, 1) := by decide +kernel
theorem dX12_readsRoom_7 : decode cX12_readsRoom 7 = .ok (.invokevirtual 230, 3) := by decide +kernel
theorem dX12_readsRoom_10 : decode cX12_readsRoom 10 = .ok (.ifCond .eq 26, 3) := by decide +kernel
theorem dX12_readsRoom_13 : decode cX12_readsRoom 13 = .ok (.aload_n 0, 1) := by decide +kernel
theorem dX12_readsRoom_14 : decode cX12_readsRoom 14 = .ok (.getfield 140, 3) := by decide +kernel
theorem dX12_readsRoom_17 : decode cX12_readsRoom 17 = .ok (.invokestatic 107, 3) := by decide +kernel
theorem dX12_readsRoom_20 : decode cX12_readsRoom 20 = .ok (.ifCond .ne 12, 3) := by decide +kernel
theorem dX12_readsRoom_23 : decode cX12_readsRoom 23 = .ok (.aload_n 0, 1) := by decide +kernel
theorem dX12_readsRoom_24 : decode cX12_readsRoom 24 = .ok (.iconst 3, 1) := by decide +kernel
theorem dX12_readsRoom_25 : decode cX12_readsRoom 25 = .ok (.iload_n 1, 1) := by decide +kernel
theorem dX12_readsRoom_26 : decode cX12_readsRoom 26 = .ok (.invokevirtual 136, 3) := by decide +kernel
theorem dX12_readsRoom_29 : decode cX12_readsRoom 29 = .ok (.ifCond .eq 7, 3) := by decide +kernel
theorem dX12_readsRoom_32 : decode cX12_readsRoom 32 = .ok (.iconst 1, 1) := by decide +kernel
theorem dX12_readsRoom_33 : decode cX12_readsRoom 33 = .ok (.goto 4, 3) := by decide +kernel
theorem dX12_readsRoom_36 : decode cX12_readsRoom 36 = .ok (.iconst 0, 1) := by decide +kernel
theorem dX12_readsRoom_37 : decode cX12_readsRoom 37 = .ok (.ireturn, 1) := by decide +kernel
theorem dX12_swaps_0 : decode cX12_swaps 0 = .ok (.aload_n 0, 1) := by decide +kernel
theorem dX12_swaps_1 : decode cX12_swaps 1 = .ok (.getfield 7, 3) := by decide +kernel
theorem dX12_swaps_4 : decode cX12_swaps 4 = .ok (.iload_n 1, 1) := by decide +kernel
theorem dX12_swaps_5 : decode cX12_swaps 5 = .ok (.iaload, 1) := by decide +kernel
theorem dX12_swaps_6 : decode cX12_swaps 6 = .ok (.istore_n 3, 1) := by decide +kernel
theorem dX12_swaps_7 : decode cX12_swaps 7 = .ok (.aload_n 0, 1) := by decide +kernel
theorem dX12_swaps_8 : decode cX12_swaps 8 = .ok (.getfield 7, 3) := by decide +kernel
theorem dX12_swaps_11 : decode cX12_swaps 11 = .ok (.iload_n 1, 1) := by decide +kernel
theorem dX12_swaps_12 : decode cX12_swaps 12 = .ok (.aload_n 0, 1) := by decide +kernel
theorem dX12_swaps_13 : decode cX12_swaps 13 = .ok (.getfield 7, 3) := by decide +kernel
theorem dX12_swaps_16 : decode cX12_swaps 16 = .ok (.iload_n 2, 1) := by decide +kernel
theorem dX12_swaps_17 : decode cX12_swaps 17 = .ok (.iaload, 1) := by decide +kernel
theorem dX12_swaps_18 : decode cX12_swaps 18 = .ok (.iastore, 1) := by decide +kernel
theorem dX12_swaps_19 : decode cX12_swaps 19 = .ok (.aload_n 0, 1) := by decide +kernel
theorem dX12_swaps_20 : decode cX12_swaps 20 = .ok (.getfield 7, 3) := by decide +kernel
theorem dX12_swaps_23 : decode cX12_swaps 23 = .ok (.iload_n 2, 1) := by decide +kernel
theorem dX12_swaps_24 : decode cX12_swaps 24 = .ok (.iload_n 3, 1) := by decide +kernel
theorem dX12_swaps_25 : decode cX12_swaps 25 = .ok (.iastore, 1) := by decide +kernel
theorem dX12_swaps_26 : decode cX12_swaps 26 = .ok (.return_, 1) := by decide +kernel
theorem dX12_changes_0 : decode cX12_changes 0 = .ok (.aload_n 0, 1) := by decide +kernel
theorem dX12_changes_1 : decode cX12_changes 1 = .ok (.iconst 0, 1) := by decide +kernel
theorem dX12_changes_2 : decode cX12_changes 2 = .ok (.iload_n 1, 1) := by decide +kernel
theorem dX12_changes_3 : decode cX12_changes 3 = .ok (.iadd, 1) := by decide +kernel
theorem dX12_changes_4 : decode cX12_changes 4 = .ok (.iconst 0, 1) := by decide +kernel
theorem dX12_changes_5 : decode cX12_changes 5 = .ok (.iload_n 2, 1) := by decide +kernel
theorem dX12_changes_6 : decode cX12_changes 6 = .ok (.iadd, 1) := by decide +kernel
theorem dX12_changes_7 : decode cX12_changes 7 = .ok (.invokevirtual 233, 3) := by decide +kernel
theorem dX12_changes_10 : decode cX12_changes 10 = .ok (.aload_n 0, 1) := by decide +kernel
theorem dX12_changes_11 : decode cX12_changes 11 = .ok (.bipush 24, 2) := by decide +kernel
theorem dX12_changes_13 : decode cX12_changes 13 = .ok (.iload_n 1, 1) := by decide +kernel
theorem dX12_changes_14 : decode cX12_changes 14 = .ok (.iadd, 1) := by decide +kernel
theorem dX12_changes_15 : decode cX12_changes 15 = .ok (.bipush 24, 2) := by decide +kernel
theorem dX12_changes_17 : decode cX12_changes 17 = .ok (.iload_n 2, 1) := by decide +kernel
theorem dX12_changes_18 : decode cX12_changes 18 = .ok (.iadd, 1) := by decide +kernel
theorem dX12_changes_19 : decode cX12_changes 19 = .ok (.invokevirtual 233, 3) := by decide +kernel
theorem dX12_changes_22 : decode cX12_changes 22 = .ok (.iconst 0, 1) := by decide +kernel
theorem dX12_changes_23 : decode cX12_changes 23 = .ok (.istore_n 3, 1) := by decide +kernel
theorem dX12_changes_24 : decode cX12_changes 24 = .ok (.iload_n 3, 1) := by decide +kernel
theorem dX12_changes_25 : decode cX12_changes 25 = .ok (.bipush 24, 2) := by decide +kernel
theorem dX12_changes_27 : decode cX12_changes 27 = .ok (.if_icmp .ge 23, 3) := by decide +kernel
theorem dX12_changes_30 : decode cX12_changes 30 = .ok (.aload_n 0, 1) := by decide +kernel
theorem dX12_changes_31 : decode cX12_changes 31 = .ok (.iload_n 1, 1) := by decide +kernel
theorem dX12_changes_32 : decode cX12_changes 32 = .ok (.iload_n 3, 1) := by decide +kernel
theorem dX12_changes_33 : decode cX12_changes 33 = .ok (.invokestatic 94, 3) := by decide +kernel
theorem dX12_changes_36 : decode cX12_changes 36 = .ok (.iload_n 2, 1) := by decide +kernel
theorem dX12_changes_37 : decode cX12_changes 37 = .ok (.iload_n 3, 1) := by decide +kernel
theorem dX12_changes_38 : decode cX12_changes 38 = .ok (.invokestatic 94, 3) := by decide +kernel
theorem dX12_changes_41 : decode cX12_changes 41 = .ok (.invokevirtual 233, 3) := by decide +kernel
theorem dX12_changes_44 : decode cX12_changes 44 = .ok (.iinc 3 1, 3) := by decide +kernel
theorem dX12_changes_47 : decode cX12_changes 47 = .ok (.goto (-23), 3) := by decide +kernel
theorem dX12_changes_50 : decode cX12_changes 50 = .ok (.return_, 1) := by decide +kernel
theorem dX12_readsMove_0 : decode cX12_readsMove 0 = .ok (.aload_n 0, 1) := by decide +kernel
theorem dX12_readsMove_1 : decode cX12_readsMove 1 = .ok (.getfield 123, 3) := by decide +kernel
theorem dX12_readsMove_4 : decode cX12_readsMove 4 = .ok (.iconst 1, 1) := by decide +kernel
theorem dX12_readsMove_5 : decode cX12_readsMove 5 = .ok (.isub, 1) := by decide +kernel
theorem dX12_readsMove_6 : decode cX12_readsMove 6 = .ok (.istore_n 2, 1) := by decide +kernel
theorem dX12_readsMove_7 : decode cX12_readsMove 7 = .ok (.aload_n 0, 1) := by decide +kernel
theorem dX12_readsMove_8 : decode cX12_readsMove 8 = .ok (.invokevirtual 236, 3) := by decide +kernel
theorem dX12_readsMove_11 : decode cX12_readsMove 11 = .ok (.ifCond .ne 5, 3) := by decide +kernel
theorem dX12_readsMove_14 : decode cX12_readsMove 14 = .ok (.iconst 0, 1) := by decide +kernel
theorem dX12_readsMove_15 : decode cX12_readsMove 15 = .ok (.ireturn, 1) := by decide +kernel
theorem dX12_readsMove_16 : decode cX12_readsMove 16 = .ok (.aload_n 0, 1) := by decide +kernel
theorem dX12_readsMove_17 : decode cX12_readsMove 17 = .ok (.getfield 7, 3) := by decide +kernel
theorem dX12_readsMove_20 : decode cX12_readsMove 20 = .ok (.iconst 0, 1) := by decide +kernel
theorem dX12_readsMove_21 : decode cX12_readsMove 21 = .ok (.iload_n 1, 1) := by decide +kernel
theorem dX12_readsMove_22 : decode cX12_readsMove 22 = .ok (.iadd, 1) := by decide +kernel
theorem dX12_readsMove_23 : decode cX12_readsMove 23 = .ok (.iaload, 1) := by decide +kernel
theorem dX12_readsMove_24 : decode cX12_readsMove 24 = .ok (.aload_n 0, 1) := by decide +kernel
theorem dX12_readsMove_25 : decode cX12_readsMove 25 = .ok (.getfield 7, 3) := by decide +kernel
theorem dX12_readsMove_28 : decode cX12_readsMove 28 = .ok (.iconst 0, 1) := by decide +kernel
theorem dX12_readsMove_29 : decode cX12_readsMove 29 = .ok (.aload_n 0, 1) := by decide +kernel
theorem dX12_readsMove_30 : decode cX12_readsMove 30 = .ok (.getfield 140, 3) := by decide +kernel
theorem dX12_readsMove_33 : decode cX12_readsMove 33 = .ok (.iadd, 1) := by decide +kernel
theorem dX12_readsMove_34 : decode cX12_readsMove 34 = .ok (.iaload, 1) := by decide +kernel
theorem dX12_readsMove_35 : decode cX12_readsMove 35 = .ok (.iadd, 1) := by decide +kernel
theorem dX12_readsMove_36 : decode cX12_readsMove 36 = .ok (.ifCond .ne 11, 3) := by decide +kernel
theorem dX12_readsMove_39 : decode cX12_readsMove 39 = .ok (.aload_n 0, 1) := by decide +kernel
theorem dX12_readsMove_40 : decode cX12_readsMove 40 = .ok (.bipush 7, 2) := by decide +kernel
theorem dX12_readsMove_42 : decode cX12_readsMove 42 = .ok (.iload_n 2, 1) := by decide +kernel
theorem dX12_readsMove_43 : decode cX12_readsMove 43 = .ok (.invokevirtual 136, 3) := by decide +kernel
theorem dX12_readsMove_46 : decode cX12_readsMove 46 = .ok (.ireturn, 1) := by decide +kernel
theorem dX12_readsMove_47 : decode cX12_readsMove 47 = .ok (.aload_n 0, 1) := by decide +kernel
theorem dX12_readsMove_48 : decode cX12_readsMove 48 = .ok (.iload_n 1, 1) := by decide +kernel
theorem dX12_readsMove_49 : decode cX12_readsMove 49 = .ok (.aload_n 0, 1) := by decide +kernel
theorem dX12_readsMove_50 : decode cX12_readsMove 50 = .ok (.getfield 140, 3) := by decide +kernel
theorem dX12_readsMove_53 : decode cX12_readsMove 53 = .ok (.invokevirtual 239, 3) := by decide +kernel
theorem dX12_readsMove_56 : decode cX12_readsMove 56 = .ok (.iconst 1, 1) := by decide +kernel
theorem dX12_readsMove_57 : decode cX12_readsMove 57 = .ok (.ireturn, 1) := by decide +kernel
theorem dX12_readsLine_0 : decode cX12_readsLine 0 = .ok (.aload_n 0, 1) := by decide +kernel
theorem dX12_readsLine_1 : decode cX12_readsLine 1 = .ok (.invokevirtual 143, 3) := by decide +kernel
theorem dX12_readsLine_4 : decode cX12_readsLine 4 = .ok (.ifCond .ne 13, 3) := by decide +kernel
theorem dX12_readsLine_7 : decode cX12_readsLine 7 = .ok (.aload_n 0, 1) := by decide +kernel
theorem dX12_readsLine_8 : decode cX12_readsLine 8 = .ok (.iconst 1, 1) := by decide +kernel
theorem dX12_readsLine_9 : decode cX12_readsLine 9 = .ok (.aload_n 0, 1) := by decide +kernel
theorem dX12_readsLine_10 : decode cX12_readsLine 10 = .ok (.getfield 123, 3) := by decide +kernel
theorem dX12_readsLine_13 : decode cX12_readsLine 13 = .ok (.invokevirtual 136, 3) := by decide +kernel
theorem dX12_readsLine_16 : decode cX12_readsLine 16 = .ok (.ireturn, 1) := by decide +kernel
theorem dX12_readsLine_17 : decode cX12_readsLine 17 = .ok (.aload_n 0, 1) := by decide +kernel
theorem dX12_readsLine_18 : decode cX12_readsLine 18 = .ok (.getfield 242, 3) := by decide +kernel
theorem dX12_readsLine_21 : decode cX12_readsLine 21 = .ok (.bipush 20, 2) := by decide +kernel
theorem dX12_readsLine_23 : decode cX12_readsLine 23 = .ok (.if_icmp .ne 13, 3) := by decide +kernel
theorem dX12_readsLine_26 : decode cX12_readsLine 26 = .ok (.aload_n 0, 1) := by decide +kernel
theorem dX12_readsLine_27 : decode cX12_readsLine 27 = .ok (.iconst 4, 1) := by decide +kernel
theorem dX12_readsLine_28 : decode cX12_readsLine 28 = .ok (.aload_n 0, 1) := by decide +kernel
theorem dX12_readsLine_29 : decode cX12_readsLine 29 = .ok (.getfield 123, 3) := by decide +kernel
theorem dX12_readsLine_32 : decode cX12_readsLine 32 = .ok (.invokevirtual 136, 3) := by decide +kernel
theorem dX12_readsLine_35 : decode cX12_readsLine 35 = .ok (.ireturn, 1) := by decide +kernel
theorem dX12_readsLine_36 : decode cX12_readsLine 36 = .ok (.aload_n 0, 1) := by decide +kernel
theorem dX12_readsLine_37 : decode cX12_readsLine 37 = .ok (.aload_n 0, 1) := by decide +kernel
theorem dX12_readsLine_38 : decode cX12_readsLine 38 = .ok (.getfield 242, 3) := by decide +kernel
theorem dX12_readsLine_41 : decode cX12_readsLine 41 = .ok (.iconst 1, 1) := by decide +kernel
theorem dX12_readsLine_42 : decode cX12_readsLine 42 = .ok (.iadd, 1) := by decide +kernel
theorem dX12_readsLine_43 : decode cX12_readsLine 43 = .ok (.putfield 242, 3) := by decide +kernel
theorem dX12_readsLine_46 : decode cX12_readsLine 46 = .ok (.aload_n 0, 1) := by decide +kernel
theorem dX12_readsLine_47 : decode cX12_readsLine 47 = .ok (.invokevirtual 236, 3) := by decide +kernel
theorem dX12_readsLine_50 : decode cX12_readsLine 50 = .ok (.ifCond .ne 5, 3) := by decide +kernel
theorem dX12_readsLine_53 : decode cX12_readsLine 53 = .ok (.iconst 0, 1) := by decide +kernel
theorem dX12_readsLine_54 : decode cX12_readsLine 54 = .ok (.ireturn, 1) := by decide +kernel
theorem dX12_readsLine_55 : decode cX12_readsLine 55 = .ok (.aload_n 0, 1) := by decide +kernel
theorem dX12_readsLine_56 : decode cX12_readsLine 56 = .ok (.getfield 140, 3) := by decide +kernel
theorem dX12_readsLine_59 : decode cX12_readsLine 59 = .ok (.istore_n 1, 1) := by decide +kernel
theorem dX12_readsLine_60 : decode cX12_readsLine 60 = .ok (.aload_n 0, 1) := by decide +kernel
theorem dX12_readsLine_61 : decode cX12_readsLine 61 = .ok (.invokevirtual 129, 3) := by decide +kernel
theorem dX12_readsLine_64 : decode cX12_readsLine 64 = .ok (.istore_n 2, 1) := by decide +kernel
theorem dX12_readsLine_65 : decode cX12_readsLine 65 = .ok (.iload_n 2, 1) := by decide +kernel
theorem dX12_readsLine_66 : decode cX12_readsLine 66 = .ok (.bipush 33, 2) := by decide +kernel
theorem dX12_readsLine_68 : decode cX12_readsLine 68 = .ok (.if_icmp .ne 25, 3) := by decide +kernel
theorem dX12_readsLine_71 : decode cX12_readsLine 71 = .ok (.aload_n 0, 1) := by decide +kernel
theorem dX12_readsLine_72 : decode cX12_readsLine 72 = .ok (.getfield 7, 3) := by decide +kernel
theorem dX12_readsLine_75 : decode cX12_readsLine 75 = .ok (.iconst 0, 1) := by decide +kernel
theorem dX12_readsLine_76 : decode cX12_readsLine 76 = .ok (.iload_n 1, 1) := by decide +kernel
theorem dX12_readsLine_77 : decode cX12_readsLine 77 = .ok (.iadd, 1) := by decide +kernel
theorem dX12_readsLine_78 : decode cX12_readsLine 78 = .ok (.iaload, 1) := by decide +kernel
theorem dX12_readsLine_79 : decode cX12_readsLine 79 = .ok (.ifCond .ne 14, 3) := by decide +kernel
theorem dX12_readsLine_82 : decode cX12_readsLine 82 = .ok (.aload_n 0, 1) := by decide +kernel
theorem dX12_readsLine_83 : decode cX12_readsLine 83 = .ok (.bipush 7, 2) := by decide +kernel
theorem dX12_readsLine_85 : decode cX12_readsLine 85 = .ok (.aload_n 0, 1) := by decide +kernel
theorem dX12_readsLine_86 : decode cX12_readsLine 86 = .ok (.getfield 123, 3) := by decide +kernel
theorem dX12_readsLine_89 : decode cX12_readsLine 89 = .ok (.invokevirtual 136, 3) := by decide +kernel
theorem dX12_readsLine_92 : decode cX12_readsLine 92 = .ok (.ireturn, 1) := by decide +kernel
theorem dX12_readsLine_93 : decode cX12_readsLine 93 = .ok (.aload_n 0, 1) := by decide +kernel
theorem dX12_readsLine_94 : decode cX12_readsLine 94 = .ok (.aload_n 0, 1) := by decide +kernel
theorem dX12_readsLine_95 : decode cX12_readsLine 95 = .ok (.getfield 123, 3) := by decide +kernel
theorem dX12_readsLine_98 : decode cX12_readsLine 98 = .ok (.iconst 1, 1) := by decide +kernel
theorem dX12_readsLine_99 : decode cX12_readsLine 99 = .ok (.iadd, 1) := by decide +kernel
theorem dX12_readsLine_100 : decode cX12_readsLine 100 = .ok (.putfield 123, 3) := by decide +kernel
theorem dX12_readsLine_103 : decode cX12_readsLine 103 = .ok (.iload_n 2, 1) := by decide +kernel
theorem dX12_readsLine_104 : decode cX12_readsLine 104 = .ok (.lookupswitch 173 #[(33, 98), (60, 131), (61, 76), (62, 155), (64, 167), (111, 107), (115, 119), (124, 143)], 76) := by decide +kernel
theorem dX12_readsLine_180 : decode cX12_readsLine 180 = .ok (.aload_n 0, 1) := by decide +kernel
theorem dX12_readsLine_181 : decode cX12_readsLine 181 = .ok (.iconst 4, 1) := by decide +kernel
theorem dX12_readsLine_182 : decode cX12_readsLine 182 = .ok (.invokevirtual 230, 3) := by decide +kernel
theorem dX12_readsLine_185 : decode cX12_readsLine 185 = .ok (.ifCond .ne 5, 3) := by decide +kernel
theorem dX12_readsLine_188 : decode cX12_readsLine 188 = .ok (.iconst 0, 1) := by decide +kernel
theorem dX12_readsLine_189 : decode cX12_readsLine 189 = .ok (.ireturn, 1) := by decide +kernel
theorem dX12_readsLine_190 : decode cX12_readsLine 190 = .ok (.aload_n 0, 1) := by decide +kernel
theorem dX12_readsLine_191 : decode cX12_readsLine 191 = .ok (.iload_n 1, 1) := by decide +kernel
theorem dX12_readsLine_192 : decode cX12_readsLine 192 = .ok (.iconst 1, 1) := by decide +kernel
theorem dX12_readsLine_193 : decode cX12_readsLine 193 = .ok (.aload_n 0, 1) := by decide +kernel
theorem dX12_readsLine_194 : decode cX12_readsLine 194 = .ok (.getfield 140, 3) := by decide +kernel
theorem dX12_readsLine_197 : decode cX12_readsLine 197 = .ok (.invokevirtual 111, 3) := by decide +kernel
theorem dX12_readsLine_200 : decode cX12_readsLine 200 = .ok (.iconst 1, 1) := by decide +kernel
theorem dX12_readsLine_201 : decode cX12_readsLine 201 = .ok (.ireturn, 1) := by decide +kernel
theorem dX12_readsLine_202 : decode cX12_readsLine 202 = .ok (.aload_n 0, 1) := by decide +kernel
theorem dX12_readsLine_203 : decode cX12_readsLine 203 = .ok (.iload_n 1, 1) := by decide +kernel
theorem dX12_readsLine_204 : decode cX12_readsLine 204 = .ok (.iconst 0, 1) := by decide +kernel
theorem dX12_readsLine_205 : decode cX12_readsLine 205 = .ok (.iconst 0, 1) := by decide +kernel
theorem dX12_readsLine_206 : decode cX12_readsLine 206 = .ok (.invokevirtual 111, 3) := by decide +kernel
theorem dX12_readsLine_209 : decode cX12_readsLine 209 = .ok (.iconst 1, 1) := by decide +kernel
theorem dX12_readsLine_210 : decode cX12_readsLine 210 = .ok (.ireturn, 1) := by decide +kernel
theorem dX12_readsLine_211 : decode cX12_readsLine 211 = .ok (.aload_n 0, 1) := by decide +kernel
theorem dX12_readsLine_212 : decode cX12_readsLine 212 = .ok (.getfield 7, 3) := by decide +kernel
theorem dX12_readsLine_215 : decode cX12_readsLine 215 = .ok (.bipush 48, 2) := by decide +kernel
theorem dX12_readsLine_217 : decode cX12_readsLine 217 = .ok (.iload_n 1, 1) := by decide +kernel
theorem dX12_readsLine_218 : decode cX12_readsLine 218 = .ok (.iadd, 1) := by decide +kernel
theorem dX12_readsLine_219 : decode cX12_readsLine 219 = .ok (.iconst 1, 1) := by decide +kernel
theorem dX12_readsLine_220 : decode cX12_readsLine 220 = .ok (.iastore, 1) := by decide +kernel
theorem dX12_readsLine_221 : decode cX12_readsLine 221 = .ok (.iconst 1, 1) := by decide +kernel
theorem dX12_readsLine_222 : decode cX12_readsLine 222 = .ok (.ireturn, 1) := by decide +kernel
theorem dX12_readsLine_223 : decode cX12_readsLine 223 = .ok (.aload_n 0, 1) := by decide +kernel
theorem dX12_readsLine_224 : decode cX12_readsLine 224 = .ok (.getfield 7, 3) := by decide +kernel
theorem dX12_readsLine_227 : decode cX12_readsLine 227 = .ok (.bipush 48, 2) := by decide +kernel
theorem dX12_readsLine_229 : decode cX12_readsLine 229 = .ok (.iload_n 1, 1) := by decide +kernel
theorem dX12_readsLine_230 : decode cX12_readsLine 230 = .ok (.iadd, 1) := by decide +kernel
theorem dX12_readsLine_231 : decode cX12_readsLine 231 = .ok (.iconst 0, 1) := by decide +kernel
theorem dX12_readsLine_232 : decode cX12_readsLine 232 = .ok (.iastore, 1) := by decide +kernel
theorem dX12_readsLine_233 : decode cX12_readsLine 233 = .ok (.iconst 1, 1) := by decide +kernel
theorem dX12_readsLine_234 : decode cX12_readsLine 234 = .ok (.ireturn, 1) := by decide +kernel
theorem dX12_readsLine_235 : decode cX12_readsLine 235 = .ok (.aload_n 0, 1) := by decide +kernel
theorem dX12_readsLine_236 : decode cX12_readsLine 236 = .ok (.getfield 7, 3) := by decide +kernel
theorem dX12_readsLine_239 : decode cX12_readsLine 239 = .ok (.bipush 72, 2) := by decide +kernel
theorem dX12_readsLine_241 : decode cX12_readsLine 241 = .ok (.iload_n 1, 1) := by decide +kernel
theorem dX12_readsLine_242 : decode cX12_readsLine 242 = .ok (.iadd, 1) := by decide +kernel
theorem dX12_readsLine_243 : decode cX12_readsLine 243 = .ok (.iconst 0, 1) := by decide +kernel
theorem dX12_readsLine_244 : decode cX12_readsLine 244 = .ok (.iastore, 1) := by decide +kernel
theorem dX12_readsLine_245 : decode cX12_readsLine 245 = .ok (.iconst 1, 1) := by decide +kernel
theorem dX12_readsLine_246 : decode cX12_readsLine 246 = .ok (.ireturn, 1) := by decide +kernel
theorem dX12_readsLine_247 : decode cX12_readsLine 247 = .ok (.aload_n 0, 1) := by decide +kernel
theorem dX12_readsLine_248 : decode cX12_readsLine 248 = .ok (.getfield 7, 3) := by decide +kernel
theorem dX12_readsLine_251 : decode cX12_readsLine 251 = .ok (.bipush 72, 2) := by decide +kernel
theorem dX12_readsLine_253 : decode cX12_readsLine 253 = .ok (.iload_n 1, 1) := by decide +kernel
theorem dX12_readsLine_254 : decode cX12_readsLine 254 = .ok (.iadd, 1) := by decide +kernel
theorem dX12_readsLine_255 : decode cX12_readsLine 255 = .ok (.iconst 1, 1) := by decide +kernel
theorem dX12_readsLine_256 : decode cX12_readsLine 256 = .ok (.iastore, 1) := by decide +kernel
theorem dX12_readsLine_257 : decode cX12_readsLine 257 = .ok (.iconst 1, 1) := by decide +kernel
theorem dX12_readsLine_258 : decode cX12_readsLine 258 = .ok (.ireturn, 1) := by decide +kernel
theorem dX12_readsLine_259 : decode cX12_readsLine 259 = .ok (.aload_n 0, 1) := by decide +kernel
theorem dX12_readsLine_260 : decode cX12_readsLine 260 = .ok (.getfield 7, 3) := by decide +kernel
theorem dX12_readsLine_263 : decode cX12_readsLine 263 = .ok (.bipush 72, 2) := by decide +kernel
theorem dX12_readsLine_265 : decode cX12_readsLine 265 = .ok (.iload_n 1, 1) := by decide +kernel
theorem dX12_readsLine_266 : decode cX12_readsLine 266 = .ok (.iadd, 1) := by decide +kernel
theorem dX12_readsLine_267 : decode cX12_readsLine 267 = .ok (.iconst 2, 1) := by decide +kernel
theorem dX12_readsLine_268 : decode cX12_readsLine 268 = .ok (.iastore, 1) := by decide +kernel
theorem dX12_readsLine_269 : decode cX12_readsLine 269 = .ok (.iconst 1, 1) := by decide +kernel
theorem dX12_readsLine_270 : decode cX12_readsLine 270 = .ok (.ireturn, 1) := by decide +kernel
theorem dX12_readsLine_271 : decode cX12_readsLine 271 = .ok (.aload_n 0, 1) := by decide +kernel
theorem dX12_readsLine_272 : decode cX12_readsLine 272 = .ok (.iload_n 1, 1) := by decide +kernel
theorem dX12_readsLine_273 : decode cX12_readsLine 273 = .ok (.invokevirtual 245, 3) := by decide +kernel
theorem dX12_readsLine_276 : decode cX12_readsLine 276 = .ok (.ireturn, 1) := by decide +kernel
theorem dX12_readsLine_277 : decode cX12_readsLine 277 = .ok (.aload_n 0, 1) := by decide +kernel
theorem dX12_readsLine_278 : decode cX12_readsLine 278 = .ok (.iconst 1, 1) := by decide +kernel
theorem dX12_readsLine_279 : decode cX12_readsLine 279 = .ok (.aload_n 0, 1) := by decide +kernel
theorem dX12_readsLine_280 : decode cX12_readsLine 280 = .ok (.getfield 123, 3) := by decide +kernel
theorem dX12_readsLine_283 : decode cX12_readsLine 283 = .ok (.iconst 1, 1) := by decide +kernel
theorem dX12_readsLine_284 : decode cX12_readsLine 284 = .ok (.isub, 1) := by decide +kernel
theorem dX12_readsLine_285 : decode cX12_readsLine 285 = .ok (.invokevirtual 136, 3) := by decide +kernel
theorem dX12_readsLine_288 : decode cX12_readsLine 288 = .ok (.ireturn, 1) := by decide +kernel
theorem dX12_register_0 : decode cX12_register 0 = .ok (.iload_n 1, 1) := by decide +kernel
theorem dX12_register_1 : decode cX12_register 1 = .ok (.iconst 1, 1) := by decide +kernel
theorem dX12_register_2 : decode cX12_register 2 = .ok (.bipush 120, 2) := by decide +kernel
theorem dX12_register_4 : decode cX12_register 4 = .ok (.invokestatic 90, 3) := by decide +kernel
theorem dX12_register_7 : decode cX12_register 7 = .ok (.ifCond .eq 11, 3) := by decide +kernel
theorem dX12_register_10 : decode cX12_register 10 = .ok (.iload_n 1, 1) := by decide +kernel
theorem dX12_register_11 : decode cX12_register 11 = .ok (.aload_n 0, 1) := by decide +kernel
theorem dX12_register_12 : decode cX12_register 12 = .ok (.getfield 115, 3) := by decide +kernel
theorem dX12_register_15 : decode cX12_register 15 = .ok (.if_icmp .le 5, 3) := by decide +kernel
theorem dX12_register_18 : decode cX12_register 18 = .ok (.iconst (-1), 1) := by decide +kernel
theorem dX12_register_19 : decode cX12_register 19 = .ok (.ireturn, 1) := by decide +kernel
theorem dX12_register_20 : decode cX12_register 20 = .ok (.aload_n 0, 1) := by decide +kernel
theorem dX12_register_21 : decode cX12_register 21 = .ok (.iload_n 1, 1) := by decide +kernel
theorem dX12_register_22 : decode cX12_register 22 = .ok (.invokevirtual 208, 3) := by decide +kernel
theorem dX12_register_25 : decode cX12_register 25 = .ok (.aload_n 0, 1) := by decide +kernel
theorem dX12_register_26 : decode cX12_register 26 = .ok (.iconst 0, 1) := by decide +kernel
theorem dX12_register_27 : decode cX12_register 27 = .ok (.putfield 242, 3) := by decide +kernel
theorem dX12_register_30 : decode cX12_register 30 = .ok (.aload_n 0, 1) := by decide +kernel
theorem dX12_register_31 : decode cX12_register 31 = .ok (.getfield 7, 3) := by decide +kernel
theorem dX12_register_34 : decode cX12_register 34 = .ok (.aload_n 0, 1) := by decide +kernel
theorem dX12_register_35 : decode cX12_register 35 = .ok (.getfield 13, 3) := by decide +kernel
theorem dX12_register_38 : decode cX12_register 38 = .ok (.invokestatic 248, 3) := by decide +kernel
theorem dX12_register_41 : decode cX12_register 41 = .ok (.aload_n 0, 1) := by decide +kernel
theorem dX12_register_42 : decode cX12_register 42 = .ok (.invokevirtual 252, 3) := by decide +kernel
theorem dX12_register_45 : decode cX12_register 45 = .ok (.istore_n 2, 1) := by decide +kernel
theorem dX12_register_46 : decode cX12_register 46 = .ok (.iload_n 2, 1) := by decide +kernel
theorem dX12_register_47 : decode cX12_register 47 = .ok (.ifCond .eq 39, 3) := by decide +kernel
theorem dX12_register_50 : decode cX12_register 50 = .ok (.aload_n 0, 1) := by decide +kernel
theorem dX12_register_51 : decode cX12_register 51 = .ok (.getfield 123, 3) := by decide +kernel
theorem dX12_register_54 : decode cX12_register 54 = .ok (.aload_n 0, 1) := by decide +kernel
theorem dX12_register_55 : decode cX12_register 55 = .ok (.getfield 126, 3) := by decide +kernel
theorem dX12_register_58 : decode cX12_register 58 = .ok (.if_icmp .ge 28, 3) := by decide +kernel
theorem dX12_register_61 : decode cX12_register 61 = .ok (.aload_n 0, 1) := by decide +kernel
theorem dX12_register_62 : decode cX12_register 62 = .ok (.bipush 59, 2) := by decide +kernel
theorem dX12_register_64 : decode cX12_register 64 = .ok (.invokevirtual 214, 3) := by decide +kernel
theorem dX12_register_67 : decode cX12_register 67 = .ok (.ifCond .eq 14, 3) := by decide +kernel
theorem dX12_register_70 : decode cX12_register 70 = .ok (.aload_n 0, 1) := by decide +kernel
theorem dX12_register_71 : decode cX12_register 71 = .ok (.invokevirtual 252, 3) := by decide +kernel
theorem dX12_register_74 : decode cX12_register 74 = .ok (.ifCond .eq 7, 3) := by decide +kernel
theorem dX12_register_77 : decode cX12_register 77 = .ok (.iconst 1, 1) := by decide +kernel
theorem dX12_register_78 : decode cX12_register 78 = .ok (.goto 4, 3) := by decide +kernel
theorem dX12_register_81 : decode cX12_register 81 = .ok (.iconst 0, 1) := by decide +kernel
theorem dX12_register_82 : decode cX12_register 82 = .ok (.istore_n 2, 1) := by decide +kernel
theorem dX12_register_83 : decode cX12_register 83 = .ok (.goto (-37), 3) := by decide +kernel
theorem dX12_register_86 : decode cX12_register 86 = .ok (.aload_n 0, 1) := by decide +kernel
theorem dX12_register_87 : decode cX12_register 87 = .ok (.iconst 0, 1) := by decide +kernel
theorem dX12_register_88 : decode cX12_register 88 = .ok (.putfield 115, 3) := by decide +kernel
theorem dX12_register_91 : decode cX12_register 91 = .ok (.iload_n 2, 1) := by decide +kernel
theorem dX12_register_92 : decode cX12_register 92 = .ok (.ifCond .eq 8, 3) := by decide +kernel
theorem dX12_register_95 : decode cX12_register 95 = .ok (.aload_n 0, 1) := by decide +kernel
theorem dX12_register_96 : decode cX12_register 96 = .ok (.getfield 242, 3) := by decide +kernel
theorem dX12_register_99 : decode cX12_register 99 = .ok (.ireturn, 1) := by decide +kernel
theorem dX12_register_100 : decode cX12_register 100 = .ok (.aload_n 0, 1) := by decide +kernel
theorem dX12_register_101 : decode cX12_register 101 = .ok (.getfield 13, 3) := by decide +kernel
theorem dX12_register_104 : decode cX12_register 104 = .ok (.aload_n 0, 1) := by decide +kernel
theorem dX12_register_105 : decode cX12_register 105 = .ok (.getfield 7, 3) := by decide +kernel
theorem dX12_register_108 : decode cX12_register 108 = .ok (.invokestatic 248, 3) := by decide +kernel
theorem dX12_register_111 : decode cX12_register 111 = .ok (.aload_n 0, 1) := by decide +kernel
theorem dX12_register_112 : decode cX12_register 112 = .ok (.getfield 133, 3) := by decide +kernel
theorem dX12_register_115 : decode cX12_register 115 = .ok (.ireturn, 1) := by decide +kernel
theorem dX12_rises_0 : decode cX12_rises 0 = .ok (.iload_n 2, 1) := by decide +kernel
theorem dX12_rises_1 : decode cX12_rises 1 = .ok (.istore_n 3, 1) := by decide +kernel
theorem dX12_rises_2 : decode cX12_rises 2 = .ok (.aload_n 0, 1) := by decide +kernel
theorem dX12_rises_3 : decode cX12_rises 3 = .ok (.iload_n 1, 1) := by decide +kernel
theorem dX12_rises_4 : decode cX12_rises 4 = .ok (.invokevirtual 255, 3) := by decide +kernel
theorem dX12_rises_7 : decode cX12_rises 7 = .ok (.istore 4, 2) := by decide +kernel
theorem dX12_rises_9 : decode cX12_rises 9 = .ok (.iload 4, 2) := by decide +kernel
theorem dX12_rises_11 : decode cX12_rises 11 = .ok (.bipush 24, 2) := by decide +kernel
theorem dX12_rises_13 : decode cX12_rises 13 = .ok (.if_icmp .eq 198, 3) := by decide +kernel
theorem dX12_rises_16 : decode cX12_rises 16 = .ok (.aload_n 0, 1) := by decide +kernel
theorem dX12_rises_17 : decode cX12_rises 17 = .ok (.iload_n 1, 1) := by decide +kernel
theorem dX12_rises_18 : decode cX12_rises 18 = .ok (.iload 4, 2) := by decide +kernel
theorem dX12_rises_20 : decode cX12_rises 20 = .ok (.iload_n 3, 1) := by decide +kernel
theorem dX12_rises_21 : decode cX12_rises 21 = .ok (.invokevirtual 258, 3) := by decide +kernel
theorem dX12_rises_24 : decode cX12_rises 24 = .ok (.iload_n 3, 1) := by decide +kernel
theorem dX12_rises_25 : decode cX12_rises 25 = .ok (.aload_n 0, 1) := by decide +kernel
theorem dX12_rises_26 : decode cX12_rises 26 = .ok (.bipush 107, 2) := by decide +kernel
theorem dX12_rises_28 : decode cX12_rises 28 = .ok (.bipush 99, 2) := by decide +kernel
theorem dX12_rises_30 : decode cX12_rises 30 = .ok (.invokevirtual 261, 3) := by decide +kernel
theorem dX12_rises_33 : decode cX12_rises 33 = .ok (.invokestatic 98, 3) := by decide +kernel
theorem dX12_rises_36 : decode cX12_rises 36 = .ok (.istore 5, 2) := by decide +kernel
theorem dX12_rises_38 : decode cX12_rises 38 = .ok (.aload_n 0, 1) := by decide +kernel
theorem dX12_rises_39 : decode cX12_rises 39 = .ok (.getfield 7, 3) := by decide +kernel
theorem dX12_rises_42 : decode cX12_rises 42 = .ok (.bipush 96, 2) := by decide +kernel
theorem dX12_rises_44 : decode cX12_rises 44 = .ok (.iload 4, 2) := by decide +kernel
theorem dX12_rises_46 : decode cX12_rises 46 = .ok (.iadd, 1) := by decide +kernel
theorem dX12_rises_47 : decode cX12_rises 47 = .ok (.ldc_w 264, 3) := by decide +kernel
theorem dX12_rises_50 : decode cX12_rises 50 = .ok (.aload_n 0, 1) := by decide +kernel
theorem dX12_rises_51 : decode cX12_rises 51 = .ok (.getfield 7, 3) := by decide +kernel
theorem dX12_rises_54 : decode cX12_rises 54 = .ok (.bipush 96, 2) := by decide +kernel
theorem dX12_rises_56 : decode cX12_rises 56 = .ok (.iload 4, 2) := by decide +kernel
theorem dX12_rises_58 : decode cX12_rises 58 = .ok (.iadd, 1) := by decide +kernel
theorem dX12_rises_59 : decode cX12_rises 59 = .ok (.iaload, 1) := by decide +kernel
theorem dX12_rises_60 : decode cX12_rises 60 = .ok (.iload 5, 2) := by decide +kernel
theorem dX12_rises_62 : decode cX12_rises 62 = .ok (.iadd, 1) := by decide +kernel
theorem dX12_rises_63 : decode cX12_rises 63 = .ok (.invokestatic 98, 3) := by decide +kernel
theorem dX12_rises_66 : decode cX12_rises 66 = .ok (.iastore, 1) := by decide +kernel
theorem dX12_rises_67 : decode cX12_rises 67 = .ok (.aload_n 0, 1) := by decide +kernel
theorem dX12_rises_68 : decode cX12_rises 68 = .ok (.aload_n 0, 1) := by decide +kernel
theorem dX12_rises_69 : decode cX12_rises 69 = .ok (.getfield 265, 3) := by decide +kernel
theorem dX12_rises_72 : decode cX12_rises 72 = .ok (.iload 5, 2) := by decide +kernel
theorem dX12_rises_74 : decode cX12_rises 74 = .ok (.iadd, 1) := by decide +kernel
theorem dX12_rises_75 : decode cX12_rises 75 = .ok (.putfield 265, 3) := by decide +kernel
theorem dX12_rises_78 : decode cX12_rises 78 = .ok (.iload_n 3, 1) := by decide +kernel
theorem dX12_rises_79 : decode cX12_rises 79 = .ok (.iload 5, 2) := by decide +kernel
theorem dX12_rises_81 : decode cX12_rises 81 = .ok (.isub, 1) := by decide +kernel
theorem dX12_rises_82 : decode cX12_rises 82 = .ok (.istore_n 3, 1) := by decide +kernel
theorem dX12_rises_83 : decode cX12_rises 83 = .ok (.iload_n 3, 1) := by decide +kernel
theorem dX12_rises_84 : decode cX12_rises 84 = .ok (.ifCond .ne 4, 3) := by decide +kernel
theorem dX12_rises_87 : decode cX12_rises 87 = .ok (.return_, 1) := by decide +kernel
theorem dX12_rises_88 : decode cX12_rises 88 = .ok (.aload_n 0, 1) := by decide +kernel
theorem dX12_rises_89 : decode cX12_rises 89 = .ok (.iload 4, 2) := by decide +kernel
theorem dX12_rises_91 : decode cX12_rises 91 = .ok (.invokevirtual 268, 3) := by decide +kernel
theorem dX12_rises_94 : decode cX12_rises 94 = .ok (.ifCond .eq 106, 3) := by decide +kernel
theorem dX12_rises_97 : decode cX12_rises 97 = .ok (.aload_n 0, 1) := by decide +kernel
theorem dX12_rises_98 : decode cX12_rises 98 = .ok (.iload_n 1, 1) := by decide +kernel
theorem dX12_rises_99 : decode cX12_rises 99 = .ok (.iload 4, 2) := by decide +kernel
theorem dX12_rises_101 : decode cX12_rises 101 = .ok (.iload_n 3, 1) := by decide +kernel
theorem dX12_rises_102 : decode cX12_rises 102 = .ok (.invokevirtual 258, 3) := by decide +kernel
theorem dX12_rises_105 : decode cX12_rises 105 = .ok (.aload_n 0, 1) := by decide +kernel
theorem dX12_rises_106 : decode cX12_rises 106 = .ok (.bipush 100, 2) := by decide +kernel
theorem dX12_rises_108 : decode cX12_rises 108 = .ok (.bipush 10, 2) := by decide +kernel
theorem dX12_rises_110 : decode cX12_rises 110 = .ok (.invokevirtual 261, 3) := by decide +kernel
theorem dX12_rises_113 : decode cX12_rises 113 = .ok (.istore 6, 2) := by decide +kernel
theorem dX12_rises_115 : decode cX12_rises 115 = .ok (.aload_n 0, 1) := by decide +kernel
theorem dX12_rises_116 : decode cX12_rises 116 = .ok (.getfield 7, 3) := by decide +kernel
theorem dX12_rises_119 : decode cX12_rises 119 = .ok (.sipush 698, 3) := by decide +kernel
theorem dX12_rises_122 : decode cX12_rises 122 = .ok (.sipush 25173, 3) := by decide +kernel
theorem dX12_rises_125 : decode cX12_rises 125 = .ok (.aload_n 0, 1) := by decide +kernel
theorem dX12_rises_126 : decode cX12_rises 126 = .ok (.getfield 7, 3) := by decide +kernel
theorem dX12_rises_129 : decode cX12_rises 129 = .ok (.sipush 698, 3) := by decide +kernel
theorem dX12_rises_132 : decode cX12_rises 132 = .ok (.iaload, 1) := by decide +kernel
theorem dX12_rises_133 : decode cX12_rises 133 = .ok (.imul, 1) := by decide +kernel
theorem dX12_rises_134 : decode cX12_rises 134 = .ok (.sipush 13849, 3) := by decide +kernel
theorem dX12_rises_137 : decode cX12_rises 137 = .ok (.iadd, 1) := by decide +kernel
theorem dX12_rises_138 : decode cX12_rises 138 = .ok (.ldc_w 271, 3) := by decide +kernel
theorem dX12_rises_141 : decode cX12_rises 141 = .ok (.irem, 1) := by decide +kernel
theorem dX12_rises_142 : decode cX12_rises 142 = .ok (.iastore, 1) := by decide +kernel
theorem dX12_rises_143 : decode cX12_rises 143 = .ok (.aload_n 0, 1) := by decide +kernel
theorem dX12_rises_144 : decode cX12_rises 144 = .ok (.getfield 7, 3) := by decide +kernel
theorem dX12_rises_147 : decode cX12_rises 147 = .ok (.sipush 698, 3) := by decide +kernel
theorem dX12_rises_150 : decode cX12_rises 150 = .ok (.iaload, 1) := by decide +kernel
theorem dX12_rises_151 : decode cX12_rises 151 = .ok (.bipush 10, 2) := by decide +kernel
theorem dX12_rises_153 : decode cX12_rises 153 = .ok (.irem, 1) := by decide +kernel
theorem dX12_rises_154 : decode cX12_rises 154 = .ok (.iload 6, 2) := by decide +kernel
theorem dX12_rises_156 : decode cX12_rises 156 = .ok (.if_icmp .ge 44, 3) := by decide +kernel
theorem dX12_rises_159 : decode cX12_rises 159 = .ok (.aload_n 0, 1) := by decide +kernel
theorem dX12_rises_160 : decode cX12_rises 160 = .ok (.getfield 7, 3) := by decide +kernel
theorem dX12_rises_163 : decode cX12_rises 163 = .ok (.iload 4, 2) := by decide +kernel
theorem dX12_rises_165 : decode cX12_rises 165 = .ok (.iload_n 1, 1) := by decide +kernel
theorem dX12_rises_166 : decode cX12_rises 166 = .ok (.invokestatic 94, 3) := by decide +kernel
theorem dX12_rises_169 : decode cX12_rises 169 = .ok (.ldc_w 264, 3) := by decide +kernel
theorem dX12_rises_172 : decode cX12_rises 172 = .ok (.aload_n 0, 1) := by decide +kernel
theorem dX12_rises_173 : decode cX12_rises 173 = .ok (.getfield 7, 3) := by decide +kernel
theorem dX12_rises_176 : decode cX12_rises 176 = .ok (.iload 4, 2) := by decide +kernel
theorem dX12_rises_178 : decode cX12_rises 178 = .ok (.iload_n 1, 1) := by decide +kernel
theorem dX12_rises_179 : decode cX12_rises 179 = .ok (.invokestatic 94, 3) := by decide +kernel
theorem dX12_rises_182 : decode cX12_rises 182 = .ok (.iaload, 1) := by decide +kernel
theorem dX12_rises_183 : decode cX12_rises 183 = .ok (.iload_n 3, 1) := by decide +kernel
theorem dX12_rises_184 : decode cX12_rises 184 = .ok (.iadd, 1) := by decide +kernel
theorem dX12_rises_185 : decode cX12_rises 185 = .ok (.invokestatic 98, 3) := by decide +kernel
theorem dX12_rises_188 : decode cX12_rises 188 = .ok (.iastore, 1) := by decide +kernel
theorem dX12_rises_189 : decode cX12_rises 189 = .ok (.aload_n 0, 1) := by decide +kernel
theorem dX12_rises_190 : decode cX12_rises 190 = .ok (.aload_n 0, 1) := by decide +kernel
theorem dX12_rises_191 : decode cX12_rises 191 = .ok (.getfield 272, 3) := by decide +kernel
theorem dX12_rises_194 : decode cX12_rises 194 = .ok (.iload_n 3, 1) := by decide +kernel
theorem dX12_rises_195 : decode cX12_rises 195 = .ok (.iadd, 1) := by decide +kernel
theorem dX12_rises_196 : decode cX12_rises 196 = .ok (.putfield 272, 3) := by decide +kernel
theorem dX12_rises_199 : decode cX12_rises 199 = .ok (.return_, 1) := by decide +kernel
theorem dX12_rises_200 : decode cX12_rises 200 = .ok (.aload_n 0, 1) := by decide +kernel
theorem dX12_rises_201 : decode cX12_rises 201 = .ok (.iload 4, 2) := by decide +kernel
theorem dX12_rises_203 : decode cX12_rises 203 = .ok (.invokevirtual 255, 3) := by decide +kernel
theorem dX12_rises_206 : decode cX12_rises 206 = .ok (.istore 4, 2) := by decide +kernel
theorem dX12_rises_208 : decode cX12_rises 208 = .ok (.goto (-199), 3) := by decide +kernel
theorem dX12_rises_211 : decode cX12_rises 211 = .ok (.aload_n 0, 1) := by decide +kernel
theorem dX12_rises_212 : decode cX12_rises 212 = .ok (.aload_n 0, 1) := by decide +kernel
theorem dX12_rises_213 : decode cX12_rises 213 = .ok (.getfield 275, 3) := by decide +kernel
theorem dX12_rises_216 : decode cX12_rises 216 = .ok (.iload_n 3, 1) := by decide +kernel
theorem dX12_rises_217 : decode cX12_rises 217 = .ok (.iadd, 1) := by decide +kernel
theorem dX12_rises_218 : decode cX12_rises 218 = .ok (.putfield 275, 3) := by decide +kernel
theorem dX12_rises_221 : decode cX12_rises 221 = .ok (.aload_n 0, 1) := by decide +kernel
theorem dX12_rises_222 : decode cX12_rises 222 = .ok (.getfield 7, 3) := by decide +kernel
theorem dX12_rises_225 : decode cX12_rises 225 = .ok (.sipush 696, 3) := by decide +kernel
theorem dX12_rises_228 : decode cX12_rises 228 = .ok (.ldc_w 278, 3) := by decide +kernel
theorem dX12_rises_231 : decode cX12_rises 231 = .ok (.aload_n 0, 1) := by decide +kernel
theorem dX12_rises_232 : decode cX12_rises 232 = .ok (.getfield 7, 3) := by decide +kernel
theorem dX12_rises_235 : decode cX12_rises 235 = .ok (.sipush 696, 3) := by decide +kernel
theorem dX12_rises_238 : decode cX12_rises 238 = .ok (.iaload, 1) := by decide +kernel
theorem dX12_rises_239 : decode cX12_rises 239 = .ok (.iload_n 3, 1) := by decide +kernel
theorem dX12_rises_240 : decode cX12_rises 240 = .ok (.iadd, 1) := by decide +kernel
theorem dX12_rises_241 : decode cX12_rises 241 = .ok (.invokestatic 98, 3) := by decide +kernel
theorem dX12_rises_244 : decode cX12_rises 244 = .ok (.iastore, 1) := by decide +kernel
theorem dX12_rises_245 : decode cX12_rises 245 = .ok (.return_, 1) := by decide +kernel
theorem dX12_hourGoes_0 : decode cX12_hourGoes 0 = .ok (.iconst 0, 1) := by decide +kernel
theorem dX12_hourGoes_1 : decode cX12_hourGoes 1 = .ok (.istore_n 1, 1) := by decide +kernel
theorem dX12_hourGoes_2 : decode cX12_hourGoes 2 = .ok (.iload_n 1, 1) := by decide +kernel
theorem dX12_hourGoes_3 : decode cX12_hourGoes 3 = .ok (.bipush 24, 2) := by decide +kernel
theorem dX12_hourGoes_5 : decode cX12_hourGoes 5 = .ok (.if_icmp .ge 102, 3) := by decide +kernel
theorem dX12_hourGoes_8 : decode cX12_hourGoes 8 = .ok (.aload_n 0, 1) := by decide +kernel
theorem dX12_hourGoes_9 : decode cX12_hourGoes 9 = .ok (.iload_n 1, 1) := by decide +kernel
theorem dX12_hourGoes_10 : decode cX12_hourGoes 10 = .ok (.invokevirtual 268, 3) := by decide +kernel
theorem dX12_hourGoes_13 : decode cX12_hourGoes 13 = .ok (.ifCond .eq 88, 3) := by decide +kernel
theorem dX12_hourGoes_16 : decode cX12_hourGoes 16 = .ok (.aload_n 0, 1) := by decide +kernel
theorem dX12_hourGoes_17 : decode cX12_hourGoes 17 = .ok (.getfield 7, 3) := by decide +kernel
theorem dX12_hourGoes_20 : decode cX12_hourGoes 20 = .ok (.bipush 24, 2) := by decide +kernel
theorem dX12_hourGoes_22 : decode cX12_hourGoes 22 = .ok (.iload_n 1, 1) := by decide +kernel
theorem dX12_hourGoes_23 : decode cX12_hourGoes 23 = .ok (.iadd, 1) := by decide +kernel
theorem dX12_hourGoes_24 : decode cX12_hourGoes 24 = .ok (.iaload, 1) := by decide +kernel
theorem dX12_hourGoes_25 : decode cX12_hourGoes 25 = .ok (.ifCond .ne 6, 3) := by decide +kernel
theorem dX12_hourGoes_28 : decode cX12_hourGoes 28 = .ok (.goto 73, 3) := by decide +kernel
theorem dX12_hourGoes_31 : decode cX12_hourGoes 31 = .ok (.aload_n 0, 1) := by decide +kernel
theorem dX12_hourGoes_32 : decode cX12_hourGoes 32 = .ok (.iload_n 1, 1) := by decide +kernel
theorem dX12_hourGoes_33 : decode cX12_hourGoes 33 = .ok (.iload_n 1, 1) := by decide +kernel
theorem dX12_hourGoes_34 : decode cX12_hourGoes 34 = .ok (.iconst 0, 1) := by decide +kernel
theorem dX12_hourGoes_35 : decode cX12_hourGoes 35 = .ok (.invokevirtual 258, 3) := by decide +kernel
theorem dX12_hourGoes_38 : decode cX12_hourGoes 38 = .ok (.aload_n 0, 1) := by decide +kernel
theorem dX12_hourGoes_39 : decode cX12_hourGoes 39 = .ok (.bipush 120, 2) := by decide +kernel
theorem dX12_hourGoes_41 : decode cX12_hourGoes 41 = .ok (.invokevirtual 279, 3) := by decide +kernel
theorem dX12_hourGoes_44 : decode cX12_hourGoes 44 = .ok (.ifCond .eq 6, 3) := by decide +kernel
theorem dX12_hourGoes_47 : decode cX12_hourGoes 47 = .ok (.goto 54, 3) := by decide +kernel
theorem dX12_hourGoes_50 : decode cX12_hourGoes 50 = .ok (.aload_n 0, 1) := by decide +kernel
theorem dX12_hourGoes_51 : decode cX12_hourGoes 51 = .ok (.getfield 7, 3) := by decide +kernel
theorem dX12_hourGoes_54 : decode cX12_hourGoes 54 = .ok (.bipush 24, 2) := by decide +kernel
theorem dX12_hourGoes_56 : decode cX12_hourGoes 56 = .ok (.iload_n 1, 1) := by decide +kernel
theorem dX12_hourGoes_57 : decode cX12_hourGoes 57 = .ok (.iadd, 1) := by decide +kernel
theorem dX12_hourGoes_58 : decode cX12_hourGoes 58 = .ok (.iaload, 1) := by decide +kernel
theorem dX12_hourGoes_59 : decode cX12_hourGoes 59 = .ok (.aload_n 0, 1) := by decide +kernel
theorem dX12_hourGoes_60 : decode cX12_hourGoes 60 = .ok (.bipush 99, 2) := by decide +kernel
theorem dX12_hourGoes_62 : decode cX12_hourGoes 62 = .ok (.bipush 99, 2) := by decide +kernel
theorem dX12_hourGoes_64 : decode cX12_hourGoes 64 = .ok (.invokevirtual 261, 3) := by decide +kernel
theorem dX12_hourGoes_67 : decode cX12_hourGoes 67 = .ok (.invokestatic 98, 3) := by decide +kernel
theorem dX12_hourGoes_70 : decode cX12_hourGoes 70 = .ok (.istore_n 2, 1) := by decide +kernel
theorem dX12_hourGoes_71 : decode cX12_hourGoes 71 = .ok (.aload_n 0, 1) := by decide +kernel
theorem dX12_hourGoes_72 : decode cX12_hourGoes 72 = .ok (.getfield 7, 3) := by decide +kernel
theorem dX12_hourGoes_75 : decode cX12_hourGoes 75 = .ok (.bipush 24, 2) := by decide +kernel
theorem dX12_hourGoes_77 : decode cX12_hourGoes 77 = .ok (.iload_n 1, 1) := by decide +kernel
theorem dX12_hourGoes_78 : decode cX12_hourGoes 78 = .ok (.iadd, 1) := by decide +kernel
theorem dX12_hourGoes_79 : decode cX12_hourGoes 79 = .ok (.aload_n 0, 1) := by decide +kernel
theorem dX12_hourGoes_80 : decode cX12_hourGoes 80 = .ok (.getfield 7, 3) := by decide +kernel
theorem dX12_hourGoes_83 : decode cX12_hourGoes 83 = .ok (.bipush 24, 2) := by decide +kernel
theorem dX12_hourGoes_85 : decode cX12_hourGoes 85 = .ok (.iload_n 1, 1) := by decide +kernel
theorem dX12_hourGoes_86 : decode cX12_hourGoes 86 = .ok (.iadd, 1) := by decide +kernel
theorem dX12_hourGoes_87 : decode cX12_hourGoes 87 = .ok (.iaload, 1) := by decide +kernel
theorem dX12_hourGoes_88 : decode cX12_hourGoes 88 = .ok (.iload_n 2, 1) := by decide +kernel
theorem dX12_hourGoes_89 : decode cX12_hourGoes 89 = .ok (.isub, 1) := by decide +kernel
theorem dX12_hourGoes_90 : decode cX12_hourGoes 90 = .ok (.iastore, 1) := by decide +kernel
theorem dX12_hourGoes_91 : decode cX12_hourGoes 91 = .ok (.iload_n 2, 1) := by decide +kernel
theorem dX12_hourGoes_92 : decode cX12_hourGoes 92 = .ok (.ifCond .le 9, 3) := by decide +kernel
theorem dX12_hourGoes_95 : decode cX12_hourGoes 95 = .ok (.aload_n 0, 1) := by decide +kernel
theorem dX12_hourGoes_96 : decode cX12_hourGoes 96 = .ok (.iload_n 1, 1) := by decide +kernel
theorem dX12_hourGoes_97 : decode cX12_hourGoes 97 = .ok (.iload_n 2, 1) := by decide +kernel
theorem dX12_hourGoes_98 : decode cX12_hourGoes 98 = .ok (.invokevirtual 282, 3) := by decide +kernel
theorem dX12_hourGoes_101 : decode cX12_hourGoes 101 = .ok (.iinc 1 1, 3) := by decide +kernel
theorem dX12_hourGoes_104 : decode cX12_hourGoes 104 = .ok (.goto (-102), 3) := by decide +kernel
theorem dX12_hourGoes_107 : decode cX12_hourGoes 107 = .ok (.aload_n 0, 1) := by decide +kernel
theorem dX12_hourGoes_108 : decode cX12_hourGoes 108 = .ok (.getfield 7, 3) := by decide +kernel
theorem dX12_hourGoes_111 : decode cX12_hourGoes 111 = .ok (.sipush 697, 3) := by decide +kernel
theorem dX12_hourGoes_114 : decode cX12_hourGoes 114 = .ok (.aload_n 0, 1) := by decide +kernel
theorem dX12_hourGoes_115 : decode cX12_hourGoes 115 = .ok (.getfield 7, 3) := by decide +kernel
theorem dX12_hourGoes_118 : decode cX12_hourGoes 118 = .ok (.sipush 697, 3) := by decide +kernel
theorem dX12_hourGoes_121 : decode cX12_hourGoes 121 = .ok (.iaload, 1) := by decide +kernel
theorem dX12_hourGoes_122 : decode cX12_hourGoes 122 = .ok (.iconst 1, 1) := by decide +kernel
theorem dX12_hourGoes_123 : decode cX12_hourGoes 123 = .ok (.iadd, 1) := by decide +kernel
theorem dX12_hourGoes_124 : decode cX12_hourGoes 124 = .ok (.iastore, 1) := by decide +kernel
theorem dX12_hourGoes_125 : decode cX12_hourGoes 125 = .ok (.return_, 1) := by decide +kernel
theorem dX12_hoursGo_0 : decode cX12_hoursGo 0 = .ok (.aload_n 0, 1) := by decide +kernel
theorem dX12_hoursGo_1 : decode cX12_hoursGo 1 = .ok (.iconst 0, 1) := by decide +kernel
theorem dX12_hoursGo_2 : decode cX12_hoursGo 2 = .ok (.putfield 272, 3) := by decide +kernel
theorem dX12_hoursGo_5 : decode cX12_hoursGo 5 = .ok (.aload_n 0, 1) := by decide +kernel
theorem dX12_hoursGo_6 : decode cX12_hoursGo 6 = .ok (.iconst 0, 1) := by decide +kernel
theorem dX12_hoursGo_7 : decode cX12_hoursGo 7 = .ok (.putfield 265, 3) := by decide +kernel
theorem dX12_hoursGo_10 : decode cX12_hoursGo 10 = .ok (.aload_n 0, 1) := by decide +kernel
theorem dX12_hoursGo_11 : decode cX12_hoursGo 11 = .ok (.iconst 0, 1) := by decide +kernel
theorem dX12_hoursGo_12 : decode cX12_hoursGo 12 = .ok (.putfield 275, 3) := by decide +kernel
theorem dX12_hoursGo_15 : decode cX12_hoursGo 15 = .ok (.iconst 0, 1) := by decide +kernel
theorem dX12_hoursGo_16 : decode cX12_hoursGo 16 = .ok (.istore_n 2, 1) := by decide +kernel
theorem dX12_hoursGo_17 : decode cX12_hoursGo 17 = .ok (.iload_n 2, 1) := by decide +kernel
theorem dX12_hoursGo_18 : decode cX12_hoursGo 18 = .ok (.iload_n 1, 1) := by decide +kernel
theorem dX12_hoursGo_19 : decode cX12_hoursGo 19 = .ok (.if_icmp .ge 27, 3) := by decide +kernel
theorem dX12_hoursGo_22 : decode cX12_hoursGo 22 = .ok (.aload_n 0, 1) := by decide +kernel
theorem dX12_hoursGo_23 : decode cX12_hoursGo 23 = .ok (.getfield 7, 3) := by decide +kernel
theorem dX12_hoursGo_26 : decode cX12_hoursGo 26 = .ok (.sipush 697, 3) := by decide +kernel
theorem dX12_hoursGo_29 : decode cX12_hoursGo 29 = .ok (.iaload, 1) := by decide +kernel
theorem dX12_hoursGo_30 : decode cX12_hoursGo 30 = .ok (.ldc_w 264, 3) := by decide +kernel
theorem dX12_hoursGo_33 : decode cX12_hoursGo 33 = .ok (.if_icmp .ge 13, 3) := by decide +kernel
theorem dX12_hoursGo_36 : decode cX12_hoursGo 36 = .ok (.aload_n 0, 1) := by decide +kernel
theorem dX12_hoursGo_37 : decode cX12_hoursGo 37 = .ok (.invokevirtual 285, 3) := by decide +kernel
theorem dX12_hoursGo_40 : decode cX12_hoursGo 40 = .ok (.iinc 2 1, 3) := by decide +kernel
theorem dX12_hoursGo_43 : decode cX12_hoursGo 43 = .ok (.goto (-26), 3) := by decide +kernel
theorem dX12_hoursGo_46 : decode cX12_hoursGo 46 = .ok (.return_, 1) := by decide +kernel
theorem dX12_hours_0 : decode cX12_hours 0 = .ok (.iload_n 1, 1) := by decide +kernel
theorem dX12_hours_1 : decode cX12_hours 1 = .ok (.iconst 1, 1) := by decide +kernel
theorem dX12_hours_2 : decode cX12_hours 2 = .ok (.sipush 240, 3) := by decide +kernel
theorem dX12_hours_5 : decode cX12_hours 5 = .ok (.invokestatic 90, 3) := by decide +kernel
theorem dX12_hours_8 : decode cX12_hours 8 = .ok (.ifCond .ne 5, 3) := by decide +kernel
theorem dX12_hours_11 : decode cX12_hours 11 = .ok (.iconst (-1), 1) := by decide +kernel
theorem dX12_hours_12 : decode cX12_hours 12 = .ok (.ireturn, 1) := by decide +kernel
theorem dX12_hours_13 : decode cX12_hours 13 = .ok (.aload_n 0, 1) := by decide +kernel
theorem dX12_hours_14 : decode cX12_hours 14 = .ok (.iload_n 1, 1) := by decide +kernel
theorem dX12_hours_15 : decode cX12_hours 15 = .ok (.invokevirtual 288, 3) := by decide +kernel
theorem dX12_hours_18 : decode cX12_hours 18 = .ok (.aload_n 0, 1) := by decide +kernel
theorem dX12_hours_19 : decode cX12_hours 19 = .ok (.getfield 272, 3) := by decide +kernel
theorem dX12_hours_22 : decode cX12_hours 22 = .ok (.ireturn, 1) := by decide +kernel
theorem dX12_sumOf_0 : decode cX12_sumOf 0 = .ok (.iconst 0, 1) := by decide +kernel
theorem dX12_sumOf_1 : decode cX12_sumOf 1 = .ok (.istore_n 2, 1) := by decide +kernel
theorem dX12_sumOf_2 : decode cX12_sumOf 2 = .ok (.iconst 0, 1) := by decide +kernel
theorem dX12_sumOf_3 : decode cX12_sumOf 3 = .ok (.istore_n 3, 1) := by decide +kernel
theorem dX12_sumOf_4 : decode cX12_sumOf 4 = .ok (.iload_n 3, 1) := by decide +kernel
theorem dX12_sumOf_5 : decode cX12_sumOf 5 = .ok (.bipush 24, 2) := by decide +kernel
theorem dX12_sumOf_7 : decode cX12_sumOf 7 = .ok (.if_icmp .ge 20, 3) := by decide +kernel
theorem dX12_sumOf_10 : decode cX12_sumOf 10 = .ok (.iload_n 2, 1) := by decide +kernel
theorem dX12_sumOf_11 : decode cX12_sumOf 11 = .ok (.aload_n 0, 1) := by decide +kernel
theorem dX12_sumOf_12 : decode cX12_sumOf 12 = .ok (.getfield 7, 3) := by decide +kernel
theorem dX12_sumOf_15 : decode cX12_sumOf 15 = .ok (.iload_n 1, 1) := by decide +kernel
theorem dX12_sumOf_16 : decode cX12_sumOf 16 = .ok (.iload_n 3, 1) := by decide +kernel
theorem dX12_sumOf_17 : decode cX12_sumOf 17 = .ok (.iadd, 1) := by decide +kernel
theorem dX12_sumOf_18 : decode cX12_sumOf 18 = .ok (.iaload, 1) := by decide +kernel
theorem dX12_sumOf_19 : decode cX12_sumOf 19 = .ok (.iadd, 1) := by decide +kernel
theorem dX12_sumOf_20 : decode cX12_sumOf 20 = .ok (.istore_n 2, 1) := by decide +kernel
theorem dX12_sumOf_21 : decode cX12_sumOf 21 = .ok (.iinc 3 1, 3) := by decide +kernel
theorem dX12_sumOf_24 : decode cX12_sumOf 24 = .ok (.goto (-20), 3) := by decide +kernel
theorem dX12_sumOf_27 : decode cX12_sumOf 27 = .ok (.iload_n 2, 1) := by decide +kernel
theorem dX12_sumOf_28 : decode cX12_sumOf 28 = .ok (.ireturn, 1) := by decide +kernel
theorem dX12_tried_0 : decode cX12_tried 0 = .ok (.iload_n 1, 1) := by decide +kernel
theorem dX12_tried_1 : decode cX12_tried 1 = .ok (.iconst 1, 1) := by decide +kernel
theorem dX12_tried_2 : decode cX12_tried 2 = .ok (.sipush 240, 3) := by decide +kernel
theorem dX12_tried_5 : decode cX12_tried 5 = .ok (.invokestatic 90, 3) := by decide +kernel
theorem dX12_tried_8 : decode cX12_tried 8 = .ok (.ifCond .eq 22, 3) := by decide +kernel
theorem dX12_tried_11 : decode cX12_tried 11 = .ok (.iload_n 2, 1) := by decide +kernel
theorem dX12_tried_12 : decode cX12_tried 12 = .ok (.iconst 0, 1) := by decide +kernel
theorem dX12_tried_13 : decode cX12_tried 13 = .ok (.iconst 3, 1) := by decide +kernel
theorem dX12_tried_14 : decode cX12_tried 14 = .ok (.invokestatic 90, 3) := by decide +kernel
theorem dX12_tried_17 : decode cX12_tried 17 = .ok (.ifCond .ne 15, 3) := by decide +kernel
theorem dX12_tried_20 : decode cX12_tried 20 = .ok (.iload_n 2, 1) := by decide +kernel
theorem dX12_tried_21 : decode cX12_tried 21 = .ok (.bipush 100, 2) := by decide +kernel
theorem dX12_tried_23 : decode cX12_tried 23 = .ok (.isub, 1) := by decide +kernel
theorem dX12_tried_24 : decode cX12_tried 24 = .ok (.invokestatic 107, 3) := by decide +kernel
theorem dX12_tried_27 : decode cX12_tried 27 = .ok (.ifCond .ne 5, 3) := by decide +kernel
theorem dX12_tried_30 : decode cX12_tried 30 = .ok (.iconst (-1), 1) := by decide +kernel
theorem dX12_tried_31 : decode cX12_tried 31 = .ok (.ireturn, 1) := by decide +kernel
theorem dX12_tried_32 : decode cX12_tried 32 = .ok (.aload_n 0, 1) := by decide +kernel
theorem dX12_tried_33 : decode cX12_tried 33 = .ok (.getfield 7, 3) := by decide +kernel
theorem dX12_tried_36 : decode cX12_tried 36 = .ok (.aload_n 0, 1) := by decide +kernel
theorem dX12_tried_37 : decode cX12_tried 37 = .ok (.getfield 13, 3) := by decide +kernel
theorem dX12_tried_40 : decode cX12_tried 40 = .ok (.invokestatic 248, 3) := by decide +kernel
theorem dX12_tried_43 : decode cX12_tried 43 = .ok (.aload_n 0, 1) := by decide +kernel
theorem dX12_tried_44 : decode cX12_tried 44 = .ok (.iload_n 1, 1) := by decide +kernel
theorem dX12_tried_45 : decode cX12_tried 45 = .ok (.invokevirtual 288, 3) := by decide +kernel
theorem dX12_tried_48 : decode cX12_tried 48 = .ok (.iload_n 2, 1) := by decide +kernel
theorem dX12_tried_49 : decode cX12_tried 49 = .ok (.tableswitch 65 0 3 #[31, 39, 47, 55], 31) := by decide +kernel
theorem dX12_tried_80 : decode cX12_tried 80 = .ok (.aload_n 0, 1) := by decide +kernel
theorem dX12_tried_81 : decode cX12_tried 81 = .ok (.getfield 272, 3) := by decide +kernel
theorem dX12_tried_84 : decode cX12_tried 84 = .ok (.istore_n 3, 1) := by decide +kernel
theorem dX12_tried_85 : decode cX12_tried 85 = .ok (.goto 38, 3) := by decide +kernel
theorem dX12_tried_88 : decode cX12_tried 88 = .ok (.aload_n 0, 1) := by decide +kernel
theorem dX12_tried_89 : decode cX12_tried 89 = .ok (.getfield 265, 3) := by decide +kernel
theorem dX12_tried_92 : decode cX12_tried 92 = .ok (.istore_n 3, 1) := by decide +kernel
theorem dX12_tried_93 : decode cX12_tried 93 = .ok (.goto 30, 3) := by decide +kernel
theorem dX12_tried_96 : decode cX12_tried 96 = .ok (.aload_n 0, 1) := by decide +kernel
theorem dX12_tried_97 : decode cX12_tried 97 = .ok (.getfield 275, 3) := by decide +kernel
theorem dX12_tried_100 : decode cX12_tried 100 = .ok (.istore_n 3, 1) := by decide +kernel
theorem dX12_tried_101 : decode cX12_tried 101 = .ok (.goto 22, 3) := by decide +kernel
theorem dX12_tried_104 : decode cX12_tried 104 = .ok (.aload_n 0, 1) := by decide +kernel
theorem dX12_tried_105 : decode cX12_tried 105 = .ok (.bipush 24, 2) := by decide +kernel
theorem dX12_tried_107 : decode cX12_tried 107 = .ok (.invokevirtual 291, 3) := by decide +kernel
theorem dX12_tried_110 : decode cX12_tried 110 = .ok (.istore_n 3, 1) := by decide +kernel
theorem dX12_tried_111 : decode cX12_tried 111 = .ok (.goto 12, 3) := by decide +kernel
theorem dX12_tried_114 : decode cX12_tried 114 = .ok (.aload_n 0, 1) := by decide +kernel
theorem dX12_tried_115 : decode cX12_tried 115 = .ok (.iload_n 2, 1) := by decide +kernel
theorem dX12_tried_116 : decode cX12_tried 116 = .ok (.bipush 100, 2) := by decide +kernel
theorem dX12_tried_118 : decode cX12_tried 118 = .ok (.isub, 1) := by decide +kernel
theorem dX12_tried_119 : decode cX12_tried 119 = .ok (.invokevirtual 227, 3) := by decide +kernel
theorem dX12_tried_122 : decode cX12_tried 122 = .ok (.istore_n 3, 1) := by decide +kernel
theorem dX12_tried_123 : decode cX12_tried 123 = .ok (.aload_n 0, 1) := by decide +kernel
theorem dX12_tried_124 : decode cX12_tried 124 = .ok (.getfield 13, 3) := by decide +kernel
theorem dX12_tried_127 : decode cX12_tried 127 = .ok (.aload_n 0, 1) := by decide +kernel
theorem dX12_tried_128 : decode cX12_tried 128 = .ok (.getfield 7, 3) := by decide +kernel
theorem dX12_tried_131 : decode cX12_tried 131 = .ok (.invokestatic 248, 3) := by decide +kernel
theorem dX12_tried_134 : decode cX12_tried 134 = .ok (.iload_n 3, 1) := by decide +kernel
theorem dX12_tried_135 : decode cX12_tried 135 = .ok (.ireturn, 1) := by decide +kernel
theorem dX12_feltMost_0 : decode cX12_feltMost 0 = .ok (.bipush (-2), 2) := by decide +kernel
theorem dX12_feltMost_2 : decode cX12_feltMost 2 = .ok (.istore_n 2, 1) := by decide +kernel
theorem dX12_feltMost_3 : decode cX12_feltMost 3 = .ok (.iconst 0, 1) := by decide +kernel
theorem dX12_feltMost_4 : decode cX12_feltMost 4 = .ok (.istore_n 3, 1) := by decide +kernel
theorem dX12_feltMost_5 : decode cX12_feltMost 5 = .ok (.iload_n 3, 1) := by decide +kernel
theorem dX12_feltMost_6 : decode cX12_feltMost 6 = .ok (.bipush 24, 2) := by decide +kernel
theorem dX12_feltMost_8 : decode cX12_feltMost 8 = .ok (.if_icmp .ge 53, 3) := by decide +kernel
theorem dX12_feltMost_11 : decode cX12_feltMost 11 = .ok (.aload_n 0, 1) := by decide +kernel
theorem dX12_feltMost_12 : decode cX12_feltMost 12 = .ok (.getfield 7, 3) := by decide +kernel
theorem dX12_feltMost_15 : decode cX12_feltMost 15 = .ok (.iload_n 1, 1) := by decide +kernel
theorem dX12_feltMost_16 : decode cX12_feltMost 16 = .ok (.iload_n 3, 1) := by decide +kernel
theorem dX12_feltMost_17 : decode cX12_feltMost 17 = .ok (.invokestatic 94, 3) := by decide +kernel
theorem dX12_feltMost_20 : decode cX12_feltMost 20 = .ok (.iaload, 1) := by decide +kernel
theorem dX12_feltMost_21 : decode cX12_feltMost 21 = .ok (.ifCond .le 34, 3) := by decide +kernel
theorem dX12_feltMost_24 : decode cX12_feltMost 24 = .ok (.iload_n 2, 1) := by decide +kernel
theorem dX12_feltMost_25 : decode cX12_feltMost 25 = .ok (.bipush (-2), 2) := by decide +kernel
theorem dX12_feltMost_27 : decode cX12_feltMost 27 = .ok (.if_icmp .eq 26, 3) := by decide +kernel
theorem dX12_feltMost_30 : decode cX12_feltMost 30 = .ok (.aload_n 0, 1) := by decide +kernel
theorem dX12_feltMost_31 : decode cX12_feltMost 31 = .ok (.getfield 7, 3) := by decide +kernel
theorem dX12_feltMost_34 : decode cX12_feltMost 34 = .ok (.iload_n 1, 1) := by decide +kernel
theorem dX12_feltMost_35 : decode cX12_feltMost 35 = .ok (.iload_n 3, 1) := by decide +kernel
theorem dX12_feltMost_36 : decode cX12_feltMost 36 = .ok (.invokestatic 94, 3) := by decide +kernel
theorem dX12_feltMost_39 : decode cX12_feltMost 39 = .ok (.iaload, 1) := by decide +kernel
theorem dX12_feltMost_40 : decode cX12_feltMost 40 = .ok (.aload_n 0, 1) := by decide +kernel
theorem dX12_feltMost_41 : decode cX12_feltMost 41 = .ok (.getfield 7, 3) := by decide +kernel
theorem dX12_feltMost_44 : decode cX12_feltMost 44 = .ok (.iload_n 1, 1) := by decide +kernel
theorem dX12_feltMost_45 : decode cX12_feltMost 45 = .ok (.iload_n 2, 1) := by decide +kernel
theorem dX12_feltMost_46 : decode cX12_feltMost 46 = .ok (.invokestatic 94, 3) := by decide +kernel
theorem dX12_feltMost_49 : decode cX12_feltMost 49 = .ok (.iaload, 1) := by decide +kernel
theorem dX12_feltMost_50 : decode cX12_feltMost 50 = .ok (.if_icmp .le 5, 3) := by decide +kernel
theorem dX12_feltMost_53 : decode cX12_feltMost 53 = .ok (.iload_n 3, 1) := by decide +kernel
theorem dX12_feltMost_54 : decode cX12_feltMost 54 = .ok (.istore_n 2, 1) := by decide +kernel
theorem dX12_feltMost_55 : decode cX12_feltMost 55 = .ok (.iinc 3 1, 3) := by decide +kernel
theorem dX12_feltMost_58 : decode cX12_feltMost 58 = .ok (.goto (-53), 3) := by decide +kernel
theorem dX12_feltMost_61 : decode cX12_feltMost 61 = .ok (.iload_n 2, 1) := by decide +kernel
theorem dX12_feltMost_62 : decode cX12_feltMost 62 = .ok (.ireturn, 1) := by decide +kernel
theorem dX12_roomIs_0 : decode cX12_roomIs 0 = .ok (.iload_n 1, 1) := by decide +kernel
theorem dX12_roomIs_1 : decode cX12_roomIs 1 = .ok (.invokestatic 107, 3) := by decide +kernel
theorem dX12_roomIs_4 : decode cX12_roomIs 4 = .ok (.ifCond .ne 5, 3) := by decide +kernel
theorem dX12_roomIs_7 : decode cX12_roomIs 7 = .ok (.iconst (-1), 1) := by decide +kernel
theorem dX12_roomIs_8 : decode cX12_roomIs 8 = .ok (.ireturn, 1) := by decide +kernel
theorem dX12_roomIs_9 : decode cX12_roomIs 9 = .ok (.aload_n 0, 1) := by decide +kernel
theorem dX12_roomIs_10 : decode cX12_roomIs 10 = .ok (.iload_n 1, 1) := by decide +kernel
theorem dX12_roomIs_11 : decode cX12_roomIs 11 = .ok (.invokevirtual 294, 3) := by decide +kernel
theorem dX12_roomIs_14 : decode cX12_roomIs 14 = .ok (.istore_n 3, 1) := by decide +kernel
theorem dX12_roomIs_15 : decode cX12_roomIs 15 = .ok (.iload_n 2, 1) := by decide +kernel
theorem dX12_roomIs_16 : decode cX12_roomIs 16 = .ok (.tableswitch 143 0 7 #[48, 75, 84, 94, 104, 114, 120, 141], 48) := by decide +kernel
theorem dX12_roomIs_64 : decode cX12_roomIs 64 = .ok (.aload_n 0, 1) := by decide +kernel
theorem dX12_roomIs_65 : decode cX12_roomIs 65 = .ok (.getfield 7, 3) := by decide +kernel
theorem dX12_roomIs_68 : decode cX12_roomIs 68 = .ok (.iconst 0, 1) := by decide +kernel
theorem dX12_roomIs_69 : decode cX12_roomIs 69 = .ok (.iload_n 1, 1) := by decide +kernel
theorem dX12_roomIs_70 : decode cX12_roomIs 70 = .ok (.iadd, 1) := by decide +kernel
theorem dX12_roomIs_71 : decode cX12_roomIs 71 = .ok (.iaload, 1) := by decide +kernel
theorem dX12_roomIs_72 : decode cX12_roomIs 72 = .ok (.iconst 1, 1) := by decide +kernel
theorem dX12_roomIs_73 : decode cX12_roomIs 73 = .ok (.if_icmp .ne 15, 3) := by decide +kernel
theorem dX12_roomIs_76 : decode cX12_roomIs 76 = .ok (.aload_n 0, 1) := by decide +kernel
theorem dX12_roomIs_77 : decode cX12_roomIs 77 = .ok (.getfield 7, 3) := by decide +kernel
theorem dX12_roomIs_80 : decode cX12_roomIs 80 = .ok (.bipush 24, 2) := by decide +kernel
theorem dX12_roomIs_82 : decode cX12_roomIs 82 = .ok (.iload_n 1, 1) := by decide +kernel
theorem dX12_roomIs_83 : decode cX12_roomIs 83 = .ok (.iadd, 1) := by decide +kernel
theorem dX12_roomIs_84 : decode cX12_roomIs 84 = .ok (.iaload, 1) := by decide +kernel
theorem dX12_roomIs_85 : decode cX12_roomIs 85 = .ok (.goto 5, 3) := by decide +kernel
theorem dX12_roomIs_88 : decode cX12_roomIs 88 = .ok (.bipush (-2), 2) := by decide +kernel
theorem dX12_roomIs_90 : decode cX12_roomIs 90 = .ok (.ireturn, 1) := by decide +kernel
theorem dX12_roomIs_91 : decode cX12_roomIs 91 = .ok (.aload_n 0, 1) := by decide +kernel
theorem dX12_roomIs_92 : decode cX12_roomIs 92 = .ok (.getfield 7, 3) := by decide +kernel
theorem dX12_roomIs_95 : decode cX12_roomIs 95 = .ok (.iconst 0, 1) := by decide +kernel
theorem dX12_roomIs_96 : decode cX12_roomIs 96 = .ok (.iload_n 1, 1) := by decide +kernel
theorem dX12_roomIs_97 : decode cX12_roomIs 97 = .ok (.iadd, 1) := by decide +kernel
theorem dX12_roomIs_98 : decode cX12_roomIs 98 = .ok (.iaload, 1) := by decide +kernel
theorem dX12_roomIs_99 : decode cX12_roomIs 99 = .ok (.ireturn, 1) := by decide +kernel
theorem dX12_roomIs_100 : decode cX12_roomIs 100 = .ok (.aload_n 0, 1) := by decide +kernel
theorem dX12_roomIs_101 : decode cX12_roomIs 101 = .ok (.getfield 7, 3) := by decide +kernel
theorem dX12_roomIs_104 : decode cX12_roomIs 104 = .ok (.bipush 48, 2) := by decide +kernel
theorem dX12_roomIs_106 : decode cX12_roomIs 106 = .ok (.iload_n 1, 1) := by decide +kernel
theorem dX12_roomIs_107 : decode cX12_roomIs 107 = .ok (.iadd, 1) := by decide +kernel
theorem dX12_roomIs_108 : decode cX12_roomIs 108 = .ok (.iaload, 1) := by decide +kernel
theorem dX12_roomIs_109 : decode cX12_roomIs 109 = .ok (.ireturn, 1) := by decide +kernel
theorem dX12_roomIs_110 : decode cX12_roomIs 110 = .ok (.aload_n 0, 1) := by decide +kernel
theorem dX12_roomIs_111 : decode cX12_roomIs 111 = .ok (.getfield 7, 3) := by decide +kernel
theorem dX12_roomIs_114 : decode cX12_roomIs 114 = .ok (.bipush 72, 2) := by decide +kernel
theorem dX12_roomIs_116 : decode cX12_roomIs 116 = .ok (.iload_n 1, 1) := by decide +kernel
theorem dX12_roomIs_117 : decode cX12_roomIs 117 = .ok (.iadd, 1) := by decide +kernel
theorem dX12_roomIs_118 : decode cX12_roomIs 118 = .ok (.iaload, 1) := by decide +kernel
theorem dX12_roomIs_119 : decode cX12_roomIs 119 = .ok (.ireturn, 1) := by decide +kernel
theorem dX12_roomIs_120 : decode cX12_roomIs 120 = .ok (.aload_n 0, 1) := by decide +kernel
theorem dX12_roomIs_121 : decode cX12_roomIs 121 = .ok (.getfield 7, 3) := by decide +kernel
theorem dX12_roomIs_124 : decode cX12_roomIs 124 = .ok (.bipush 96, 2) := by decide +kernel
theorem dX12_roomIs_126 : decode cX12_roomIs 126 = .ok (.iload_n 1, 1) := by decide +kernel
theorem dX12_roomIs_127 : decode cX12_roomIs 127 = .ok (.iadd, 1) := by decide +kernel
theorem dX12_roomIs_128 : decode cX12_roomIs 128 = .ok (.iaload, 1) := by decide +kernel
theorem dX12_roomIs_129 : decode cX12_roomIs 129 = .ok (.ireturn, 1) := by decide +kernel
theorem dX12_roomIs_130 : decode cX12_roomIs 130 = .ok (.aload_n 0, 1) := by decide +kernel
theorem dX12_roomIs_131 : decode cX12_roomIs 131 = .ok (.iload_n 1, 1) := by decide +kernel
theorem dX12_roomIs_132 : decode cX12_roomIs 132 = .ok (.invokevirtual 227, 3) := by decide +kernel
theorem dX12_roomIs_135 : decode cX12_roomIs 135 = .ok (.ireturn, 1) := by decide +kernel
theorem dX12_roomIs_136 : decode cX12_roomIs 136 = .ok (.iload_n 3, 1) := by decide +kernel
theorem dX12_roomIs_137 : decode cX12_roomIs 137 = .ok (.bipush (-2), 2) := by decide +kernel
theorem dX12_roomIs_139 : decode cX12_roomIs 139 = .ok (.if_icmp .ne 7, 3) := by decide +kernel
theorem dX12_roomIs_142 : decode cX12_roomIs 142 = .ok (.iconst 0, 1) := by decide +kernel
theorem dX12_roomIs_143 : decode cX12_roomIs 143 = .ok (.goto 13, 3) := by decide +kernel
theorem dX12_roomIs_146 : decode cX12_roomIs 146 = .ok (.aload_n 0, 1) := by decide +kernel
theorem dX12_roomIs_147 : decode cX12_roomIs 147 = .ok (.getfield 7, 3) := by decide +kernel
theorem dX12_roomIs_150 : decode cX12_roomIs 150 = .ok (.iload_n 1, 1) := by decide +kernel
theorem dX12_roomIs_151 : decode cX12_roomIs 151 = .ok (.iload_n 3, 1) := by decide +kernel
theorem dX12_roomIs_152 : decode cX12_roomIs 152 = .ok (.invokestatic 94, 3) := by decide +kernel
theorem dX12_roomIs_155 : decode cX12_roomIs 155 = .ok (.iaload, 1) := by decide +kernel
theorem dX12_roomIs_156 : decode cX12_roomIs 156 = .ok (.ireturn, 1) := by decide +kernel
theorem dX12_roomIs_157 : decode cX12_roomIs 157 = .ok (.iload_n 3, 1) := by decide +kernel
theorem dX12_roomIs_158 : decode cX12_roomIs 158 = .ok (.ireturn, 1) := by decide +kernel
theorem dX12_roomIs_159 : decode cX12_roomIs 159 = .ok (.iconst (-1), 1) := by decide +kernel
theorem dX12_roomIs_160 : decode cX12_roomIs 160 = .ok (.ireturn, 1) := by decide +kernel
theorem dX12_feels_0 : decode cX12_feels 0 = .ok (.iload_n 1, 1) := by decide +kernel
theorem dX12_feels_1 : decode cX12_feels 1 = .ok (.invokestatic 107, 3) := by decide +kernel
theorem dX12_feels_4 : decode cX12_feels 4 = .ok (.ifCond .eq 23, 3) := by decide +kernel
theorem dX12_feels_7 : decode cX12_feels 7 = .ok (.iload_n 2, 1) := by decide +kernel
theorem dX12_feels_8 : decode cX12_feels 8 = .ok (.invokestatic 107, 3) := by decide +kernel
theorem dX12_feels_11 : decode cX12_feels 11 = .ok (.ifCond .eq 16, 3) := by decide +kernel
theorem dX12_feels_14 : decode cX12_feels 14 = .ok (.aload_n 0, 1) := by decide +kernel
theorem dX12_feels_15 : decode cX12_feels 15 = .ok (.getfield 7, 3) := by decide +kernel
theorem dX12_feels_18 : decode cX12_feels 18 = .ok (.iload_n 1, 1) := by decide +kernel
theorem dX12_feels_19 : decode cX12_feels 19 = .ok (.iload_n 2, 1) := by decide +kernel
theorem dX12_feels_20 : decode cX12_feels 20 = .ok (.invokestatic 94, 3) := by decide +kernel
theorem dX12_feels_23 : decode cX12_feels 23 = .ok (.iaload, 1) := by decide +kernel
theorem dX12_feels_24 : decode cX12_feels 24 = .ok (.goto 4, 3) := by decide +kernel
theorem dX12_feels_27 : decode cX12_feels 27 = .ok (.iconst (-1), 1) := by decide +kernel
theorem dX12_feels_28 : decode cX12_feels 28 = .ok (.ireturn, 1) := by decide +kernel
theorem dX12_way_0 : decode cX12_way 0 = .ok (.iload_n 1, 1) := by decide +kernel
theorem dX12_way_1 : decode cX12_way 1 = .ok (.invokestatic 107, 3) := by decide +kernel
theorem dX12_way_4 : decode cX12_way 4 = .ok (.ifCond .ne 5, 3) := by decide +kernel
theorem dX12_way_7 : decode cX12_way 7 = .ok (.iconst (-1), 1) := by decide +kernel
theorem dX12_way_8 : decode cX12_way 8 = .ok (.ireturn, 1) := by decide +kernel
theorem dX12_way_9 : decode cX12_way 9 = .ok (.iload_n 2, 1) := by decide +kernel
theorem dX12_way_10 : decode cX12_way 10 = .ok (.iconst 0, 1) := by decide +kernel
theorem dX12_way_11 : decode cX12_way 11 = .ok (.iconst 5, 1) := by decide +kernel
theorem dX12_way_12 : decode cX12_way 12 = .ok (.iload_n 1, 1) := by decide +kernel
theorem dX12_way_13 : decode cX12_way 13 = .ok (.iconst 4, 1) := by decide +kernel
theorem dX12_way_14 : decode cX12_way 14 = .ok (.idiv, 1) := by decide +kernel
theorem dX12_way_15 : decode cX12_way 15 = .ok (.isub, 1) := by decide +kernel
theorem dX12_way_16 : decode cX12_way 16 = .ok (.invokestatic 90, 3) := by decide +kernel
theorem dX12_way_19 : decode cX12_way 19 = .ok (.ifCond .ne 6, 3) := by decide +kernel
theorem dX12_way_22 : decode cX12_way 22 = .ok (.bipush (-2), 2) := by decide +kernel
theorem dX12_way_24 : decode cX12_way 24 = .ok (.ireturn, 1) := by decide +kernel
theorem dX12_way_25 : decode cX12_way 25 = .ok (.iload_n 1, 1) := by decide +kernel
theorem dX12_way_26 : decode cX12_way 26 = .ok (.istore_n 3, 1) := by decide +kernel
theorem dX12_way_27 : decode cX12_way 27 = .ok (.iconst 0, 1) := by decide +kernel
theorem dX12_way_28 : decode cX12_way 28 = .ok (.istore 4, 2) := by decide +kernel
theorem dX12_way_30 : decode cX12_way 30 = .ok (.iload 4, 2) := by decide +kernel
theorem dX12_way_32 : decode cX12_way 32 = .ok (.iload_n 2, 1) := by decide +kernel
theorem dX12_way_33 : decode cX12_way 33 = .ok (.if_icmp .gt 15, 3) := by decide +kernel
theorem dX12_way_36 : decode cX12_way 36 = .ok (.aload_n 0, 1) := by decide +kernel
theorem dX12_way_37 : decode cX12_way 37 = .ok (.iload_n 3, 1) := by decide +kernel
theorem dX12_way_38 : decode cX12_way 38 = .ok (.invokevirtual 255, 3) := by decide +kernel
theorem dX12_way_41 : decode cX12_way 41 = .ok (.istore_n 3, 1) := by decide +kernel
theorem dX12_way_42 : decode cX12_way 42 = .ok (.iinc 4 1, 3) := by decide +kernel
theorem dX12_way_45 : decode cX12_way 45 = .ok (.goto (-15), 3) := by decide +kernel
theorem dX12_way_48 : decode cX12_way 48 = .ok (.iload_n 3, 1) := by decide +kernel
theorem dX12_way_49 : decode cX12_way 49 = .ok (.ireturn, 1) := by decide +kernel
theorem dX12_gcd_0 : decode cX12_gcd 0 = .ok (.iload_n 0, 1) := by decide +kernel
theorem dX12_gcd_1 : decode cX12_gcd 1 = .ok (.istore_n 2, 1) := by decide +kernel
theorem dX12_gcd_2 : decode cX12_gcd 2 = .ok (.iload_n 1, 1) := by decide +kernel
theorem dX12_gcd_3 : decode cX12_gcd 3 = .ok (.istore_n 3, 1) := by decide +kernel
theorem dX12_gcd_4 : decode cX12_gcd 4 = .ok (.iload_n 3, 1) := by decide +kernel
theorem dX12_gcd_5 : decode cX12_gcd 5 = .ok (.ifCond .eq 16, 3) := by decide +kernel
theorem dX12_gcd_8 : decode cX12_gcd 8 = .ok (.iload_n 2, 1) := by decide +kernel
theorem dX12_gcd_9 : decode cX12_gcd 9 = .ok (.iload_n 3, 1) := by decide +kernel
theorem dX12_gcd_10 : decode cX12_gcd 10 = .ok (.irem, 1) := by decide +kernel
theorem dX12_gcd_11 : decode cX12_gcd 11 = .ok (.istore 4, 2) := by decide +kernel
theorem dX12_gcd_13 : decode cX12_gcd 13 = .ok (.iload_n 3, 1) := by decide +kernel
theorem dX12_gcd_14 : decode cX12_gcd 14 = .ok (.istore_n 2, 1) := by decide +kernel
theorem dX12_gcd_15 : decode cX12_gcd 15 = .ok (.iload 4, 2) := by decide +kernel
theorem dX12_gcd_17 : decode cX12_gcd 17 = .ok (.istore_n 3, 1) := by decide +kernel
theorem dX12_gcd_18 : decode cX12_gcd 18 = .ok (.goto (-14), 3) := by decide +kernel
theorem dX12_gcd_21 : decode cX12_gcd 21 = .ok (.iload_n 2, 1) := by decide +kernel
theorem dX12_gcd_22 : decode cX12_gcd 22 = .ok (.ireturn, 1) := by decide +kernel
theorem dX12_odds_0 : decode cX12_odds 0 = .ok (.iload_n 1, 1) := by decide +kernel
theorem dX12_odds_1 : decode cX12_odds 1 = .ok (.invokestatic 107, 3) := by decide +kernel
theorem dX12_odds_4 : decode cX12_odds 4 = .ok (.ifCond .eq 33, 3) := by decide +kernel
theorem dX12_odds_7 : decode cX12_odds 7 = .ok (.iload_n 2, 1) := by decide +kernel
theorem dX12_odds_8 : decode cX12_odds 8 = .ok (.iconst 0, 1) := by decide +kernel
theorem dX12_odds_9 : decode cX12_odds 9 = .ok (.bipush 24, 2) := by decide +kernel
theorem dX12_odds_11 : decode cX12_odds 11 = .ok (.invokestatic 90, 3) := by decide +kernel
theorem dX12_odds_14 : decode cX12_odds 14 = .ok (.ifCond .eq 23, 3) := by decide +kernel
theorem dX12_odds_17 : decode cX12_odds 17 = .ok (.iload_n 3, 1) := by decide +kernel
theorem dX12_odds_18 : decode cX12_odds 18 = .ok (.iconst 0, 1) := by decide +kernel
theorem dX12_odds_19 : decode cX12_odds 19 = .ok (.bipush 10, 2) := by decide +kernel
theorem dX12_odds_21 : decode cX12_odds 21 = .ok (.invokestatic 90, 3) := by decide +kernel
theorem dX12_odds_24 : decode cX12_odds 24 = .ok (.ifCond .eq 13, 3) := by decide +kernel
theorem dX12_odds_27 : decode cX12_odds 27 = .ok (.iload 4, 2) := by decide +kernel
theorem dX12_odds_29 : decode cX12_odds 29 = .ok (.iconst 0, 1) := by decide +kernel
theorem dX12_odds_30 : decode cX12_odds 30 = .ok (.iconst 1, 1) := by decide +kernel
theorem dX12_odds_31 : decode cX12_odds 31 = .ok (.invokestatic 90, 3) := by decide +kernel
theorem dX12_odds_34 : decode cX12_odds 34 = .ok (.ifCond .ne 5, 3) := by decide +kernel
theorem dX12_odds_37 : decode cX12_odds 37 = .ok (.iconst (-1), 1) := by decide +kernel
theorem dX12_odds_38 : decode cX12_odds 38 = .ok (.ireturn, 1) := by decide +kernel
theorem dX12_odds_39 : decode cX12_odds 39 = .ok (.iconst 1, 1) := by decide +kernel
theorem dX12_odds_40 : decode cX12_odds 40 = .ok (.istore 5, 2) := by decide +kernel
theorem dX12_odds_42 : decode cX12_odds 42 = .ok (.iconst 1, 1) := by decide +kernel
theorem dX12_odds_43 : decode cX12_odds 43 = .ok (.istore 6, 2) := by decide +kernel
theorem dX12_odds_45 : decode cX12_odds 45 = .ok (.aload_n 0, 1) := by decide +kernel
theorem dX12_odds_46 : decode cX12_odds 46 = .ok (.iload_n 1, 1) := by decide +kernel
theorem dX12_odds_47 : decode cX12_odds 47 = .ok (.invokevirtual 255, 3) := by decide +kernel
theorem dX12_odds_50 : decode cX12_odds 50 = .ok (.istore 7, 2) := by decide +kernel
theorem dX12_odds_52 : decode cX12_odds 52 = .ok (.iload 7, 2) := by decide +kernel
theorem dX12_odds_54 : decode cX12_odds 54 = .ok (.bipush 24, 2) := by decide +kernel
theorem dX12_odds_56 : decode cX12_odds 56 = .ok (.if_icmp .eq 45, 3) := by decide +kernel
theorem dX12_odds_59 : decode cX12_odds 59 = .ok (.iload 7, 2) := by decide +kernel
theorem dX12_odds_61 : decode cX12_odds 61 = .ok (.iload_n 2, 1) := by decide +kernel
theorem dX12_odds_62 : decode cX12_odds 62 = .ok (.if_icmp .eq 39, 3) := by decide +kernel
theorem dX12_odds_65 : decode cX12_odds 65 = .ok (.aload_n 0, 1) := by decide +kernel
theorem dX12_odds_66 : decode cX12_odds 66 = .ok (.iload 7, 2) := by decide +kernel
theorem dX12_odds_68 : decode cX12_odds 68 = .ok (.invokevirtual 268, 3) := by decide +kernel
theorem dX12_odds_71 : decode cX12_odds 71 = .ok (.ifCond .eq 19, 3) := by decide +kernel
theorem dX12_odds_74 : decode cX12_odds 74 = .ok (.iload 5, 2) := by decide +kernel
theorem dX12_odds_76 : decode cX12_odds 76 = .ok (.bipush 10, 2) := by decide +kernel
theorem dX12_odds_78 : decode cX12_odds 78 = .ok (.iload_n 3, 1) := by decide +kernel
theorem dX12_odds_79 : decode cX12_odds 79 = .ok (.isub, 1) := by decide +kernel
theorem dX12_odds_80 : decode cX12_odds 80 = .ok (.imul, 1) := by decide +kernel
theorem dX12_odds_81 : decode cX12_odds 81 = .ok (.istore 5, 2) := by decide +kernel
theorem dX12_odds_83 : decode cX12_odds 83 = .ok (.iload 6, 2) := by decide +kernel
theorem dX12_odds_85 : decode cX12_odds 85 = .ok (.bipush 10, 2) := by decide +kernel
theorem dX12_odds_87 : decode cX12_odds 87 = .ok (.imul, 1) := by decide +kernel
theorem dX12_odds_88 : decode cX12_odds 88 = .ok (.istore 6, 2) := by decide +kernel
theorem dX12_odds_90 : decode cX12_odds 90 = .ok (.aload_n 0, 1) := by decide +kernel
theorem dX12_odds_91 : decode cX12_odds 91 = .ok (.iload 7, 2) := by decide +kernel
theorem dX12_odds_93 : decode cX12_odds 93 = .ok (.invokevirtual 255, 3) := by decide +kernel
theorem dX12_odds_96 : decode cX12_odds 96 = .ok (.istore 7, 2) := by decide +kernel
theorem dX12_odds_98 : decode cX12_odds 98 = .ok (.goto (-46), 3) := by decide +kernel
theorem dX12_odds_101 : decode cX12_odds 101 = .ok (.iload 7, 2) := by decide +kernel
theorem dX12_odds_103 : decode cX12_odds 103 = .ok (.iload_n 2, 1) := by decide +kernel
theorem dX12_odds_104 : decode cX12_odds 104 = .ok (.if_icmp .eq 6, 3) := by decide +kernel
theorem dX12_odds_107 : decode cX12_odds 107 = .ok (.iconst 0, 1) := by decide +kernel
theorem dX12_odds_108 : decode cX12_odds 108 = .ok (.istore 5, 2) := by decide +kernel
theorem dX12_odds_110 : decode cX12_odds 110 = .ok (.iload 7, 2) := by decide +kernel
theorem dX12_odds_112 : decode cX12_odds 112 = .ok (.iload_n 2, 1) := by decide +kernel
theorem dX12_odds_113 : decode cX12_odds 113 = .ok (.if_icmp .ne 34, 3) := by decide +kernel
theorem dX12_odds_116 : decode cX12_odds 116 = .ok (.iload_n 2, 1) := by decide +kernel
theorem dX12_odds_117 : decode cX12_odds 117 = .ok (.bipush 24, 2) := by decide +kernel
theorem dX12_odds_119 : decode cX12_odds 119 = .ok (.if_icmp .eq 28, 3) := by decide +kernel
theorem dX12_odds_122 : decode cX12_odds 122 = .ok (.aload_n 0, 1) := by decide +kernel
theorem dX12_odds_123 : decode cX12_odds 123 = .ok (.iload_n 2, 1) := by decide +kernel
theorem dX12_odds_124 : decode cX12_odds 124 = .ok (.invokevirtual 268, 3) := by decide +kernel
theorem dX12_odds_127 : decode cX12_odds 127 = .ok (.ifCond .eq 10, 3) := by decide +kernel
theorem dX12_odds_130 : decode cX12_odds 130 = .ok (.iload 5, 2) := by decide +kernel
theorem dX12_odds_132 : decode cX12_odds 132 = .ok (.iload_n 3, 1) := by decide +kernel
theorem dX12_odds_133 : decode cX12_odds 133 = .ok (.imul, 1) := by decide +kernel
theorem dX12_odds_134 : decode cX12_odds 134 = .ok (.goto 4, 3) := by decide +kernel
theorem dX12_odds_137 : decode cX12_odds 137 = .ok (.iconst 0, 1) := by decide +kernel
theorem dX12_odds_138 : decode cX12_odds 138 = .ok (.istore 5, 2) := by decide +kernel
theorem dX12_odds_140 : decode cX12_odds 140 = .ok (.iload 6, 2) := by decide +kernel
theorem dX12_odds_142 : decode cX12_odds 142 = .ok (.bipush 10, 2) := by decide +kernel
theorem dX12_odds_144 : decode cX12_odds 144 = .ok (.imul, 1) := by decide +kernel
theorem dX12_odds_145 : decode cX12_odds 145 = .ok (.istore 6, 2) := by decide +kernel
theorem dX12_odds_147 : decode cX12_odds 147 = .ok (.iload 6, 2) := by decide +kernel
theorem dX12_odds_149 : decode cX12_odds 149 = .ok (.iload 5, 2) := by decide +kernel
theorem dX12_odds_151 : decode cX12_odds 151 = .ok (.invokestatic 297, 3) := by decide +kernel
theorem dX12_odds_154 : decode cX12_odds 154 = .ok (.istore 8, 2) := by decide +kernel
theorem dX12_odds_156 : decode cX12_odds 156 = .ok (.iload 4, 2) := by decide +kernel
theorem dX12_odds_158 : decode cX12_odds 158 = .ok (.ifCond .ne 11, 3) := by decide +kernel
theorem dX12_odds_161 : decode cX12_odds 161 = .ok (.iload 5, 2) := by decide +kernel
theorem dX12_odds_163 : decode cX12_odds 163 = .ok (.iload 8, 2) := by decide +kernel
theorem dX12_odds_165 : decode cX12_odds 165 = .ok (.idiv, 1) := by decide +kernel
theorem dX12_odds_166 : decode cX12_odds 166 = .ok (.goto 8, 3) := by decide +kernel
theorem dX12_odds_169 : decode cX12_odds 169 = .ok (.iload 6, 2) := by decide +kernel
theorem dX12_odds_171 : decode cX12_odds 171 = .ok (.iload 8, 2) := by decide +kernel
theorem dX12_odds_173 : decode cX12_odds 173 = .ok (.idiv, 1) := by decide +kernel
theorem dX12_odds_174 : decode cX12_odds 174 = .ok (.ireturn, 1) := by decide +kernel
theorem dX12_passes_0 : decode cX12_passes 0 = .ok (.aload_n 0, 1) := by decide +kernel
theorem dX12_passes_1 : decode cX12_passes 1 = .ok (.iload_n 1, 1) := by decide +kernel
theorem dX12_passes_2 : decode cX12_passes 2 = .ok (.invokevirtual 255, 3) := by decide +kernel
theorem dX12_passes_5 : decode cX12_passes 5 = .ok (.istore_n 3, 1) := by decide +kernel
theorem dX12_passes_6 : decode cX12_passes 6 = .ok (.iload_n 3, 1) := by decide +kernel
theorem dX12_passes_7 : decode cX12_passes 7 = .ok (.bipush 24, 2) := by decide +kernel
theorem dX12_passes_9 : decode cX12_passes 9 = .ok (.if_icmp .eq 17, 3) := by decide +kernel
theorem dX12_passes_12 : decode cX12_passes 12 = .ok (.iload_n 3, 1) := by decide +kernel
theorem dX12_passes_13 : decode cX12_passes 13 = .ok (.iload_n 2, 1) := by decide +kernel
theorem dX12_passes_14 : decode cX12_passes 14 = .ok (.if_icmp .eq 12, 3) := by decide +kernel
theorem dX12_passes_17 : decode cX12_passes 17 = .ok (.aload_n 0, 1) := by decide +kernel
theorem dX12_passes_18 : decode cX12_passes 18 = .ok (.iload_n 3, 1) := by decide +kernel
theorem dX12_passes_19 : decode cX12_passes 19 = .ok (.invokevirtual 255, 3) := by decide +kernel
theorem dX12_passes_22 : decode cX12_passes 22 = .ok (.istore_n 3, 1) := by decide +kernel
theorem dX12_passes_23 : decode cX12_passes 23 = .ok (.goto (-17), 3) := by decide +kernel
theorem dX12_passes_26 : decode cX12_passes 26 = .ok (.iload_n 3, 1) := by decide +kernel
theorem dX12_passes_27 : decode cX12_passes 27 = .ok (.iload_n 2, 1) := by decide +kernel
theorem dX12_passes_28 : decode cX12_passes 28 = .ok (.if_icmp .ne 7, 3) := by decide +kernel
theorem dX12_passes_31 : decode cX12_passes 31 = .ok (.iconst 1, 1) := by decide +kernel
theorem dX12_passes_32 : decode cX12_passes 32 = .ok (.goto 4, 3) := by decide +kernel
theorem dX12_passes_35 : decode cX12_passes 35 = .ok (.iconst 0, 1) := by decide +kernel
theorem dX12_passes_36 : decode cX12_passes 36 = .ok (.ireturn, 1) := by decide +kernel
theorem dX12_fromWhere_0 : decode cX12_fromWhere 0 = .ok (.iload_n 1, 1) := by decide +kernel
theorem dX12_fromWhere_1 : decode cX12_fromWhere 1 = .ok (.invokestatic 107, 3) := by decide +kernel
theorem dX12_fromWhere_4 : decode cX12_fromWhere 4 = .ok (.ifCond .ne 5, 3) := by decide +kernel
theorem dX12_fromWhere_7 : decode cX12_fromWhere 7 = .ok (.iconst (-1), 1) := by decide +kernel
theorem dX12_fromWhere_8 : decode cX12_fromWhere 8 = .ok (.ireturn, 1) := by decide +kernel
theorem dX12_fromWhere_9 : decode cX12_fromWhere 9 = .ok (.iconst 0, 1) := by decide +kernel
theorem dX12_fromWhere_10 : decode cX12_fromWhere 10 = .ok (.istore_n 2, 1) := by decide +kernel
theorem dX12_fromWhere_11 : decode cX12_fromWhere 11 = .ok (.iconst 0, 1) := by decide +kernel
theorem dX12_fromWhere_12 : decode cX12_fromWhere 12 = .ok (.istore_n 3, 1) := by decide +kernel
theorem dX12_fromWhere_13 : decode cX12_fromWhere 13 = .ok (.iload_n 3, 1) := by decide +kernel
theorem dX12_fromWhere_14 : decode cX12_fromWhere 14 = .ok (.bipush 24, 2) := by decide +kernel
theorem dX12_fromWhere_16 : decode cX12_fromWhere 16 = .ok (.if_icmp .ge 24, 3) := by decide +kernel
theorem dX12_fromWhere_19 : decode cX12_fromWhere 19 = .ok (.aload_n 0, 1) := by decide +kernel
theorem dX12_fromWhere_20 : decode cX12_fromWhere 20 = .ok (.iload_n 3, 1) := by decide +kernel
theorem dX12_fromWhere_21 : decode cX12_fromWhere 21 = .ok (.iload_n 1, 1) := by decide +kernel
theorem dX12_fromWhere_22 : decode cX12_fromWhere 22 = .ok (.invokevirtual 300, 3) := by decide +kernel
theorem dX12_fromWhere_25 : decode cX12_fromWhere 25 = .ok (.ifCond .eq 9, 3) := by decide +kernel
theorem dX12_fromWhere_28 : decode cX12_fromWhere 28 = .ok (.iload_n 2, 1) := by decide +kernel
theorem dX12_fromWhere_29 : decode cX12_fromWhere 29 = .ok (.iconst 1, 1) := by decide +kernel
theorem dX12_fromWhere_30 : decode cX12_fromWhere 30 = .ok (.iload_n 3, 1) := by decide +kernel
theorem dX12_fromWhere_31 : decode cX12_fromWhere 31 = .ok (.ishl, 1) := by decide +kernel
theorem dX12_fromWhere_32 : decode cX12_fromWhere 32 = .ok (.ior, 1) := by decide +kernel
theorem dX12_fromWhere_33 : decode cX12_fromWhere 33 = .ok (.istore_n 2, 1) := by decide +kernel
theorem dX12_fromWhere_34 : decode cX12_fromWhere 34 = .ok (.iinc 3 1, 3) := by decide +kernel
theorem dX12_fromWhere_37 : decode cX12_fromWhere 37 = .ok (.goto (-24), 3) := by decide +kernel
theorem dX12_fromWhere_40 : decode cX12_fromWhere 40 = .ok (.iload_n 2, 1) := by decide +kernel
theorem dX12_fromWhere_41 : decode cX12_fromWhere 41 = .ok (.ireturn, 1) := by decide +kernel
theorem dX12_meet_0 : decode cX12_meet 0 = .ok (.iload_n 1, 1) := by decide +kernel
theorem dX12_meet_1 : decode cX12_meet 1 = .ok (.invokestatic 107, 3) := by decide +kernel
theorem dX12_meet_4 : decode cX12_meet 4 = .ok (.ifCond .eq 10, 3) := by decide +kernel
theorem dX12_meet_7 : decode cX12_meet 7 = .ok (.iload_n 2, 1) := by decide +kernel
theorem dX12_meet_8 : decode cX12_meet 8 = .ok (.invokestatic 107, 3) := by decide +kernel
theorem dX12_meet_11 : decode cX12_meet 11 = .ok (.ifCond .ne 5, 3) := by decide +kernel
theorem dX12_meet_14 : decode cX12_meet 14 = .ok (.iconst (-1), 1) := by decide +kernel
theorem dX12_meet_15 : decode cX12_meet 15 = .ok (.ireturn, 1) := by decide +kernel
theorem dX12_meet_16 : decode cX12_meet 16 = .ok (.iload_n 1, 1) := by decide +kernel
theorem dX12_meet_17 : decode cX12_meet 17 = .ok (.istore_n 3, 1) := by decide +kernel
theorem dX12_meet_18 : decode cX12_meet 18 = .ok (.iload_n 2, 1) := by decide +kernel
theorem dX12_meet_19 : decode cX12_meet 19 = .ok (.istore 4, 2) := by decide +kernel
theorem dX12_meet_21 : decode cX12_meet 21 = .ok (.iload_n 3, 1) := by decide +kernel
theorem dX12_meet_22 : decode cX12_meet 22 = .ok (.iload 4, 2) := by decide +kernel
theorem dX12_meet_24 : decode cX12_meet 24 = .ok (.if_icmp .eq 33, 3) := by decide +kernel
theorem dX12_meet_27 : decode cX12_meet 27 = .ok (.iload_n 3, 1) := by decide +kernel
theorem dX12_meet_28 : decode cX12_meet 28 = .ok (.iconst 4, 1) := by decide +kernel
theorem dX12_meet_29 : decode cX12_meet 29 = .ok (.idiv, 1) := by decide +kernel
theorem dX12_meet_30 : decode cX12_meet 30 = .ok (.iload 4, 2) := by decide +kernel
theorem dX12_meet_32 : decode cX12_meet 32 = .ok (.iconst 4, 1) := by decide +kernel
theorem dX12_meet_33 : decode cX12_meet 33 = .ok (.idiv, 1) := by decide +kernel
theorem dX12_meet_34 : decode cX12_meet 34 = .ok (.if_icmp .gt 12, 3) := by decide +kernel
theorem dX12_meet_37 : decode cX12_meet 37 = .ok (.aload_n 0, 1) := by decide +kernel
theorem dX12_meet_38 : decode cX12_meet 38 = .ok (.iload_n 3, 1) := by decide +kernel
theorem dX12_meet_39 : decode cX12_meet 39 = .ok (.invokevirtual 255, 3) := by decide +kernel
theorem dX12_meet_42 : decode cX12_meet 42 = .ok (.istore_n 3, 1) := by decide +kernel
theorem dX12_meet_43 : decode cX12_meet 43 = .ok (.goto (-22), 3) := by decide +kernel
theorem dX12_meet_46 : decode cX12_meet 46 = .ok (.aload_n 0, 1) := by decide +kernel
theorem dX12_meet_47 : decode cX12_meet 47 = .ok (.iload 4, 2) := by decide +kernel
theorem dX12_meet_49 : decode cX12_meet 49 = .ok (.invokevirtual 255, 3) := by decide +kernel
theorem dX12_meet_52 : decode cX12_meet 52 = .ok (.istore 4, 2) := by decide +kernel
theorem dX12_meet_54 : decode cX12_meet 54 = .ok (.goto (-33), 3) := by decide +kernel
theorem dX12_meet_57 : decode cX12_meet 57 = .ok (.iload_n 3, 1) := by decide +kernel
theorem dX12_meet_58 : decode cX12_meet 58 = .ok (.bipush 24, 2) := by decide +kernel
theorem dX12_meet_60 : decode cX12_meet 60 = .ok (.if_icmp .ne 8, 3) := by decide +kernel
theorem dX12_meet_63 : decode cX12_meet 63 = .ok (.bipush (-2), 2) := by decide +kernel
theorem dX12_meet_65 : decode cX12_meet 65 = .ok (.goto 4, 3) := by decide +kernel
theorem dX12_meet_68 : decode cX12_meet 68 = .ok (.iload_n 3, 1) := by decide +kernel
theorem dX12_meet_69 : decode cX12_meet 69 = .ok (.ireturn, 1) := by decide +kernel
theorem dX12_cowls_0 : decode cX12_cowls 0 = .ok (.iconst 0, 1) := by decide +kernel
theorem dX12_cowls_1 : decode cX12_cowls 1 = .ok (.istore_n 1, 1) := by decide +kernel
theorem dX12_cowls_2 : decode cX12_cowls 2 = .ok (.iconst 0, 1) := by decide +kernel
theorem dX12_cowls_3 : decode cX12_cowls 3 = .ok (.istore_n 2, 1) := by decide +kernel
theorem dX12_cowls_4 : decode cX12_cowls 4 = .ok (.iload_n 2, 1) := by decide +kernel
theorem dX12_cowls_5 : decode cX12_cowls 5 = .ok (.iconst 4, 1) := by decide +kernel
theorem dX12_cowls_6 : decode cX12_cowls 6 = .ok (.if_icmp .ge 20, 3) := by decide +kernel
theorem dX12_cowls_9 : decode cX12_cowls 9 = .ok (.iload_n 1, 1) := by decide +kernel
theorem dX12_cowls_10 : decode cX12_cowls 10 = .ok (.iconst 1, 1) := by decide +kernel
theorem dX12_cowls_11 : decode cX12_cowls 11 = .ok (.aload_n 0, 1) := by decide +kernel
theorem dX12_cowls_12 : decode cX12_cowls 12 = .ok (.iload_n 2, 1) := by decide +kernel
theorem dX12_cowls_13 : decode cX12_cowls 13 = .ok (.iconst 4, 1) := by decide +kernel
theorem dX12_cowls_14 : decode cX12_cowls 14 = .ok (.invokevirtual 303, 3) := by decide +kernel
theorem dX12_cowls_17 : decode cX12_cowls 17 = .ok (.ishl, 1) := by decide +kernel
theorem dX12_cowls_18 : decode cX12_cowls 18 = .ok (.ior, 1) := by decide +kernel
theorem dX12_cowls_19 : decode cX12_cowls 19 = .ok (.istore_n 1, 1) := by decide +kernel
theorem dX12_cowls_20 : decode cX12_cowls 20 = .ok (.iinc 2 1, 3) := by decide +kernel
theorem dX12_cowls_23 : decode cX12_cowls 23 = .ok (.goto (-19), 3) := by decide +kernel
theorem dX12_cowls_26 : decode cX12_cowls 26 = .ok (.iload_n 1, 1) := by decide +kernel
theorem dX12_cowls_27 : decode cX12_cowls 27 = .ok (.invokestatic 306, 3) := by decide +kernel
theorem dX12_cowls_30 : decode cX12_cowls 30 = .ok (.ireturn, 1) := by decide +kernel
theorem dX12_leads_0 : decode cX12_leads 0 = .ok (.iload_n 0, 1) := by decide +kernel
theorem dX12_leads_1 : decode cX12_leads 1 = .ok (.iload_n 1, 1) := by decide +kernel
theorem dX12_leads_2 : decode cX12_leads 2 = .ok (.invokestatic 104, 3) := by decide +kernel
theorem dX12_leads_5 : decode cX12_leads 5 = .ok (.iload_n 2, 1) := by decide +kernel
theorem dX12_leads_6 : decode cX12_leads 6 = .ok (.if_icmp .ne 7, 3) := by decide +kernel
theorem dX12_leads_9 : decode cX12_leads 9 = .ok (.iconst 1, 1) := by decide +kernel
theorem dX12_leads_10 : decode cX12_leads 10 = .ok (.goto 4, 3) := by decide +kernel
theorem dX12_leads_13 : decode cX12_leads 13 = .ok (.iconst 0, 1) := by decide +kernel
theorem dX12_leads_14 : decode cX12_leads 14 = .ok (.ireturn, 1) := by decide +kernel
theorem dX12_costOf_0 : decode cX12_costOf 0 = .ok (.iload_n 1, 1) := by decide +kernel
theorem dX12_costOf_1 : decode cX12_costOf 1 = .ok (.iconst 4, 1) := by decide +kernel
theorem dX12_costOf_2 : decode cX12_costOf 2 = .ok (.irem, 1) := by decide +kernel
theorem dX12_costOf_3 : decode cX12_costOf 3 = .ok (.aload_n 0, 1) := by decide +kernel
theorem dX12_costOf_4 : decode cX12_costOf 4 = .ok (.getfield 7, 3) := by decide +kernel
theorem dX12_costOf_7 : decode cX12_costOf 7 = .ok (.bipush 72, 2) := by decide +kernel
theorem dX12_costOf_9 : decode cX12_costOf 9 = .ok (.iload_n 1, 1) := by decide +kernel
theorem dX12_costOf_10 : decode cX12_costOf 10 = .ok (.iadd, 1) := by decide +kernel
theorem dX12_costOf_11 : decode cX12_costOf 11 = .ok (.iaload, 1) := by decide +kernel
theorem dX12_costOf_12 : decode cX12_costOf 12 = .ok (.iload_n 2, 1) := by decide +kernel
theorem dX12_costOf_13 : decode cX12_costOf 13 = .ok (.invokestatic 309, 3) := by decide +kernel
theorem dX12_costOf_16 : decode cX12_costOf 16 = .ok (.ifCond .eq 5, 3) := by decide +kernel
theorem dX12_costOf_19 : decode cX12_costOf 19 = .ok (.iconst 0, 1) := by decide +kernel
theorem dX12_costOf_20 : decode cX12_costOf 20 = .ok (.ireturn, 1) := by decide +kernel
theorem dX12_costOf_21 : decode cX12_costOf 21 = .ok (.iload_n 1, 1) := by decide +kernel
theorem dX12_costOf_22 : decode cX12_costOf 22 = .ok (.iconst 4, 1) := by decide +kernel
theorem dX12_costOf_23 : decode cX12_costOf 23 = .ok (.irem, 1) := by decide +kernel
theorem dX12_costOf_24 : decode cX12_costOf 24 = .ok (.iconst 0, 1) := by decide +kernel
theorem dX12_costOf_25 : decode cX12_costOf 25 = .ok (.iload_n 2, 1) := by decide +kernel
theorem dX12_costOf_26 : decode cX12_costOf 26 = .ok (.invokestatic 309, 3) := by decide +kernel
theorem dX12_costOf_29 : decode cX12_costOf 29 = .ok (.ifCond .ne 25, 3) := by decide +kernel
theorem dX12_costOf_32 : decode cX12_costOf 32 = .ok (.iload_n 1, 1) := by decide +kernel
theorem dX12_costOf_33 : decode cX12_costOf 33 = .ok (.iconst 4, 1) := by decide +kernel
theorem dX12_costOf_34 : decode cX12_costOf 34 = .ok (.irem, 1) := by decide +kernel
theorem dX12_costOf_35 : decode cX12_costOf 35 = .ok (.iconst 1, 1) := by decide +kernel
theorem dX12_costOf_36 : decode cX12_costOf 36 = .ok (.iload_n 2, 1) := by decide +kernel
theorem dX12_costOf_37 : decode cX12_costOf 37 = .ok (.invokestatic 309, 3) := by decide +kernel
theorem dX12_costOf_40 : decode cX12_costOf 40 = .ok (.ifCond .ne 14, 3) := by decide +kernel
theorem dX12_costOf_43 : decode cX12_costOf 43 = .ok (.iload_n 1, 1) := by decide +kernel
theorem dX12_costOf_44 : decode cX12_costOf 44 = .ok (.iconst 4, 1) := by decide +kernel
theorem dX12_costOf_45 : decode cX12_costOf 45 = .ok (.irem, 1) := by decide +kernel
theorem dX12_costOf_46 : decode cX12_costOf 46 = .ok (.iconst 2, 1) := by decide +kernel
theorem dX12_costOf_47 : decode cX12_costOf 47 = .ok (.iload_n 2, 1) := by decide +kernel
theorem dX12_costOf_48 : decode cX12_costOf 48 = .ok (.invokestatic 309, 3) := by decide +kernel
theorem dX12_costOf_51 : decode cX12_costOf 51 = .ok (.ifCond .eq 7, 3) := by decide +kernel
theorem dX12_costOf_54 : decode cX12_costOf 54 = .ok (.iconst 1, 1) := by decide +kernel
theorem dX12_costOf_55 : decode cX12_costOf 55 = .ok (.goto 4, 3) := by decide +kernel
theorem dX12_costOf_58 : decode cX12_costOf 58 = .ok (.iconst 0, 1) := by decide +kernel
theorem dX12_costOf_59 : decode cX12_costOf 59 = .ok (.istore_n 3, 1) := by decide +kernel
theorem dX12_costOf_60 : decode cX12_costOf 60 = .ok (.iload_n 3, 1) := by decide +kernel
theorem dX12_costOf_61 : decode cX12_costOf 61 = .ok (.ifCond .eq 7, 3) := by decide +kernel
theorem dX12_costOf_64 : decode cX12_costOf 64 = .ok (.iconst 1, 1) := by decide +kernel
theorem dX12_costOf_65 : decode cX12_costOf 65 = .ok (.goto 6, 3) := by decide +kernel
theorem dX12_costOf_68 : decode cX12_costOf 68 = .ok (.ldc_w 312, 3) := by decide +kernel
theorem dX12_costOf_71 : decode cX12_costOf 71 = .ok (.ireturn, 1) := by decide +kernel
theorem dX12_laysFewest_0 : decode cX12_laysFewest 0 = .ok (.iconst 0, 1) := by decide +kernel
theorem dX12_laysFewest_1 : decode cX12_laysFewest 1 = .ok (.istore_n 2, 1) := by decide +kernel
theorem dX12_laysFewest_2 : decode cX12_laysFewest 2 = .ok (.iload_n 2, 1) := by decide +kernel
theorem dX12_laysFewest_3 : decode cX12_laysFewest 3 = .ok (.bipush 24, 2) := by decide +kernel
theorem dX12_laysFewest_5 : decode cX12_laysFewest 5 = .ok (.if_icmp .ge 25, 3) := by decide +kernel
theorem dX12_laysFewest_8 : decode cX12_laysFewest 8 = .ok (.aload_n 0, 1) := by decide +kernel
theorem dX12_laysFewest_9 : decode cX12_laysFewest 9 = .ok (.getfield 62, 3) := by decide +kernel
theorem dX12_laysFewest_12 : decode cX12_laysFewest 12 = .ok (.iload_n 2, 1) := by decide +kernel
theorem dX12_laysFewest_13 : decode cX12_laysFewest 13 = .ok (.ldc_w 312, 3) := by decide +kernel
theorem dX12_laysFewest_16 : decode cX12_laysFewest 16 = .ok (.iastore, 1) := by decide +kernel
theorem dX12_laysFewest_17 : decode cX12_laysFewest 17 = .ok (.aload_n 0, 1) := by decide +kernel
theorem dX12_laysFewest_18 : decode cX12_laysFewest 18 = .ok (.getfield 65, 3) := by decide +kernel
theorem dX12_laysFewest_21 : decode cX12_laysFewest 21 = .ok (.iload_n 2, 1) := by decide +kernel
theorem dX12_laysFewest_22 : decode cX12_laysFewest 22 = .ok (.iconst 0, 1) := by decide +kernel
theorem dX12_laysFewest_23 : decode cX12_laysFewest 23 = .ok (.iastore, 1) := by decide +kernel
theorem dX12_laysFewest_24 : decode cX12_laysFewest 24 = .ok (.iinc 2 1, 3) := by decide +kernel
theorem dX12_laysFewest_27 : decode cX12_laysFewest 27 = .ok (.goto (-25), 3) := by decide +kernel
theorem dX12_laysFewest_30 : decode cX12_laysFewest 30 = .ok (.aload_n 0, 1) := by decide +kernel
theorem dX12_laysFewest_31 : decode cX12_laysFewest 31 = .ok (.getfield 62, 3) := by decide +kernel
theorem dX12_laysFewest_34 : decode cX12_laysFewest 34 = .ok (.iload_n 1, 1) := by decide +kernel
theorem dX12_laysFewest_35 : decode cX12_laysFewest 35 = .ok (.iconst 0, 1) := by decide +kernel
theorem dX12_laysFewest_36 : decode cX12_laysFewest 36 = .ok (.iastore, 1) := by decide +kernel
theorem dX12_laysFewest_37 : decode cX12_laysFewest 37 = .ok (.aload_n 0, 1) := by decide +kernel
theorem dX12_laysFewest_38 : decode cX12_laysFewest 38 = .ok (.getfield 65, 3) := by decide +kernel
theorem dX12_laysFewest_41 : decode cX12_laysFewest 41 = .ok (.iload_n 1, 1) := by decide +kernel
theorem dX12_laysFewest_42 : decode cX12_laysFewest 42 = .ok (.iconst 1, 1) := by decide +kernel
theorem dX12_laysFewest_43 : decode cX12_laysFewest 43 = .ok (.iastore, 1) := by decide +kernel
theorem dX12_laysFewest_44 : decode cX12_laysFewest 44 = .ok (.iload_n 1, 1) := by decide +kernel
theorem dX12_laysFewest_45 : decode cX12_laysFewest 45 = .ok (.iconst 4, 1) := by decide +kernel
theorem dX12_laysFewest_46 : decode cX12_laysFewest 46 = .ok (.idiv, 1) := by decide +kernel
theorem dX12_laysFewest_47 : decode cX12_laysFewest 47 = .ok (.iconst 4, 1) := by decide +kernel
theorem dX12_laysFewest_48 : decode cX12_laysFewest 48 = .ok (.imul, 1) := by decide +kernel
theorem dX12_laysFewest_49 : decode cX12_laysFewest 49 = .ok (.iconst 1, 1) := by decide +kernel
theorem dX12_laysFewest_50 : decode cX12_laysFewest 50 = .ok (.isub, 1) := by decide +kernel
theorem dX12_laysFewest_51 : decode cX12_laysFewest 51 = .ok (.istore_n 2, 1) := by decide +kernel
theorem dX12_laysFewest_52 : decode cX12_laysFewest 52 = .ok (.iload_n 2, 1) := by decide +kernel
theorem dX12_laysFewest_53 : decode cX12_laysFewest 53 = .ok (.ifCond .lt 94, 3) := by decide +kernel
theorem dX12_laysFewest_56 : decode cX12_laysFewest 56 = .ok (.iconst 0, 1) := by decide +kernel
theorem dX12_laysFewest_57 : decode cX12_laysFewest 57 = .ok (.istore_n 3, 1) := by decide +kernel
theorem dX12_laysFewest_58 : decode cX12_laysFewest 58 = .ok (.iload_n 3, 1) := by decide +kernel
theorem dX12_laysFewest_59 : decode cX12_laysFewest 59 = .ok (.iconst 4, 1) := by decide +kernel
theorem dX12_laysFewest_60 : decode cX12_laysFewest 60 = .ok (.if_icmp .ge 81, 3) := by decide +kernel
theorem dX12_laysFewest_63 : decode cX12_laysFewest 63 = .ok (.iload_n 2, 1) := by decide +kernel
theorem dX12_laysFewest_64 : decode cX12_laysFewest 64 = .ok (.iconst 4, 1) := by decide +kernel
theorem dX12_laysFewest_65 : decode cX12_laysFewest 65 = .ok (.idiv, 1) := by decide +kernel
theorem dX12_laysFewest_66 : decode cX12_laysFewest 66 = .ok (.iconst 4, 1) := by decide +kernel
theorem dX12_laysFewest_67 : decode cX12_laysFewest 67 = .ok (.imul, 1) := by decide +kernel
theorem dX12_laysFewest_68 : decode cX12_laysFewest 68 = .ok (.iconst 4, 1) := by decide +kernel
theorem dX12_laysFewest_69 : decode cX12_laysFewest 69 = .ok (.iadd, 1) := by decide +kernel
theorem dX12_laysFewest_70 : decode cX12_laysFewest 70 = .ok (.iload_n 3, 1) := by decide +kernel
theorem dX12_laysFewest_71 : decode cX12_laysFewest 71 = .ok (.iadd, 1) := by decide +kernel
theorem dX12_laysFewest_72 : decode cX12_laysFewest 72 = .ok (.istore 4, 2) := by decide +kernel
theorem dX12_laysFewest_74 : decode cX12_laysFewest 74 = .ok (.aload_n 0, 1) := by decide +kernel
theorem dX12_laysFewest_75 : decode cX12_laysFewest 75 = .ok (.getfield 62, 3) := by decide +kernel
theorem dX12_laysFewest_78 : decode cX12_laysFewest 78 = .ok (.iload_n 2, 1) := by decide +kernel
theorem dX12_laysFewest_79 : decode cX12_laysFewest 79 = .ok (.aload_n 0, 1) := by decide +kernel
theorem dX12_laysFewest_80 : decode cX12_laysFewest 80 = .ok (.getfield 62, 3) := by decide +kernel
theorem dX12_laysFewest_83 : decode cX12_laysFewest 83 = .ok (.iload_n 2, 1) := by decide +kernel
theorem dX12_laysFewest_84 : decode cX12_laysFewest 84 = .ok (.iaload, 1) := by decide +kernel
theorem dX12_laysFewest_85 : decode cX12_laysFewest 85 = .ok (.aload_n 0, 1) := by decide +kernel
theorem dX12_laysFewest_86 : decode cX12_laysFewest 86 = .ok (.iload_n 2, 1) := by decide +kernel
theorem dX12_laysFewest_87 : decode cX12_laysFewest 87 = .ok (.iload_n 3, 1) := by decide +kernel
theorem dX12_laysFewest_88 : decode cX12_laysFewest 88 = .ok (.invokevirtual 313, 3) := by decide +kernel
theorem dX12_laysFewest_91 : decode cX12_laysFewest 91 = .ok (.aload_n 0, 1) := by decide +kernel
theorem dX12_laysFewest_92 : decode cX12_laysFewest 92 = .ok (.getfield 62, 3) := by decide +kernel
theorem dX12_laysFewest_95 : decode cX12_laysFewest 95 = .ok (.iload 4, 2) := by decide +kernel
theorem dX12_laysFewest_97 : decode cX12_laysFewest 97 = .ok (.iaload, 1) := by decide +kernel
theorem dX12_laysFewest_98 : decode cX12_laysFewest 98 = .ok (.iadd, 1) := by decide +kernel
theorem dX12_laysFewest_99 : decode cX12_laysFewest 99 = .ok (.invokestatic 98, 3) := by decide +kernel
theorem dX12_laysFewest_102 : decode cX12_laysFewest 102 = .ok (.iastore, 1) := by decide +kernel
theorem dX12_laysFewest_103 : decode cX12_laysFewest 103 = .ok (.aload_n 0, 1) := by decide +kernel
theorem dX12_laysFewest_104 : decode cX12_laysFewest 104 = .ok (.iload_n 2, 1) := by decide +kernel
theorem dX12_laysFewest_105 : decode cX12_laysFewest 105 = .ok (.iload_n 3, 1) := by decide +kernel
theorem dX12_laysFewest_106 : decode cX12_laysFewest 106 = .ok (.invokevirtual 313, 3) := by decide +kernel
theorem dX12_laysFewest_109 : decode cX12_laysFewest 109 = .ok (.ldc_w 312, 3) := by decide +kernel
theorem dX12_laysFewest_112 : decode cX12_laysFewest 112 = .ok (.if_icmp .ge 23, 3) := by decide +kernel
theorem dX12_laysFewest_115 : decode cX12_laysFewest 115 = .ok (.aload_n 0, 1) := by decide +kernel
theorem dX12_laysFewest_116 : decode cX12_laysFewest 116 = .ok (.getfield 65, 3) := by decide +kernel
theorem dX12_laysFewest_119 : decode cX12_laysFewest 119 = .ok (.iload_n 2, 1) := by decide +kernel
theorem dX12_laysFewest_120 : decode cX12_laysFewest 120 = .ok (.aload_n 0, 1) := by decide +kernel
theorem dX12_laysFewest_121 : decode cX12_laysFewest 121 = .ok (.getfield 65, 3) := by decide +kernel
theorem dX12_laysFewest_124 : decode cX12_laysFewest 124 = .ok (.iload_n 2, 1) := by decide +kernel
theorem dX12_laysFewest_125 : decode cX12_laysFewest 125 = .ok (.iaload, 1) := by decide +kernel
theorem dX12_laysFewest_126 : decode cX12_laysFewest 126 = .ok (.aload_n 0, 1) := by decide +kernel
theorem dX12_laysFewest_127 : decode cX12_laysFewest 127 = .ok (.getfield 65, 3) := by decide +kernel
theorem dX12_laysFewest_130 : decode cX12_laysFewest 130 = .ok (.iload 4, 2) := by decide +kernel
theorem dX12_laysFewest_132 : decode cX12_laysFewest 132 = .ok (.iaload, 1) := by decide +kernel
theorem dX12_laysFewest_133 : decode cX12_laysFewest 133 = .ok (.iadd, 1) := by decide +kernel
theorem dX12_laysFewest_134 : decode cX12_laysFewest 134 = .ok (.iastore, 1) := by decide +kernel
theorem dX12_laysFewest_135 : decode cX12_laysFewest 135 = .ok (.iinc 3 1, 3) := by decide +kernel
theorem dX12_laysFewest_138 : decode cX12_laysFewest 138 = .ok (.goto (-80), 3) := by decide +kernel
theorem dX12_laysFewest_141 : decode cX12_laysFewest 141 = .ok (.iinc 2 (-1), 3) := by decide +kernel
theorem dX12_laysFewest_144 : decode cX12_laysFewest 144 = .ok (.goto (-92), 3) := by decide +kernel
theorem dX12_laysFewest_147 : decode cX12_laysFewest 147 = .ok (.return_, 1) := by decide +kernel
theorem dX12_turn_0 : decode cX12_turn 0 = .ok (.iload_n 1, 1) := by decide +kernel
theorem dX12_turn_1 : decode cX12_turn 1 = .ok (.invokestatic 107, 3) := by decide +kernel
theorem dX12_turn_4 : decode cX12_turn 4 = .ok (.ifCond .eq 34, 3) := by decide +kernel
theorem dX12_turn_7 : decode cX12_turn 7 = .ok (.iload_n 2, 1) := by decide +kernel
theorem dX12_turn_8 : decode cX12_turn 8 = .ok (.invokestatic 107, 3) := by decide +kernel
theorem dX12_turn_11 : decode cX12_turn 11 = .ok (.ifCond .eq 27, 3) := by decide +kernel
theorem dX12_turn_14 : decode cX12_turn 14 = .ok (.iload_n 2, 1) := by decide +kernel
theorem dX12_turn_15 : decode cX12_turn 15 = .ok (.iconst 4, 1) := by decide +kernel
theorem dX12_turn_16 : decode cX12_turn 16 = .ok (.idiv, 1) := by decide +kernel
theorem dX12_turn_17 : decode cX12_turn 17 = .ok (.iload_n 1, 1) := by decide +kernel
theorem dX12_turn_18 : decode cX12_turn 18 = .ok (.iconst 4, 1) := by decide +kernel
theorem dX12_turn_19 : decode cX12_turn 19 = .ok (.idiv, 1) := by decide +kernel
theorem dX12_turn_20 : decode cX12_turn 20 = .ok (.if_icmp .le 18, 3) := by decide +kernel
theorem dX12_turn_23 : decode cX12_turn 23 = .ok (.iload_n 3, 1) := by decide +kernel
theorem dX12_turn_24 : decode cX12_turn 24 = .ok (.iconst 0, 1) := by decide +kernel
theorem dX12_turn_25 : decode cX12_turn 25 = .ok (.iconst 4, 1) := by decide +kernel
theorem dX12_turn_26 : decode cX12_turn 26 = .ok (.invokestatic 90, 3) := by decide +kernel
theorem dX12_turn_29 : decode cX12_turn 29 = .ok (.ifCond .ne 11, 3) := by decide +kernel
theorem dX12_turn_32 : decode cX12_turn 32 = .ok (.iload_n 3, 1) := by decide +kernel
theorem dX12_turn_33 : decode cX12_turn 33 = .ok (.bipush 100, 2) := by decide +kernel
theorem dX12_turn_35 : decode cX12_turn 35 = .ok (.if_icmp .eq 5, 3) := by decide +kernel
theorem dX12_turn_38 : decode cX12_turn 38 = .ok (.iconst (-1), 1) := by decide +kernel
theorem dX12_turn_39 : decode cX12_turn 39 = .ok (.ireturn, 1) := by decide +kernel
theorem dX12_turn_40 : decode cX12_turn 40 = .ok (.aload_n 0, 1) := by decide +kernel
theorem dX12_turn_41 : decode cX12_turn 41 = .ok (.iload_n 2, 1) := by decide +kernel
theorem dX12_turn_42 : decode cX12_turn 42 = .ok (.invokevirtual 316, 3) := by decide +kernel
theorem dX12_turn_45 : decode cX12_turn 45 = .ok (.aload_n 0, 1) := by decide +kernel
theorem dX12_turn_46 : decode cX12_turn 46 = .ok (.getfield 62, 3) := by decide +kernel
theorem dX12_turn_49 : decode cX12_turn 49 = .ok (.iload_n 1, 1) := by decide +kernel
theorem dX12_turn_50 : decode cX12_turn 50 = .ok (.iaload, 1) := by decide +kernel
theorem dX12_turn_51 : decode cX12_turn 51 = .ok (.ldc_w 312, 3) := by decide +kernel
theorem dX12_turn_54 : decode cX12_turn 54 = .ok (.if_icmp .lt 6, 3) := by decide +kernel
theorem dX12_turn_57 : decode cX12_turn 57 = .ok (.bipush (-2), 2) := by decide +kernel
theorem dX12_turn_59 : decode cX12_turn 59 = .ok (.ireturn, 1) := by decide +kernel
theorem dX12_turn_60 : decode cX12_turn 60 = .ok (.iload_n 3, 1) := by decide +kernel
theorem dX12_turn_61 : decode cX12_turn 61 = .ok (.bipush 100, 2) := by decide +kernel
theorem dX12_turn_63 : decode cX12_turn 63 = .ok (.if_icmp .ne 10, 3) := by decide +kernel
theorem dX12_turn_66 : decode cX12_turn 66 = .ok (.aload_n 0, 1) := by decide +kernel
theorem dX12_turn_67 : decode cX12_turn 67 = .ok (.getfield 62, 3) := by decide +kernel
theorem dX12_turn_70 : decode cX12_turn 70 = .ok (.iload_n 1, 1) := by decide +kernel
theorem dX12_turn_71 : decode cX12_turn 71 = .ok (.iaload, 1) := by decide +kernel
theorem dX12_turn_72 : decode cX12_turn 72 = .ok (.ireturn, 1) := by decide +kernel
theorem dX12_turn_73 : decode cX12_turn 73 = .ok (.iload_n 3, 1) := by decide +kernel
theorem dX12_turn_74 : decode cX12_turn 74 = .ok (.iload_n 2, 1) := by decide +kernel
theorem dX12_turn_75 : decode cX12_turn 75 = .ok (.iconst 4, 1) := by decide +kernel
theorem dX12_turn_76 : decode cX12_turn 76 = .ok (.idiv, 1) := by decide +kernel
theorem dX12_turn_77 : decode cX12_turn 77 = .ok (.iload_n 1, 1) := by decide +kernel
theorem dX12_turn_78 : decode cX12_turn 78 = .ok (.iconst 4, 1) := by decide +kernel
theorem dX12_turn_79 : decode cX12_turn 79 = .ok (.idiv, 1) := by decide +kernel
theorem dX12_turn_80 : decode cX12_turn 80 = .ok (.isub, 1) := by decide +kernel
theorem dX12_turn_81 : decode cX12_turn 81 = .ok (.if_icmp .lt 6, 3) := by decide +kernel
theorem dX12_turn_84 : decode cX12_turn 84 = .ok (.bipush (-4), 2) := by decide +kernel
theorem dX12_turn_86 : decode cX12_turn 86 = .ok (.ireturn, 1) := by decide +kernel
theorem dX12_turn_87 : decode cX12_turn 87 = .ok (.iload_n 1, 1) := by decide +kernel
theorem dX12_turn_88 : decode cX12_turn 88 = .ok (.istore 4, 2) := by decide +kernel
theorem dX12_turn_90 : decode cX12_turn 90 = .ok (.iconst 0, 1) := by decide +kernel
theorem dX12_turn_91 : decode cX12_turn 91 = .ok (.istore 5, 2) := by decide +kernel
theorem dX12_turn_93 : decode cX12_turn 93 = .ok (.iload 5, 2) := by decide +kernel
theorem dX12_turn_95 : decode cX12_turn 95 = .ok (.iload_n 3, 1) := by decide +kernel
theorem dX12_turn_96 : decode cX12_turn 96 = .ok (.if_icmp .gt 69, 3) := by decide +kernel
theorem dX12_turn_99 : decode cX12_turn 99 = .ok (.iconst 0, 1) := by decide +kernel
theorem dX12_turn_100 : decode cX12_turn 100 = .ok (.istore 6, 2) := by decide +kernel
theorem dX12_turn_102 : decode cX12_turn 102 = .ok (.aload_n 0, 1) := by decide +kernel
theorem dX12_turn_103 : decode cX12_turn 103 = .ok (.iload 4, 2) := by decide +kernel
theorem dX12_turn_105 : decode cX12_turn 105 = .ok (.iload 6, 2) := by decide +kernel
theorem dX12_turn_107 : decode cX12_turn 107 = .ok (.invokevirtual 313, 3) := by decide +kernel
theorem dX12_turn_110 : decode cX12_turn 110 = .ok (.aload_n 0, 1) := by decide +kernel
theorem dX12_turn_111 : decode cX12_turn 111 = .ok (.getfield 62, 3) := by decide +kernel
theorem dX12_turn_114 : decode cX12_turn 114 = .ok (.iload 4, 2) := by decide +kernel
theorem dX12_turn_116 : decode cX12_turn 116 = .ok (.iconst 4, 1) := by decide +kernel
theorem dX12_turn_117 : decode cX12_turn 117 = .ok (.idiv, 1) := by decide +kernel
theorem dX12_turn_118 : decode cX12_turn 118 = .ok (.iconst 4, 1) := by decide +kernel
theorem dX12_turn_119 : decode cX12_turn 119 = .ok (.imul, 1) := by decide +kernel
theorem dX12_turn_120 : decode cX12_turn 120 = .ok (.iconst 4, 1) := by decide +kernel
theorem dX12_turn_121 : decode cX12_turn 121 = .ok (.iadd, 1) := by decide +kernel
theorem dX12_turn_122 : decode cX12_turn 122 = .ok (.iload 6, 2) := by decide +kernel
theorem dX12_turn_124 : decode cX12_turn 124 = .ok (.iadd, 1) := by decide +kernel
theorem dX12_turn_125 : decode cX12_turn 125 = .ok (.iaload, 1) := by decide +kernel
theorem dX12_turn_126 : decode cX12_turn 126 = .ok (.iadd, 1) := by decide +kernel
theorem dX12_turn_127 : decode cX12_turn 127 = .ok (.aload_n 0, 1) := by decide +kernel
theorem dX12_turn_128 : decode cX12_turn 128 = .ok (.getfield 62, 3) := by decide +kernel
theorem dX12_turn_131 : decode cX12_turn 131 = .ok (.iload 4, 2) := by decide +kernel
theorem dX12_turn_133 : decode cX12_turn 133 = .ok (.iaload, 1) := by decide +kernel
theorem dX12_turn_134 : decode cX12_turn 134 = .ok (.if_icmp .eq 12, 3) := by decide +kernel
theorem dX12_turn_137 : decode cX12_turn 137 = .ok (.iload 6, 2) := by decide +kernel
theorem dX12_turn_139 : decode cX12_turn 139 = .ok (.iconst 1, 1) := by decide +kernel
theorem dX12_turn_140 : decode cX12_turn 140 = .ok (.iadd, 1) := by decide +kernel
theorem dX12_turn_141 : decode cX12_turn 141 = .ok (.istore 6, 2) := by decide +kernel
theorem dX12_turn_143 : decode cX12_turn 143 = .ok (.goto (-41), 3) := by decide +kernel
theorem dX12_turn_146 : decode cX12_turn 146 = .ok (.iload 4, 2) := by decide +kernel
theorem dX12_turn_148 : decode cX12_turn 148 = .ok (.iconst 4, 1) := by decide +kernel
theorem dX12_turn_149 : decode cX12_turn 149 = .ok (.idiv, 1) := by decide +kernel
theorem dX12_turn_150 : decode cX12_turn 150 = .ok (.iconst 4, 1) := by decide +kernel
theorem dX12_turn_151 : decode cX12_turn 151 = .ok (.imul, 1) := by decide +kernel
theorem dX12_turn_152 : decode cX12_turn 152 = .ok (.iconst 4, 1) := by decide +kernel
theorem dX12_turn_153 : decode cX12_turn 153 = .ok (.iadd, 1) := by decide +kernel
theorem dX12_turn_154 : decode cX12_turn 154 = .ok (.iload 6, 2) := by decide +kernel
theorem dX12_turn_156 : decode cX12_turn 156 = .ok (.iadd, 1) := by decide +kernel
theorem dX12_turn_157 : decode cX12_turn 157 = .ok (.istore 4, 2) := by decide +kernel
theorem dX12_turn_159 : decode cX12_turn 159 = .ok (.iinc 5 1, 3) := by decide +kernel
theorem dX12_turn_162 : decode cX12_turn 162 = .ok (.goto (-69), 3) := by decide +kernel
theorem dX12_turn_165 : decode cX12_turn 165 = .ok (.iload 4, 2) := by decide +kernel
theorem dX12_turn_167 : decode cX12_turn 167 = .ok (.iconst 4, 1) := by decide +kernel
theorem dX12_turn_168 : decode cX12_turn 168 = .ok (.irem, 1) := by decide +kernel
theorem dX12_turn_169 : decode cX12_turn 169 = .ok (.ireturn, 1) := by decide +kernel
theorem dX12_ways_0 : decode cX12_ways 0 = .ok (.iload_n 1, 1) := by decide +kernel
theorem dX12_ways_1 : decode cX12_ways 1 = .ok (.invokestatic 107, 3) := by decide +kernel
theorem dX12_ways_4 : decode cX12_ways 4 = .ok (.ifCond .eq 19, 3) := by decide +kernel
theorem dX12_ways_7 : decode cX12_ways 7 = .ok (.iload_n 2, 1) := by decide +kernel
theorem dX12_ways_8 : decode cX12_ways 8 = .ok (.invokestatic 107, 3) := by decide +kernel
theorem dX12_ways_11 : decode cX12_ways 11 = .ok (.ifCond .eq 12, 3) := by decide +kernel
theorem dX12_ways_14 : decode cX12_ways 14 = .ok (.iload_n 2, 1) := by decide +kernel
theorem dX12_ways_15 : decode cX12_ways 15 = .ok (.iconst 4, 1) := by decide +kernel
theorem dX12_ways_16 : decode cX12_ways 16 = .ok (.idiv, 1) := by decide +kernel
theorem dX12_ways_17 : decode cX12_ways 17 = .ok (.iload_n 1, 1) := by decide +kernel
theorem dX12_ways_18 : decode cX12_ways 18 = .ok (.iconst 4, 1) := by decide +kernel
theorem dX12_ways_19 : decode cX12_ways 19 = .ok (.idiv, 1) := by decide +kernel
theorem dX12_ways_20 : decode cX12_ways 20 = .ok (.if_icmp .gt 5, 3) := by decide +kernel
theorem dX12_ways_23 : decode cX12_ways 23 = .ok (.iconst (-1), 1) := by decide +kernel
theorem dX12_ways_24 : decode cX12_ways 24 = .ok (.ireturn, 1) := by decide +kernel
theorem dX12_ways_25 : decode cX12_ways 25 = .ok (.aload_n 0, 1) := by decide +kernel
theorem dX12_ways_26 : decode cX12_ways 26 = .ok (.iload_n 2, 1) := by decide +kernel
theorem dX12_ways_27 : decode cX12_ways 27 = .ok (.invokevirtual 316, 3) := by decide +kernel
theorem dX12_ways_30 : decode cX12_ways 30 = .ok (.aload_n 0, 1) := by decide +kernel
theorem dX12_ways_31 : decode cX12_ways 31 = .ok (.getfield 65, 3) := by decide +kernel
theorem dX12_ways_34 : decode cX12_ways 34 = .ok (.iload_n 1, 1) := by decide +kernel
theorem dX12_ways_35 : decode cX12_ways 35 = .ok (.iaload, 1) := by decide +kernel
theorem dX12_ways_36 : decode cX12_ways 36 = .ok (.ireturn, 1) := by decide +kernel
theorem dX12_belowOf_0 : decode cX12_belowOf 0 = .ok (.lconst 0, 1) := by decide +kernel
theorem dX12_belowOf_1 : decode cX12_belowOf 1 = .ok (.lstore_n 3, 1) := by decide +kernel
theorem dX12_belowOf_2 : decode cX12_belowOf 2 = .ok (.iload_n 1, 1) := by decide +kernel
theorem dX12_belowOf_3 : decode cX12_belowOf 3 = .ok (.iconst 4, 1) := by decide +kernel
theorem dX12_belowOf_4 : decode cX12_belowOf 4 = .ok (.idiv, 1) := by decide +kernel
theorem dX12_belowOf_5 : decode cX12_belowOf 5 = .ok (.iconst 4, 1) := by decide +kernel
theorem dX12_belowOf_6 : decode cX12_belowOf 6 = .ok (.imul, 1) := by decide +kernel
theorem dX12_belowOf_7 : decode cX12_belowOf 7 = .ok (.iconst 4, 1) := by decide +kernel
theorem dX12_belowOf_8 : decode cX12_belowOf 8 = .ok (.isub, 1) := by decide +kernel
theorem dX12_belowOf_9 : decode cX12_belowOf 9 = .ok (.istore 5, 2) := by decide +kernel
theorem dX12_belowOf_11 : decode cX12_belowOf 11 = .ok (.iload 5, 2) := by decide +kernel
theorem dX12_belowOf_13 : decode cX12_belowOf 13 = .ok (.iload_n 1, 1) := by decide +kernel
theorem dX12_belowOf_14 : decode cX12_belowOf 14 = .ok (.iconst 4, 1) := by decide +kernel
theorem dX12_belowOf_15 : decode cX12_belowOf 15 = .ok (.idiv, 1) := by decide +kernel
theorem dX12_belowOf_16 : decode cX12_belowOf 16 = .ok (.iconst 4, 1) := by decide +kernel
theorem dX12_belowOf_17 : decode cX12_belowOf 17 = .ok (.imul, 1) := by decide +kernel
theorem dX12_belowOf_18 : decode cX12_belowOf 18 = .ok (.if_icmp .ge 48, 3) := by decide +kernel
theorem dX12_belowOf_21 : decode cX12_belowOf 21 = .ok (.iload 5, 2) := by decide +kernel
theorem dX12_belowOf_23 : decode cX12_belowOf 23 = .ok (.ifCond .lt 37, 3) := by decide +kernel
theorem dX12_belowOf_26 : decode cX12_belowOf 26 = .ok (.aload_n 0, 1) := by decide +kernel
theorem dX12_belowOf_27 : decode cX12_belowOf 27 = .ok (.iload 5, 2) := by decide +kernel
theorem dX12_belowOf_29 : decode cX12_belowOf 29 = .ok (.invokevirtual 255, 3) := by decide +kernel
theorem dX12_belowOf_32 : decode cX12_belowOf 32 = .ok (.iload_n 1, 1) := by decide +kernel
theorem dX12_belowOf_33 : decode cX12_belowOf 33 = .ok (.if_icmp .ne 27, 3) := by decide +kernel
theorem dX12_belowOf_36 : decode cX12_belowOf 36 = .ok (.lload_n 3, 1) := by decide +kernel
theorem dX12_belowOf_37 : decode cX12_belowOf 37 = .ok (.iload_n 2, 1) := by decide +kernel
theorem dX12_belowOf_38 : decode cX12_belowOf 38 = .ok (.ifCond .eq 13, 3) := by decide +kernel
theorem dX12_belowOf_41 : decode cX12_belowOf 41 = .ok (.aload_n 0, 1) := by decide +kernel
theorem dX12_belowOf_42 : decode cX12_belowOf 42 = .ok (.getfield 68, 3) := by decide +kernel
theorem dX12_belowOf_45 : decode cX12_belowOf 45 = .ok (.iload 5, 2) := by decide +kernel
theorem dX12_belowOf_47 : decode cX12_belowOf 47 = .ok (.laload, 1) := by decide +kernel
theorem dX12_belowOf_48 : decode cX12_belowOf 48 = .ok (.goto 10, 3) := by decide +kernel
theorem dX12_belowOf_51 : decode cX12_belowOf 51 = .ok (.aload_n 0, 1) := by decide +kernel
theorem dX12_belowOf_52 : decode cX12_belowOf 52 = .ok (.getfield 72, 3) := by decide +kernel
theorem dX12_belowOf_55 : decode cX12_belowOf 55 = .ok (.iload 5, 2) := by decide +kernel
theorem dX12_belowOf_57 : decode cX12_belowOf 57 = .ok (.laload, 1) := by decide +kernel
theorem dX12_belowOf_58 : decode cX12_belowOf 58 = .ok (.ladd, 1) := by decide +kernel
theorem dX12_belowOf_59 : decode cX12_belowOf 59 = .ok (.lstore_n 3, 1) := by decide +kernel
theorem dX12_belowOf_60 : decode cX12_belowOf 60 = .ok (.iinc 5 1, 3) := by decide +kernel
theorem dX12_belowOf_63 : decode cX12_belowOf 63 = .ok (.goto (-52), 3) := by decide +kernel
theorem dX12_belowOf_66 : decode cX12_belowOf 66 = .ok (.lload_n 3, 1) := by decide +kernel
theorem dX12_belowOf_67 : decode cX12_belowOf 67 = .ok (.lreturn, 1) := by decide +kernel
theorem dX12_bestOf_0 : decode cX12_bestOf 0 = .ok (.aload_n 0, 1) := by decide +kernel
theorem dX12_bestOf_1 : decode cX12_bestOf 1 = .ok (.iload_n 1, 1) := by decide +kernel
theorem dX12_bestOf_2 : decode cX12_bestOf 2 = .ok (.invokevirtual 268, 3) := by decide +kernel
theorem dX12_bestOf_5 : decode cX12_bestOf 5 = .ok (.ifCond .ne 10, 3) := by decide +kernel
theorem dX12_bestOf_8 : decode cX12_bestOf 8 = .ok (.aload_n 0, 1) := by decide +kernel
theorem dX12_bestOf_9 : decode cX12_bestOf 9 = .ok (.iload_n 1, 1) := by decide +kernel
theorem dX12_bestOf_10 : decode cX12_bestOf 10 = .ok (.iload_n 3, 1) := by decide +kernel
theorem dX12_bestOf_11 : decode cX12_bestOf 11 = .ok (.invokevirtual 319, 3) := by decide +kernel
theorem dX12_bestOf_14 : decode cX12_bestOf 14 = .ok (.lreturn, 1) := by decide +kernel
theorem dX12_bestOf_15 : decode cX12_bestOf 15 = .ok (.ldc2_w 323, 3) := by decide +kernel
theorem dX12_bestOf_18 : decode cX12_bestOf 18 = .ok (.lconst 1, 1) := by decide +kernel
theorem dX12_bestOf_19 : decode cX12_bestOf 19 = .ok (.iload_n 1, 1) := by decide +kernel
theorem dX12_bestOf_20 : decode cX12_bestOf 20 = .ok (.lshl, 1) := by decide +kernel
theorem dX12_bestOf_21 : decode cX12_bestOf 21 = .ok (.ladd, 1) := by decide +kernel
theorem dX12_bestOf_22 : decode cX12_bestOf 22 = .ok (.aload_n 0, 1) := by decide +kernel
theorem dX12_bestOf_23 : decode cX12_bestOf 23 = .ok (.iload_n 1, 1) := by decide +kernel
theorem dX12_bestOf_24 : decode cX12_bestOf 24 = .ok (.iload_n 3, 1) := by decide +kernel
theorem dX12_bestOf_25 : decode cX12_bestOf 25 = .ok (.invokevirtual 319, 3) := by decide +kernel
theorem dX12_bestOf_28 : decode cX12_bestOf 28 = .ok (.ladd, 1) := by decide +kernel
theorem dX12_bestOf_29 : decode cX12_bestOf 29 = .ok (.lstore 4, 2) := by decide +kernel
theorem dX12_bestOf_31 : decode cX12_bestOf 31 = .ok (.iload_n 2, 1) := by decide +kernel
theorem dX12_bestOf_32 : decode cX12_bestOf 32 = .ok (.ifCond .eq 10, 3) := by decide +kernel
theorem dX12_bestOf_35 : decode cX12_bestOf 35 = .ok (.iload_n 3, 1) := by decide +kernel
theorem dX12_bestOf_36 : decode cX12_bestOf 36 = .ok (.ifCond .eq 6, 3) := by decide +kernel
theorem dX12_bestOf_39 : decode cX12_bestOf 39 = .ok (.lload 4, 2) := by decide +kernel
theorem dX12_bestOf_41 : decode cX12_bestOf 41 = .ok (.lreturn, 1) := by decide +kernel
theorem dX12_bestOf_42 : decode cX12_bestOf 42 = .ok (.aload_n 0, 1) := by decide +kernel
theorem dX12_bestOf_43 : decode cX12_bestOf 43 = .ok (.iload_n 1, 1) := by decide +kernel
theorem dX12_bestOf_44 : decode cX12_bestOf 44 = .ok (.iconst 1, 1) := by decide +kernel
theorem dX12_bestOf_45 : decode cX12_bestOf 45 = .ok (.invokevirtual 319, 3) := by decide +kernel
theorem dX12_bestOf_48 : decode cX12_bestOf 48 = .ok (.lstore 6, 2) := by decide +kernel
theorem dX12_bestOf_50 : decode cX12_bestOf 50 = .ok (.lload 6, 2) := by decide +kernel
theorem dX12_bestOf_52 : decode cX12_bestOf 52 = .ok (.lload 4, 2) := by decide +kernel
theorem dX12_bestOf_54 : decode cX12_bestOf 54 = .ok (.lcmp, 1) := by decide +kernel
theorem dX12_bestOf_55 : decode cX12_bestOf 55 = .ok (.ifCond .ge 8, 3) := by decide +kernel
theorem dX12_bestOf_58 : decode cX12_bestOf 58 = .ok (.lload 6, 2) := by decide +kernel
theorem dX12_bestOf_60 : decode cX12_bestOf 60 = .ok (.goto 5, 3) := by decide +kernel
theorem dX12_bestOf_63 : decode cX12_bestOf 63 = .ok (.lload 4, 2) := by decide +kernel
theorem dX12_bestOf_65 : decode cX12_bestOf 65 = .ok (.lreturn, 1) := by decide +kernel
theorem dX12_stockings_0 : decode cX12_stockings 0 = .ok (.iload_n 1, 1) := by decide +kernel
theorem dX12_stockings_1 : decode cX12_stockings 1 = .ok (.iconst 0, 1) := by decide +kernel
theorem dX12_stockings_2 : decode cX12_stockings 2 = .ok (.ldc_w 325, 3) := by decide +kernel
theorem dX12_stockings_5 : decode cX12_stockings 5 = .ok (.invokestatic 90, 3) := by decide +kernel
theorem dX12_stockings_8 : decode cX12_stockings 8 = .ok (.ifCond .eq 12, 3) := by decide +kernel
theorem dX12_stockings_11 : decode cX12_stockings 11 = .ok (.iload_n 2, 1) := by decide +kernel
theorem dX12_stockings_12 : decode cX12_stockings 12 = .ok (.iconst 0, 1) := by decide +kernel
theorem dX12_stockings_13 : decode cX12_stockings 13 = .ok (.iconst 1, 1) := by decide +kernel
theorem dX12_stockings_14 : decode cX12_stockings 14 = .ok (.invokestatic 90, 3) := by decide +kernel
theorem dX12_stockings_17 : decode cX12_stockings 17 = .ok (.ifCond .ne 5, 3) := by decide +kernel
theorem dX12_stockings_20 : decode cX12_stockings 20 = .ok (.iconst (-1), 1) := by decide +kernel
theorem dX12_stockings_21 : decode cX12_stockings 21 = .ok (.ireturn, 1) := by decide +kernel
theorem dX12_stockings_22 : decode cX12_stockings 22 = .ok (.lconst 0, 1) := by decide +kernel
theorem dX12_stockings_23 : decode cX12_stockings 23 = .ok (.lstore_n 3, 1) := by decide +kernel
theorem dX12_stockings_24 : decode cX12_stockings 24 = .ok (.iconst 0, 1) := by decide +kernel
theorem dX12_stockings_25 : decode cX12_stockings 25 = .ok (.istore 5, 2) := by decide +kernel
theorem dX12_stockings_27 : decode cX12_stockings 27 = .ok (.iload 5, 2) := by decide +kernel
theorem dX12_stockings_29 : decode cX12_stockings 29 = .ok (.bipush 24, 2) := by decide +kernel
theorem dX12_stockings_31 : decode cX12_stockings 31 = .ok (.if_icmp .ge 67, 3) := by decide +kernel
theorem dX12_stockings_34 : decode cX12_stockings 34 = .ok (.aload_n 0, 1) := by decide +kernel
theorem dX12_stockings_35 : decode cX12_stockings 35 = .ok (.getfield 68, 3) := by decide +kernel
theorem dX12_stockings_38 : decode cX12_stockings 38 = .ok (.iload 5, 2) := by decide +kernel
theorem dX12_stockings_40 : decode cX12_stockings 40 = .ok (.aload_n 0, 1) := by decide +kernel
theorem dX12_stockings_41 : decode cX12_stockings 41 = .ok (.iload 5, 2) := by decide +kernel
theorem dX12_stockings_43 : decode cX12_stockings 43 = .ok (.iload_n 1, 1) := by decide +kernel
theorem dX12_stockings_44 : decode cX12_stockings 44 = .ok (.iload 5, 2) := by decide +kernel
theorem dX12_stockings_46 : decode cX12_stockings 46 = .ok (.invokestatic 326, 3) := by decide +kernel
theorem dX12_stockings_49 : decode cX12_stockings 49 = .ok (.iconst 1, 1) := by decide +kernel
theorem dX12_stockings_50 : decode cX12_stockings 50 = .ok (.invokevirtual 329, 3) := by decide +kernel
theorem dX12_stockings_53 : decode cX12_stockings 53 = .ok (.lastore, 1) := by decide +kernel
theorem dX12_stockings_54 : decode cX12_stockings 54 = .ok (.aload_n 0, 1) := by decide +kernel
theorem dX12_stockings_55 : decode cX12_stockings 55 = .ok (.getfield 72, 3) := by decide +kernel
theorem dX12_stockings_58 : decode cX12_stockings 58 = .ok (.iload 5, 2) := by decide +kernel
theorem dX12_stockings_60 : decode cX12_stockings 60 = .ok (.aload_n 0, 1) := by decide +kernel
theorem dX12_stockings_61 : decode cX12_stockings 61 = .ok (.iload 5, 2) := by decide +kernel
theorem dX12_stockings_63 : decode cX12_stockings 63 = .ok (.iload_n 1, 1) := by decide +kernel
theorem dX12_stockings_64 : decode cX12_stockings 64 = .ok (.iload 5, 2) := by decide +kernel
theorem dX12_stockings_66 : decode cX12_stockings 66 = .ok (.invokestatic 326, 3) := by decide +kernel
theorem dX12_stockings_69 : decode cX12_stockings 69 = .ok (.iconst 0, 1) := by decide +kernel
theorem dX12_stockings_70 : decode cX12_stockings 70 = .ok (.invokevirtual 329, 3) := by decide +kernel
theorem dX12_stockings_73 : decode cX12_stockings 73 = .ok (.lastore, 1) := by decide +kernel
theorem dX12_stockings_74 : decode cX12_stockings 74 = .ok (.iload 5, 2) := by decide +kernel
theorem dX12_stockings_76 : decode cX12_stockings 76 = .ok (.iconst 4, 1) := by decide +kernel
theorem dX12_stockings_77 : decode cX12_stockings 77 = .ok (.idiv, 1) := by decide +kernel
theorem dX12_stockings_78 : decode cX12_stockings 78 = .ok (.iconst 5, 1) := by decide +kernel
theorem dX12_stockings_79 : decode cX12_stockings 79 = .ok (.if_icmp .ne 13, 3) := by decide +kernel
theorem dX12_stockings_82 : decode cX12_stockings 82 = .ok (.lload_n 3, 1) := by decide +kernel
theorem dX12_stockings_83 : decode cX12_stockings 83 = .ok (.aload_n 0, 1) := by decide +kernel
theorem dX12_stockings_84 : decode cX12_stockings 84 = .ok (.getfield 72, 3) := by decide +kernel
theorem dX12_stockings_87 : decode cX12_stockings 87 = .ok (.iload 5, 2) := by decide +kernel
theorem dX12_stockings_89 : decode cX12_stockings 89 = .ok (.laload, 1) := by decide +kernel
theorem dX12_stockings_90 : decode cX12_stockings 90 = .ok (.ladd, 1) := by decide +kernel
theorem dX12_stockings_91 : decode cX12_stockings 91 = .ok (.lstore_n 3, 1) := by decide +kernel
theorem dX12_stockings_92 : decode cX12_stockings 92 = .ok (.iinc 5 1, 3) := by decide +kernel
theorem dX12_stockings_95 : decode cX12_stockings 95 = .ok (.goto (-68), 3) := by decide +kernel
theorem dX12_stockings_98 : decode cX12_stockings 98 = .ok (.iload_n 2, 1) := by decide +kernel
theorem dX12_stockings_99 : decode cX12_stockings 99 = .ok (.ifCond .ne 11, 3) := by decide +kernel
theorem dX12_stockings_102 : decode cX12_stockings 102 = .ok (.lload_n 3, 1) := by decide +kernel
theorem dX12_stockings_103 : decode cX12_stockings 103 = .ok (.ldc2_w 323, 3) := by decide +kernel
theorem dX12_stockings_106 : decode cX12_stockings 106 = .ok (.ldiv, 1) := by decide +kernel
theorem dX12_stockings_107 : decode cX12_stockings 107 = .ok (.goto 8, 3) := by decide +kernel
theorem dX12_stockings_110 : decode cX12_stockings 110 = .ok (.lload_n 3, 1) := by decide +kernel
theorem dX12_stockings_111 : decode cX12_stockings 111 = .ok (.ldc2_w 323, 3) := by decide +kernel
theorem dX12_stockings_114 : decode cX12_stockings 114 = .ok (.lrem, 1) := by decide +kernel
theorem dX12_stockings_115 : decode cX12_stockings 115 = .ok (.l2i, 1) := by decide +kernel
theorem dX12_stockings_116 : decode cX12_stockings 116 = .ok (.ireturn, 1) := by decide +kernel
theorem dX12_changesWho_0 : decode cX12_changesWho 0 = .ok (.aload_n 0, 1) := by decide +kernel
theorem dX12_changesWho_1 : decode cX12_changesWho 1 = .ok (.getfield 75, 3) := by decide +kernel
theorem dX12_changesWho_4 : decode cX12_changesWho 4 = .ok (.iload_n 1, 1) := by decide +kernel
theorem dX12_changesWho_5 : decode cX12_changesWho 5 = .ok (.iaload, 1) := by decide +kernel
theorem dX12_changesWho_6 : decode cX12_changesWho 6 = .ok (.istore_n 3, 1) := by decide +kernel
theorem dX12_changesWho_7 : decode cX12_changesWho 7 = .ok (.aload_n 0, 1) := by decide +kernel
theorem dX12_changesWho_8 : decode cX12_changesWho 8 = .ok (.getfield 75, 3) := by decide +kernel
theorem dX12_changesWho_11 : decode cX12_changesWho 11 = .ok (.iload_n 1, 1) := by decide +kernel
theorem dX12_changesWho_12 : decode cX12_changesWho 12 = .ok (.aload_n 0, 1) := by decide +kernel
theorem dX12_changesWho_13 : decode cX12_changesWho 13 = .ok (.getfield 75, 3) := by decide +kernel
theorem dX12_changesWho_16 : decode cX12_changesWho 16 = .ok (.iload_n 2, 1) := by decide +kernel
theorem dX12_changesWho_17 : decode cX12_changesWho 17 = .ok (.iaload, 1) := by decide +kernel
theorem dX12_changesWho_18 : decode cX12_changesWho 18 = .ok (.iastore, 1) := by decide +kernel
theorem dX12_changesWho_19 : decode cX12_changesWho 19 = .ok (.aload_n 0, 1) := by decide +kernel
theorem dX12_changesWho_20 : decode cX12_changesWho 20 = .ok (.getfield 75, 3) := by decide +kernel
theorem dX12_changesWho_23 : decode cX12_changesWho 23 = .ok (.iload_n 2, 1) := by decide +kernel
theorem dX12_changesWho_24 : decode cX12_changesWho 24 = .ok (.iload_n 3, 1) := by decide +kernel
theorem dX12_changesWho_25 : decode cX12_changesWho 25 = .ok (.iastore, 1) := by decide +kernel
theorem dX12_changesWho_26 : decode cX12_changesWho 26 = .ok (.return_, 1) := by decide +kernel
theorem dX12_nextWho_0 : decode cX12_nextWho 0 = .ok (.iload_n 1, 1) := by decide +kernel
theorem dX12_nextWho_1 : decode cX12_nextWho 1 = .ok (.iconst 2, 1) := by decide +kernel
theorem dX12_nextWho_2 : decode cX12_nextWho 2 = .ok (.isub, 1) := by decide +kernel
theorem dX12_nextWho_3 : decode cX12_nextWho 3 = .ok (.istore_n 2, 1) := by decide +kernel
theorem dX12_nextWho_4 : decode cX12_nextWho 4 = .ok (.iload_n 2, 1) := by decide +kernel
theorem dX12_nextWho_5 : decode cX12_nextWho 5 = .ok (.ifCond .lt 27, 3) := by decide +kernel
theorem dX12_nextWho_8 : decode cX12_nextWho 8 = .ok (.aload_n 0, 1) := by decide +kernel
theorem dX12_nextWho_9 : decode cX12_nextWho 9 = .ok (.getfield 75, 3) := by decide +kernel
theorem dX12_nextWho_12 : decode cX12_nextWho 12 = .ok (.iload_n 2, 1) := by decide +kernel
theorem dX12_nextWho_13 : decode cX12_nextWho 13 = .ok (.iaload, 1) := by decide +kernel
theorem dX12_nextWho_14 : decode cX12_nextWho 14 = .ok (.aload_n 0, 1) := by decide +kernel
theorem dX12_nextWho_15 : decode cX12_nextWho 15 = .ok (.getfield 75, 3) := by decide +kernel
theorem dX12_nextWho_18 : decode cX12_nextWho 18 = .ok (.iload_n 2, 1) := by decide +kernel
theorem dX12_nextWho_19 : decode cX12_nextWho 19 = .ok (.iconst 1, 1) := by decide +kernel
theorem dX12_nextWho_20 : decode cX12_nextWho 20 = .ok (.iadd, 1) := by decide +kernel
theorem dX12_nextWho_21 : decode cX12_nextWho 21 = .ok (.iaload, 1) := by decide +kernel
theorem dX12_nextWho_22 : decode cX12_nextWho 22 = .ok (.if_icmp .le 10, 3) := by decide +kernel
theorem dX12_nextWho_25 : decode cX12_nextWho 25 = .ok (.iload_n 2, 1) := by decide +kernel
theorem dX12_nextWho_26 : decode cX12_nextWho 26 = .ok (.iconst 1, 1) := by decide +kernel
theorem dX12_nextWho_27 : decode cX12_nextWho 27 = .ok (.isub, 1) := by decide +kernel
theorem dX12_nextWho_28 : decode cX12_nextWho 28 = .ok (.istore_n 2, 1) := by decide +kernel
theorem dX12_nextWho_29 : decode cX12_nextWho 29 = .ok (.goto (-25), 3) := by decide +kernel
theorem dX12_nextWho_32 : decode cX12_nextWho 32 = .ok (.iload_n 2, 1) := by decide +kernel
theorem dX12_nextWho_33 : decode cX12_nextWho 33 = .ok (.ifCond .ge 5, 3) := by decide +kernel
theorem dX12_nextWho_36 : decode cX12_nextWho 36 = .ok (.iconst 0, 1) := by decide +kernel
theorem dX12_nextWho_37 : decode cX12_nextWho 37 = .ok (.ireturn, 1) := by decide +kernel
theorem dX12_nextWho_38 : decode cX12_nextWho 38 = .ok (.iload_n 1, 1) := by decide +kernel
theorem dX12_nextWho_39 : decode cX12_nextWho 39 = .ok (.iconst 1, 1) := by decide +kernel
theorem dX12_nextWho_40 : decode cX12_nextWho 40 = .ok (.isub, 1) := by decide +kernel
theorem dX12_nextWho_41 : decode cX12_nextWho 41 = .ok (.istore_n 3, 1) := by decide +kernel
theorem dX12_nextWho_42 : decode cX12_nextWho 42 = .ok (.aload_n 0, 1) := by decide +kernel
theorem dX12_nextWho_43 : decode cX12_nextWho 43 = .ok (.getfield 75, 3) := by decide +kernel
theorem dX12_nextWho_46 : decode cX12_nextWho 46 = .ok (.iload_n 3, 1) := by decide +kernel
theorem dX12_nextWho_47 : decode cX12_nextWho 47 = .ok (.iaload, 1) := by decide +kernel
theorem dX12_nextWho_48 : decode cX12_nextWho 48 = .ok (.aload_n 0, 1) := by decide +kernel
theorem dX12_nextWho_49 : decode cX12_nextWho 49 = .ok (.getfield 75, 3) := by decide +kernel
theorem dX12_nextWho_52 : decode cX12_nextWho 52 = .ok (.iload_n 2, 1) := by decide +kernel
theorem dX12_nextWho_53 : decode cX12_nextWho 53 = .ok (.iaload, 1) := by decide +kernel
theorem dX12_nextWho_54 : decode cX12_nextWho 54 = .ok (.if_icmp .ge 10, 3) := by decide +kernel
theorem dX12_nextWho_57 : decode cX12_nextWho 57 = .ok (.iload_n 3, 1) := by decide +kernel
theorem dX12_nextWho_58 : decode cX12_nextWho 58 = .ok (.iconst 1, 1) := by decide +kernel
theorem dX12_nextWho_59 : decode cX12_nextWho 59 = .ok (.isub, 1) := by decide +kernel
theorem dX12_nextWho_60 : decode cX12_nextWho 60 = .ok (.istore_n 3, 1) := by decide +kernel
theorem dX12_nextWho_61 : decode cX12_nextWho 61 = .ok (.goto (-19), 3) := by decide +kernel
theorem dX12_nextWho_64 : decode cX12_nextWho 64 = .ok (.aload_n 0, 1) := by decide +kernel
theorem dX12_nextWho_65 : decode cX12_nextWho 65 = .ok (.iload_n 2, 1) := by decide +kernel
theorem dX12_nextWho_66 : decode cX12_nextWho 66 = .ok (.iload_n 3, 1) := by decide +kernel
theorem dX12_nextWho_67 : decode cX12_nextWho 67 = .ok (.invokevirtual 333, 3) := by decide +kernel
theorem dX12_nextWho_70 : decode cX12_nextWho 70 = .ok (.iload_n 2, 1) := by decide +kernel
theorem dX12_nextWho_71 : decode cX12_nextWho 71 = .ok (.iconst 1, 1) := by decide +kernel
theorem dX12_nextWho_72 : decode cX12_nextWho 72 = .ok (.iadd, 1) := by decide +kernel
theorem dX12_nextWho_73 : decode cX12_nextWho 73 = .ok (.istore 4, 2) := by decide +kernel
theorem dX12_nextWho_75 : decode cX12_nextWho 75 = .ok (.iload_n 1, 1) := by decide +kernel
theorem dX12_nextWho_76 : decode cX12_nextWho 76 = .ok (.iconst 1, 1) := by decide +kernel
theorem dX12_nextWho_77 : decode cX12_nextWho 77 = .ok (.isub, 1) := by decide +kernel
theorem dX12_nextWho_78 : decode cX12_nextWho 78 = .ok (.istore 5, 2) := by decide +kernel
theorem dX12_nextWho_80 : decode cX12_nextWho 80 = .ok (.iload 4, 2) := by decide +kernel
theorem dX12_nextWho_82 : decode cX12_nextWho 82 = .ok (.iload 5, 2) := by decide +kernel
theorem dX12_nextWho_84 : decode cX12_nextWho 84 = .ok (.if_icmp .ge 20, 3) := by decide +kernel
theorem dX12_nextWho_87 : decode cX12_nextWho 87 = .ok (.aload_n 0, 1) := by decide +kernel
theorem dX12_nextWho_88 : decode cX12_nextWho 88 = .ok (.iload 4, 2) := by decide +kernel
theorem dX12_nextWho_90 : decode cX12_nextWho 90 = .ok (.iload 5, 2) := by decide +kernel
theorem dX12_nextWho_92 : decode cX12_nextWho 92 = .ok (.invokevirtual 333, 3) := by decide +kernel
theorem dX12_nextWho_95 : decode cX12_nextWho 95 = .ok (.iinc 4 1, 3) := by decide +kernel
theorem dX12_nextWho_98 : decode cX12_nextWho 98 = .ok (.iinc 5 (-1), 3) := by decide +kernel
theorem dX12_nextWho_101 : decode cX12_nextWho 101 = .ok (.goto (-21), 3) := by decide +kernel
theorem dX12_nextWho_104 : decode cX12_nextWho 104 = .ok (.iconst 1, 1) := by decide +kernel
theorem dX12_nextWho_105 : decode cX12_nextWho 105 = .ok (.ireturn, 1) := by decide +kernel
theorem dX12_sleep_0 : decode cX12_sleep 0 = .ok (.iload_n 1, 1) := by decide +kernel
theorem dX12_sleep_1 : decode cX12_sleep 1 = .ok (.iconst 1, 1) := by decide +kernel
theorem dX12_sleep_2 : decode cX12_sleep 2 = .ok (.bipush 6, 2) := by decide +kernel
theorem dX12_sleep_4 : decode cX12_sleep 4 = .ok (.invokestatic 90, 3) := by decide +kernel
theorem dX12_sleep_7 : decode cX12_sleep 7 = .ok (.ifCond .eq 47, 3) := by decide +kernel
theorem dX12_sleep_10 : decode cX12_sleep 10 = .ok (.iload_n 2, 1) := by decide +kernel
theorem dX12_sleep_11 : decode cX12_sleep 11 = .ok (.iconst 1, 1) := by decide +kernel
theorem dX12_sleep_12 : decode cX12_sleep 12 = .ok (.ldc_w 325, 3) := by decide +kernel
theorem dX12_sleep_15 : decode cX12_sleep 15 = .ok (.invokestatic 90, 3) := by decide +kernel
theorem dX12_sleep_18 : decode cX12_sleep 18 = .ok (.ifCond .eq 36, 3) := by decide +kernel
theorem dX12_sleep_21 : decode cX12_sleep 21 = .ok (.iload_n 2, 1) := by decide +kernel
theorem dX12_sleep_22 : decode cX12_sleep 22 = .ok (.invokestatic 306, 3) := by decide +kernel
theorem dX12_sleep_25 : decode cX12_sleep 25 = .ok (.iload_n 1, 1) := by decide +kernel
theorem dX12_sleep_26 : decode cX12_sleep 26 = .ok (.if_icmp .ne 28, 3) := by decide +kernel
theorem dX12_sleep_29 : decode cX12_sleep 29 = .ok (.iload_n 3, 1) := by decide +kernel
theorem dX12_sleep_30 : decode cX12_sleep 30 = .ok (.bipush 100, 2) := by decide +kernel
theorem dX12_sleep_32 : decode cX12_sleep 32 = .ok (.if_icmp .eq 14, 3) := by decide +kernel
theorem dX12_sleep_35 : decode cX12_sleep 35 = .ok (.iload_n 3, 1) := by decide +kernel
theorem dX12_sleep_36 : decode cX12_sleep 36 = .ok (.iconst 0, 1) := by decide +kernel
theorem dX12_sleep_37 : decode cX12_sleep 37 = .ok (.iload_n 1, 1) := by decide +kernel
theorem dX12_sleep_38 : decode cX12_sleep 38 = .ok (.iconst 1, 1) := by decide +kernel
theorem dX12_sleep_39 : decode cX12_sleep 39 = .ok (.isub, 1) := by decide +kernel
theorem dX12_sleep_40 : decode cX12_sleep 40 = .ok (.invokestatic 90, 3) := by decide +kernel
theorem dX12_sleep_43 : decode cX12_sleep 43 = .ok (.ifCond .eq 11, 3) := by decide +kernel
theorem dX12_sleep_46 : decode cX12_sleep 46 = .ok (.iload_n 1, 1) := by decide +kernel
theorem dX12_sleep_47 : decode cX12_sleep 47 = .ok (.aload_n 0, 1) := by decide +kernel
theorem dX12_sleep_48 : decode cX12_sleep 48 = .ok (.getfield 115, 3) := by decide +kernel
theorem dX12_sleep_51 : decode cX12_sleep 51 = .ok (.if_icmp .le 7, 3) := by decide +kernel
theorem dX12_sleep_54 : decode cX12_sleep 54 = .ok (.ldc2_w 336, 3) := by decide +kernel
theorem dX12_sleep_57 : decode cX12_sleep 57 = .ok (.lreturn, 1) := by decide +kernel
theorem dX12_sleep_58 : decode cX12_sleep 58 = .ok (.aload_n 0, 1) := by decide +kernel
theorem dX12_sleep_59 : decode cX12_sleep 59 = .ok (.iconst 0, 1) := by decide +kernel
theorem dX12_sleep_60 : decode cX12_sleep 60 = .ok (.putfield 115, 3) := by decide +kernel
theorem dX12_sleep_63 : decode cX12_sleep 63 = .ok (.iconst 0, 1) := by decide +kernel
theorem dX12_sleep_64 : decode cX12_sleep 64 = .ok (.istore 4, 2) := by decide +kernel
theorem dX12_sleep_66 : decode cX12_sleep 66 = .ok (.iconst 0, 1) := by decide +kernel
theorem dX12_sleep_67 : decode cX12_sleep 67 = .ok (.istore 5, 2) := by decide +kernel
theorem dX12_sleep_69 : decode cX12_sleep 69 = .ok (.iload 5, 2) := by decide +kernel
theorem dX12_sleep_71 : decode cX12_sleep 71 = .ok (.bipush 24, 2) := by decide +kernel
theorem dX12_sleep_73 : decode cX12_sleep 73 = .ok (.if_icmp .ge 49, 3) := by decide +kernel
theorem dX12_sleep_76 : decode cX12_sleep 76 = .ok (.iload_n 2, 1) := by decide +kernel
theorem dX12_sleep_77 : decode cX12_sleep 77 = .ok (.iload 5, 2) := by decide +kernel
theorem dX12_sleep_79 : decode cX12_sleep 79 = .ok (.invokestatic 326, 3) := by decide +kernel
theorem dX12_sleep_82 : decode cX12_sleep 82 = .ok (.ifCond .ne 6, 3) := by decide +kernel
theorem dX12_sleep_85 : decode cX12_sleep 85 = .ok (.goto 31, 3) := by decide +kernel
theorem dX12_sleep_88 : decode cX12_sleep 88 = .ok (.aload_n 0, 1) := by decide +kernel
theorem dX12_sleep_89 : decode cX12_sleep 89 = .ok (.getfield 81, 3) := by decide +kernel
theorem dX12_sleep_92 : decode cX12_sleep 92 = .ok (.iload 4, 2) := by decide +kernel
theorem dX12_sleep_94 : decode cX12_sleep 94 = .ok (.aload_n 0, 1) := by decide +kernel
theorem dX12_sleep_95 : decode cX12_sleep 95 = .ok (.iload 5, 2) := by decide +kernel
theorem dX12_sleep_97 : decode cX12_sleep 97 = .ok (.invokevirtual 227, 3) := by decide +kernel
theorem dX12_sleep_100 : decode cX12_sleep 100 = .ok (.iastore, 1) := by decide +kernel
theorem dX12_sleep_101 : decode cX12_sleep 101 = .ok (.aload_n 0, 1) := by decide +kernel
theorem dX12_sleep_102 : decode cX12_sleep 102 = .ok (.getfield 75, 3) := by decide +kernel
theorem dX12_sleep_105 : decode cX12_sleep 105 = .ok (.iload 4, 2) := by decide +kernel
theorem dX12_sleep_107 : decode cX12_sleep 107 = .ok (.iload 4, 2) := by decide +kernel
theorem dX12_sleep_109 : decode cX12_sleep 109 = .ok (.iastore, 1) := by decide +kernel
theorem dX12_sleep_110 : decode cX12_sleep 110 = .ok (.iload 4, 2) := by decide +kernel
theorem dX12_sleep_112 : decode cX12_sleep 112 = .ok (.iconst 1, 1) := by decide +kernel
theorem dX12_sleep_113 : decode cX12_sleep 113 = .ok (.iadd, 1) := by decide +kernel
theorem dX12_sleep_114 : decode cX12_sleep 114 = .ok (.istore 4, 2) := by decide +kernel
theorem dX12_sleep_116 : decode cX12_sleep 116 = .ok (.iinc 5 1, 3) := by decide +kernel
theorem dX12_sleep_119 : decode cX12_sleep 119 = .ok (.goto (-50), 3) := by decide +kernel
theorem dX12_sleep_122 : decode cX12_sleep 122 = .ok (.ldc2_w 336, 3) := by decide +kernel
theorem dX12_sleep_125 : decode cX12_sleep 125 = .ok (.lstore 5, 2) := by decide +kernel
theorem dX12_sleep_127 : decode cX12_sleep 127 = .ok (.iconst 1, 1) := by decide +kernel
theorem dX12_sleep_128 : decode cX12_sleep 128 = .ok (.istore 7, 2) := by decide +kernel
theorem dX12_sleep_130 : decode cX12_sleep 130 = .ok (.iload 7, 2) := by decide +kernel
theorem dX12_sleep_132 : decode cX12_sleep 132 = .ok (.ifCond .eq 105, 3) := by decide +kernel
theorem dX12_sleep_135 : decode cX12_sleep 135 = .ok (.lconst 0, 1) := by decide +kernel
theorem dX12_sleep_136 : decode cX12_sleep 136 = .ok (.lstore 8, 2) := by decide +kernel
theorem dX12_sleep_138 : decode cX12_sleep 138 = .ok (.iconst 0, 1) := by decide +kernel
theorem dX12_sleep_139 : decode cX12_sleep 139 = .ok (.istore 10, 2) := by decide +kernel
theorem dX12_sleep_141 : decode cX12_sleep 141 = .ok (.iload 10, 2) := by decide +kernel
theorem dX12_sleep_143 : decode cX12_sleep 143 = .ok (.iload_n 1, 1) := by decide +kernel
theorem dX12_sleep_144 : decode cX12_sleep 144 = .ok (.if_icmp .ge 35, 3) := by decide +kernel
theorem dX12_sleep_147 : decode cX12_sleep 147 = .ok (.lload 8, 2) := by decide +kernel
theorem dX12_sleep_149 : decode cX12_sleep 149 = .ok (.aload_n 0, 1) := by decide +kernel
theorem dX12_sleep_150 : decode cX12_sleep 150 = .ok (.aload_n 0, 1) := by decide +kernel
theorem dX12_sleep_151 : decode cX12_sleep 151 = .ok (.getfield 75, 3) := by decide +kernel
theorem dX12_sleep_154 : decode cX12_sleep 154 = .ok (.iload 10, 2) := by decide +kernel
theorem dX12_sleep_156 : decode cX12_sleep 156 = .ok (.iaload, 1) := by decide +kernel
theorem dX12_sleep_157 : decode cX12_sleep 157 = .ok (.invokevirtual 338, 3) := by decide +kernel
theorem dX12_sleep_160 : decode cX12_sleep 160 = .ok (.i2l, 1) := by decide +kernel
theorem dX12_sleep_161 : decode cX12_sleep 161 = .ok (.aload_n 0, 1) := by decide +kernel
theorem dX12_sleep_162 : decode cX12_sleep 162 = .ok (.getfield 81, 3) := by decide +kernel
theorem dX12_sleep_165 : decode cX12_sleep 165 = .ok (.iload 10, 2) := by decide +kernel
theorem dX12_sleep_167 : decode cX12_sleep 167 = .ok (.iaload, 1) := by decide +kernel
theorem dX12_sleep_168 : decode cX12_sleep 168 = .ok (.i2l, 1) := by decide +kernel
theorem dX12_sleep_169 : decode cX12_sleep 169 = .ok (.lmul, 1) := by decide +kernel
theorem dX12_sleep_170 : decode cX12_sleep 170 = .ok (.ladd, 1) := by decide +kernel
theorem dX12_sleep_171 : decode cX12_sleep 171 = .ok (.lstore 8, 2) := by decide +kernel
theorem dX12_sleep_173 : decode cX12_sleep 173 = .ok (.iinc 10 1, 3) := by decide +kernel
theorem dX12_sleep_176 : decode cX12_sleep 176 = .ok (.goto (-35), 3) := by decide +kernel
theorem dX12_sleep_179 : decode cX12_sleep 179 = .ok (.lload 5, 2) := by decide +kernel
theorem dX12_sleep_181 : decode cX12_sleep 181 = .ok (.lconst 0, 1) := by decide +kernel
theorem dX12_sleep_182 : decode cX12_sleep 182 = .ok (.lcmp, 1) := by decide +kernel
theorem dX12_sleep_183 : decode cX12_sleep 183 = .ok (.ifCond .lt 11, 3) := by decide +kernel
theorem dX12_sleep_186 : decode cX12_sleep 186 = .ok (.lload 8, 2) := by decide +kernel
theorem dX12_sleep_188 : decode cX12_sleep 188 = .ok (.lload 5, 2) := by decide +kernel
theorem dX12_sleep_190 : decode cX12_sleep 190 = .ok (.lcmp, 1) := by decide +kernel
theorem dX12_sleep_191 : decode cX12_sleep 191 = .ok (.ifCond .ge 36, 3) := by decide +kernel
theorem dX12_sleep_194 : decode cX12_sleep 194 = .ok (.lload 8, 2) := by decide +kernel
theorem dX12_sleep_196 : decode cX12_sleep 196 = .ok (.lstore 5, 2) := by decide +kernel
theorem dX12_sleep_198 : decode cX12_sleep 198 = .ok (.iconst 0, 1) := by decide +kernel
theorem dX12_sleep_199 : decode cX12_sleep 199 = .ok (.istore 10, 2) := by decide +kernel
theorem dX12_sleep_201 : decode cX12_sleep 201 = .ok (.iload 10, 2) := by decide +kernel
theorem dX12_sleep_203 : decode cX12_sleep 203 = .ok (.iload_n 1, 1) := by decide +kernel
theorem dX12_sleep_204 : decode cX12_sleep 204 = .ok (.if_icmp .ge 23, 3) := by decide +kernel
theorem dX12_sleep_207 : decode cX12_sleep 207 = .ok (.aload_n 0, 1) := by decide +kernel
theorem dX12_sleep_208 : decode cX12_sleep 208 = .ok (.getfield 78, 3) := by decide +kernel
theorem dX12_sleep_211 : decode cX12_sleep 211 = .ok (.iload 10, 2) := by decide +kernel
theorem dX12_sleep_213 : decode cX12_sleep 213 = .ok (.aload_n 0, 1) := by decide +kernel
theorem dX12_sleep_214 : decode cX12_sleep 214 = .ok (.getfield 75, 3) := by decide +kernel
theorem dX12_sleep_217 : decode cX12_sleep 217 = .ok (.iload 10, 2) := by decide +kernel
theorem dX12_sleep_219 : decode cX12_sleep 219 = .ok (.iaload, 1) := by decide +kernel
theorem dX12_sleep_220 : decode cX12_sleep 220 = .ok (.iastore, 1) := by decide +kernel
theorem dX12_sleep_221 : decode cX12_sleep 221 = .ok (.iinc 10 1, 3) := by decide +kernel
theorem dX12_sleep_224 : decode cX12_sleep 224 = .ok (.goto (-23), 3) := by decide +kernel
theorem dX12_sleep_227 : decode cX12_sleep 227 = .ok (.aload_n 0, 1) := by decide +kernel
theorem dX12_sleep_228 : decode cX12_sleep 228 = .ok (.iload_n 1, 1) := by decide +kernel
theorem dX12_sleep_229 : decode cX12_sleep 229 = .ok (.invokevirtual 341, 3) := by decide +kernel
theorem dX12_sleep_232 : decode cX12_sleep 232 = .ok (.istore 7, 2) := by decide +kernel
theorem dX12_sleep_234 : decode cX12_sleep 234 = .ok (.goto (-104), 3) := by decide +kernel
theorem dX12_sleep_237 : decode cX12_sleep 237 = .ok (.iload_n 3, 1) := by decide +kernel
theorem dX12_sleep_238 : decode cX12_sleep 238 = .ok (.bipush 100, 2) := by decide +kernel
theorem dX12_sleep_240 : decode cX12_sleep 240 = .ok (.if_icmp .ne 8, 3) := by decide +kernel
theorem dX12_sleep_243 : decode cX12_sleep 243 = .ok (.lload 5, 2) := by decide +kernel
theorem dX12_sleep_245 : decode cX12_sleep 245 = .ok (.goto 10, 3) := by decide +kernel
theorem dX12_sleep_248 : decode cX12_sleep 248 = .ok (.aload_n 0, 1) := by decide +kernel
theorem dX12_sleep_249 : decode cX12_sleep 249 = .ok (.getfield 78, 3) := by decide +kernel
theorem dX12_sleep_252 : decode cX12_sleep 252 = .ok (.iload_n 3, 1) := by decide +kernel
theorem dX12_sleep_253 : decode cX12_sleep 253 = .ok (.iaload, 1) := by decide +kernel
theorem dX12_sleep_254 : decode cX12_sleep 254 = .ok (.i2l, 1) := by decide +kernel
theorem dX12_sleep_255 : decode cX12_sleep 255 = .ok (.lreturn, 1) := by decide +kernel
theorem dX12_breakfast_0 : decode cX12_breakfast 0 = .ok (.iload_n 1, 1) := by decide +kernel
theorem dX12_breakfast_1 : decode cX12_breakfast 1 = .ok (.bipush 100, 2) := by decide +kernel
theorem dX12_breakfast_3 : decode cX12_breakfast 3 = .ok (.if_icmp .eq 12, 3) := by decide +kernel
theorem dX12_breakfast_6 : decode cX12_breakfast 6 = .ok (.iload_n 1, 1) := by decide +kernel
theorem dX12_breakfast_7 : decode cX12_breakfast 7 = .ok (.invokestatic 107, 3) := by decide +kernel
theorem dX12_breakfast_10 : decode cX12_breakfast 10 = .ok (.ifCond .ne 5, 3) := by decide +kernel
theorem dX12_breakfast_13 : decode cX12_breakfast 13 = .ok (.iconst (-1), 1) := by decide +kernel
theorem dX12_breakfast_14 : decode cX12_breakfast 14 = .ok (.ireturn, 1) := by decide +kernel
theorem dX12_breakfast_15 : decode cX12_breakfast 15 = .ok (.bipush (-2), 2) := by decide +kernel
theorem dX12_breakfast_17 : decode cX12_breakfast 17 = .ok (.istore_n 2, 1) := by decide +kernel
theorem dX12_breakfast_18 : decode cX12_breakfast 18 = .ok (.iconst 0, 1) := by decide +kernel
theorem dX12_breakfast_19 : decode cX12_breakfast 19 = .ok (.istore_n 3, 1) := by decide +kernel
theorem dX12_breakfast_20 : decode cX12_breakfast 20 = .ok (.iconst 0, 1) := by decide +kernel
theorem dX12_breakfast_21 : decode cX12_breakfast 21 = .ok (.istore 4, 2) := by decide +kernel
theorem dX12_breakfast_23 : decode cX12_breakfast 23 = .ok (.iconst 0, 1) := by decide +kernel
theorem dX12_breakfast_24 : decode cX12_breakfast 24 = .ok (.istore 5, 2) := by decide +kernel
theorem dX12_breakfast_26 : decode cX12_breakfast 26 = .ok (.iload 5, 2) := by decide +kernel
theorem dX12_breakfast_28 : decode cX12_breakfast 28 = .ok (.bipush 24, 2) := by decide +kernel
theorem dX12_breakfast_30 : decode cX12_breakfast 30 = .ok (.if_icmp .ge 64, 3) := by decide +kernel
theorem dX12_breakfast_33 : decode cX12_breakfast 33 = .ok (.iload_n 1, 1) := by decide +kernel
theorem dX12_breakfast_34 : decode cX12_breakfast 34 = .ok (.bipush 100, 2) := by decide +kernel
theorem dX12_breakfast_36 : decode cX12_breakfast 36 = .ok (.if_icmp .ne 23, 3) := by decide +kernel
