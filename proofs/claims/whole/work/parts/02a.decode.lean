theorem dX0_init_0 : decode cX0_init 0 = .ok (.aload_n 0, 1) := by decide +kernel
theorem dX0_init_1 : decode cX0_init 1 = .ok (.invokespecial 3, 3) := by decide +kernel
theorem dX0_init_4 : decode cX0_init 4 = .ok (.aload_n 0, 1) := by decide +kernel
theorem dX0_init_5 : decode cX0_init 5 = .ok (.aload_n 1, 1) := by decide +kernel
theorem dX0_init_6 : decode cX0_init 6 = .ok (.putfield 9, 3) := by decide +kernel
theorem dX0_init_9 : decode cX0_init 9 = .ok (.aload_n 0, 1) := by decide +kernel
theorem dX0_init_10 : decode cX0_init 10 = .ok (.aload_n 2, 1) := by decide +kernel
theorem dX0_init_11 : decode cX0_init 11 = .ok (.putfield 15, 3) := by decide +kernel
theorem dX0_init_14 : decode cX0_init 14 = .ok (.return_, 1) := by decide +kernel
theorem dX0_pass_0 : decode cX0_pass 0 = .ok (.aload_n 0, 1) := by decide +kernel
theorem dX0_pass_1 : decode cX0_pass 1 = .ok (.aload_n 1, 1) := by decide +kernel
theorem dX0_pass_2 : decode cX0_pass 2 = .ok (.putfield 9, 3) := by decide +kernel
theorem dX0_pass_5 : decode cX0_pass 5 = .ok (.aload_n 0, 1) := by decide +kernel
theorem dX0_pass_6 : decode cX0_pass 6 = .ok (.aload_n 2, 1) := by decide +kernel
theorem dX0_pass_7 : decode cX0_pass 7 = .ok (.putfield 15, 3) := by decide +kernel
theorem dX0_pass_10 : decode cX0_pass 10 = .ok (.aload_n 0, 1) := by decide +kernel
theorem dX0_pass_11 : decode cX0_pass 11 = .ok (.iconst 0, 1) := by decide +kernel
theorem dX0_pass_12 : decode cX0_pass 12 = .ok (.putfield 19, 3) := by decide +kernel
theorem dX0_pass_15 : decode cX0_pass 15 = .ok (.aload_n 0, 1) := by decide +kernel
theorem dX0_pass_16 : decode cX0_pass 16 = .ok (.iconst 0, 1) := by decide +kernel
theorem dX0_pass_17 : decode cX0_pass 17 = .ok (.putfield 23, 3) := by decide +kernel
theorem dX0_pass_20 : decode cX0_pass 20 = .ok (.aload_n 0, 1) := by decide +kernel
theorem dX0_pass_21 : decode cX0_pass 21 = .ok (.iconst 0, 1) := by decide +kernel
theorem dX0_pass_22 : decode cX0_pass 22 = .ok (.putfield 26, 3) := by decide +kernel
theorem dX0_pass_25 : decode cX0_pass 25 = .ok (.iconst 0, 1) := by decide +kernel
theorem dX0_pass_26 : decode cX0_pass 26 = .ok (.istore 4, 2) := by decide +kernel
theorem dX0_pass_28 : decode cX0_pass 28 = .ok (.iload 4, 2) := by decide +kernel
theorem dX0_pass_30 : decode cX0_pass 30 = .ok (.iload_n 3, 1) := by decide +kernel
theorem dX0_pass_31 : decode cX0_pass 31 = .ok (.if_icmp .ge 56, 3) := by decide +kernel
theorem dX0_pass_34 : decode cX0_pass 34 = .ok (.aload_n 0, 1) := by decide +kernel
theorem dX0_pass_35 : decode cX0_pass 35 = .ok (.getfield 9, 3) := by decide +kernel
theorem dX0_pass_38 : decode cX0_pass 38 = .ok (.getfield 29, 3) := by decide +kernel
theorem dX0_pass_41 : decode cX0_pass 41 = .ok (.ldc 34, 2) := by decide +kernel
theorem dX0_pass_43 : decode cX0_pass 43 = .ok (.if_icmp .ge 44, 3) := by decide +kernel
theorem dX0_pass_46 : decode cX0_pass 46 = .ok (.iconst 0, 1) := by decide +kernel
theorem dX0_pass_47 : decode cX0_pass 47 = .ok (.istore 5, 2) := by decide +kernel
theorem dX0_pass_49 : decode cX0_pass 49 = .ok (.iload 5, 2) := by decide +kernel
theorem dX0_pass_51 : decode cX0_pass 51 = .ok (.bipush 24, 2) := by decide +kernel
theorem dX0_pass_53 : decode cX0_pass 53 = .ok (.if_icmp .ge 15, 3) := by decide +kernel
theorem dX0_pass_56 : decode cX0_pass 56 = .ok (.aload_n 0, 1) := by decide +kernel
theorem dX0_pass_57 : decode cX0_pass 57 = .ok (.iload 5, 2) := by decide +kernel
theorem dX0_pass_59 : decode cX0_pass 59 = .ok (.invokevirtual 35, 3) := by decide +kernel
theorem dX0_pass_62 : decode cX0_pass 62 = .ok (.iinc 5 1, 3) := by decide +kernel
theorem dX0_pass_65 : decode cX0_pass 65 = .ok (.goto (-16), 3) := by decide +kernel
theorem dX0_pass_68 : decode cX0_pass 68 = .ok (.aload_n 0, 1) := by decide +kernel
theorem dX0_pass_69 : decode cX0_pass 69 = .ok (.getfield 9, 3) := by decide +kernel
theorem dX0_pass_72 : decode cX0_pass 72 = .ok (.dup, 1) := by decide +kernel
theorem dX0_pass_73 : decode cX0_pass 73 = .ok (.getfield 29, 3) := by decide +kernel
theorem dX0_pass_76 : decode cX0_pass 76 = .ok (.iconst 1, 1) := by decide +kernel
theorem dX0_pass_77 : decode cX0_pass 77 = .ok (.iadd, 1) := by decide +kernel
theorem dX0_pass_78 : decode cX0_pass 78 = .ok (.putfield 29, 3) := by decide +kernel
theorem dX0_pass_81 : decode cX0_pass 81 = .ok (.iinc 4 1, 3) := by decide +kernel
theorem dX0_pass_84 : decode cX0_pass 84 = .ok (.goto (-56), 3) := by decide +kernel
theorem dX0_pass_87 : decode cX0_pass 87 = .ok (.return_, 1) := by decide +kernel
theorem dX0_sendUp_0 : decode cX0_sendUp 0 = .ok (.aload_n 0, 1) := by decide +kernel
theorem dX0_sendUp_1 : decode cX0_sendUp 1 = .ok (.getfield 9, 3) := by decide +kernel
theorem dX0_sendUp_4 : decode cX0_sendUp 4 = .ok (.iload_n 1, 1) := by decide +kernel
theorem dX0_sendUp_5 : decode cX0_sendUp 5 = .ok (.invokevirtual 39, 3) := by decide +kernel
theorem dX0_sendUp_8 : decode cX0_sendUp 8 = .ok (.ifCond .eq 15, 3) := by decide +kernel
theorem dX0_sendUp_11 : decode cX0_sendUp 11 = .ok (.aload_n 0, 1) := by decide +kernel
theorem dX0_sendUp_12 : decode cX0_sendUp 12 = .ok (.getfield 9, 3) := by decide +kernel
theorem dX0_sendUp_15 : decode cX0_sendUp 15 = .ok (.getfield 43, 3) := by decide +kernel
theorem dX0_sendUp_18 : decode cX0_sendUp 18 = .ok (.iload_n 1, 1) := by decide +kernel
theorem dX0_sendUp_19 : decode cX0_sendUp 19 = .ok (.iaload, 1) := by decide +kernel
theorem dX0_sendUp_20 : decode cX0_sendUp 20 = .ok (.ifCond .ne 4, 3) := by decide +kernel
theorem dX0_sendUp_23 : decode cX0_sendUp 23 = .ok (.return_, 1) := by decide +kernel
theorem dX0_sendUp_24 : decode cX0_sendUp 24 = .ok (.aload_n 0, 1) := by decide +kernel
theorem dX0_sendUp_25 : decode cX0_sendUp 25 = .ok (.getfield 15, 3) := by decide +kernel
theorem dX0_sendUp_28 : decode cX0_sendUp 28 = .ok (.aload_n 0, 1) := by decide +kernel
theorem dX0_sendUp_29 : decode cX0_sendUp 29 = .ok (.getfield 9, 3) := by decide +kernel
theorem dX0_sendUp_32 : decode cX0_sendUp 32 = .ok (.iload_n 1, 1) := by decide +kernel
theorem dX0_sendUp_33 : decode cX0_sendUp 33 = .ok (.iload_n 1, 1) := by decide +kernel
theorem dX0_sendUp_34 : decode cX0_sendUp 34 = .ok (.iconst 0, 1) := by decide +kernel
theorem dX0_sendUp_35 : decode cX0_sendUp 35 = .ok (.invokevirtual 47, 3) := by decide +kernel
theorem dX0_sendUp_38 : decode cX0_sendUp 38 = .ok (.aload_n 0, 1) := by decide +kernel
theorem dX0_sendUp_39 : decode cX0_sendUp 39 = .ok (.getfield 15, 3) := by decide +kernel
theorem dX0_sendUp_42 : decode cX0_sendUp 42 = .ok (.invokevirtual 53, 3) := by decide +kernel
theorem dX0_sendUp_45 : decode cX0_sendUp 45 = .ok (.ifCond .eq 4, 3) := by decide +kernel
theorem dX0_sendUp_48 : decode cX0_sendUp 48 = .ok (.return_, 1) := by decide +kernel
theorem dX0_sendUp_49 : decode cX0_sendUp 49 = .ok (.aload_n 0, 1) := by decide +kernel
theorem dX0_sendUp_50 : decode cX0_sendUp 50 = .ok (.getfield 15, 3) := by decide +kernel
theorem dX0_sendUp_53 : decode cX0_sendUp 53 = .ok (.bipush 99, 2) := by decide +kernel
theorem dX0_sendUp_55 : decode cX0_sendUp 55 = .ok (.bipush 99, 2) := by decide +kernel
theorem dX0_sendUp_57 : decode cX0_sendUp 57 = .ok (.invokevirtual 57, 3) := by decide +kernel
theorem dX0_sendUp_60 : decode cX0_sendUp 60 = .ok (.aload_n 0, 1) := by decide +kernel
theorem dX0_sendUp_61 : decode cX0_sendUp 61 = .ok (.getfield 9, 3) := by decide +kernel
theorem dX0_sendUp_64 : decode cX0_sendUp 64 = .ok (.getfield 43, 3) := by decide +kernel
theorem dX0_sendUp_67 : decode cX0_sendUp 67 = .ok (.iload_n 1, 1) := by decide +kernel
theorem dX0_sendUp_68 : decode cX0_sendUp 68 = .ok (.iaload, 1) := by decide +kernel
theorem dX0_sendUp_69 : decode cX0_sendUp 69 = .ok (.invokestatic 61, 3) := by decide +kernel
theorem dX0_sendUp_72 : decode cX0_sendUp 72 = .ok (.istore_n 2, 1) := by decide +kernel
theorem dX0_sendUp_73 : decode cX0_sendUp 73 = .ok (.iload_n 2, 1) := by decide +kernel
theorem dX0_sendUp_74 : decode cX0_sendUp 74 = .ok (.ifCond .le 22, 3) := by decide +kernel
theorem dX0_sendUp_77 : decode cX0_sendUp 77 = .ok (.aload_n 0, 1) := by decide +kernel
theorem dX0_sendUp_78 : decode cX0_sendUp 78 = .ok (.getfield 9, 3) := by decide +kernel
theorem dX0_sendUp_81 : decode cX0_sendUp 81 = .ok (.getfield 43, 3) := by decide +kernel
theorem dX0_sendUp_84 : decode cX0_sendUp 84 = .ok (.iload_n 1, 1) := by decide +kernel
theorem dX0_sendUp_85 : decode cX0_sendUp 85 = .ok (.dup2, 1) := by decide +kernel
theorem dX0_sendUp_86 : decode cX0_sendUp 86 = .ok (.iaload, 1) := by decide +kernel
theorem dX0_sendUp_87 : decode cX0_sendUp 87 = .ok (.iload_n 2, 1) := by decide +kernel
theorem dX0_sendUp_88 : decode cX0_sendUp 88 = .ok (.isub, 1) := by decide +kernel
theorem dX0_sendUp_89 : decode cX0_sendUp 89 = .ok (.iastore, 1) := by decide +kernel
theorem dX0_sendUp_90 : decode cX0_sendUp 90 = .ok (.aload_n 0, 1) := by decide +kernel
theorem dX0_sendUp_91 : decode cX0_sendUp 91 = .ok (.iload_n 1, 1) := by decide +kernel
theorem dX0_sendUp_92 : decode cX0_sendUp 92 = .ok (.iload_n 2, 1) := by decide +kernel
theorem dX0_sendUp_93 : decode cX0_sendUp 93 = .ok (.invokevirtual 66, 3) := by decide +kernel
theorem dX0_sendUp_96 : decode cX0_sendUp 96 = .ok (.return_, 1) := by decide +kernel
theorem dX0_rise_0 : decode cX0_rise 0 = .ok (.iload_n 2, 1) := by decide +kernel
theorem dX0_rise_1 : decode cX0_rise 1 = .ok (.istore_n 3, 1) := by decide +kernel
theorem dX0_rise_2 : decode cX0_rise 2 = .ok (.aload_n 0, 1) := by decide +kernel
theorem dX0_rise_3 : decode cX0_rise 3 = .ok (.getfield 9, 3) := by decide +kernel
theorem dX0_rise_6 : decode cX0_rise 6 = .ok (.iload_n 1, 1) := by decide +kernel
theorem dX0_rise_7 : decode cX0_rise 7 = .ok (.invokevirtual 70, 3) := by decide +kernel
theorem dX0_rise_10 : decode cX0_rise 10 = .ok (.istore 4, 2) := by decide +kernel
theorem dX0_rise_12 : decode cX0_rise 12 = .ok (.iconst 0, 1) := by decide +kernel
theorem dX0_rise_13 : decode cX0_rise 13 = .ok (.istore 5, 2) := by decide +kernel
theorem dX0_rise_15 : decode cX0_rise 15 = .ok (.iload 5, 2) := by decide +kernel
theorem dX0_rise_17 : decode cX0_rise 17 = .ok (.iconst 5, 1) := by decide +kernel
theorem dX0_rise_18 : decode cX0_rise 18 = .ok (.if_icmp .ge 162, 3) := by decide +kernel
theorem dX0_rise_21 : decode cX0_rise 21 = .ok (.iload 4, 2) := by decide +kernel
theorem dX0_rise_23 : decode cX0_rise 23 = .ok (.invokestatic 74, 3) := by decide +kernel
theorem dX0_rise_26 : decode cX0_rise 26 = .ok (.ifCond .eq 154, 3) := by decide +kernel
theorem dX0_rise_29 : decode cX0_rise 29 = .ok (.aload_n 0, 1) := by decide +kernel
theorem dX0_rise_30 : decode cX0_rise 30 = .ok (.getfield 15, 3) := by decide +kernel
theorem dX0_rise_33 : decode cX0_rise 33 = .ok (.aload_n 0, 1) := by decide +kernel
theorem dX0_rise_34 : decode cX0_rise 34 = .ok (.getfield 9, 3) := by decide +kernel
theorem dX0_rise_37 : decode cX0_rise 37 = .ok (.iload_n 1, 1) := by decide +kernel
theorem dX0_rise_38 : decode cX0_rise 38 = .ok (.iload 4, 2) := by decide +kernel
theorem dX0_rise_40 : decode cX0_rise 40 = .ok (.iload_n 3, 1) := by decide +kernel
theorem dX0_rise_41 : decode cX0_rise 41 = .ok (.invokevirtual 47, 3) := by decide +kernel
theorem dX0_rise_44 : decode cX0_rise 44 = .ok (.aload_n 0, 1) := by decide +kernel
theorem dX0_rise_45 : decode cX0_rise 45 = .ok (.getfield 15, 3) := by decide +kernel
theorem dX0_rise_48 : decode cX0_rise 48 = .ok (.bipush 107, 2) := by decide +kernel
theorem dX0_rise_50 : decode cX0_rise 50 = .ok (.bipush 99, 2) := by decide +kernel
theorem dX0_rise_52 : decode cX0_rise 52 = .ok (.invokevirtual 57, 3) := by decide +kernel
theorem dX0_rise_55 : decode cX0_rise 55 = .ok (.iload_n 3, 1) := by decide +kernel
theorem dX0_rise_56 : decode cX0_rise 56 = .ok (.invokestatic 61, 3) := by decide +kernel
theorem dX0_rise_59 : decode cX0_rise 59 = .ok (.istore 6, 2) := by decide +kernel
theorem dX0_rise_61 : decode cX0_rise 61 = .ok (.aload_n 0, 1) := by decide +kernel
theorem dX0_rise_62 : decode cX0_rise 62 = .ok (.getfield 9, 3) := by decide +kernel
theorem dX0_rise_65 : decode cX0_rise 65 = .ok (.iload 4, 2) := by decide +kernel
theorem dX0_rise_67 : decode cX0_rise 67 = .ok (.iload 6, 2) := by decide +kernel
theorem dX0_rise_69 : decode cX0_rise 69 = .ok (.invokevirtual 77, 3) := by decide +kernel
theorem dX0_rise_72 : decode cX0_rise 72 = .ok (.aload_n 0, 1) := by decide +kernel
theorem dX0_rise_73 : decode cX0_rise 73 = .ok (.dup, 1) := by decide +kernel
theorem dX0_rise_74 : decode cX0_rise 74 = .ok (.getfield 23, 3) := by decide +kernel
theorem dX0_rise_77 : decode cX0_rise 77 = .ok (.iload 6, 2) := by decide +kernel
theorem dX0_rise_79 : decode cX0_rise 79 = .ok (.iadd, 1) := by decide +kernel
theorem dX0_rise_80 : decode cX0_rise 80 = .ok (.putfield 23, 3) := by decide +kernel
theorem dX0_rise_83 : decode cX0_rise 83 = .ok (.iload_n 3, 1) := by decide +kernel
theorem dX0_rise_84 : decode cX0_rise 84 = .ok (.iload 6, 2) := by decide +kernel
theorem dX0_rise_86 : decode cX0_rise 86 = .ok (.isub, 1) := by decide +kernel
theorem dX0_rise_87 : decode cX0_rise 87 = .ok (.istore_n 3, 1) := by decide +kernel
theorem dX0_rise_88 : decode cX0_rise 88 = .ok (.iload_n 3, 1) := by decide +kernel
theorem dX0_rise_89 : decode cX0_rise 89 = .ok (.ifCond .ne 4, 3) := by decide +kernel
theorem dX0_rise_92 : decode cX0_rise 92 = .ok (.return_, 1) := by decide +kernel
theorem dX0_rise_93 : decode cX0_rise 93 = .ok (.aload_n 0, 1) := by decide +kernel
theorem dX0_rise_94 : decode cX0_rise 94 = .ok (.getfield 15, 3) := by decide +kernel
theorem dX0_rise_97 : decode cX0_rise 97 = .ok (.aload_n 0, 1) := by decide +kernel
theorem dX0_rise_98 : decode cX0_rise 98 = .ok (.getfield 9, 3) := by decide +kernel
theorem dX0_rise_101 : decode cX0_rise 101 = .ok (.iload_n 1, 1) := by decide +kernel
theorem dX0_rise_102 : decode cX0_rise 102 = .ok (.iload 4, 2) := by decide +kernel
theorem dX0_rise_104 : decode cX0_rise 104 = .ok (.iload_n 3, 1) := by decide +kernel
theorem dX0_rise_105 : decode cX0_rise 105 = .ok (.invokevirtual 47, 3) := by decide +kernel
theorem dX0_rise_108 : decode cX0_rise 108 = .ok (.aload_n 0, 1) := by decide +kernel
theorem dX0_rise_109 : decode cX0_rise 109 = .ok (.getfield 9, 3) := by decide +kernel
theorem dX0_rise_112 : decode cX0_rise 112 = .ok (.iload 4, 2) := by decide +kernel
theorem dX0_rise_114 : decode cX0_rise 114 = .ok (.invokevirtual 39, 3) := by decide +kernel
theorem dX0_rise_117 : decode cX0_rise 117 = .ok (.ifCond .eq 46, 3) := by decide +kernel
theorem dX0_rise_120 : decode cX0_rise 120 = .ok (.aload_n 0, 1) := by decide +kernel
theorem dX0_rise_121 : decode cX0_rise 121 = .ok (.getfield 9, 3) := by decide +kernel
theorem dX0_rise_124 : decode cX0_rise 124 = .ok (.invokevirtual 80, 3) := by decide +kernel
theorem dX0_rise_127 : decode cX0_rise 127 = .ok (.aload_n 0, 1) := by decide +kernel
theorem dX0_rise_128 : decode cX0_rise 128 = .ok (.getfield 15, 3) := by decide +kernel
theorem dX0_rise_131 : decode cX0_rise 131 = .ok (.bipush 100, 2) := by decide +kernel
theorem dX0_rise_133 : decode cX0_rise 133 = .ok (.bipush 10, 2) := by decide +kernel
theorem dX0_rise_135 : decode cX0_rise 135 = .ok (.invokevirtual 57, 3) := by decide +kernel
theorem dX0_rise_138 : decode cX0_rise 138 = .ok (.if_icmp .ge 25, 3) := by decide +kernel
theorem dX0_rise_141 : decode cX0_rise 141 = .ok (.aload_n 0, 1) := by decide +kernel
theorem dX0_rise_142 : decode cX0_rise 142 = .ok (.getfield 9, 3) := by decide +kernel
theorem dX0_rise_145 : decode cX0_rise 145 = .ok (.iload 4, 2) := by decide +kernel
theorem dX0_rise_147 : decode cX0_rise 147 = .ok (.iload_n 1, 1) := by decide +kernel
theorem dX0_rise_148 : decode cX0_rise 148 = .ok (.iload_n 3, 1) := by decide +kernel
theorem dX0_rise_149 : decode cX0_rise 149 = .ok (.invokevirtual 84, 3) := by decide +kernel
theorem dX0_rise_152 : decode cX0_rise 152 = .ok (.aload_n 0, 1) := by decide +kernel
theorem dX0_rise_153 : decode cX0_rise 153 = .ok (.dup, 1) := by decide +kernel
theorem dX0_rise_154 : decode cX0_rise 154 = .ok (.getfield 19, 3) := by decide +kernel
theorem dX0_rise_157 : decode cX0_rise 157 = .ok (.iload_n 3, 1) := by decide +kernel
theorem dX0_rise_158 : decode cX0_rise 158 = .ok (.iadd, 1) := by decide +kernel
theorem dX0_rise_159 : decode cX0_rise 159 = .ok (.putfield 19, 3) := by decide +kernel
theorem dX0_rise_162 : decode cX0_rise 162 = .ok (.return_, 1) := by decide +kernel
theorem dX0_rise_163 : decode cX0_rise 163 = .ok (.aload_n 0, 1) := by decide +kernel
theorem dX0_rise_164 : decode cX0_rise 164 = .ok (.getfield 9, 3) := by decide +kernel
theorem dX0_rise_167 : decode cX0_rise 167 = .ok (.iload 4, 2) := by decide +kernel
theorem dX0_rise_169 : decode cX0_rise 169 = .ok (.invokevirtual 70, 3) := by decide +kernel
theorem dX0_rise_172 : decode cX0_rise 172 = .ok (.istore 4, 2) := by decide +kernel
theorem dX0_rise_174 : decode cX0_rise 174 = .ok (.iinc 5 1, 3) := by decide +kernel
theorem dX0_rise_177 : decode cX0_rise 177 = .ok (.goto (-162), 3) := by decide +kernel
theorem dX0_rise_180 : decode cX0_rise 180 = .ok (.aload_n 0, 1) := by decide +kernel
theorem dX0_rise_181 : decode cX0_rise 181 = .ok (.getfield 9, 3) := by decide +kernel
theorem dX0_rise_184 : decode cX0_rise 184 = .ok (.ldc 88, 2) := by decide +kernel
theorem dX0_rise_186 : decode cX0_rise 186 = .ok (.aload_n 0, 1) := by decide +kernel
theorem dX0_rise_187 : decode cX0_rise 187 = .ok (.getfield 9, 3) := by decide +kernel
theorem dX0_rise_190 : decode cX0_rise 190 = .ok (.getfield 89, 3) := by decide +kernel
theorem dX0_rise_193 : decode cX0_rise 193 = .ok (.iload_n 3, 1) := by decide +kernel
theorem dX0_rise_194 : decode cX0_rise 194 = .ok (.iadd, 1) := by decide +kernel
theorem dX0_rise_195 : decode cX0_rise 195 = .ok (.invokestatic 61, 3) := by decide +kernel
theorem dX0_rise_198 : decode cX0_rise 198 = .ok (.putfield 89, 3) := by decide +kernel
theorem dX0_rise_201 : decode cX0_rise 201 = .ok (.aload_n 0, 1) := by decide +kernel
theorem dX0_rise_202 : decode cX0_rise 202 = .ok (.dup, 1) := by decide +kernel
theorem dX0_rise_203 : decode cX0_rise 203 = .ok (.getfield 26, 3) := by decide +kernel
theorem dX0_rise_206 : decode cX0_rise 206 = .ok (.iload_n 3, 1) := by decide +kernel
theorem dX0_rise_207 : decode cX0_rise 207 = .ok (.iadd, 1) := by decide +kernel
theorem dX0_rise_208 : decode cX0_rise 208 = .ok (.putfield 26, 3) := by decide +kernel
theorem dX0_rise_211 : decode cX0_rise 211 = .ok (.return_, 1) := by decide +kernel
theorem dX1_init_0 : decode cX1_init 0 = .ok (.aload_n 0, 1) := by decide +kernel
theorem dX1_init_1 : decode cX1_init 1 = .ok (.invokespecial 3, 3) := by decide +kernel
theorem dX1_init_4 : decode cX1_init 4 = .ok (.aload_n 0, 1) := by decide +kernel
theorem dX1_init_5 : decode cX1_init 5 = .ok (.bipush 6, 2) := by decide +kernel
theorem dX1_init_7 : decode cX1_init 7 = .ok (.newarray .int, 2) := by decide +kernel
theorem dX1_init_9 : decode cX1_init 9 = .ok (.putfield 9, 3) := by decide +kernel
theorem dX1_init_12 : decode cX1_init 12 = .ok (.aload_n 0, 1) := by decide +kernel
theorem dX1_init_13 : decode cX1_init 13 = .ok (.bipush 6, 2) := by decide +kernel
theorem dX1_init_15 : decode cX1_init 15 = .ok (.newarray .int, 2) := by decide +kernel
theorem dX1_init_17 : decode cX1_init 17 = .ok (.putfield 15, 3) := by decide +kernel
theorem dX1_init_20 : decode cX1_init 20 = .ok (.aload_n 0, 1) := by decide +kernel
theorem dX1_init_21 : decode cX1_init 21 = .ok (.bipush 6, 2) := by decide +kernel
theorem dX1_init_23 : decode cX1_init 23 = .ok (.newarray .int, 2) := by decide +kernel
theorem dX1_init_25 : decode cX1_init 25 = .ok (.putfield 18, 3) := by decide +kernel
theorem dX1_init_28 : decode cX1_init 28 = .ok (.aload_n 0, 1) := by decide +kernel
theorem dX1_init_29 : decode cX1_init 29 = .ok (.bipush 6, 2) := by decide +kernel
theorem dX1_init_31 : decode cX1_init 31 = .ok (.newarray .int, 2) := by decide +kernel
theorem dX1_init_33 : decode cX1_init 33 = .ok (.putfield 21, 3) := by decide +kernel
theorem dX1_init_36 : decode cX1_init 36 = .ok (.return_, 1) := by decide +kernel
theorem dX1_share_0 : decode cX1_share 0 = .ok (.aload_n 0, 1) := by decide +kernel
theorem dX1_share_1 : decode cX1_share 1 = .ok (.iload_n 2, 1) := by decide +kernel
theorem dX1_share_2 : decode cX1_share 2 = .ok (.bipush 6, 2) := by decide +kernel
theorem dX1_share_4 : decode cX1_share 4 = .ok (.invokestatic 24, 3) := by decide +kernel
theorem dX1_share_7 : decode cX1_share 7 = .ok (.putfield 30, 3) := by decide +kernel
theorem dX1_share_10 : decode cX1_share 10 = .ok (.iconst 0, 1) := by decide +kernel
theorem dX1_share_11 : decode cX1_share 11 = .ok (.istore 5, 2) := by decide +kernel
theorem dX1_share_13 : decode cX1_share 13 = .ok (.iload 5, 2) := by decide +kernel
theorem dX1_share_15 : decode cX1_share 15 = .ok (.aload_n 0, 1) := by decide +kernel
theorem dX1_share_16 : decode cX1_share 16 = .ok (.getfield 30, 3) := by decide +kernel
theorem dX1_share_19 : decode cX1_share 19 = .ok (.if_icmp .ge 22, 3) := by decide +kernel
theorem dX1_share_22 : decode cX1_share 22 = .ok (.aload_n 0, 1) := by decide +kernel
theorem dX1_share_23 : decode cX1_share 23 = .ok (.getfield 9, 3) := by decide +kernel
theorem dX1_share_26 : decode cX1_share 26 = .ok (.iload 5, 2) := by decide +kernel
theorem dX1_share_28 : decode cX1_share 28 = .ok (.aload_n 1, 1) := by decide +kernel
theorem dX1_share_29 : decode cX1_share 29 = .ok (.iload 5, 2) := by decide +kernel
theorem dX1_share_31 : decode cX1_share 31 = .ok (.invokevirtual 34, 3) := by decide +kernel
theorem dX1_share_34 : decode cX1_share 34 = .ok (.iastore, 1) := by decide +kernel
theorem dX1_share_35 : decode cX1_share 35 = .ok (.iinc 5 1, 3) := by decide +kernel
theorem dX1_share_38 : decode cX1_share 38 = .ok (.goto (-25), 3) := by decide +kernel
theorem dX1_share_41 : decode cX1_share 41 = .ok (.iconst 0, 1) := by decide +kernel
theorem dX1_share_42 : decode cX1_share 42 = .ok (.istore 5, 2) := by decide +kernel
theorem dX1_share_44 : decode cX1_share 44 = .ok (.iconst 0, 1) := by decide +kernel
theorem dX1_share_45 : decode cX1_share 45 = .ok (.istore 6, 2) := by decide +kernel
theorem dX1_share_47 : decode cX1_share 47 = .ok (.iload 6, 2) := by decide +kernel
theorem dX1_share_49 : decode cX1_share 49 = .ok (.bipush 24, 2) := by decide +kernel
theorem dX1_share_51 : decode cX1_share 51 = .ok (.if_icmp .ge 46, 3) := by decide +kernel
theorem dX1_share_54 : decode cX1_share 54 = .ok (.iload 4, 2) := by decide +kernel
theorem dX1_share_56 : decode cX1_share 56 = .ok (.iload 6, 2) := by decide +kernel
theorem dX1_share_58 : decode cX1_share 58 = .ok (.ishr, 1) := by decide +kernel
theorem dX1_share_59 : decode cX1_share 59 = .ok (.iconst 1, 1) := by decide +kernel
theorem dX1_share_60 : decode cX1_share 60 = .ok (.iand, 1) := by decide +kernel
theorem dX1_share_61 : decode cX1_share 61 = .ok (.iconst 1, 1) := by decide +kernel
theorem dX1_share_62 : decode cX1_share 62 = .ok (.if_icmp .ne 29, 3) := by decide +kernel
theorem dX1_share_65 : decode cX1_share 65 = .ok (.iload 5, 2) := by decide +kernel
theorem dX1_share_67 : decode cX1_share 67 = .ok (.aload_n 0, 1) := by decide +kernel
theorem dX1_share_68 : decode cX1_share 68 = .ok (.getfield 30, 3) := by decide +kernel
theorem dX1_share_71 : decode cX1_share 71 = .ok (.if_icmp .ge 20, 3) := by decide +kernel
theorem dX1_share_74 : decode cX1_share 74 = .ok (.aload_n 0, 1) := by decide +kernel
theorem dX1_share_75 : decode cX1_share 75 = .ok (.getfield 15, 3) := by decide +kernel
theorem dX1_share_78 : decode cX1_share 78 = .ok (.iload 5, 2) := by decide +kernel
theorem dX1_share_80 : decode cX1_share 80 = .ok (.aload_n 3, 1) := by decide +kernel
theorem dX1_share_81 : decode cX1_share 81 = .ok (.getfield 40, 3) := by decide +kernel
theorem dX1_share_84 : decode cX1_share 84 = .ok (.iload 6, 2) := by decide +kernel
theorem dX1_share_86 : decode cX1_share 86 = .ok (.iaload, 1) := by decide +kernel
theorem dX1_share_87 : decode cX1_share 87 = .ok (.iastore, 1) := by decide +kernel
theorem dX1_share_88 : decode cX1_share 88 = .ok (.iinc 5 1, 3) := by decide +kernel
theorem dX1_share_91 : decode cX1_share 91 = .ok (.iinc 6 1, 3) := by decide +kernel
theorem dX1_share_94 : decode cX1_share 94 = .ok (.goto (-47), 3) := by decide +kernel
theorem dX1_share_97 : decode cX1_share 97 = .ok (.aload_n 0, 1) := by decide +kernel
theorem dX1_share_98 : decode cX1_share 98 = .ok (.ldc2_w 43, 3) := by decide +kernel
theorem dX1_share_101 : decode cX1_share 101 = .ok (.putfield 45, 3) := by decide +kernel
theorem dX1_share_104 : decode cX1_share 104 = .ok (.aload_n 0, 1) := by decide +kernel
theorem dX1_share_105 : decode cX1_share 105 = .ok (.iconst 0, 1) := by decide +kernel
theorem dX1_share_106 : decode cX1_share 106 = .ok (.iconst 0, 1) := by decide +kernel
theorem dX1_share_107 : decode cX1_share 107 = .ok (.lconst 0, 1) := by decide +kernel
theorem dX1_share_108 : decode cX1_share 108 = .ok (.invokevirtual 49, 3) := by decide +kernel
theorem dX1_share_111 : decode cX1_share 111 = .ok (.return_, 1) := by decide +kernel
theorem dX1_fill_0 : decode cX1_fill 0 = .ok (.iload_n 1, 1) := by decide +kernel
theorem dX1_fill_1 : decode cX1_fill 1 = .ok (.aload_n 0, 1) := by decide +kernel
theorem dX1_fill_2 : decode cX1_fill 2 = .ok (.getfield 30, 3) := by decide +kernel
theorem dX1_fill_5 : decode cX1_fill 5 = .ok (.if_icmp .lt 35, 3) := by decide +kernel
theorem dX1_fill_8 : decode cX1_fill 8 = .ok (.lload_n 3, 1) := by decide +kernel
theorem dX1_fill_9 : decode cX1_fill 9 = .ok (.aload_n 0, 1) := by decide +kernel
theorem dX1_fill_10 : decode cX1_fill 10 = .ok (.getfield 45, 3) := by decide +kernel
theorem dX1_fill_13 : decode cX1_fill 13 = .ok (.lcmp, 1) := by decide +kernel
theorem dX1_fill_14 : decode cX1_fill 14 = .ok (.ifCond .ge 25, 3) := by decide +kernel
theorem dX1_fill_17 : decode cX1_fill 17 = .ok (.aload_n 0, 1) := by decide +kernel
theorem dX1_fill_18 : decode cX1_fill 18 = .ok (.lload_n 3, 1) := by decide +kernel
theorem dX1_fill_19 : decode cX1_fill 19 = .ok (.putfield 45, 3) := by decide +kernel
theorem dX1_fill_22 : decode cX1_fill 22 = .ok (.aload_n 0, 1) := by decide +kernel
theorem dX1_fill_23 : decode cX1_fill 23 = .ok (.getfield 18, 3) := by decide +kernel
theorem dX1_fill_26 : decode cX1_fill 26 = .ok (.iconst 0, 1) := by decide +kernel
theorem dX1_fill_27 : decode cX1_fill 27 = .ok (.aload_n 0, 1) := by decide +kernel
theorem dX1_fill_28 : decode cX1_fill 28 = .ok (.getfield 21, 3) := by decide +kernel
theorem dX1_fill_31 : decode cX1_fill 31 = .ok (.iconst 0, 1) := by decide +kernel
theorem dX1_fill_32 : decode cX1_fill 32 = .ok (.aload_n 0, 1) := by decide +kernel
theorem dX1_fill_33 : decode cX1_fill 33 = .ok (.getfield 30, 3) := by decide +kernel
theorem dX1_fill_36 : decode cX1_fill 36 = .ok (.invokestatic 53, 3) := by decide +kernel
theorem dX1_fill_39 : decode cX1_fill 39 = .ok (.return_, 1) := by decide +kernel
theorem dX1_fill_40 : decode cX1_fill 40 = .ok (.iconst 0, 1) := by decide +kernel
theorem dX1_fill_41 : decode cX1_fill 41 = .ok (.istore 5, 2) := by decide +kernel
theorem dX1_fill_43 : decode cX1_fill 43 = .ok (.iload 5, 2) := by decide +kernel
theorem dX1_fill_45 : decode cX1_fill 45 = .ok (.aload_n 0, 1) := by decide +kernel
theorem dX1_fill_46 : decode cX1_fill 46 = .ok (.getfield 30, 3) := by decide +kernel
theorem dX1_fill_49 : decode cX1_fill 49 = .ok (.if_icmp .ge 57, 3) := by decide +kernel
theorem dX1_fill_52 : decode cX1_fill 52 = .ok (.iload_n 2, 1) := by decide +kernel
theorem dX1_fill_53 : decode cX1_fill 53 = .ok (.iload 5, 2) := by decide +kernel
theorem dX1_fill_55 : decode cX1_fill 55 = .ok (.ishr, 1) := by decide +kernel
theorem dX1_fill_56 : decode cX1_fill 56 = .ok (.iconst 1, 1) := by decide +kernel
theorem dX1_fill_57 : decode cX1_fill 57 = .ok (.iand, 1) := by decide +kernel
theorem dX1_fill_58 : decode cX1_fill 58 = .ok (.ifCond .ne 42, 3) := by decide +kernel
theorem dX1_fill_61 : decode cX1_fill 61 = .ok (.aload_n 0, 1) := by decide +kernel
theorem dX1_fill_62 : decode cX1_fill 62 = .ok (.getfield 18, 3) := by decide +kernel
theorem dX1_fill_65 : decode cX1_fill 65 = .ok (.iload_n 1, 1) := by decide +kernel
theorem dX1_fill_66 : decode cX1_fill 66 = .ok (.iload 5, 2) := by decide +kernel
theorem dX1_fill_68 : decode cX1_fill 68 = .ok (.iastore, 1) := by decide +kernel
theorem dX1_fill_69 : decode cX1_fill 69 = .ok (.aload_n 0, 1) := by decide +kernel
theorem dX1_fill_70 : decode cX1_fill 70 = .ok (.iload_n 1, 1) := by decide +kernel
theorem dX1_fill_71 : decode cX1_fill 71 = .ok (.iconst 1, 1) := by decide +kernel
theorem dX1_fill_72 : decode cX1_fill 72 = .ok (.iadd, 1) := by decide +kernel
theorem dX1_fill_73 : decode cX1_fill 73 = .ok (.iload_n 2, 1) := by decide +kernel
theorem dX1_fill_74 : decode cX1_fill 74 = .ok (.iconst 1, 1) := by decide +kernel
theorem dX1_fill_75 : decode cX1_fill 75 = .ok (.iload 5, 2) := by decide +kernel
theorem dX1_fill_77 : decode cX1_fill 77 = .ok (.ishl, 1) := by decide +kernel
theorem dX1_fill_78 : decode cX1_fill 78 = .ok (.ior, 1) := by decide +kernel
theorem dX1_fill_79 : decode cX1_fill 79 = .ok (.lload_n 3, 1) := by decide +kernel
theorem dX1_fill_80 : decode cX1_fill 80 = .ok (.aload_n 0, 1) := by decide +kernel
theorem dX1_fill_81 : decode cX1_fill 81 = .ok (.getfield 9, 3) := by decide +kernel
theorem dX1_fill_84 : decode cX1_fill 84 = .ok (.iload 5, 2) := by decide +kernel
theorem dX1_fill_86 : decode cX1_fill 86 = .ok (.iaload, 1) := by decide +kernel
theorem dX1_fill_87 : decode cX1_fill 87 = .ok (.i2l, 1) := by decide +kernel
theorem dX1_fill_88 : decode cX1_fill 88 = .ok (.aload_n 0, 1) := by decide +kernel
theorem dX1_fill_89 : decode cX1_fill 89 = .ok (.getfield 15, 3) := by decide +kernel
theorem dX1_fill_92 : decode cX1_fill 92 = .ok (.iload_n 1, 1) := by decide +kernel
theorem dX1_fill_93 : decode cX1_fill 93 = .ok (.iaload, 1) := by decide +kernel
theorem dX1_fill_94 : decode cX1_fill 94 = .ok (.i2l, 1) := by decide +kernel
theorem dX1_fill_95 : decode cX1_fill 95 = .ok (.lmul, 1) := by decide +kernel
theorem dX1_fill_96 : decode cX1_fill 96 = .ok (.ladd, 1) := by decide +kernel
theorem dX1_fill_97 : decode cX1_fill 97 = .ok (.invokevirtual 49, 3) := by decide +kernel
theorem dX1_fill_100 : decode cX1_fill 100 = .ok (.iinc 5 1, 3) := by decide +kernel
theorem dX1_fill_103 : decode cX1_fill 103 = .ok (.goto (-60), 3) := by decide +kernel
theorem dX1_fill_106 : decode cX1_fill 106 = .ok (.return_, 1) := by decide +kernel
theorem dX2_init_0 : decode cX2_init 0 = .ok (.aload_n 0, 1) := by decide +kernel
theorem dX2_init_1 : decode cX2_init 1 = .ok (.invokespecial 3, 3) := by decide +kernel
theorem dX2_init_4 : decode cX2_init 4 = .ok (.aload_n 0, 1) := by decide +kernel
theorem dX2_init_5 : decode cX2_init 5 = .ok (.bipush 24, 2) := by decide +kernel
theorem dX2_init_7 : decode cX2_init 7 = .ok (.newarray .int, 2) := by decide +kernel
theorem dX2_init_9 : decode cX2_init 9 = .ok (.putfield 9, 3) := by decide +kernel
theorem dX2_init_12 : decode cX2_init 12 = .ok (.aload_n 0, 1) := by decide +kernel
theorem dX2_init_13 : decode cX2_init 13 = .ok (.bipush 24, 2) := by decide +kernel
theorem dX2_init_15 : decode cX2_init 15 = .ok (.newarray .int, 2) := by decide +kernel
theorem dX2_init_17 : decode cX2_init 17 = .ok (.putfield 15, 3) := by decide +kernel
theorem dX2_init_20 : decode cX2_init 20 = .ok (.return_, 1) := by decide +kernel
theorem dX2_turned_0 : decode cX2_turned 0 = .ok (.aload_n 0, 1) := by decide +kernel
theorem dX2_turned_1 : decode cX2_turned 1 = .ok (.aload_n 1, 1) := by decide +kernel
theorem dX2_turned_2 : decode cX2_turned 2 = .ok (.iload_n 3, 1) := by decide +kernel
theorem dX2_turned_3 : decode cX2_turned 3 = .ok (.invokevirtual 18, 3) := by decide +kernel
theorem dX2_turned_6 : decode cX2_turned 6 = .ok (.aload_n 0, 1) := by decide +kernel
theorem dX2_turned_7 : decode cX2_turned 7 = .ok (.getfield 9, 3) := by decide +kernel
theorem dX2_turned_10 : decode cX2_turned 10 = .ok (.iload_n 2, 1) := by decide +kernel
theorem dX2_turned_11 : decode cX2_turned 11 = .ok (.iaload, 1) := by decide +kernel
theorem dX2_turned_12 : decode cX2_turned 12 = .ok (.sipush 1000, 3) := by decide +kernel
theorem dX2_turned_15 : decode cX2_turned 15 = .ok (.if_icmp .lt 6, 3) := by decide +kernel
theorem dX2_turned_18 : decode cX2_turned 18 = .ok (.bipush (-2), 2) := by decide +kernel
theorem dX2_turned_20 : decode cX2_turned 20 = .ok (.ireturn, 1) := by decide +kernel
theorem dX2_turned_21 : decode cX2_turned 21 = .ok (.iload 4, 2) := by decide +kernel
theorem dX2_turned_23 : decode cX2_turned 23 = .ok (.bipush 100, 2) := by decide +kernel
theorem dX2_turned_25 : decode cX2_turned 25 = .ok (.if_icmp .ne 10, 3) := by decide +kernel
theorem dX2_turned_28 : decode cX2_turned 28 = .ok (.aload_n 0, 1) := by decide +kernel
theorem dX2_turned_29 : decode cX2_turned 29 = .ok (.getfield 9, 3) := by decide +kernel
theorem dX2_turned_32 : decode cX2_turned 32 = .ok (.iload_n 2, 1) := by decide +kernel
theorem dX2_turned_33 : decode cX2_turned 33 = .ok (.iaload, 1) := by decide +kernel
theorem dX2_turned_34 : decode cX2_turned 34 = .ok (.ireturn, 1) := by decide +kernel
theorem dX2_turned_35 : decode cX2_turned 35 = .ok (.iload 4, 2) := by decide +kernel
theorem dX2_turned_37 : decode cX2_turned 37 = .ok (.iload_n 3, 1) := by decide +kernel
theorem dX2_turned_38 : decode cX2_turned 38 = .ok (.invokestatic 22, 3) := by decide +kernel
theorem dX2_turned_41 : decode cX2_turned 41 = .ok (.iload_n 2, 1) := by decide +kernel
theorem dX2_turned_42 : decode cX2_turned 42 = .ok (.invokestatic 22, 3) := by decide +kernel
theorem dX2_turned_45 : decode cX2_turned 45 = .ok (.isub, 1) := by decide +kernel
theorem dX2_turned_46 : decode cX2_turned 46 = .ok (.if_icmp .lt 6, 3) := by decide +kernel
theorem dX2_turned_49 : decode cX2_turned 49 = .ok (.bipush (-4), 2) := by decide +kernel
theorem dX2_turned_51 : decode cX2_turned 51 = .ok (.ireturn, 1) := by decide +kernel
theorem dX2_turned_52 : decode cX2_turned 52 = .ok (.iload_n 2, 1) := by decide +kernel
theorem dX2_turned_53 : decode cX2_turned 53 = .ok (.istore 5, 2) := by decide +kernel
theorem dX2_turned_55 : decode cX2_turned 55 = .ok (.iconst 0, 1) := by decide +kernel
theorem dX2_turned_56 : decode cX2_turned 56 = .ok (.istore 6, 2) := by decide +kernel
theorem dX2_turned_58 : decode cX2_turned 58 = .ok (.iload 6, 2) := by decide +kernel
theorem dX2_turned_60 : decode cX2_turned 60 = .ok (.iload 4, 2) := by decide +kernel
theorem dX2_turned_62 : decode cX2_turned 62 = .ok (.if_icmp .gt 18, 3) := by decide +kernel
theorem dX2_turned_65 : decode cX2_turned 65 = .ok (.aload_n 0, 1) := by decide +kernel
theorem dX2_turned_66 : decode cX2_turned 66 = .ok (.aload_n 1, 1) := by decide +kernel
theorem dX2_turned_67 : decode cX2_turned 67 = .ok (.iload 5, 2) := by decide +kernel
theorem dX2_turned_69 : decode cX2_turned 69 = .ok (.invokevirtual 26, 3) := by decide +kernel
theorem dX2_turned_72 : decode cX2_turned 72 = .ok (.istore 5, 2) := by decide +kernel
theorem dX2_turned_74 : decode cX2_turned 74 = .ok (.iinc 6 1, 3) := by decide +kernel
theorem dX2_turned_77 : decode cX2_turned 77 = .ok (.goto (-19), 3) := by decide +kernel
theorem dX2_turned_80 : decode cX2_turned 80 = .ok (.iload 5, 2) := by decide +kernel
theorem dX2_turned_82 : decode cX2_turned 82 = .ok (.invokestatic 30, 3) := by decide +kernel
theorem dX2_turned_85 : decode cX2_turned 85 = .ok (.ireturn, 1) := by decide +kernel
theorem dX2_numberOfRows_0 : decode cX2_numberOfRows 0 = .ok (.aload_n 0, 1) := by decide +kernel
theorem dX2_numberOfRows_1 : decode cX2_numberOfRows 1 = .ok (.getfield 9, 3) := by decide +kernel
theorem dX2_numberOfRows_4 : decode cX2_numberOfRows 4 = .ok (.iconst 0, 1) := by decide +kernel
theorem dX2_numberOfRows_5 : decode cX2_numberOfRows 5 = .ok (.invokestatic 33, 3) := by decide +kernel
theorem dX2_numberOfRows_8 : decode cX2_numberOfRows 8 = .ok (.aload_n 0, 1) := by decide +kernel
theorem dX2_numberOfRows_9 : decode cX2_numberOfRows 9 = .ok (.getfield 9, 3) := by decide +kernel
theorem dX2_numberOfRows_12 : decode cX2_numberOfRows 12 = .ok (.iload_n 2, 1) := by decide +kernel
theorem dX2_numberOfRows_13 : decode cX2_numberOfRows 13 = .ok (.iconst 1, 1) := by decide +kernel
theorem dX2_numberOfRows_14 : decode cX2_numberOfRows 14 = .ok (.iastore, 1) := by decide +kernel
theorem dX2_numberOfRows_15 : decode cX2_numberOfRows 15 = .ok (.iload_n 2, 1) := by decide +kernel
theorem dX2_numberOfRows_16 : decode cX2_numberOfRows 16 = .ok (.invokestatic 22, 3) := by decide +kernel
theorem dX2_numberOfRows_19 : decode cX2_numberOfRows 19 = .ok (.iconst 4, 1) := by decide +kernel
theorem dX2_numberOfRows_20 : decode cX2_numberOfRows 20 = .ok (.imul, 1) := by decide +kernel
theorem dX2_numberOfRows_21 : decode cX2_numberOfRows 21 = .ok (.iconst 1, 1) := by decide +kernel
theorem dX2_numberOfRows_22 : decode cX2_numberOfRows 22 = .ok (.isub, 1) := by decide +kernel
theorem dX2_numberOfRows_23 : decode cX2_numberOfRows 23 = .ok (.istore_n 3, 1) := by decide +kernel
theorem dX2_numberOfRows_24 : decode cX2_numberOfRows 24 = .ok (.iload_n 3, 1) := by decide +kernel
theorem dX2_numberOfRows_25 : decode cX2_numberOfRows 25 = .ok (.ifCond .lt 46, 3) := by decide +kernel
theorem dX2_numberOfRows_28 : decode cX2_numberOfRows 28 = .ok (.iload_n 3, 1) := by decide +kernel
theorem dX2_numberOfRows_29 : decode cX2_numberOfRows 29 = .ok (.invokestatic 39, 3) := by decide +kernel
theorem dX2_numberOfRows_32 : decode cX2_numberOfRows 32 = .ok (.istore 4, 2) := by decide +kernel
theorem dX2_numberOfRows_34 : decode cX2_numberOfRows 34 = .ok (.iload 4, 2) := by decide +kernel
theorem dX2_numberOfRows_36 : decode cX2_numberOfRows 36 = .ok (.iload_n 3, 1) := by decide +kernel
theorem dX2_numberOfRows_37 : decode cX2_numberOfRows 37 = .ok (.invokestatic 42, 3) := by decide +kernel
theorem dX2_numberOfRows_40 : decode cX2_numberOfRows 40 = .ok (.if_icmp .gt 25, 3) := by decide +kernel
theorem dX2_numberOfRows_43 : decode cX2_numberOfRows 43 = .ok (.aload_n 0, 1) := by decide +kernel
theorem dX2_numberOfRows_44 : decode cX2_numberOfRows 44 = .ok (.getfield 9, 3) := by decide +kernel
theorem dX2_numberOfRows_47 : decode cX2_numberOfRows 47 = .ok (.iload_n 3, 1) := by decide +kernel
theorem dX2_numberOfRows_48 : decode cX2_numberOfRows 48 = .ok (.dup2, 1) := by decide +kernel
theorem dX2_numberOfRows_49 : decode cX2_numberOfRows 49 = .ok (.iaload, 1) := by decide +kernel
theorem dX2_numberOfRows_50 : decode cX2_numberOfRows 50 = .ok (.aload_n 0, 1) := by decide +kernel
theorem dX2_numberOfRows_51 : decode cX2_numberOfRows 51 = .ok (.getfield 9, 3) := by decide +kernel
theorem dX2_numberOfRows_54 : decode cX2_numberOfRows 54 = .ok (.iload 4, 2) := by decide +kernel
theorem dX2_numberOfRows_56 : decode cX2_numberOfRows 56 = .ok (.iaload, 1) := by decide +kernel
theorem dX2_numberOfRows_57 : decode cX2_numberOfRows 57 = .ok (.iadd, 1) := by decide +kernel
theorem dX2_numberOfRows_58 : decode cX2_numberOfRows 58 = .ok (.iastore, 1) := by decide +kernel
theorem dX2_numberOfRows_59 : decode cX2_numberOfRows 59 = .ok (.iinc 4 1, 3) := by decide +kernel
theorem dX2_numberOfRows_62 : decode cX2_numberOfRows 62 = .ok (.goto (-28), 3) := by decide +kernel
theorem dX2_numberOfRows_65 : decode cX2_numberOfRows 65 = .ok (.iinc 3 (-1), 3) := by decide +kernel
theorem dX2_numberOfRows_68 : decode cX2_numberOfRows 68 = .ok (.goto (-44), 3) := by decide +kernel
theorem dX2_numberOfRows_71 : decode cX2_numberOfRows 71 = .ok (.aload_n 0, 1) := by decide +kernel
theorem dX2_numberOfRows_72 : decode cX2_numberOfRows 72 = .ok (.getfield 9, 3) := by decide +kernel
theorem dX2_numberOfRows_75 : decode cX2_numberOfRows 75 = .ok (.iload_n 1, 1) := by decide +kernel
theorem dX2_numberOfRows_76 : decode cX2_numberOfRows 76 = .ok (.iaload, 1) := by decide +kernel
theorem dX2_numberOfRows_77 : decode cX2_numberOfRows 77 = .ok (.ireturn, 1) := by decide +kernel
theorem dX2_fewestShut_0 : decode cX2_fewestShut 0 = .ok (.aload_n 0, 1) := by decide +kernel
theorem dX2_fewestShut_1 : decode cX2_fewestShut 1 = .ok (.getfield 9, 3) := by decide +kernel
theorem dX2_fewestShut_4 : decode cX2_fewestShut 4 = .ok (.iconst 0, 1) := by decide +kernel
theorem dX2_fewestShut_5 : decode cX2_fewestShut 5 = .ok (.invokestatic 33, 3) := by decide +kernel
theorem dX2_fewestShut_8 : decode cX2_fewestShut 8 = .ok (.aload_n 0, 1) := by decide +kernel
theorem dX2_fewestShut_9 : decode cX2_fewestShut 9 = .ok (.getfield 15, 3) := by decide +kernel
theorem dX2_fewestShut_12 : decode cX2_fewestShut 12 = .ok (.iconst 0, 1) := by decide +kernel
theorem dX2_fewestShut_13 : decode cX2_fewestShut 13 = .ok (.invokestatic 33, 3) := by decide +kernel
theorem dX2_fewestShut_16 : decode cX2_fewestShut 16 = .ok (.iconst 0, 1) := by decide +kernel
theorem dX2_fewestShut_17 : decode cX2_fewestShut 17 = .ok (.istore_n 3, 1) := by decide +kernel
theorem dX2_fewestShut_18 : decode cX2_fewestShut 18 = .ok (.iconst 0, 1) := by decide +kernel
theorem dX2_fewestShut_19 : decode cX2_fewestShut 19 = .ok (.istore 4, 2) := by decide +kernel
theorem dX2_fewestShut_21 : decode cX2_fewestShut 21 = .ok (.iload 4, 2) := by decide +kernel
theorem dX2_fewestShut_23 : decode cX2_fewestShut 23 = .ok (.bipush 24, 2) := by decide +kernel
theorem dX2_fewestShut_25 : decode cX2_fewestShut 25 = .ok (.if_icmp .ge 160, 3) := by decide +kernel
theorem dX2_fewestShut_28 : decode cX2_fewestShut 28 = .ok (.aload_n 1, 1) := by decide +kernel
theorem dX2_fewestShut_29 : decode cX2_fewestShut 29 = .ok (.iload 4, 2) := by decide +kernel
theorem dX2_fewestShut_31 : decode cX2_fewestShut 31 = .ok (.invokevirtual 45, 3) := by decide +kernel
theorem dX2_fewestShut_34 : decode cX2_fewestShut 34 = .ok (.istore 5, 2) := by decide +kernel
theorem dX2_fewestShut_36 : decode cX2_fewestShut 36 = .ok (.ldc 51, 2) := by decide +kernel
theorem dX2_fewestShut_38 : decode cX2_fewestShut 38 = .ok (.iconst 1, 1) := by decide +kernel
theorem dX2_fewestShut_39 : decode cX2_fewestShut 39 = .ok (.iload 4, 2) := by decide +kernel
theorem dX2_fewestShut_41 : decode cX2_fewestShut 41 = .ok (.ishl, 1) := by decide +kernel
theorem dX2_fewestShut_42 : decode cX2_fewestShut 42 = .ok (.ior, 1) := by decide +kernel
theorem dX2_fewestShut_43 : decode cX2_fewestShut 43 = .ok (.istore 6, 2) := by decide +kernel
theorem dX2_fewestShut_45 : decode cX2_fewestShut 45 = .ok (.iload 5, 2) := by decide +kernel
theorem dX2_fewestShut_47 : decode cX2_fewestShut 47 = .ok (.ifCond .eq 26, 3) := by decide +kernel
theorem dX2_fewestShut_50 : decode cX2_fewestShut 50 = .ok (.aload_n 0, 1) := by decide +kernel
theorem dX2_fewestShut_51 : decode cX2_fewestShut 51 = .ok (.getfield 9, 3) := by decide +kernel
theorem dX2_fewestShut_54 : decode cX2_fewestShut 54 = .ok (.iload 4, 2) := by decide +kernel
theorem dX2_fewestShut_56 : decode cX2_fewestShut 56 = .ok (.iaload, 1) := by decide +kernel
theorem dX2_fewestShut_57 : decode cX2_fewestShut 57 = .ok (.iload 6, 2) := by decide +kernel
theorem dX2_fewestShut_59 : decode cX2_fewestShut 59 = .ok (.iadd, 1) := by decide +kernel
theorem dX2_fewestShut_60 : decode cX2_fewestShut 60 = .ok (.aload_n 0, 1) := by decide +kernel
theorem dX2_fewestShut_61 : decode cX2_fewestShut 61 = .ok (.getfield 15, 3) := by decide +kernel
theorem dX2_fewestShut_64 : decode cX2_fewestShut 64 = .ok (.iload 4, 2) := by decide +kernel
theorem dX2_fewestShut_66 : decode cX2_fewestShut 66 = .ok (.iaload, 1) := by decide +kernel
theorem dX2_fewestShut_67 : decode cX2_fewestShut 67 = .ok (.invokestatic 52, 3) := by decide +kernel
theorem dX2_fewestShut_70 : decode cX2_fewestShut 70 = .ok (.goto 10, 3) := by decide +kernel
theorem dX2_fewestShut_73 : decode cX2_fewestShut 73 = .ok (.aload_n 0, 1) := by decide +kernel
theorem dX2_fewestShut_74 : decode cX2_fewestShut 74 = .ok (.getfield 9, 3) := by decide +kernel
theorem dX2_fewestShut_77 : decode cX2_fewestShut 77 = .ok (.iload 4, 2) := by decide +kernel
theorem dX2_fewestShut_79 : decode cX2_fewestShut 79 = .ok (.iaload, 1) := by decide +kernel
theorem dX2_fewestShut_80 : decode cX2_fewestShut 80 = .ok (.istore 7, 2) := by decide +kernel
theorem dX2_fewestShut_82 : decode cX2_fewestShut 82 = .ok (.iload 5, 2) := by decide +kernel
theorem dX2_fewestShut_84 : decode cX2_fewestShut 84 = .ok (.ifCond .eq 17, 3) := by decide +kernel
theorem dX2_fewestShut_87 : decode cX2_fewestShut 87 = .ok (.iload_n 2, 1) := by decide +kernel
theorem dX2_fewestShut_88 : decode cX2_fewestShut 88 = .ok (.iload 4, 2) := by decide +kernel
theorem dX2_fewestShut_90 : decode cX2_fewestShut 90 = .ok (.ishr, 1) := by decide +kernel
theorem dX2_fewestShut_91 : decode cX2_fewestShut 91 = .ok (.iconst 1, 1) := by decide +kernel
theorem dX2_fewestShut_92 : decode cX2_fewestShut 92 = .ok (.iand, 1) := by decide +kernel
theorem dX2_fewestShut_93 : decode cX2_fewestShut 93 = .ok (.iconst 1, 1) := by decide +kernel
theorem dX2_fewestShut_94 : decode cX2_fewestShut 94 = .ok (.if_icmp .ne 7, 3) := by decide +kernel
theorem dX2_fewestShut_97 : decode cX2_fewestShut 97 = .ok (.iconst 1, 1) := by decide +kernel
theorem dX2_fewestShut_98 : decode cX2_fewestShut 98 = .ok (.goto 4, 3) := by decide +kernel
theorem dX2_fewestShut_101 : decode cX2_fewestShut 101 = .ok (.iconst 0, 1) := by decide +kernel
theorem dX2_fewestShut_102 : decode cX2_fewestShut 102 = .ok (.istore 8, 2) := by decide +kernel
theorem dX2_fewestShut_104 : decode cX2_fewestShut 104 = .ok (.iload 8, 2) := by decide +kernel
theorem dX2_fewestShut_106 : decode cX2_fewestShut 106 = .ok (.ifCond .eq 16, 3) := by decide +kernel
theorem dX2_fewestShut_109 : decode cX2_fewestShut 109 = .ok (.aload_n 0, 1) := by decide +kernel
theorem dX2_fewestShut_110 : decode cX2_fewestShut 110 = .ok (.getfield 15, 3) := by decide +kernel
theorem dX2_fewestShut_113 : decode cX2_fewestShut 113 = .ok (.iload 4, 2) := by decide +kernel
theorem dX2_fewestShut_115 : decode cX2_fewestShut 115 = .ok (.iaload, 1) := by decide +kernel
theorem dX2_fewestShut_116 : decode cX2_fewestShut 116 = .ok (.iload 6, 2) := by decide +kernel
theorem dX2_fewestShut_118 : decode cX2_fewestShut 118 = .ok (.iadd, 1) := by decide +kernel
theorem dX2_fewestShut_119 : decode cX2_fewestShut 119 = .ok (.goto 10, 3) := by decide +kernel
theorem dX2_fewestShut_122 : decode cX2_fewestShut 122 = .ok (.aload_n 0, 1) := by decide +kernel
theorem dX2_fewestShut_123 : decode cX2_fewestShut 123 = .ok (.getfield 15, 3) := by decide +kernel
theorem dX2_fewestShut_126 : decode cX2_fewestShut 126 = .ok (.iload 4, 2) := by decide +kernel
theorem dX2_fewestShut_128 : decode cX2_fewestShut 128 = .ok (.iaload, 1) := by decide +kernel
theorem dX2_fewestShut_129 : decode cX2_fewestShut 129 = .ok (.istore 9, 2) := by decide +kernel
theorem dX2_fewestShut_131 : decode cX2_fewestShut 131 = .ok (.aload_n 1, 1) := by decide +kernel
theorem dX2_fewestShut_132 : decode cX2_fewestShut 132 = .ok (.iload 4, 2) := by decide +kernel
theorem dX2_fewestShut_134 : decode cX2_fewestShut 134 = .ok (.invokevirtual 58, 3) := by decide +kernel
theorem dX2_fewestShut_137 : decode cX2_fewestShut 137 = .ok (.istore 10, 2) := by decide +kernel
theorem dX2_fewestShut_139 : decode cX2_fewestShut 139 = .ok (.iload 10, 2) := by decide +kernel
theorem dX2_fewestShut_141 : decode cX2_fewestShut 141 = .ok (.invokestatic 61, 3) := by decide +kernel
theorem dX2_fewestShut_144 : decode cX2_fewestShut 144 = .ok (.ifCond .eq 30, 3) := by decide +kernel
theorem dX2_fewestShut_147 : decode cX2_fewestShut 147 = .ok (.aload_n 0, 1) := by decide +kernel
theorem dX2_fewestShut_148 : decode cX2_fewestShut 148 = .ok (.getfield 9, 3) := by decide +kernel
theorem dX2_fewestShut_151 : decode cX2_fewestShut 151 = .ok (.iload 10, 2) := by decide +kernel
theorem dX2_fewestShut_153 : decode cX2_fewestShut 153 = .ok (.dup2, 1) := by decide +kernel
theorem dX2_fewestShut_154 : decode cX2_fewestShut 154 = .ok (.iaload, 1) := by decide +kernel
theorem dX2_fewestShut_155 : decode cX2_fewestShut 155 = .ok (.iload 7, 2) := by decide +kernel
theorem dX2_fewestShut_157 : decode cX2_fewestShut 157 = .ok (.iadd, 1) := by decide +kernel
theorem dX2_fewestShut_158 : decode cX2_fewestShut 158 = .ok (.iastore, 1) := by decide +kernel
theorem dX2_fewestShut_159 : decode cX2_fewestShut 159 = .ok (.aload_n 0, 1) := by decide +kernel
theorem dX2_fewestShut_160 : decode cX2_fewestShut 160 = .ok (.getfield 15, 3) := by decide +kernel
theorem dX2_fewestShut_163 : decode cX2_fewestShut 163 = .ok (.iload 10, 2) := by decide +kernel
theorem dX2_fewestShut_165 : decode cX2_fewestShut 165 = .ok (.dup2, 1) := by decide +kernel
theorem dX2_fewestShut_166 : decode cX2_fewestShut 166 = .ok (.iaload, 1) := by decide +kernel
theorem dX2_fewestShut_167 : decode cX2_fewestShut 167 = .ok (.iload 9, 2) := by decide +kernel
theorem dX2_fewestShut_169 : decode cX2_fewestShut 169 = .ok (.iadd, 1) := by decide +kernel
theorem dX2_fewestShut_170 : decode cX2_fewestShut 170 = .ok (.iastore, 1) := by decide +kernel
theorem dX2_fewestShut_171 : decode cX2_fewestShut 171 = .ok (.goto 8, 3) := by decide +kernel
theorem dX2_fewestShut_174 : decode cX2_fewestShut 174 = .ok (.iload_n 3, 1) := by decide +kernel
theorem dX2_fewestShut_175 : decode cX2_fewestShut 175 = .ok (.iload 7, 2) := by decide +kernel
theorem dX2_fewestShut_177 : decode cX2_fewestShut 177 = .ok (.iadd, 1) := by decide +kernel
theorem dX2_fewestShut_178 : decode cX2_fewestShut 178 = .ok (.istore_n 3, 1) := by decide +kernel
theorem dX2_fewestShut_179 : decode cX2_fewestShut 179 = .ok (.iinc 4 1, 3) := by decide +kernel
theorem dX2_fewestShut_182 : decode cX2_fewestShut 182 = .ok (.goto (-161), 3) := by decide +kernel
theorem dX2_fewestShut_185 : decode cX2_fewestShut 185 = .ok (.iload_n 3, 1) := by decide +kernel
theorem dX2_fewestShut_186 : decode cX2_fewestShut 186 = .ok (.ldc 64, 2) := by decide +kernel
theorem dX2_fewestShut_188 : decode cX2_fewestShut 188 = .ok (.iand, 1) := by decide +kernel
theorem dX2_fewestShut_189 : decode cX2_fewestShut 189 = .ok (.ireturn, 1) := by decide +kernel
theorem dX2_fillFewestTurns_0 : decode cX2_fillFewestTurns 0 = .ok (.aload_n 0, 1) := by decide +kernel
theorem dX2_fillFewestTurns_1 : decode cX2_fillFewestTurns 1 = .ok (.getfield 9, 3) := by decide +kernel
theorem dX2_fillFewestTurns_4 : decode cX2_fillFewestTurns 4 = .ok (.sipush 1000, 3) := by decide +kernel
theorem dX2_fillFewestTurns_7 : decode cX2_fillFewestTurns 7 = .ok (.invokestatic 33, 3) := by decide +kernel
theorem dX2_fillFewestTurns_10 : decode cX2_fillFewestTurns 10 = .ok (.aload_n 0, 1) := by decide +kernel
theorem dX2_fillFewestTurns_11 : decode cX2_fillFewestTurns 11 = .ok (.getfield 9, 3) := by decide +kernel
theorem dX2_fillFewestTurns_14 : decode cX2_fillFewestTurns 14 = .ok (.iload_n 2, 1) := by decide +kernel
theorem dX2_fillFewestTurns_15 : decode cX2_fillFewestTurns 15 = .ok (.iconst 0, 1) := by decide +kernel
theorem dX2_fillFewestTurns_16 : decode cX2_fillFewestTurns 16 = .ok (.iastore, 1) := by decide +kernel
theorem dX2_fillFewestTurns_17 : decode cX2_fillFewestTurns 17 = .ok (.iload_n 2, 1) := by decide +kernel
theorem dX2_fillFewestTurns_18 : decode cX2_fillFewestTurns 18 = .ok (.invokestatic 22, 3) := by decide +kernel
theorem dX2_fillFewestTurns_21 : decode cX2_fillFewestTurns 21 = .ok (.iconst 4, 1) := by decide +kernel
theorem dX2_fillFewestTurns_22 : decode cX2_fillFewestTurns 22 = .ok (.imul, 1) := by decide +kernel
theorem dX2_fillFewestTurns_23 : decode cX2_fillFewestTurns 23 = .ok (.iconst 1, 1) := by decide +kernel
theorem dX2_fillFewestTurns_24 : decode cX2_fillFewestTurns 24 = .ok (.isub, 1) := by decide +kernel
theorem dX2_fillFewestTurns_25 : decode cX2_fillFewestTurns 25 = .ok (.istore_n 3, 1) := by decide +kernel
theorem dX2_fillFewestTurns_26 : decode cX2_fillFewestTurns 26 = .ok (.iload_n 3, 1) := by decide +kernel
theorem dX2_fillFewestTurns_27 : decode cX2_fillFewestTurns 27 = .ok (.ifCond .lt 53, 3) := by decide +kernel
theorem dX2_fillFewestTurns_30 : decode cX2_fillFewestTurns 30 = .ok (.iload_n 3, 1) := by decide +kernel
theorem dX2_fillFewestTurns_31 : decode cX2_fillFewestTurns 31 = .ok (.invokestatic 39, 3) := by decide +kernel
theorem dX2_fillFewestTurns_34 : decode cX2_fillFewestTurns 34 = .ok (.istore 4, 2) := by decide +kernel
theorem dX2_fillFewestTurns_36 : decode cX2_fillFewestTurns 36 = .ok (.iload 4, 2) := by decide +kernel
theorem dX2_fillFewestTurns_38 : decode cX2_fillFewestTurns 38 = .ok (.iload_n 3, 1) := by decide +kernel
theorem dX2_fillFewestTurns_39 : decode cX2_fillFewestTurns 39 = .ok (.invokestatic 42, 3) := by decide +kernel
theorem dX2_fillFewestTurns_42 : decode cX2_fillFewestTurns 42 = .ok (.if_icmp .gt 32, 3) := by decide +kernel
theorem dX2_fillFewestTurns_45 : decode cX2_fillFewestTurns 45 = .ok (.aload_n 0, 1) := by decide +kernel
theorem dX2_fillFewestTurns_46 : decode cX2_fillFewestTurns 46 = .ok (.getfield 9, 3) := by decide +kernel
theorem dX2_fillFewestTurns_49 : decode cX2_fillFewestTurns 49 = .ok (.iload_n 3, 1) := by decide +kernel
theorem dX2_fillFewestTurns_50 : decode cX2_fillFewestTurns 50 = .ok (.aload_n 0, 1) := by decide +kernel
theorem dX2_fillFewestTurns_51 : decode cX2_fillFewestTurns 51 = .ok (.getfield 9, 3) := by decide +kernel
theorem dX2_fillFewestTurns_54 : decode cX2_fillFewestTurns 54 = .ok (.iload_n 3, 1) := by decide +kernel
theorem dX2_fillFewestTurns_55 : decode cX2_fillFewestTurns 55 = .ok (.iaload, 1) := by decide +kernel
theorem dX2_fillFewestTurns_56 : decode cX2_fillFewestTurns 56 = .ok (.aload_n 0, 1) := by decide +kernel
theorem dX2_fillFewestTurns_57 : decode cX2_fillFewestTurns 57 = .ok (.aload_n 1, 1) := by decide +kernel
theorem dX2_fillFewestTurns_58 : decode cX2_fillFewestTurns 58 = .ok (.iload_n 3, 1) := by decide +kernel
theorem dX2_fillFewestTurns_59 : decode cX2_fillFewestTurns 59 = .ok (.iload 4, 2) := by decide +kernel
theorem dX2_fillFewestTurns_61 : decode cX2_fillFewestTurns 61 = .ok (.invokevirtual 65, 3) := by decide +kernel
theorem dX2_fillFewestTurns_64 : decode cX2_fillFewestTurns 64 = .ok (.invokestatic 52, 3) := by decide +kernel
theorem dX2_fillFewestTurns_67 : decode cX2_fillFewestTurns 67 = .ok (.iastore, 1) := by decide +kernel
theorem dX2_fillFewestTurns_68 : decode cX2_fillFewestTurns 68 = .ok (.iinc 4 1, 3) := by decide +kernel
theorem dX2_fillFewestTurns_71 : decode cX2_fillFewestTurns 71 = .ok (.goto (-35), 3) := by decide +kernel
theorem dX2_fillFewestTurns_74 : decode cX2_fillFewestTurns 74 = .ok (.iinc 3 (-1), 3) := by decide +kernel
theorem dX2_fillFewestTurns_77 : decode cX2_fillFewestTurns 77 = .ok (.goto (-51), 3) := by decide +kernel
theorem dX2_fillFewestTurns_80 : decode cX2_fillFewestTurns 80 = .ok (.return_, 1) := by decide +kernel
theorem dX2_turnsBy_0 : decode cX2_turnsBy 0 = .ok (.aload_n 0, 1) := by decide +kernel
theorem dX2_turnsBy_1 : decode cX2_turnsBy 1 = .ok (.getfield 9, 3) := by decide +kernel
theorem dX2_turnsBy_4 : decode cX2_turnsBy 4 = .ok (.iload_n 3, 1) := by decide +kernel
theorem dX2_turnsBy_5 : decode cX2_turnsBy 5 = .ok (.iaload, 1) := by decide +kernel
theorem dX2_turnsBy_6 : decode cX2_turnsBy 6 = .ok (.aload_n 1, 1) := by decide +kernel
theorem dX2_turnsBy_7 : decode cX2_turnsBy 7 = .ok (.iload_n 2, 1) := by decide +kernel
theorem dX2_turnsBy_8 : decode cX2_turnsBy 8 = .ok (.invokevirtual 58, 3) := by decide +kernel
theorem dX2_turnsBy_11 : decode cX2_turnsBy 11 = .ok (.iload_n 3, 1) := by decide +kernel
theorem dX2_turnsBy_12 : decode cX2_turnsBy 12 = .ok (.if_icmp .ne 7, 3) := by decide +kernel
theorem dX2_turnsBy_15 : decode cX2_turnsBy 15 = .ok (.iconst 0, 1) := by decide +kernel
theorem dX2_turnsBy_16 : decode cX2_turnsBy 16 = .ok (.goto 4, 3) := by decide +kernel
theorem dX2_turnsBy_19 : decode cX2_turnsBy 19 = .ok (.iconst 1, 1) := by decide +kernel
theorem dX2_turnsBy_20 : decode cX2_turnsBy 20 = .ok (.iadd, 1) := by decide +kernel
theorem dX2_turnsBy_21 : decode cX2_turnsBy 21 = .ok (.ireturn, 1) := by decide +kernel
theorem dX2_leastNext_0 : decode cX2_leastNext 0 = .ok (.iload_n 2, 1) := by decide +kernel
theorem dX2_leastNext_1 : decode cX2_leastNext 1 = .ok (.invokestatic 39, 3) := by decide +kernel
theorem dX2_leastNext_4 : decode cX2_leastNext 4 = .ok (.istore_n 3, 1) := by decide +kernel
theorem dX2_leastNext_5 : decode cX2_leastNext 5 = .ok (.iload_n 3, 1) := by decide +kernel
theorem dX2_leastNext_6 : decode cX2_leastNext 6 = .ok (.iload_n 2, 1) := by decide +kernel
theorem dX2_leastNext_7 : decode cX2_leastNext 7 = .ok (.invokestatic 42, 3) := by decide +kernel
theorem dX2_leastNext_10 : decode cX2_leastNext 10 = .ok (.if_icmp .gt 27, 3) := by decide +kernel
theorem dX2_leastNext_13 : decode cX2_leastNext 13 = .ok (.aload_n 0, 1) := by decide +kernel
theorem dX2_leastNext_14 : decode cX2_leastNext 14 = .ok (.aload_n 1, 1) := by decide +kernel
theorem dX2_leastNext_15 : decode cX2_leastNext 15 = .ok (.iload_n 2, 1) := by decide +kernel
theorem dX2_leastNext_16 : decode cX2_leastNext 16 = .ok (.iload_n 3, 1) := by decide +kernel
theorem dX2_leastNext_17 : decode cX2_leastNext 17 = .ok (.invokevirtual 65, 3) := by decide +kernel
theorem dX2_leastNext_20 : decode cX2_leastNext 20 = .ok (.aload_n 0, 1) := by decide +kernel
theorem dX2_leastNext_21 : decode cX2_leastNext 21 = .ok (.getfield 9, 3) := by decide +kernel
theorem dX2_leastNext_24 : decode cX2_leastNext 24 = .ok (.iload_n 2, 1) := by decide +kernel
theorem dX2_leastNext_25 : decode cX2_leastNext 25 = .ok (.iaload, 1) := by decide +kernel
theorem dX2_leastNext_26 : decode cX2_leastNext 26 = .ok (.if_icmp .ne 5, 3) := by decide +kernel
theorem dX2_leastNext_29 : decode cX2_leastNext 29 = .ok (.iload_n 3, 1) := by decide +kernel
theorem dX2_leastNext_30 : decode cX2_leastNext 30 = .ok (.ireturn, 1) := by decide +kernel
theorem dX2_leastNext_31 : decode cX2_leastNext 31 = .ok (.iinc 3 1, 3) := by decide +kernel
theorem dX2_leastNext_34 : decode cX2_leastNext 34 = .ok (.goto (-29), 3) := by decide +kernel
theorem dX2_leastNext_37 : decode cX2_leastNext 37 = .ok (.iload_n 2, 1) := by decide +kernel
theorem dX2_leastNext_38 : decode cX2_leastNext 38 = .ok (.ireturn, 1) := by decide +kernel
theorem dX2_lowestAbove_0 : decode cX2_lowestAbove 0 = .ok (.iload_n 0, 1) := by decide +kernel
theorem dX2_lowestAbove_1 : decode cX2_lowestAbove 1 = .ok (.invokestatic 22, 3) := by decide +kernel
theorem dX2_lowestAbove_4 : decode cX2_lowestAbove 4 = .ok (.iconst 1, 1) := by decide +kernel
theorem dX2_lowestAbove_5 : decode cX2_lowestAbove 5 = .ok (.iadd, 1) := by decide +kernel
theorem dX2_lowestAbove_6 : decode cX2_lowestAbove 6 = .ok (.iconst 5, 1) := by decide +kernel
theorem dX2_lowestAbove_7 : decode cX2_lowestAbove 7 = .ok (.invokestatic 52, 3) := by decide +kernel
theorem dX2_lowestAbove_10 : decode cX2_lowestAbove 10 = .ok (.iconst 4, 1) := by decide +kernel
theorem dX2_lowestAbove_11 : decode cX2_lowestAbove 11 = .ok (.imul, 1) := by decide +kernel
theorem dX2_lowestAbove_12 : decode cX2_lowestAbove 12 = .ok (.iload_n 0, 1) := by decide +kernel
theorem dX2_lowestAbove_13 : decode cX2_lowestAbove 13 = .ok (.invokestatic 30, 3) := by decide +kernel
theorem dX2_lowestAbove_16 : decode cX2_lowestAbove 16 = .ok (.iconst 0, 1) := by decide +kernel
theorem dX2_lowestAbove_17 : decode cX2_lowestAbove 17 = .ok (.invokestatic 69, 3) := by decide +kernel
theorem dX2_lowestAbove_20 : decode cX2_lowestAbove 20 = .ok (.iadd, 1) := by decide +kernel
theorem dX2_lowestAbove_21 : decode cX2_lowestAbove 21 = .ok (.ireturn, 1) := by decide +kernel
theorem dX2_highestAbove_0 : decode cX2_highestAbove 0 = .ok (.iload_n 0, 1) := by decide +kernel
theorem dX2_highestAbove_1 : decode cX2_highestAbove 1 = .ok (.invokestatic 22, 3) := by decide +kernel
theorem dX2_highestAbove_4 : decode cX2_highestAbove 4 = .ok (.iconst 1, 1) := by decide +kernel
theorem dX2_highestAbove_5 : decode cX2_highestAbove 5 = .ok (.iadd, 1) := by decide +kernel
theorem dX2_highestAbove_6 : decode cX2_highestAbove 6 = .ok (.iconst 5, 1) := by decide +kernel
theorem dX2_highestAbove_7 : decode cX2_highestAbove 7 = .ok (.invokestatic 52, 3) := by decide +kernel
theorem dX2_highestAbove_10 : decode cX2_highestAbove 10 = .ok (.iconst 4, 1) := by decide +kernel
theorem dX2_highestAbove_11 : decode cX2_highestAbove 11 = .ok (.imul, 1) := by decide +kernel
theorem dX2_highestAbove_12 : decode cX2_highestAbove 12 = .ok (.iload_n 0, 1) := by decide +kernel
theorem dX2_highestAbove_13 : decode cX2_highestAbove 13 = .ok (.invokestatic 30, 3) := by decide +kernel
theorem dX2_highestAbove_16 : decode cX2_highestAbove 16 = .ok (.iconst 2, 1) := by decide +kernel
theorem dX2_highestAbove_17 : decode cX2_highestAbove 17 = .ok (.invokestatic 69, 3) := by decide +kernel
theorem dX2_highestAbove_20 : decode cX2_highestAbove 20 = .ok (.iadd, 1) := by decide +kernel
theorem dX2_highestAbove_21 : decode cX2_highestAbove 21 = .ok (.ireturn, 1) := by decide +kernel
theorem dX3_init_0 : decode cX3_init 0 = .ok (.aload_n 0, 1) := by decide +kernel
theorem dX3_init_1 : decode cX3_init 1 = .ok (.invokespecial 3, 3) := by decide +kernel
theorem dX3_init_4 : decode cX3_init 4 = .ok (.aload_n 0, 1) := by decide +kernel
theorem dX3_init_5 : decode cX3_init 5 = .ok (.bipush 24, 2) := by decide +kernel
theorem dX3_init_7 : decode cX3_init 7 = .ok (.newarray .int, 2) := by decide +kernel
theorem dX3_init_9 : decode cX3_init 9 = .ok (.putfield 9, 3) := by decide +kernel
theorem dX3_init_12 : decode cX3_init 12 = .ok (.return_, 1) := by decide +kernel
theorem dX3_learn_0 : decode cX3_learn 0 = .ok (.aload_n 0, 1) := by decide +kernel
theorem dX3_learn_1 : decode cX3_learn 1 = .ok (.iload_n 2, 1) := by decide +kernel
theorem dX3_learn_2 : decode cX3_learn 2 = .ok (.bipush 24, 2) := by decide +kernel
theorem dX3_learn_4 : decode cX3_learn 4 = .ok (.invokestatic 15, 3) := by decide +kernel
theorem dX3_learn_7 : decode cX3_learn 7 = .ok (.putfield 21, 3) := by decide +kernel
theorem dX3_learn_10 : decode cX3_learn 10 = .ok (.iconst 0, 1) := by decide +kernel
theorem dX3_learn_11 : decode cX3_learn 11 = .ok (.istore_n 3, 1) := by decide +kernel
theorem dX3_learn_12 : decode cX3_learn 12 = .ok (.iconst 0, 1) := by decide +kernel
theorem dX3_learn_13 : decode cX3_learn 13 = .ok (.istore 4, 2) := by decide +kernel
theorem dX3_learn_15 : decode cX3_learn 15 = .ok (.iload 4, 2) := by decide +kernel
theorem dX3_learn_17 : decode cX3_learn 17 = .ok (.aload_n 0, 1) := by decide +kernel
theorem dX3_learn_18 : decode cX3_learn 18 = .ok (.getfield 21, 3) := by decide +kernel
theorem dX3_learn_21 : decode cX3_learn 21 = .ok (.if_icmp .ge 59, 3) := by decide +kernel
theorem dX3_learn_24 : decode cX3_learn 24 = .ok (.aload_n 1, 1) := by decide +kernel
theorem dX3_learn_25 : decode cX3_learn 25 = .ok (.iload 4, 2) := by decide +kernel
theorem dX3_learn_27 : decode cX3_learn 27 = .ok (.invokevirtual 25, 3) := by decide +kernel
theorem dX3_learn_30 : decode cX3_learn 30 = .ok (.istore 5, 2) := by decide +kernel
theorem dX3_learn_32 : decode cX3_learn 32 = .ok (.iload 5, 2) := by decide +kernel
theorem dX3_learn_34 : decode cX3_learn 34 = .ok (.ifCond .lt 22, 3) := by decide +kernel
theorem dX3_learn_37 : decode cX3_learn 37 = .ok (.iload 5, 2) := by decide +kernel
theorem dX3_learn_39 : decode cX3_learn 39 = .ok (.aload_n 0, 1) := by decide +kernel
theorem dX3_learn_40 : decode cX3_learn 40 = .ok (.getfield 21, 3) := by decide +kernel
theorem dX3_learn_43 : decode cX3_learn 43 = .ok (.if_icmp .ge 13, 3) := by decide +kernel
theorem dX3_learn_46 : decode cX3_learn 46 = .ok (.iload_n 3, 1) := by decide +kernel
theorem dX3_learn_47 : decode cX3_learn 47 = .ok (.iload 5, 2) := by decide +kernel
theorem dX3_learn_49 : decode cX3_learn 49 = .ok (.ishr, 1) := by decide +kernel
theorem dX3_learn_50 : decode cX3_learn 50 = .ok (.iconst 1, 1) := by decide +kernel
theorem dX3_learn_51 : decode cX3_learn 51 = .ok (.iand, 1) := by decide +kernel
theorem dX3_learn_52 : decode cX3_learn 52 = .ok (.iconst 1, 1) := by decide +kernel
theorem dX3_learn_53 : decode cX3_learn 53 = .ok (.if_icmp .ne 5, 3) := by decide +kernel
theorem dX3_learn_56 : decode cX3_learn 56 = .ok (.iconst 0, 1) := by decide +kernel
theorem dX3_learn_57 : decode cX3_learn 57 = .ok (.ireturn, 1) := by decide +kernel
theorem dX3_learn_58 : decode cX3_learn 58 = .ok (.iload_n 3, 1) := by decide +kernel
theorem dX3_learn_59 : decode cX3_learn 59 = .ok (.iconst 1, 1) := by decide +kernel
theorem dX3_learn_60 : decode cX3_learn 60 = .ok (.iload 5, 2) := by decide +kernel
theorem dX3_learn_62 : decode cX3_learn 62 = .ok (.ishl, 1) := by decide +kernel
theorem dX3_learn_63 : decode cX3_learn 63 = .ok (.ior, 1) := by decide +kernel
theorem dX3_learn_64 : decode cX3_learn 64 = .ok (.istore_n 3, 1) := by decide +kernel
theorem dX3_learn_65 : decode cX3_learn 65 = .ok (.aload_n 0, 1) := by decide +kernel
theorem dX3_learn_66 : decode cX3_learn 66 = .ok (.getfield 9, 3) := by decide +kernel
theorem dX3_learn_69 : decode cX3_learn 69 = .ok (.iload 4, 2) := by decide +kernel
theorem dX3_learn_71 : decode cX3_learn 71 = .ok (.iload 5, 2) := by decide +kernel
theorem dX3_learn_73 : decode cX3_learn 73 = .ok (.iastore, 1) := by decide +kernel
theorem dX3_learn_74 : decode cX3_learn 74 = .ok (.iinc 4 1, 3) := by decide +kernel
theorem dX3_learn_77 : decode cX3_learn 77 = .ok (.goto (-62), 3) := by decide +kernel
theorem dX3_learn_80 : decode cX3_learn 80 = .ok (.iconst 1, 1) := by decide +kernel
theorem dX3_learn_81 : decode cX3_learn 81 = .ok (.ireturn, 1) := by decide +kernel
theorem dX3_weeksTillHome_0 : decode cX3_weeksTillHome 0 = .ok (.iconst 1, 1) := by decide +kernel
theorem dX3_weeksTillHome_1 : decode cX3_weeksTillHome 1 = .ok (.istore_n 1, 1) := by decide +kernel
theorem dX3_weeksTillHome_2 : decode cX3_weeksTillHome 2 = .ok (.iconst 0, 1) := by decide +kernel
theorem dX3_weeksTillHome_3 : decode cX3_weeksTillHome 3 = .ok (.istore_n 2, 1) := by decide +kernel
theorem dX3_weeksTillHome_4 : decode cX3_weeksTillHome 4 = .ok (.iload_n 2, 1) := by decide +kernel
theorem dX3_weeksTillHome_5 : decode cX3_weeksTillHome 5 = .ok (.aload_n 0, 1) := by decide +kernel
theorem dX3_weeksTillHome_6 : decode cX3_weeksTillHome 6 = .ok (.getfield 21, 3) := by decide +kernel
theorem dX3_weeksTillHome_9 : decode cX3_weeksTillHome 9 = .ok (.if_icmp .ge 34, 3) := by decide +kernel
theorem dX3_weeksTillHome_12 : decode cX3_weeksTillHome 12 = .ok (.aload_n 0, 1) := by decide +kernel
theorem dX3_weeksTillHome_13 : decode cX3_weeksTillHome 13 = .ok (.iload_n 2, 1) := by decide +kernel
theorem dX3_weeksTillHome_14 : decode cX3_weeksTillHome 14 = .ok (.invokevirtual 31, 3) := by decide +kernel
theorem dX3_weeksTillHome_17 : decode cX3_weeksTillHome 17 = .ok (.istore_n 3, 1) := by decide +kernel
theorem dX3_weeksTillHome_18 : decode cX3_weeksTillHome 18 = .ok (.iload_n 1, 1) := by decide +kernel
theorem dX3_weeksTillHome_19 : decode cX3_weeksTillHome 19 = .ok (.iload_n 3, 1) := by decide +kernel
theorem dX3_weeksTillHome_20 : decode cX3_weeksTillHome 20 = .ok (.invokestatic 34, 3) := by decide +kernel
theorem dX3_weeksTillHome_23 : decode cX3_weeksTillHome 23 = .ok (.istore 4, 2) := by decide +kernel
theorem dX3_weeksTillHome_25 : decode cX3_weeksTillHome 25 = .ok (.iload 4, 2) := by decide +kernel
theorem dX3_weeksTillHome_27 : decode cX3_weeksTillHome 27 = .ok (.ifCond .le 10, 3) := by decide +kernel
theorem dX3_weeksTillHome_30 : decode cX3_weeksTillHome 30 = .ok (.iload_n 1, 1) := by decide +kernel
theorem dX3_weeksTillHome_31 : decode cX3_weeksTillHome 31 = .ok (.iload 4, 2) := by decide +kernel
theorem dX3_weeksTillHome_33 : decode cX3_weeksTillHome 33 = .ok (.idiv, 1) := by decide +kernel
theorem dX3_weeksTillHome_34 : decode cX3_weeksTillHome 34 = .ok (.iload_n 3, 1) := by decide +kernel
theorem dX3_weeksTillHome_35 : decode cX3_weeksTillHome 35 = .ok (.imul, 1) := by decide +kernel
theorem dX3_weeksTillHome_36 : decode cX3_weeksTillHome 36 = .ok (.istore_n 1, 1) := by decide +kernel
theorem dX3_weeksTillHome_37 : decode cX3_weeksTillHome 37 = .ok (.iinc 2 1, 3) := by decide +kernel
theorem dX3_weeksTillHome_40 : decode cX3_weeksTillHome 40 = .ok (.goto (-36), 3) := by decide +kernel
theorem dX3_weeksTillHome_43 : decode cX3_weeksTillHome 43 = .ok (.iload_n 1, 1) := by decide +kernel
theorem dX3_weeksTillHome_44 : decode cX3_weeksTillHome 44 = .ok (.ireturn, 1) := by decide +kernel
theorem dX3_rounds_0 : decode cX3_rounds 0 = .ok (.iconst 0, 1) := by decide +kernel
theorem dX3_rounds_1 : decode cX3_rounds 1 = .ok (.istore_n 1, 1) := by decide +kernel
theorem dX3_rounds_2 : decode cX3_rounds 2 = .ok (.iconst 0, 1) := by decide +kernel
theorem dX3_rounds_3 : decode cX3_rounds 3 = .ok (.istore_n 2, 1) := by decide +kernel
theorem dX3_rounds_4 : decode cX3_rounds 4 = .ok (.iload_n 2, 1) := by decide +kernel
theorem dX3_rounds_5 : decode cX3_rounds 5 = .ok (.aload_n 0, 1) := by decide +kernel
theorem dX3_rounds_6 : decode cX3_rounds 6 = .ok (.getfield 21, 3) := by decide +kernel
theorem dX3_rounds_9 : decode cX3_rounds 9 = .ok (.if_icmp .ge 20, 3) := by decide +kernel
theorem dX3_rounds_12 : decode cX3_rounds 12 = .ok (.aload_n 0, 1) := by decide +kernel
theorem dX3_rounds_13 : decode cX3_rounds 13 = .ok (.iload_n 2, 1) := by decide +kernel
theorem dX3_rounds_14 : decode cX3_rounds 14 = .ok (.invokevirtual 37, 3) := by decide +kernel
theorem dX3_rounds_17 : decode cX3_rounds 17 = .ok (.ifCond .eq 6, 3) := by decide +kernel
theorem dX3_rounds_20 : decode cX3_rounds 20 = .ok (.iinc 1 1, 3) := by decide +kernel
theorem dX3_rounds_23 : decode cX3_rounds 23 = .ok (.iinc 2 1, 3) := by decide +kernel
theorem dX3_rounds_26 : decode cX3_rounds 26 = .ok (.goto (-22), 3) := by decide +kernel
theorem dX3_rounds_29 : decode cX3_rounds 29 = .ok (.iload_n 1, 1) := by decide +kernel
theorem dX3_rounds_30 : decode cX3_rounds 30 = .ok (.ireturn, 1) := by decide +kernel
theorem dX3_placeOf_0 : decode cX3_placeOf 0 = .ok (.aload_n 0, 1) := by decide +kernel
theorem dX3_placeOf_1 : decode cX3_placeOf 1 = .ok (.iload_n 1, 1) := by decide +kernel
theorem dX3_placeOf_2 : decode cX3_placeOf 2 = .ok (.invokevirtual 31, 3) := by decide +kernel
theorem dX3_placeOf_5 : decode cX3_placeOf 5 = .ok (.istore_n 3, 1) := by decide +kernel
theorem dX3_placeOf_6 : decode cX3_placeOf 6 = .ok (.iload_n 3, 1) := by decide +kernel
theorem dX3_placeOf_7 : decode cX3_placeOf 7 = .ok (.ifCond .le 14, 3) := by decide +kernel
theorem dX3_placeOf_10 : decode cX3_placeOf 10 = .ok (.aload_n 0, 1) := by decide +kernel
theorem dX3_placeOf_11 : decode cX3_placeOf 11 = .ok (.iload_n 1, 1) := by decide +kernel
theorem dX3_placeOf_12 : decode cX3_placeOf 12 = .ok (.iload_n 2, 1) := by decide +kernel
theorem dX3_placeOf_13 : decode cX3_placeOf 13 = .ok (.iload_n 3, 1) := by decide +kernel
theorem dX3_placeOf_14 : decode cX3_placeOf 14 = .ok (.irem, 1) := by decide +kernel
theorem dX3_placeOf_15 : decode cX3_placeOf 15 = .ok (.invokevirtual 41, 3) := by decide +kernel
theorem dX3_placeOf_18 : decode cX3_placeOf 18 = .ok (.goto 4, 3) := by decide +kernel
theorem dX3_placeOf_21 : decode cX3_placeOf 21 = .ok (.iload_n 1, 1) := by decide +kernel
theorem dX3_placeOf_22 : decode cX3_placeOf 22 = .ok (.ireturn, 1) := by decide +kernel
theorem dX3_after_0 : decode cX3_after 0 = .ok (.iload_n 1, 1) := by decide +kernel
theorem dX3_after_1 : decode cX3_after 1 = .ok (.istore_n 3, 1) := by decide +kernel
theorem dX3_after_2 : decode cX3_after 2 = .ok (.iconst 0, 1) := by decide +kernel
theorem dX3_after_3 : decode cX3_after 3 = .ok (.istore 4, 2) := by decide +kernel
theorem dX3_after_5 : decode cX3_after 5 = .ok (.iload 4, 2) := by decide +kernel
theorem dX3_after_7 : decode cX3_after 7 = .ok (.iload_n 2, 1) := by decide +kernel
theorem dX3_after_8 : decode cX3_after 8 = .ok (.if_icmp .ge 16, 3) := by decide +kernel
theorem dX3_after_11 : decode cX3_after 11 = .ok (.aload_n 0, 1) := by decide +kernel
theorem dX3_after_12 : decode cX3_after 12 = .ok (.getfield 9, 3) := by decide +kernel
theorem dX3_after_15 : decode cX3_after 15 = .ok (.iload_n 3, 1) := by decide +kernel
theorem dX3_after_16 : decode cX3_after 16 = .ok (.iaload, 1) := by decide +kernel
theorem dX3_after_17 : decode cX3_after 17 = .ok (.istore_n 3, 1) := by decide +kernel
theorem dX3_after_18 : decode cX3_after 18 = .ok (.iinc 4 1, 3) := by decide +kernel
theorem dX3_after_21 : decode cX3_after 21 = .ok (.goto (-16), 3) := by decide +kernel
theorem dX3_after_24 : decode cX3_after 24 = .ok (.iload_n 3, 1) := by decide +kernel
theorem dX3_after_25 : decode cX3_after 25 = .ok (.ireturn, 1) := by decide +kernel
theorem dX3_roundOf_0 : decode cX3_roundOf 0 = .ok (.aload_n 0, 1) := by decide +kernel
theorem dX3_roundOf_1 : decode cX3_roundOf 1 = .ok (.getfield 9, 3) := by decide +kernel
theorem dX3_roundOf_4 : decode cX3_roundOf 4 = .ok (.iload_n 1, 1) := by decide +kernel
theorem dX3_roundOf_5 : decode cX3_roundOf 5 = .ok (.iaload, 1) := by decide +kernel
theorem dX3_roundOf_6 : decode cX3_roundOf 6 = .ok (.istore_n 2, 1) := by decide +kernel
theorem dX3_roundOf_7 : decode cX3_roundOf 7 = .ok (.iconst 1, 1) := by decide +kernel
theorem dX3_roundOf_8 : decode cX3_roundOf 8 = .ok (.istore_n 3, 1) := by decide +kernel
theorem dX3_roundOf_9 : decode cX3_roundOf 9 = .ok (.iconst 1, 1) := by decide +kernel
theorem dX3_roundOf_10 : decode cX3_roundOf 10 = .ok (.istore 4, 2) := by decide +kernel
theorem dX3_roundOf_12 : decode cX3_roundOf 12 = .ok (.iload 4, 2) := by decide +kernel
theorem dX3_roundOf_14 : decode cX3_roundOf 14 = .ok (.aload_n 0, 1) := by decide +kernel
theorem dX3_roundOf_15 : decode cX3_roundOf 15 = .ok (.getfield 21, 3) := by decide +kernel
theorem dX3_roundOf_18 : decode cX3_roundOf 18 = .ok (.if_icmp .ge 24, 3) := by decide +kernel
theorem dX3_roundOf_21 : decode cX3_roundOf 21 = .ok (.iload_n 2, 1) := by decide +kernel
theorem dX3_roundOf_22 : decode cX3_roundOf 22 = .ok (.iload_n 1, 1) := by decide +kernel
theorem dX3_roundOf_23 : decode cX3_roundOf 23 = .ok (.if_icmp .eq 19, 3) := by decide +kernel
theorem dX3_roundOf_26 : decode cX3_roundOf 26 = .ok (.aload_n 0, 1) := by decide +kernel
theorem dX3_roundOf_27 : decode cX3_roundOf 27 = .ok (.getfield 9, 3) := by decide +kernel
theorem dX3_roundOf_30 : decode cX3_roundOf 30 = .ok (.iload_n 2, 1) := by decide +kernel
theorem dX3_roundOf_31 : decode cX3_roundOf 31 = .ok (.iaload, 1) := by decide +kernel
theorem dX3_roundOf_32 : decode cX3_roundOf 32 = .ok (.istore_n 2, 1) := by decide +kernel
theorem dX3_roundOf_33 : decode cX3_roundOf 33 = .ok (.iinc 3 1, 3) := by decide +kernel
theorem dX3_roundOf_36 : decode cX3_roundOf 36 = .ok (.iinc 4 1, 3) := by decide +kernel
theorem dX3_roundOf_39 : decode cX3_roundOf 39 = .ok (.goto (-27), 3) := by decide +kernel
theorem dX3_roundOf_42 : decode cX3_roundOf 42 = .ok (.iload_n 3, 1) := by decide +kernel
theorem dX3_roundOf_43 : decode cX3_roundOf 43 = .ok (.ireturn, 1) := by decide +kernel
theorem dX3_isLowestOfRound_0 : decode cX3_isLowestOfRound 0 = .ok (.aload_n 0, 1) := by decide +kernel
theorem dX3_isLowestOfRound_1 : decode cX3_isLowestOfRound 1 = .ok (.getfield 9, 3) := by decide +kernel
theorem dX3_isLowestOfRound_4 : decode cX3_isLowestOfRound 4 = .ok (.iload_n 1, 1) := by decide +kernel
theorem dX3_isLowestOfRound_5 : decode cX3_isLowestOfRound 5 = .ok (.iaload, 1) := by decide +kernel
theorem dX3_isLowestOfRound_6 : decode cX3_isLowestOfRound 6 = .ok (.istore_n 2, 1) := by decide +kernel
theorem dX3_isLowestOfRound_7 : decode cX3_isLowestOfRound 7 = .ok (.iconst 1, 1) := by decide +kernel
theorem dX3_isLowestOfRound_8 : decode cX3_isLowestOfRound 8 = .ok (.istore_n 3, 1) := by decide +kernel
theorem dX3_isLowestOfRound_9 : decode cX3_isLowestOfRound 9 = .ok (.iload_n 3, 1) := by decide +kernel
theorem dX3_isLowestOfRound_10 : decode cX3_isLowestOfRound 10 = .ok (.aload_n 0, 1) := by decide +kernel
theorem dX3_isLowestOfRound_11 : decode cX3_isLowestOfRound 11 = .ok (.getfield 21, 3) := by decide +kernel
theorem dX3_isLowestOfRound_14 : decode cX3_isLowestOfRound 14 = .ok (.if_icmp .ge 28, 3) := by decide +kernel
theorem dX3_isLowestOfRound_17 : decode cX3_isLowestOfRound 17 = .ok (.iload_n 2, 1) := by decide +kernel
theorem dX3_isLowestOfRound_18 : decode cX3_isLowestOfRound 18 = .ok (.iload_n 1, 1) := by decide +kernel
theorem dX3_isLowestOfRound_19 : decode cX3_isLowestOfRound 19 = .ok (.if_icmp .eq 23, 3) := by decide +kernel
theorem dX3_isLowestOfRound_22 : decode cX3_isLowestOfRound 22 = .ok (.iload_n 2, 1) := by decide +kernel
theorem dX3_isLowestOfRound_23 : decode cX3_isLowestOfRound 23 = .ok (.iload_n 1, 1) := by decide +kernel
theorem dX3_isLowestOfRound_24 : decode cX3_isLowestOfRound 24 = .ok (.if_icmp .ge 5, 3) := by decide +kernel
theorem dX3_isLowestOfRound_27 : decode cX3_isLowestOfRound 27 = .ok (.iconst 0, 1) := by decide +kernel
theorem dX3_isLowestOfRound_28 : decode cX3_isLowestOfRound 28 = .ok (.ireturn, 1) := by decide +kernel
theorem dX3_isLowestOfRound_29 : decode cX3_isLowestOfRound 29 = .ok (.aload_n 0, 1) := by decide +kernel
theorem dX3_isLowestOfRound_30 : decode cX3_isLowestOfRound 30 = .ok (.getfield 9, 3) := by decide +kernel
theorem dX3_isLowestOfRound_33 : decode cX3_isLowestOfRound 33 = .ok (.iload_n 2, 1) := by decide +kernel
theorem dX3_isLowestOfRound_34 : decode cX3_isLowestOfRound 34 = .ok (.iaload, 1) := by decide +kernel
theorem dX3_isLowestOfRound_35 : decode cX3_isLowestOfRound 35 = .ok (.istore_n 2, 1) := by decide +kernel
theorem dX3_isLowestOfRound_36 : decode cX3_isLowestOfRound 36 = .ok (.iinc 3 1, 3) := by decide +kernel
theorem dX3_isLowestOfRound_39 : decode cX3_isLowestOfRound 39 = .ok (.goto (-30), 3) := by decide +kernel
theorem dX3_isLowestOfRound_42 : decode cX3_isLowestOfRound 42 = .ok (.iconst 1, 1) := by decide +kernel
theorem dX3_isLowestOfRound_43 : decode cX3_isLowestOfRound 43 = .ok (.ireturn, 1) := by decide +kernel
theorem dX4_init_0 : decode cX4_init 0 = .ok (.aload_n 0, 1) := by decide +kernel
theorem dX4_init_1 : decode cX4_init 1 = .ok (.invokespecial 3, 3) := by decide +kernel
theorem dX4_init_4 : decode cX4_init 4 = .ok (.aload_n 0, 1) := by decide +kernel
theorem dX4_init_5 : decode cX4_init 5 = .ok (.sipush 240, 3) := by decide +kernel
theorem dX4_init_8 : decode cX4_init 8 = .ok (.newarray .int, 2) := by decide +kernel
theorem dX4_init_10 : decode cX4_init 10 = .ok (.putfield 9, 3) := by decide +kernel
theorem dX4_init_13 : decode cX4_init 13 = .ok (.aload_n 0, 1) := by decide +kernel
theorem dX4_init_14 : decode cX4_init 14 = .ok (.sipush 240, 3) := by decide +kernel
theorem dX4_init_17 : decode cX4_init 17 = .ok (.newarray .int, 2) := by decide +kernel
theorem dX4_init_19 : decode cX4_init 19 = .ok (.putfield 15, 3) := by decide +kernel
theorem dX4_init_22 : decode cX4_init 22 = .ok (.aload_n 0, 1) := by decide +kernel
theorem dX4_init_23 : decode cX4_init 23 = .ok (.bipush 16, 2) := by decide +kernel
theorem dX4_init_25 : decode cX4_init 25 = .ok (.newarray .int, 2) := by decide +kernel
theorem dX4_init_27 : decode cX4_init 27 = .ok (.putfield 18, 3) := by decide +kernel
theorem dX4_init_30 : decode cX4_init 30 = .ok (.aload_n 0, 1) := by decide +kernel
theorem dX4_init_31 : decode cX4_init 31 = .ok (.bipush 16, 2) := by decide +kernel
theorem dX4_init_33 : decode cX4_init 33 = .ok (.newarray .int, 2) := by decide +kernel
theorem dX4_init_35 : decode cX4_init 35 = .ok (.putfield 21, 3) := by decide +kernel
theorem dX4_init_38 : decode cX4_init 38 = .ok (.aload_n 0, 1) := by decide +kernel
theorem dX4_init_39 : decode cX4_init 39 = .ok (.bipush 16, 2) := by decide +kernel
theorem dX4_init_41 : decode cX4_init 41 = .ok (.newarray .int, 2) := by decide +kernel
theorem dX4_init_43 : decode cX4_init 43 = .ok (.putfield 24, 3) := by decide +kernel
theorem dX4_init_46 : decode cX4_init 46 = .ok (.aload_n 0, 1) := by decide +kernel
theorem dX4_init_47 : decode cX4_init 47 = .ok (.bipush 16, 2) := by decide +kernel
theorem dX4_init_49 : decode cX4_init 49 = .ok (.newarray .int, 2) := by decide +kernel
theorem dX4_init_51 : decode cX4_init 51 = .ok (.putfield 27, 3) := by decide +kernel
theorem dX4_init_54 : decode cX4_init 54 = .ok (.aload_n 0, 1) := by decide +kernel
theorem dX4_init_55 : decode cX4_init 55 = .ok (.bipush 15, 2) := by decide +kernel
theorem dX4_init_57 : decode cX4_init 57 = .ok (.newarray .int, 2) := by decide +kernel
theorem dX4_init_59 : decode cX4_init 59 = .ok (.putfield 30, 3) := by decide +kernel
theorem dX4_init_62 : decode cX4_init 62 = .ok (.aload_n 0, 1) := by decide +kernel
theorem dX4_init_63 : decode cX4_init 63 = .ok (.aload_n 1, 1) := by decide +kernel
theorem dX4_init_64 : decode cX4_init 64 = .ok (.putfield 33, 3) := by decide +kernel
theorem dX4_init_67 : decode cX4_init 67 = .ok (.return_, 1) := by decide +kernel
theorem dX4_clear_0 : decode cX4_clear 0 = .ok (.aload_n 0, 1) := by decide +kernel
theorem dX4_clear_1 : decode cX4_clear 1 = .ok (.iconst 0, 1) := by decide +kernel
theorem dX4_clear_2 : decode cX4_clear 2 = .ok (.putfield 37, 3) := by decide +kernel
theorem dX4_clear_5 : decode cX4_clear 5 = .ok (.aload_n 0, 1) := by decide +kernel
theorem dX4_clear_6 : decode cX4_clear 6 = .ok (.iconst 0, 1) := by decide +kernel
theorem dX4_clear_7 : decode cX4_clear 7 = .ok (.putfield 41, 3) := by decide +kernel
theorem dX4_clear_10 : decode cX4_clear 10 = .ok (.return_, 1) := by decide +kernel
theorem dX4_add_0 : decode cX4_add 0 = .ok (.aload_n 0, 1) := by decide +kernel
theorem dX4_add_1 : decode cX4_add 1 = .ok (.getfield 37, 3) := by decide +kernel
theorem dX4_add_4 : decode cX4_add 4 = .ok (.istore_n 3, 1) := by decide +kernel
theorem dX4_add_5 : decode cX4_add 5 = .ok (.iload_n 3, 1) := by decide +kernel
theorem dX4_add_6 : decode cX4_add 6 = .ok (.ifCond .lt 36, 3) := by decide +kernel
theorem dX4_add_9 : decode cX4_add 9 = .ok (.iload_n 3, 1) := by decide +kernel
theorem dX4_add_10 : decode cX4_add 10 = .ok (.aload_n 0, 1) := by decide +kernel
theorem dX4_add_11 : decode cX4_add 11 = .ok (.getfield 9, 3) := by decide +kernel
theorem dX4_add_14 : decode cX4_add 14 = .ok (.arraylength, 1) := by decide +kernel
theorem dX4_add_15 : decode cX4_add 15 = .ok (.if_icmp .ge 27, 3) := by decide +kernel
theorem dX4_add_18 : decode cX4_add 18 = .ok (.aload_n 0, 1) := by decide +kernel
theorem dX4_add_19 : decode cX4_add 19 = .ok (.getfield 9, 3) := by decide +kernel
theorem dX4_add_22 : decode cX4_add 22 = .ok (.iload_n 3, 1) := by decide +kernel
theorem dX4_add_23 : decode cX4_add 23 = .ok (.iload_n 1, 1) := by decide +kernel
theorem dX4_add_24 : decode cX4_add 24 = .ok (.iastore, 1) := by decide +kernel
theorem dX4_add_25 : decode cX4_add 25 = .ok (.aload_n 0, 1) := by decide +kernel
theorem dX4_add_26 : decode cX4_add 26 = .ok (.getfield 15, 3) := by decide +kernel
theorem dX4_add_29 : decode cX4_add 29 = .ok (.iload_n 3, 1) := by decide +kernel
theorem dX4_add_30 : decode cX4_add 30 = .ok (.iload_n 2, 1) := by decide +kernel
theorem dX4_add_31 : decode cX4_add 31 = .ok (.iastore, 1) := by decide +kernel
theorem dX4_add_32 : decode cX4_add 32 = .ok (.aload_n 0, 1) := by decide +kernel
theorem dX4_add_33 : decode cX4_add 33 = .ok (.dup, 1) := by decide +kernel
theorem dX4_add_34 : decode cX4_add 34 = .ok (.getfield 37, 3) := by decide +kernel
theorem dX4_add_37 : decode cX4_add 37 = .ok (.iconst 1, 1) := by decide +kernel
theorem dX4_add_38 : decode cX4_add 38 = .ok (.iadd, 1) := by decide +kernel
theorem dX4_add_39 : decode cX4_add 39 = .ok (.putfield 37, 3) := by decide +kernel
theorem dX4_add_42 : decode cX4_add 42 = .ok (.iload_n 3, 1) := by decide +kernel
theorem dX4_add_43 : decode cX4_add 43 = .ok (.ireturn, 1) := by decide +kernel
theorem dX4_leadToHere_0 : decode cX4_leadToHere 0 = .ok (.iload_n 1, 1) := by decide +kernel
theorem dX4_leadToHere_1 : decode cX4_leadToHere 1 = .ok (.ifCond .lt 21, 3) := by decide +kernel
theorem dX4_leadToHere_4 : decode cX4_leadToHere 4 = .ok (.iload_n 1, 1) := by decide +kernel
theorem dX4_leadToHere_5 : decode cX4_leadToHere 5 = .ok (.aload_n 0, 1) := by decide +kernel
theorem dX4_leadToHere_6 : decode cX4_leadToHere 6 = .ok (.getfield 37, 3) := by decide +kernel
theorem dX4_leadToHere_9 : decode cX4_leadToHere 9 = .ok (.if_icmp .ge 13, 3) := by decide +kernel
theorem dX4_leadToHere_12 : decode cX4_leadToHere 12 = .ok (.aload_n 0, 1) := by decide +kernel
theorem dX4_leadToHere_13 : decode cX4_leadToHere 13 = .ok (.getfield 15, 3) := by decide +kernel
theorem dX4_leadToHere_16 : decode cX4_leadToHere 16 = .ok (.iload_n 1, 1) := by decide +kernel
theorem dX4_leadToHere_17 : decode cX4_leadToHere 17 = .ok (.aload_n 0, 1) := by decide +kernel
theorem dX4_leadToHere_18 : decode cX4_leadToHere 18 = .ok (.getfield 37, 3) := by decide +kernel
theorem dX4_leadToHere_21 : decode cX4_leadToHere 21 = .ok (.iastore, 1) := by decide +kernel
theorem dX4_leadToHere_22 : decode cX4_leadToHere 22 = .ok (.return_, 1) := by decide +kernel
theorem dX4_addRule_0 : decode cX4_addRule 0 = .ok (.aload_n 0, 1) := by decide +kernel
theorem dX4_addRule_1 : decode cX4_addRule 1 = .ok (.getfield 41, 3) := by decide +kernel
theorem dX4_addRule_4 : decode cX4_addRule 4 = .ok (.ifCond .lt 68, 3) := by decide +kernel
theorem dX4_addRule_7 : decode cX4_addRule 7 = .ok (.aload_n 0, 1) := by decide +kernel
theorem dX4_addRule_8 : decode cX4_addRule 8 = .ok (.getfield 41, 3) := by decide +kernel
theorem dX4_addRule_11 : decode cX4_addRule 11 = .ok (.aload_n 0, 1) := by decide +kernel
theorem dX4_addRule_12 : decode cX4_addRule 12 = .ok (.getfield 18, 3) := by decide +kernel
theorem dX4_addRule_15 : decode cX4_addRule 15 = .ok (.arraylength, 1) := by decide +kernel
theorem dX4_addRule_16 : decode cX4_addRule 16 = .ok (.if_icmp .ge 56, 3) := by decide +kernel
theorem dX4_addRule_19 : decode cX4_addRule 19 = .ok (.aload_n 0, 1) := by decide +kernel
theorem dX4_addRule_20 : decode cX4_addRule 20 = .ok (.getfield 18, 3) := by decide +kernel
theorem dX4_addRule_23 : decode cX4_addRule 23 = .ok (.aload_n 0, 1) := by decide +kernel
theorem dX4_addRule_24 : decode cX4_addRule 24 = .ok (.getfield 41, 3) := by decide +kernel
theorem dX4_addRule_27 : decode cX4_addRule 27 = .ok (.iload_n 1, 1) := by decide +kernel
theorem dX4_addRule_28 : decode cX4_addRule 28 = .ok (.iastore, 1) := by decide +kernel
theorem dX4_addRule_29 : decode cX4_addRule 29 = .ok (.aload_n 0, 1) := by decide +kernel
theorem dX4_addRule_30 : decode cX4_addRule 30 = .ok (.getfield 21, 3) := by decide +kernel
theorem dX4_addRule_33 : decode cX4_addRule 33 = .ok (.aload_n 0, 1) := by decide +kernel
theorem dX4_addRule_34 : decode cX4_addRule 34 = .ok (.getfield 41, 3) := by decide +kernel
theorem dX4_addRule_37 : decode cX4_addRule 37 = .ok (.iload_n 2, 1) := by decide +kernel
theorem dX4_addRule_38 : decode cX4_addRule 38 = .ok (.iastore, 1) := by decide +kernel
theorem dX4_addRule_39 : decode cX4_addRule 39 = .ok (.aload_n 0, 1) := by decide +kernel
theorem dX4_addRule_40 : decode cX4_addRule 40 = .ok (.getfield 24, 3) := by decide +kernel
theorem dX4_addRule_43 : decode cX4_addRule 43 = .ok (.aload_n 0, 1) := by decide +kernel
theorem dX4_addRule_44 : decode cX4_addRule 44 = .ok (.getfield 41, 3) := by decide +kernel
theorem dX4_addRule_47 : decode cX4_addRule 47 = .ok (.iload_n 3, 1) := by decide +kernel
theorem dX4_addRule_48 : decode cX4_addRule 48 = .ok (.iastore, 1) := by decide +kernel
theorem dX4_addRule_49 : decode cX4_addRule 49 = .ok (.aload_n 0, 1) := by decide +kernel
theorem dX4_addRule_50 : decode cX4_addRule 50 = .ok (.getfield 27, 3) := by decide +kernel
theorem dX4_addRule_53 : decode cX4_addRule 53 = .ok (.aload_n 0, 1) := by decide +kernel
theorem dX4_addRule_54 : decode cX4_addRule 54 = .ok (.getfield 41, 3) := by decide +kernel
theorem dX4_addRule_57 : decode cX4_addRule 57 = .ok (.aload_n 0, 1) := by decide +kernel
theorem dX4_addRule_58 : decode cX4_addRule 58 = .ok (.getfield 37, 3) := by decide +kernel
theorem dX4_addRule_61 : decode cX4_addRule 61 = .ok (.iastore, 1) := by decide +kernel
theorem dX4_addRule_62 : decode cX4_addRule 62 = .ok (.aload_n 0, 1) := by decide +kernel
theorem dX4_addRule_63 : decode cX4_addRule 63 = .ok (.dup, 1) := by decide +kernel
theorem dX4_addRule_64 : decode cX4_addRule 64 = .ok (.getfield 41, 3) := by decide +kernel
theorem dX4_addRule_67 : decode cX4_addRule 67 = .ok (.iconst 1, 1) := by decide +kernel
theorem dX4_addRule_68 : decode cX4_addRule 68 = .ok (.iadd, 1) := by decide +kernel
theorem dX4_addRule_69 : decode cX4_addRule 69 = .ok (.putfield 41, 3) := by decide +kernel
theorem dX4_addRule_72 : decode cX4_addRule 72 = .ok (.return_, 1) := by decide +kernel
theorem dX4_look_0 : decode cX4_look 0 = .ok (.aload_n 0, 1) := by decide +kernel
theorem dX4_look_1 : decode cX4_look 1 = .ok (.aload_n 1, 1) := by decide +kernel
theorem dX4_look_2 : decode cX4_look 2 = .ok (.putfield 33, 3) := by decide +kernel
theorem dX4_look_5 : decode cX4_look 5 = .ok (.aload_n 0, 1) := by decide +kernel
theorem dX4_look_6 : decode cX4_look 6 = .ok (.iload_n 2, 1) := by decide +kernel
theorem dX4_look_7 : decode cX4_look 7 = .ok (.putfield 44, 3) := by decide +kernel
theorem dX4_look_10 : decode cX4_look 10 = .ok (.aload_n 0, 1) := by decide +kernel
theorem dX4_look_11 : decode cX4_look 11 = .ok (.iload_n 3, 1) := by decide +kernel
theorem dX4_look_12 : decode cX4_look 12 = .ok (.putfield 47, 3) := by decide +kernel
theorem dX4_look_15 : decode cX4_look 15 = .ok (.aload_n 0, 1) := by decide +kernel
theorem dX4_look_16 : decode cX4_look 16 = .ok (.iload 4, 2) := by decide +kernel
theorem dX4_look_18 : decode cX4_look 18 = .ok (.putfield 50, 3) := by decide +kernel
theorem dX4_look_21 : decode cX4_look 21 = .ok (.return_, 1) := by decide +kernel
theorem dX4_isFog_0 : decode cX4_isFog 0 = .ok (.iconst 0, 1) := by decide +kernel
theorem dX4_isFog_1 : decode cX4_isFog 1 = .ok (.istore_n 1, 1) := by decide +kernel
theorem dX4_isFog_2 : decode cX4_isFog 2 = .ok (.iload_n 1, 1) := by decide +kernel
theorem dX4_isFog_3 : decode cX4_isFog 3 = .ok (.aload_n 0, 1) := by decide +kernel
theorem dX4_isFog_4 : decode cX4_isFog 4 = .ok (.getfield 41, 3) := by decide +kernel
theorem dX4_isFog_7 : decode cX4_isFog 7 = .ok (.if_icmp .ge 58, 3) := by decide +kernel
theorem dX4_isFog_10 : decode cX4_isFog 10 = .ok (.iload_n 1, 1) := by decide +kernel
theorem dX4_isFog_11 : decode cX4_isFog 11 = .ok (.bipush 16, 2) := by decide +kernel
theorem dX4_isFog_13 : decode cX4_isFog 13 = .ok (.if_icmp .ge 52, 3) := by decide +kernel
theorem dX4_isFog_16 : decode cX4_isFog 16 = .ok (.aload_n 0, 1) := by decide +kernel
theorem dX4_isFog_17 : decode cX4_isFog 17 = .ok (.getfield 18, 3) := by decide +kernel
theorem dX4_isFog_20 : decode cX4_isFog 20 = .ok (.iload_n 1, 1) := by decide +kernel
theorem dX4_isFog_21 : decode cX4_isFog 21 = .ok (.iaload, 1) := by decide +kernel
theorem dX4_isFog_22 : decode cX4_isFog 22 = .ok (.bipush 120, 2) := by decide +kernel
theorem dX4_isFog_24 : decode cX4_isFog 24 = .ok (.if_icmp .ne 35, 3) := by decide +kernel
theorem dX4_isFog_27 : decode cX4_isFog 27 = .ok (.aload_n 0, 1) := by decide +kernel
theorem dX4_isFog_28 : decode cX4_isFog 28 = .ok (.aload_n 0, 1) := by decide +kernel
theorem dX4_isFog_29 : decode cX4_isFog 29 = .ok (.getfield 24, 3) := by decide +kernel
theorem dX4_isFog_32 : decode cX4_isFog 32 = .ok (.iload_n 1, 1) := by decide +kernel
theorem dX4_isFog_33 : decode cX4_isFog 33 = .ok (.iaload, 1) := by decide +kernel
theorem dX4_isFog_34 : decode cX4_isFog 34 = .ok (.aload_n 0, 1) := by decide +kernel
theorem dX4_isFog_35 : decode cX4_isFog 35 = .ok (.getfield 27, 3) := by decide +kernel
theorem dX4_isFog_38 : decode cX4_isFog 38 = .ok (.iload_n 1, 1) := by decide +kernel
theorem dX4_isFog_39 : decode cX4_isFog 39 = .ok (.iaload, 1) := by decide +kernel
theorem dX4_isFog_40 : decode cX4_isFog 40 = .ok (.invokevirtual 53, 3) := by decide +kernel
theorem dX4_isFog_43 : decode cX4_isFog 43 = .ok (.aload_n 0, 1) := by decide +kernel
theorem dX4_isFog_44 : decode cX4_isFog 44 = .ok (.getfield 57, 3) := by decide +kernel
theorem dX4_isFog_47 : decode cX4_isFog 47 = .ok (.ifCond .eq 12, 3) := by decide +kernel
theorem dX4_isFog_50 : decode cX4_isFog 50 = .ok (.aload_n 0, 1) := by decide +kernel
theorem dX4_isFog_51 : decode cX4_isFog 51 = .ok (.getfield 61, 3) := by decide +kernel
theorem dX4_isFog_54 : decode cX4_isFog 54 = .ok (.ifCond .ne 5, 3) := by decide +kernel
theorem dX4_isFog_57 : decode cX4_isFog 57 = .ok (.iconst 1, 1) := by decide +kernel
theorem dX4_isFog_58 : decode cX4_isFog 58 = .ok (.ireturn, 1) := by decide +kernel
theorem dX4_isFog_59 : decode cX4_isFog 59 = .ok (.iinc 1 1, 3) := by decide +kernel
theorem dX4_isFog_62 : decode cX4_isFog 62 = .ok (.goto (-60), 3) := by decide +kernel
theorem dX4_isFog_65 : decode cX4_isFog 65 = .ok (.iconst 0, 1) := by decide +kernel
theorem dX4_isFog_66 : decode cX4_isFog 66 = .ok (.ireturn, 1) := by decide +kernel
theorem dX4_amountOf_0 : decode cX4_amountOf 0 = .ok (.iconst 0, 1) := by decide +kernel
theorem dX4_amountOf_1 : decode cX4_amountOf 1 = .ok (.istore_n 3, 1) := by decide +kernel
theorem dX4_amountOf_2 : decode cX4_amountOf 2 = .ok (.iload_n 3, 1) := by decide +kernel
theorem dX4_amountOf_3 : decode cX4_amountOf 3 = .ok (.aload_n 0, 1) := by decide +kernel
theorem dX4_amountOf_4 : decode cX4_amountOf 4 = .ok (.getfield 41, 3) := by decide +kernel
theorem dX4_amountOf_7 : decode cX4_amountOf 7 = .ok (.if_icmp .ge 97, 3) := by decide +kernel
theorem dX4_amountOf_10 : decode cX4_amountOf 10 = .ok (.iload_n 3, 1) := by decide +kernel
theorem dX4_amountOf_11 : decode cX4_amountOf 11 = .ok (.bipush 16, 2) := by decide +kernel
theorem dX4_amountOf_13 : decode cX4_amountOf 13 = .ok (.if_icmp .ge 91, 3) := by decide +kernel
theorem dX4_amountOf_16 : decode cX4_amountOf 16 = .ok (.aload_n 0, 1) := by decide +kernel
theorem dX4_amountOf_17 : decode cX4_amountOf 17 = .ok (.getfield 18, 3) := by decide +kernel
theorem dX4_amountOf_20 : decode cX4_amountOf 20 = .ok (.iload_n 3, 1) := by decide +kernel
theorem dX4_amountOf_21 : decode cX4_amountOf 21 = .ok (.iaload, 1) := by decide +kernel
theorem dX4_amountOf_22 : decode cX4_amountOf 22 = .ok (.iload_n 1, 1) := by decide +kernel
theorem dX4_amountOf_23 : decode cX4_amountOf 23 = .ok (.if_icmp .ne 75, 3) := by decide +kernel
theorem dX4_amountOf_26 : decode cX4_amountOf 26 = .ok (.aload_n 0, 1) := by decide +kernel
theorem dX4_amountOf_27 : decode cX4_amountOf 27 = .ok (.aload_n 0, 1) := by decide +kernel
theorem dX4_amountOf_28 : decode cX4_amountOf 28 = .ok (.getfield 24, 3) := by decide +kernel
theorem dX4_amountOf_31 : decode cX4_amountOf 31 = .ok (.iload_n 3, 1) := by decide +kernel
theorem dX4_amountOf_32 : decode cX4_amountOf 32 = .ok (.iaload, 1) := by decide +kernel
theorem dX4_amountOf_33 : decode cX4_amountOf 33 = .ok (.aload_n 0, 1) := by decide +kernel
theorem dX4_amountOf_34 : decode cX4_amountOf 34 = .ok (.getfield 27, 3) := by decide +kernel
theorem dX4_amountOf_37 : decode cX4_amountOf 37 = .ok (.iload_n 3, 1) := by decide +kernel
theorem dX4_amountOf_38 : decode cX4_amountOf 38 = .ok (.iaload, 1) := by decide +kernel
theorem dX4_amountOf_39 : decode cX4_amountOf 39 = .ok (.invokevirtual 53, 3) := by decide +kernel
theorem dX4_amountOf_42 : decode cX4_amountOf 42 = .ok (.aload_n 0, 1) := by decide +kernel
theorem dX4_amountOf_43 : decode cX4_amountOf 43 = .ok (.getfield 57, 3) := by decide +kernel
theorem dX4_amountOf_46 : decode cX4_amountOf 46 = .ok (.ifCond .eq 52, 3) := by decide +kernel
theorem dX4_amountOf_49 : decode cX4_amountOf 49 = .ok (.aload_n 0, 1) := by decide +kernel
theorem dX4_amountOf_50 : decode cX4_amountOf 50 = .ok (.getfield 61, 3) := by decide +kernel
theorem dX4_amountOf_53 : decode cX4_amountOf 53 = .ok (.ifCond .ne 45, 3) := by decide +kernel
theorem dX4_amountOf_56 : decode cX4_amountOf 56 = .ok (.aload_n 0, 1) := by decide +kernel
theorem dX4_amountOf_57 : decode cX4_amountOf 57 = .ok (.aload_n 0, 1) := by decide +kernel
theorem dX4_amountOf_58 : decode cX4_amountOf 58 = .ok (.getfield 21, 3) := by decide +kernel
theorem dX4_amountOf_61 : decode cX4_amountOf 61 = .ok (.iload_n 3, 1) := by decide +kernel
theorem dX4_amountOf_62 : decode cX4_amountOf 62 = .ok (.iaload, 1) := by decide +kernel
theorem dX4_amountOf_63 : decode cX4_amountOf 63 = .ok (.aload_n 0, 1) := by decide +kernel
theorem dX4_amountOf_64 : decode cX4_amountOf 64 = .ok (.getfield 24, 3) := by decide +kernel
theorem dX4_amountOf_67 : decode cX4_amountOf 67 = .ok (.iload_n 3, 1) := by decide +kernel
theorem dX4_amountOf_68 : decode cX4_amountOf 68 = .ok (.iaload, 1) := by decide +kernel
theorem dX4_amountOf_69 : decode cX4_amountOf 69 = .ok (.invokevirtual 53, 3) := by decide +kernel
theorem dX4_amountOf_72 : decode cX4_amountOf 72 = .ok (.aload_n 0, 1) := by decide +kernel
theorem dX4_amountOf_73 : decode cX4_amountOf 73 = .ok (.getfield 61, 3) := by decide +kernel
theorem dX4_amountOf_76 : decode cX4_amountOf 76 = .ok (.ifCond .eq 7, 3) := by decide +kernel
theorem dX4_amountOf_79 : decode cX4_amountOf 79 = .ok (.iconst 0, 1) := by decide +kernel
theorem dX4_amountOf_80 : decode cX4_amountOf 80 = .ok (.goto 17, 3) := by decide +kernel
theorem dX4_amountOf_83 : decode cX4_amountOf 83 = .ok (.iconst 0, 1) := by decide +kernel
theorem dX4_amountOf_84 : decode cX4_amountOf 84 = .ok (.iload_n 2, 1) := by decide +kernel
theorem dX4_amountOf_85 : decode cX4_amountOf 85 = .ok (.aload_n 0, 1) := by decide +kernel
theorem dX4_amountOf_86 : decode cX4_amountOf 86 = .ok (.getfield 30, 3) := by decide +kernel
theorem dX4_amountOf_89 : decode cX4_amountOf 89 = .ok (.iconst 0, 1) := by decide +kernel
theorem dX4_amountOf_90 : decode cX4_amountOf 90 = .ok (.iaload, 1) := by decide +kernel
theorem dX4_amountOf_91 : decode cX4_amountOf 91 = .ok (.invokestatic 64, 3) := by decide +kernel
theorem dX4_amountOf_94 : decode cX4_amountOf 94 = .ok (.invokestatic 70, 3) := by decide +kernel
theorem dX4_amountOf_97 : decode cX4_amountOf 97 = .ok (.ireturn, 1) := by decide +kernel
theorem dX4_amountOf_98 : decode cX4_amountOf 98 = .ok (.iinc 3 1, 3) := by decide +kernel
theorem dX4_amountOf_101 : decode cX4_amountOf 101 = .ok (.goto (-99), 3) := by decide +kernel
theorem dX4_amountOf_104 : decode cX4_amountOf 104 = .ok (.iconst 0, 1) := by decide +kernel
theorem dX4_amountOf_105 : decode cX4_amountOf 105 = .ok (.ireturn, 1) := by decide +kernel
theorem dX4_run_0 : decode cX4_run 0 = .ok (.aload_n 0, 1) := by decide +kernel
theorem dX4_run_1 : decode cX4_run 1 = .ok (.iconst 0, 1) := by decide +kernel
theorem dX4_run_2 : decode cX4_run 2 = .ok (.putfield 73, 3) := by decide +kernel
theorem dX4_run_5 : decode cX4_run 5 = .ok (.aload_n 0, 1) := by decide +kernel
theorem dX4_run_6 : decode cX4_run 6 = .ok (.iconst 0, 1) := by decide +kernel
theorem dX4_run_7 : decode cX4_run 7 = .ok (.putfield 57, 3) := by decide +kernel
theorem dX4_run_10 : decode cX4_run 10 = .ok (.aload_n 0, 1) := by decide +kernel
theorem dX4_run_11 : decode cX4_run 11 = .ok (.iconst 0, 1) := by decide +kernel
theorem dX4_run_12 : decode cX4_run 12 = .ok (.putfield 61, 3) := by decide +kernel
theorem dX4_run_15 : decode cX4_run 15 = .ok (.iload_n 1, 1) := by decide +kernel
theorem dX4_run_16 : decode cX4_run 16 = .ok (.istore_n 3, 1) := by decide +kernel
theorem dX4_run_17 : decode cX4_run 17 = .ok (.iconst 0, 1) := by decide +kernel
theorem dX4_run_18 : decode cX4_run 18 = .ok (.istore 4, 2) := by decide +kernel
theorem dX4_run_20 : decode cX4_run 20 = .ok (.iload 4, 2) := by decide +kernel
theorem dX4_run_22 : decode cX4_run 22 = .ok (.sipush 240, 3) := by decide +kernel
theorem dX4_run_25 : decode cX4_run 25 = .ok (.if_icmp .ge 257, 3) := by decide +kernel
theorem dX4_run_28 : decode cX4_run 28 = .ok (.iload_n 3, 1) := by decide +kernel
theorem dX4_run_29 : decode cX4_run 29 = .ok (.ifCond .lt 253, 3) := by decide +kernel
theorem dX4_run_32 : decode cX4_run 32 = .ok (.iload_n 3, 1) := by decide +kernel
theorem dX4_run_33 : decode cX4_run 33 = .ok (.iload_n 2, 1) := by decide +kernel
theorem dX4_run_34 : decode cX4_run 34 = .ok (.if_icmp .ge 248, 3) := by decide +kernel
theorem dX4_run_37 : decode cX4_run 37 = .ok (.iload_n 3, 1) := by decide +kernel
theorem dX4_run_38 : decode cX4_run 38 = .ok (.aload_n 0, 1) := by decide +kernel
theorem dX4_run_39 : decode cX4_run 39 = .ok (.getfield 37, 3) := by decide +kernel
theorem dX4_run_42 : decode cX4_run 42 = .ok (.if_icmp .ge 240, 3) := by decide +kernel
theorem dX4_run_45 : decode cX4_run 45 = .ok (.aload_n 0, 1) := by decide +kernel
theorem dX4_run_46 : decode cX4_run 46 = .ok (.getfield 61, 3) := by decide +kernel
theorem dX4_run_49 : decode cX4_run 49 = .ok (.ifCond .ne 233, 3) := by decide +kernel
theorem dX4_run_52 : decode cX4_run 52 = .ok (.aload_n 0, 1) := by decide +kernel
theorem dX4_run_53 : decode cX4_run 53 = .ok (.getfield 9, 3) := by decide +kernel
theorem dX4_run_56 : decode cX4_run 56 = .ok (.iload_n 3, 1) := by decide +kernel
theorem dX4_run_57 : decode cX4_run 57 = .ok (.iaload, 1) := by decide +kernel
theorem dX4_run_58 : decode cX4_run 58 = .ok (.istore 5, 2) := by decide +kernel
theorem dX4_run_60 : decode cX4_run 60 = .ok (.iload_n 3, 1) := by decide +kernel
theorem dX4_run_61 : decode cX4_run 61 = .ok (.iconst 1, 1) := by decide +kernel
theorem dX4_run_62 : decode cX4_run 62 = .ok (.iadd, 1) := by decide +kernel
theorem dX4_run_63 : decode cX4_run 63 = .ok (.istore 6, 2) := by decide +kernel
theorem dX4_run_65 : decode cX4_run 65 = .ok (.iload 5, 2) := by decide +kernel
theorem dX4_run_67 : decode cX4_run 67 = .ok (.lookupswitch 180 #[(33, 143), (37, 171), (38, 120), (42, 171), (43, 171), (45, 171), (47, 171), (60, 162), (61, 162), (62, 162), (124, 97)], 97) := by decide +kernel
theorem dX4_run_164 : decode cX4_run 164 = .ok (.aload_n 0, 1) := by decide +kernel
theorem dX4_run_165 : decode cX4_run 165 = .ok (.getfield 57, 3) := by decide +kernel
theorem dX4_run_168 : decode cX4_run 168 = .ok (.ifCond .eq 12, 3) := by decide +kernel
theorem dX4_run_171 : decode cX4_run 171 = .ok (.aload_n 0, 1) := by decide +kernel
theorem dX4_run_172 : decode cX4_run 172 = .ok (.getfield 15, 3) := by decide +kernel
theorem dX4_run_175 : decode cX4_run 175 = .ok (.iload_n 3, 1) := by decide +kernel
theorem dX4_run_176 : decode cX4_run 176 = .ok (.iaload, 1) := by decide +kernel
theorem dX4_run_177 : decode cX4_run 177 = .ok (.goto 5, 3) := by decide +kernel
theorem dX4_run_180 : decode cX4_run 180 = .ok (.iload 6, 2) := by decide +kernel
theorem dX4_run_182 : decode cX4_run 182 = .ok (.istore 6, 2) := by decide +kernel
theorem dX4_run_184 : decode cX4_run 184 = .ok (.goto 89, 3) := by decide +kernel
theorem dX4_run_187 : decode cX4_run 187 = .ok (.aload_n 0, 1) := by decide +kernel
theorem dX4_run_188 : decode cX4_run 188 = .ok (.getfield 57, 3) := by decide +kernel
theorem dX4_run_191 : decode cX4_run 191 = .ok (.ifCond .eq 8, 3) := by decide +kernel
theorem dX4_run_194 : decode cX4_run 194 = .ok (.iload 6, 2) := by decide +kernel
theorem dX4_run_196 : decode cX4_run 196 = .ok (.goto 9, 3) := by decide +kernel
theorem dX4_run_199 : decode cX4_run 199 = .ok (.aload_n 0, 1) := by decide +kernel
theorem dX4_run_200 : decode cX4_run 200 = .ok (.getfield 15, 3) := by decide +kernel
theorem dX4_run_203 : decode cX4_run 203 = .ok (.iload_n 3, 1) := by decide +kernel
theorem dX4_run_204 : decode cX4_run 204 = .ok (.iaload, 1) := by decide +kernel
theorem dX4_run_205 : decode cX4_run 205 = .ok (.istore 6, 2) := by decide +kernel
theorem dX4_run_207 : decode cX4_run 207 = .ok (.goto 66, 3) := by decide +kernel
theorem dX4_run_210 : decode cX4_run 210 = .ok (.aload_n 0, 1) := by decide +kernel
theorem dX4_run_211 : decode cX4_run 211 = .ok (.aload_n 0, 1) := by decide +kernel
theorem dX4_run_212 : decode cX4_run 212 = .ok (.getfield 57, 3) := by decide +kernel
theorem dX4_run_215 : decode cX4_run 215 = .ok (.ifCond .ne 7, 3) := by decide +kernel
theorem dX4_run_218 : decode cX4_run 218 = .ok (.iconst 1, 1) := by decide +kernel
theorem dX4_run_219 : decode cX4_run 219 = .ok (.goto 4, 3) := by decide +kernel
theorem dX4_run_222 : decode cX4_run 222 = .ok (.iconst 0, 1) := by decide +kernel
theorem dX4_run_223 : decode cX4_run 223 = .ok (.putfield 57, 3) := by decide +kernel
theorem dX4_run_226 : decode cX4_run 226 = .ok (.goto 47, 3) := by decide +kernel
theorem dX4_run_229 : decode cX4_run 229 = .ok (.aload_n 0, 1) := by decide +kernel
theorem dX4_run_230 : decode cX4_run 230 = .ok (.iload 5, 2) := by decide +kernel
theorem dX4_run_232 : decode cX4_run 232 = .ok (.invokevirtual 76, 3) := by decide +kernel
theorem dX4_run_235 : decode cX4_run 235 = .ok (.goto 38, 3) := by decide +kernel
theorem dX4_run_238 : decode cX4_run 238 = .ok (.aload_n 0, 1) := by decide +kernel
theorem dX4_run_239 : decode cX4_run 239 = .ok (.iload 5, 2) := by decide +kernel
theorem dX4_run_241 : decode cX4_run 241 = .ok (.invokevirtual 80, 3) := by decide +kernel
theorem dX4_run_244 : decode cX4_run 244 = .ok (.goto 29, 3) := by decide +kernel
theorem dX4_run_247 : decode cX4_run 247 = .ok (.aload_n 0, 1) := by decide +kernel
theorem dX4_run_248 : decode cX4_run 248 = .ok (.iload 5, 2) := by decide +kernel
theorem dX4_run_250 : decode cX4_run 250 = .ok (.bipush 48, 2) := by decide +kernel
theorem dX4_run_252 : decode cX4_run 252 = .ok (.if_icmp .ne 12, 3) := by decide +kernel
theorem dX4_run_255 : decode cX4_run 255 = .ok (.aload_n 0, 1) := by decide +kernel
theorem dX4_run_256 : decode cX4_run 256 = .ok (.getfield 15, 3) := by decide +kernel
theorem dX4_run_259 : decode cX4_run 259 = .ok (.iload_n 3, 1) := by decide +kernel
theorem dX4_run_260 : decode cX4_run 260 = .ok (.iaload, 1) := by decide +kernel
theorem dX4_run_261 : decode cX4_run 261 = .ok (.goto 9, 3) := by decide +kernel
theorem dX4_run_264 : decode cX4_run 264 = .ok (.aload_n 0, 1) := by decide +kernel
theorem dX4_run_265 : decode cX4_run 265 = .ok (.iload 5, 2) := by decide +kernel
theorem dX4_run_267 : decode cX4_run 267 = .ok (.invokevirtual 83, 3) := by decide +kernel
theorem dX4_run_270 : decode cX4_run 270 = .ok (.invokevirtual 87, 3) := by decide +kernel
theorem dX4_run_273 : decode cX4_run 273 = .ok (.iload 6, 2) := by decide +kernel
theorem dX4_run_275 : decode cX4_run 275 = .ok (.istore_n 3, 1) := by decide +kernel
theorem dX4_run_276 : decode cX4_run 276 = .ok (.iinc 4 1, 3) := by decide +kernel
theorem dX4_run_279 : decode cX4_run 279 = .ok (.goto (-259), 3) := by decide +kernel
theorem dX4_run_282 : decode cX4_run 282 = .ok (.return_, 1) := by decide +kernel
theorem dX4_push_0 : decode cX4_push 0 = .ok (.aload_n 0, 1) := by decide +kernel
theorem dX4_push_1 : decode cX4_push 1 = .ok (.getfield 73, 3) := by decide +kernel
theorem dX4_push_4 : decode cX4_push 4 = .ok (.ifCond .lt 32, 3) := by decide +kernel
theorem dX4_push_7 : decode cX4_push 7 = .ok (.aload_n 0, 1) := by decide +kernel
theorem dX4_push_8 : decode cX4_push 8 = .ok (.getfield 73, 3) := by decide +kernel
theorem dX4_push_11 : decode cX4_push 11 = .ok (.bipush 15, 2) := by decide +kernel
theorem dX4_push_13 : decode cX4_push 13 = .ok (.if_icmp .ge 23, 3) := by decide +kernel
theorem dX4_push_16 : decode cX4_push 16 = .ok (.aload_n 0, 1) := by decide +kernel
theorem dX4_push_17 : decode cX4_push 17 = .ok (.getfield 30, 3) := by decide +kernel
theorem dX4_push_20 : decode cX4_push 20 = .ok (.aload_n 0, 1) := by decide +kernel
theorem dX4_push_21 : decode cX4_push 21 = .ok (.getfield 73, 3) := by decide +kernel
theorem dX4_push_24 : decode cX4_push 24 = .ok (.iload_n 1, 1) := by decide +kernel
theorem dX4_push_25 : decode cX4_push 25 = .ok (.iastore, 1) := by decide +kernel
theorem dX4_push_26 : decode cX4_push 26 = .ok (.aload_n 0, 1) := by decide +kernel
theorem dX4_push_27 : decode cX4_push 27 = .ok (.dup, 1) := by decide +kernel
theorem dX4_push_28 : decode cX4_push 28 = .ok (.getfield 73, 3) := by decide +kernel
theorem dX4_push_31 : decode cX4_push 31 = .ok (.iconst 1, 1) := by decide +kernel
theorem dX4_push_32 : decode cX4_push 32 = .ok (.iadd, 1) := by decide +kernel
theorem dX4_push_33 : decode cX4_push 33 = .ok (.putfield 73, 3) := by decide +kernel
theorem dX4_push_36 : decode cX4_push 36 = .ok (.return_, 1) := by decide +kernel
theorem dX4_compareTwo_0 : decode cX4_compareTwo 0 = .ok (.aload_n 0, 1) := by decide +kernel
theorem dX4_compareTwo_1 : decode cX4_compareTwo 1 = .ok (.getfield 73, 3) := by decide +kernel
theorem dX4_compareTwo_4 : decode cX4_compareTwo 4 = .ok (.iconst 2, 1) := by decide +kernel
theorem dX4_compareTwo_5 : decode cX4_compareTwo 5 = .ok (.if_icmp .lt 12, 3) := by decide +kernel
theorem dX4_compareTwo_8 : decode cX4_compareTwo 8 = .ok (.aload_n 0, 1) := by decide +kernel
theorem dX4_compareTwo_9 : decode cX4_compareTwo 9 = .ok (.getfield 73, 3) := by decide +kernel
theorem dX4_compareTwo_12 : decode cX4_compareTwo 12 = .ok (.bipush 15, 2) := by decide +kernel
theorem dX4_compareTwo_14 : decode cX4_compareTwo 14 = .ok (.if_icmp .le 4, 3) := by decide +kernel
theorem dX4_compareTwo_17 : decode cX4_compareTwo 17 = .ok (.return_, 1) := by decide +kernel
theorem dX4_compareTwo_18 : decode cX4_compareTwo 18 = .ok (.aload_n 0, 1) := by decide +kernel
theorem dX4_compareTwo_19 : decode cX4_compareTwo 19 = .ok (.getfield 30, 3) := by decide +kernel
theorem dX4_compareTwo_22 : decode cX4_compareTwo 22 = .ok (.aload_n 0, 1) := by decide +kernel
theorem dX4_compareTwo_23 : decode cX4_compareTwo 23 = .ok (.getfield 73, 3) := by decide +kernel
theorem dX4_compareTwo_26 : decode cX4_compareTwo 26 = .ok (.iconst 1, 1) := by decide +kernel
theorem dX4_compareTwo_27 : decode cX4_compareTwo 27 = .ok (.isub, 1) := by decide +kernel
theorem dX4_compareTwo_28 : decode cX4_compareTwo 28 = .ok (.iaload, 1) := by decide +kernel
theorem dX4_compareTwo_29 : decode cX4_compareTwo 29 = .ok (.istore_n 2, 1) := by decide +kernel
theorem dX4_compareTwo_30 : decode cX4_compareTwo 30 = .ok (.aload_n 0, 1) := by decide +kernel
theorem dX4_compareTwo_31 : decode cX4_compareTwo 31 = .ok (.getfield 30, 3) := by decide +kernel
theorem dX4_compareTwo_34 : decode cX4_compareTwo 34 = .ok (.aload_n 0, 1) := by decide +kernel
theorem dX4_compareTwo_35 : decode cX4_compareTwo 35 = .ok (.getfield 73, 3) := by decide +kernel
theorem dX4_compareTwo_38 : decode cX4_compareTwo 38 = .ok (.iconst 2, 1) := by decide +kernel
theorem dX4_compareTwo_39 : decode cX4_compareTwo 39 = .ok (.isub, 1) := by decide +kernel
theorem dX4_compareTwo_40 : decode cX4_compareTwo 40 = .ok (.iaload, 1) := by decide +kernel
theorem dX4_compareTwo_41 : decode cX4_compareTwo 41 = .ok (.istore_n 3, 1) := by decide +kernel
theorem dX4_compareTwo_42 : decode cX4_compareTwo 42 = .ok (.aload_n 0, 1) := by decide +kernel
theorem dX4_compareTwo_43 : decode cX4_compareTwo 43 = .ok (.dup, 1) := by decide +kernel
theorem dX4_compareTwo_44 : decode cX4_compareTwo 44 = .ok (.getfield 73, 3) := by decide +kernel
theorem dX4_compareTwo_47 : decode cX4_compareTwo 47 = .ok (.iconst 2, 1) := by decide +kernel
theorem dX4_compareTwo_48 : decode cX4_compareTwo 48 = .ok (.isub, 1) := by decide +kernel
theorem dX4_compareTwo_49 : decode cX4_compareTwo 49 = .ok (.putfield 73, 3) := by decide +kernel
theorem dX4_compareTwo_52 : decode cX4_compareTwo 52 = .ok (.aload_n 0, 1) := by decide +kernel
theorem dX4_compareTwo_53 : decode cX4_compareTwo 53 = .ok (.iload_n 1, 1) := by decide +kernel
theorem dX4_compareTwo_54 : decode cX4_compareTwo 54 = .ok (.bipush 60, 2) := by decide +kernel
theorem dX4_compareTwo_56 : decode cX4_compareTwo 56 = .ok (.if_icmp .ne 16, 3) := by decide +kernel
theorem dX4_compareTwo_59 : decode cX4_compareTwo 59 = .ok (.iload_n 3, 1) := by decide +kernel
theorem dX4_compareTwo_60 : decode cX4_compareTwo 60 = .ok (.iload_n 2, 1) := by decide +kernel
theorem dX4_compareTwo_61 : decode cX4_compareTwo 61 = .ok (.if_icmp .ge 7, 3) := by decide +kernel
theorem dX4_compareTwo_64 : decode cX4_compareTwo 64 = .ok (.iconst 1, 1) := by decide +kernel
theorem dX4_compareTwo_65 : decode cX4_compareTwo 65 = .ok (.goto 36, 3) := by decide +kernel
theorem dX4_compareTwo_68 : decode cX4_compareTwo 68 = .ok (.iconst 0, 1) := by decide +kernel
theorem dX4_compareTwo_69 : decode cX4_compareTwo 69 = .ok (.goto 32, 3) := by decide +kernel
theorem dX4_compareTwo_72 : decode cX4_compareTwo 72 = .ok (.iload_n 1, 1) := by decide +kernel
theorem dX4_compareTwo_73 : decode cX4_compareTwo 73 = .ok (.bipush 62, 2) := by decide +kernel
theorem dX4_compareTwo_75 : decode cX4_compareTwo 75 = .ok (.if_icmp .ne 16, 3) := by decide +kernel
theorem dX4_compareTwo_78 : decode cX4_compareTwo 78 = .ok (.iload_n 3, 1) := by decide +kernel
theorem dX4_compareTwo_79 : decode cX4_compareTwo 79 = .ok (.iload_n 2, 1) := by decide +kernel
theorem dX4_compareTwo_80 : decode cX4_compareTwo 80 = .ok (.if_icmp .le 7, 3) := by decide +kernel
theorem dX4_compareTwo_83 : decode cX4_compareTwo 83 = .ok (.iconst 1, 1) := by decide +kernel
theorem dX4_compareTwo_84 : decode cX4_compareTwo 84 = .ok (.goto 17, 3) := by decide +kernel
theorem dX4_compareTwo_87 : decode cX4_compareTwo 87 = .ok (.iconst 0, 1) := by decide +kernel
theorem dX4_compareTwo_88 : decode cX4_compareTwo 88 = .ok (.goto 13, 3) := by decide +kernel
theorem dX4_compareTwo_91 : decode cX4_compareTwo 91 = .ok (.iload_n 3, 1) := by decide +kernel
theorem dX4_compareTwo_92 : decode cX4_compareTwo 92 = .ok (.iload_n 2, 1) := by decide +kernel
theorem dX4_compareTwo_93 : decode cX4_compareTwo 93 = .ok (.if_icmp .ne 7, 3) := by decide +kernel
theorem dX4_compareTwo_96 : decode cX4_compareTwo 96 = .ok (.iconst 1, 1) := by decide +kernel
theorem dX4_compareTwo_97 : decode cX4_compareTwo 97 = .ok (.goto 4, 3) := by decide +kernel
theorem dX4_compareTwo_100 : decode cX4_compareTwo 100 = .ok (.iconst 0, 1) := by decide +kernel
theorem dX4_compareTwo_101 : decode cX4_compareTwo 101 = .ok (.putfield 57, 3) := by decide +kernel
theorem dX4_compareTwo_104 : decode cX4_compareTwo 104 = .ok (.return_, 1) := by decide +kernel
theorem dX4_reckonTwo_0 : decode cX4_reckonTwo 0 = .ok (.aload_n 0, 1) := by decide +kernel
theorem dX4_reckonTwo_1 : decode cX4_reckonTwo 1 = .ok (.getfield 73, 3) := by decide +kernel
theorem dX4_reckonTwo_4 : decode cX4_reckonTwo 4 = .ok (.iconst 2, 1) := by decide +kernel
theorem dX4_reckonTwo_5 : decode cX4_reckonTwo 5 = .ok (.if_icmp .lt 12, 3) := by decide +kernel
theorem dX4_reckonTwo_8 : decode cX4_reckonTwo 8 = .ok (.aload_n 0, 1) := by decide +kernel
theorem dX4_reckonTwo_9 : decode cX4_reckonTwo 9 = .ok (.getfield 73, 3) := by decide +kernel
theorem dX4_reckonTwo_12 : decode cX4_reckonTwo 12 = .ok (.bipush 15, 2) := by decide +kernel
theorem dX4_reckonTwo_14 : decode cX4_reckonTwo 14 = .ok (.if_icmp .le 4, 3) := by decide +kernel
theorem dX4_reckonTwo_17 : decode cX4_reckonTwo 17 = .ok (.return_, 1) := by decide +kernel
theorem dX4_reckonTwo_18 : decode cX4_reckonTwo 18 = .ok (.aload_n 0, 1) := by decide +kernel
theorem dX4_reckonTwo_19 : decode cX4_reckonTwo 19 = .ok (.getfield 30, 3) := by decide +kernel
theorem dX4_reckonTwo_22 : decode cX4_reckonTwo 22 = .ok (.aload_n 0, 1) := by decide +kernel
theorem dX4_reckonTwo_23 : decode cX4_reckonTwo 23 = .ok (.getfield 73, 3) := by decide +kernel
theorem dX4_reckonTwo_26 : decode cX4_reckonTwo 26 = .ok (.iconst 1, 1) := by decide +kernel
theorem dX4_reckonTwo_27 : decode cX4_reckonTwo 27 = .ok (.isub, 1) := by decide +kernel
theorem dX4_reckonTwo_28 : decode cX4_reckonTwo 28 = .ok (.iaload, 1) := by decide +kernel
theorem dX4_reckonTwo_29 : decode cX4_reckonTwo 29 = .ok (.istore_n 2, 1) := by decide +kernel
theorem dX4_reckonTwo_30 : decode cX4_reckonTwo 30 = .ok (.aload_n 0, 1) := by decide +kernel
theorem dX4_reckonTwo_31 : decode cX4_reckonTwo 31 = .ok (.getfield 30, 3) := by decide +kernel
theorem dX4_reckonTwo_34 : decode cX4_reckonTwo 34 = .ok (.aload_n 0, 1) := by decide +kernel
theorem dX4_reckonTwo_35 : decode cX4_reckonTwo 35 = .ok (.getfield 73, 3) := by decide +kernel
theorem dX4_reckonTwo_38 : decode cX4_reckonTwo 38 = .ok (.iconst 2, 1) := by decide +kernel
theorem dX4_reckonTwo_39 : decode cX4_reckonTwo 39 = .ok (.isub, 1) := by decide +kernel
theorem dX4_reckonTwo_40 : decode cX4_reckonTwo 40 = .ok (.iaload, 1) := by decide +kernel
theorem dX4_reckonTwo_41 : decode cX4_reckonTwo 41 = .ok (.istore_n 3, 1) := by decide +kernel
theorem dX4_reckonTwo_42 : decode cX4_reckonTwo 42 = .ok (.aload_n 0, 1) := by decide +kernel
theorem dX4_reckonTwo_43 : decode cX4_reckonTwo 43 = .ok (.dup, 1) := by decide +kernel
theorem dX4_reckonTwo_44 : decode cX4_reckonTwo 44 = .ok (.getfield 73, 3) := by decide +kernel
theorem dX4_reckonTwo_47 : decode cX4_reckonTwo 47 = .ok (.iconst 1, 1) := by decide +kernel
theorem dX4_reckonTwo_48 : decode cX4_reckonTwo 48 = .ok (.isub, 1) := by decide +kernel
theorem dX4_reckonTwo_49 : decode cX4_reckonTwo 49 = .ok (.putfield 73, 3) := by decide +kernel
theorem dX4_reckonTwo_52 : decode cX4_reckonTwo 52 = .ok (.iload_n 1, 1) := by decide +kernel
theorem dX4_reckonTwo_53 : decode cX4_reckonTwo 53 = .ok (.bipush 43, 2) := by decide +kernel
theorem dX4_reckonTwo_55 : decode cX4_reckonTwo 55 = .ok (.if_icmp .ne 20, 3) := by decide +kernel
theorem dX4_reckonTwo_58 : decode cX4_reckonTwo 58 = .ok (.aload_n 0, 1) := by decide +kernel
theorem dX4_reckonTwo_59 : decode cX4_reckonTwo 59 = .ok (.getfield 30, 3) := by decide +kernel
theorem dX4_reckonTwo_62 : decode cX4_reckonTwo 62 = .ok (.aload_n 0, 1) := by decide +kernel
theorem dX4_reckonTwo_63 : decode cX4_reckonTwo 63 = .ok (.getfield 73, 3) := by decide +kernel
theorem dX4_reckonTwo_66 : decode cX4_reckonTwo 66 = .ok (.iconst 1, 1) := by decide +kernel
theorem dX4_reckonTwo_67 : decode cX4_reckonTwo 67 = .ok (.isub, 1) := by decide +kernel
theorem dX4_reckonTwo_68 : decode cX4_reckonTwo 68 = .ok (.iload_n 3, 1) := by decide +kernel
theorem dX4_reckonTwo_69 : decode cX4_reckonTwo 69 = .ok (.iload_n 2, 1) := by decide +kernel
theorem dX4_reckonTwo_70 : decode cX4_reckonTwo 70 = .ok (.iadd, 1) := by decide +kernel
theorem dX4_reckonTwo_71 : decode cX4_reckonTwo 71 = .ok (.iastore, 1) := by decide +kernel
theorem dX4_reckonTwo_72 : decode cX4_reckonTwo 72 = .ok (.goto 87, 3) := by decide +kernel
theorem dX4_reckonTwo_75 : decode cX4_reckonTwo 75 = .ok (.iload_n 1, 1) := by decide +kernel
theorem dX4_reckonTwo_76 : decode cX4_reckonTwo 76 = .ok (.bipush 45, 2) := by decide +kernel
theorem dX4_reckonTwo_78 : decode cX4_reckonTwo 78 = .ok (.if_icmp .ne 20, 3) := by decide +kernel
theorem dX4_reckonTwo_81 : decode cX4_reckonTwo 81 = .ok (.aload_n 0, 1) := by decide +kernel
theorem dX4_reckonTwo_82 : decode cX4_reckonTwo 82 = .ok (.getfield 30, 3) := by decide +kernel
theorem dX4_reckonTwo_85 : decode cX4_reckonTwo 85 = .ok (.aload_n 0, 1) := by decide +kernel
theorem dX4_reckonTwo_86 : decode cX4_reckonTwo 86 = .ok (.getfield 73, 3) := by decide +kernel
theorem dX4_reckonTwo_89 : decode cX4_reckonTwo 89 = .ok (.iconst 1, 1) := by decide +kernel
theorem dX4_reckonTwo_90 : decode cX4_reckonTwo 90 = .ok (.isub, 1) := by decide +kernel
theorem dX4_reckonTwo_91 : decode cX4_reckonTwo 91 = .ok (.iload_n 3, 1) := by decide +kernel
theorem dX4_reckonTwo_92 : decode cX4_reckonTwo 92 = .ok (.iload_n 2, 1) := by decide +kernel
theorem dX4_reckonTwo_93 : decode cX4_reckonTwo 93 = .ok (.isub, 1) := by decide +kernel
theorem dX4_reckonTwo_94 : decode cX4_reckonTwo 94 = .ok (.iastore, 1) := by decide +kernel
theorem dX4_reckonTwo_95 : decode cX4_reckonTwo 95 = .ok (.goto 64, 3) := by decide +kernel
theorem dX4_reckonTwo_98 : decode cX4_reckonTwo 98 = .ok (.iload_n 1, 1) := by decide +kernel
theorem dX4_reckonTwo_99 : decode cX4_reckonTwo 99 = .ok (.bipush 42, 2) := by decide +kernel
theorem dX4_reckonTwo_101 : decode cX4_reckonTwo 101 = .ok (.if_icmp .ne 20, 3) := by decide +kernel
theorem dX4_reckonTwo_104 : decode cX4_reckonTwo 104 = .ok (.aload_n 0, 1) := by decide +kernel
theorem dX4_reckonTwo_105 : decode cX4_reckonTwo 105 = .ok (.getfield 30, 3) := by decide +kernel
theorem dX4_reckonTwo_108 : decode cX4_reckonTwo 108 = .ok (.aload_n 0, 1) := by decide +kernel
theorem dX4_reckonTwo_109 : decode cX4_reckonTwo 109 = .ok (.getfield 73, 3) := by decide +kernel
theorem dX4_reckonTwo_112 : decode cX4_reckonTwo 112 = .ok (.iconst 1, 1) := by decide +kernel
theorem dX4_reckonTwo_113 : decode cX4_reckonTwo 113 = .ok (.isub, 1) := by decide +kernel
theorem dX4_reckonTwo_114 : decode cX4_reckonTwo 114 = .ok (.iload_n 3, 1) := by decide +kernel
theorem dX4_reckonTwo_115 : decode cX4_reckonTwo 115 = .ok (.iload_n 2, 1) := by decide +kernel
theorem dX4_reckonTwo_116 : decode cX4_reckonTwo 116 = .ok (.imul, 1) := by decide +kernel
theorem dX4_reckonTwo_117 : decode cX4_reckonTwo 117 = .ok (.iastore, 1) := by decide +kernel
theorem dX4_reckonTwo_118 : decode cX4_reckonTwo 118 = .ok (.goto 41, 3) := by decide +kernel
theorem dX4_reckonTwo_121 : decode cX4_reckonTwo 121 = .ok (.iload_n 2, 1) := by decide +kernel
theorem dX4_reckonTwo_122 : decode cX4_reckonTwo 122 = .ok (.ifCond .ne 11, 3) := by decide +kernel
theorem dX4_reckonTwo_125 : decode cX4_reckonTwo 125 = .ok (.aload_n 0, 1) := by decide +kernel
theorem dX4_reckonTwo_126 : decode cX4_reckonTwo 126 = .ok (.iconst 1, 1) := by decide +kernel
theorem dX4_reckonTwo_127 : decode cX4_reckonTwo 127 = .ok (.putfield 61, 3) := by decide +kernel
theorem dX4_reckonTwo_130 : decode cX4_reckonTwo 130 = .ok (.goto 29, 3) := by decide +kernel
theorem dX4_reckonTwo_133 : decode cX4_reckonTwo 133 = .ok (.aload_n 0, 1) := by decide +kernel
theorem dX4_reckonTwo_134 : decode cX4_reckonTwo 134 = .ok (.getfield 30, 3) := by decide +kernel
theorem dX4_reckonTwo_137 : decode cX4_reckonTwo 137 = .ok (.aload_n 0, 1) := by decide +kernel
theorem dX4_reckonTwo_138 : decode cX4_reckonTwo 138 = .ok (.getfield 73, 3) := by decide +kernel
theorem dX4_reckonTwo_141 : decode cX4_reckonTwo 141 = .ok (.iconst 1, 1) := by decide +kernel
theorem dX4_reckonTwo_142 : decode cX4_reckonTwo 142 = .ok (.isub, 1) := by decide +kernel
theorem dX4_reckonTwo_143 : decode cX4_reckonTwo 143 = .ok (.iload_n 1, 1) := by decide +kernel
theorem dX4_reckonTwo_144 : decode cX4_reckonTwo 144 = .ok (.bipush 47, 2) := by decide +kernel
theorem dX4_reckonTwo_146 : decode cX4_reckonTwo 146 = .ok (.if_icmp .ne 9, 3) := by decide +kernel
theorem dX4_reckonTwo_149 : decode cX4_reckonTwo 149 = .ok (.iload_n 3, 1) := by decide +kernel
theorem dX4_reckonTwo_150 : decode cX4_reckonTwo 150 = .ok (.iload_n 2, 1) := by decide +kernel
theorem dX4_reckonTwo_151 : decode cX4_reckonTwo 151 = .ok (.idiv, 1) := by decide +kernel
theorem dX4_reckonTwo_152 : decode cX4_reckonTwo 152 = .ok (.goto 6, 3) := by decide +kernel
theorem dX4_reckonTwo_155 : decode cX4_reckonTwo 155 = .ok (.iload_n 3, 1) := by decide +kernel
theorem dX4_reckonTwo_156 : decode cX4_reckonTwo 156 = .ok (.iload_n 2, 1) := by decide +kernel
theorem dX4_reckonTwo_157 : decode cX4_reckonTwo 157 = .ok (.irem, 1) := by decide +kernel
theorem dX4_reckonTwo_158 : decode cX4_reckonTwo 158 = .ok (.iastore, 1) := by decide +kernel
theorem dX4_reckonTwo_159 : decode cX4_reckonTwo 159 = .ok (.return_, 1) := by decide +kernel
theorem dX4_letter_0 : decode cX4_letter 0 = .ok (.aload_n 0, 1) := by decide +kernel
theorem dX4_letter_1 : decode cX4_letter 1 = .ok (.getfield 44, 3) := by decide +kernel
theorem dX4_letter_4 : decode cX4_letter 4 = .ok (.ifCond .lt 28, 3) := by decide +kernel
theorem dX4_letter_7 : decode cX4_letter 7 = .ok (.aload_n 0, 1) := by decide +kernel
theorem dX4_letter_8 : decode cX4_letter 8 = .ok (.getfield 44, 3) := by decide +kernel
theorem dX4_letter_11 : decode cX4_letter 11 = .ok (.bipush 24, 2) := by decide +kernel
theorem dX4_letter_13 : decode cX4_letter 13 = .ok (.if_icmp .ge 19, 3) := by decide +kernel
theorem dX4_letter_16 : decode cX4_letter 16 = .ok (.aload_n 0, 1) := by decide +kernel
theorem dX4_letter_17 : decode cX4_letter 17 = .ok (.getfield 47, 3) := by decide +kernel
theorem dX4_letter_20 : decode cX4_letter 20 = .ok (.ifCond .lt 12, 3) := by decide +kernel
theorem dX4_letter_23 : decode cX4_letter 23 = .ok (.aload_n 0, 1) := by decide +kernel
theorem dX4_letter_24 : decode cX4_letter 24 = .ok (.getfield 47, 3) := by decide +kernel
theorem dX4_letter_27 : decode cX4_letter 27 = .ok (.bipush 24, 2) := by decide +kernel
theorem dX4_letter_29 : decode cX4_letter 29 = .ok (.if_icmp .lt 5, 3) := by decide +kernel
theorem dX4_letter_32 : decode cX4_letter 32 = .ok (.iconst 0, 1) := by decide +kernel
theorem dX4_letter_33 : decode cX4_letter 33 = .ok (.ireturn, 1) := by decide +kernel
theorem dX4_letter_34 : decode cX4_letter 34 = .ok (.iload_n 1, 1) := by decide +kernel
theorem dX4_letter_35 : decode cX4_letter 35 = .ok (.tableswitch 177 97 119 #[161, 177, 177, 177, 177, 128, 148, 166, 177, 177, 177, 177, 177, 177, 177, 123, 177, 105, 110, 177, 177, 177, 135], 105) := by decide +kernel
theorem dX4_letter_140 : decode cX4_letter 140 = .ok (.aload_n 0, 1) := by decide +kernel
theorem dX4_letter_141 : decode cX4_letter 141 = .ok (.getfield 44, 3) := by decide +kernel
theorem dX4_letter_144 : decode cX4_letter 144 = .ok (.ireturn, 1) := by decide +kernel
theorem dX4_letter_145 : decode cX4_letter 145 = .ok (.aload_n 0, 1) := by decide +kernel
theorem dX4_letter_146 : decode cX4_letter 146 = .ok (.getfield 33, 3) := by decide +kernel
theorem dX4_letter_149 : decode cX4_letter 149 = .ok (.getfield 90, 3) := by decide +kernel
theorem dX4_letter_152 : decode cX4_letter 152 = .ok (.aload_n 0, 1) := by decide +kernel
theorem dX4_letter_153 : decode cX4_letter 153 = .ok (.getfield 44, 3) := by decide +kernel
theorem dX4_letter_156 : decode cX4_letter 156 = .ok (.iaload, 1) := by decide +kernel
theorem dX4_letter_157 : decode cX4_letter 157 = .ok (.ireturn, 1) := by decide +kernel
theorem dX4_letter_158 : decode cX4_letter 158 = .ok (.aload_n 0, 1) := by decide +kernel
theorem dX4_letter_159 : decode cX4_letter 159 = .ok (.getfield 47, 3) := by decide +kernel
theorem dX4_letter_162 : decode cX4_letter 162 = .ok (.ireturn, 1) := by decide +kernel
theorem dX4_letter_163 : decode cX4_letter 163 = .ok (.aload_n 0, 1) := by decide +kernel
theorem dX4_letter_164 : decode cX4_letter 164 = .ok (.getfield 47, 3) := by decide +kernel
theorem dX4_letter_167 : decode cX4_letter 167 = .ok (.iconst 4, 1) := by decide +kernel
theorem dX4_letter_168 : decode cX4_letter 168 = .ok (.idiv, 1) := by decide +kernel
theorem dX4_letter_169 : decode cX4_letter 169 = .ok (.ireturn, 1) := by decide +kernel
theorem dX4_letter_170 : decode cX4_letter 170 = .ok (.aload_n 0, 1) := by decide +kernel
theorem dX4_letter_171 : decode cX4_letter 171 = .ok (.getfield 33, 3) := by decide +kernel
theorem dX4_letter_174 : decode cX4_letter 174 = .ok (.getfield 95, 3) := by decide +kernel
theorem dX4_letter_177 : decode cX4_letter 177 = .ok (.aload_n 0, 1) := by decide +kernel
theorem dX4_letter_178 : decode cX4_letter 178 = .ok (.getfield 47, 3) := by decide +kernel
theorem dX4_letter_181 : decode cX4_letter 181 = .ok (.iaload, 1) := by decide +kernel
theorem dX4_letter_182 : decode cX4_letter 182 = .ok (.ireturn, 1) := by decide +kernel
theorem dX4_letter_183 : decode cX4_letter 183 = .ok (.aload_n 0, 1) := by decide +kernel
theorem dX4_letter_184 : decode cX4_letter 184 = .ok (.getfield 33, 3) := by decide +kernel
theorem dX4_letter_187 : decode cX4_letter 187 = .ok (.getfield 98, 3) := by decide +kernel
theorem dX4_letter_190 : decode cX4_letter 190 = .ok (.aload_n 0, 1) := by decide +kernel
theorem dX4_letter_191 : decode cX4_letter 191 = .ok (.getfield 47, 3) := by decide +kernel
theorem dX4_letter_194 : decode cX4_letter 194 = .ok (.iaload, 1) := by decide +kernel
theorem dX4_letter_195 : decode cX4_letter 195 = .ok (.ireturn, 1) := by decide +kernel
theorem dX4_letter_196 : decode cX4_letter 196 = .ok (.aload_n 0, 1) := by decide +kernel
theorem dX4_letter_197 : decode cX4_letter 197 = .ok (.getfield 50, 3) := by decide +kernel
theorem dX4_letter_200 : decode cX4_letter 200 = .ok (.ireturn, 1) := by decide +kernel
theorem dX4_letter_201 : decode cX4_letter 201 = .ok (.aload_n 0, 1) := by decide +kernel
theorem dX4_letter_202 : decode cX4_letter 202 = .ok (.getfield 33, 3) := by decide +kernel
theorem dX4_letter_205 : decode cX4_letter 205 = .ok (.getfield 101, 3) := by decide +kernel
theorem dX4_letter_208 : decode cX4_letter 208 = .ok (.bipush 24, 2) := by decide +kernel
theorem dX4_letter_210 : decode cX4_letter 210 = .ok (.irem, 1) := by decide +kernel
theorem dX4_letter_211 : decode cX4_letter 211 = .ok (.ireturn, 1) := by decide +kernel
theorem dX4_letter_212 : decode cX4_letter 212 = .ok (.iconst 0, 1) := by decide +kernel
theorem dX4_letter_213 : decode cX4_letter 213 = .ok (.ireturn, 1) := by decide +kernel
theorem dX5_init_0 : decode cX5_init 0 = .ok (.aload_n 0, 1) := by decide +kernel
theorem dX5_init_1 : decode cX5_init 1 = .ok (.invokespecial 3, 3) := by decide +kernel
theorem dX5_init_4 : decode cX5_init 4 = .ok (.aload_n 0, 1) := by decide +kernel
theorem dX5_init_5 : decode cX5_init 5 = .ok (.aload_n 1, 1) := by decide +kernel
theorem dX5_init_6 : decode cX5_init 6 = .ok (.putfield 9, 3) := by decide +kernel
theorem dX5_init_9 : decode cX5_init 9 = .ok (.aload_n 0, 1) := by decide +kernel
theorem dX5_init_10 : decode cX5_init 10 = .ok (.aload_n 2, 1) := by decide +kernel
theorem dX5_init_11 : decode cX5_init 11 = .ok (.putfield 15, 3) := by decide +kernel
theorem dX5_init_14 : decode cX5_init 14 = .ok (.return_, 1) := by decide +kernel
theorem dX5_read_0 : decode cX5_read 0 = .ok (.aload_n 0, 1) := by decide +kernel
theorem dX5_read_1 : decode cX5_read 1 = .ok (.aload_n 1, 1) := by decide +kernel
theorem dX5_read_2 : decode cX5_read 2 = .ok (.putfield 15, 3) := by decide +kernel
theorem dX5_read_5 : decode cX5_read 5 = .ok (.aload_n 0, 1) := by decide +kernel
theorem dX5_read_6 : decode cX5_read 6 = .ok (.getfield 15, 3) := by decide +kernel
theorem dX5_read_9 : decode cX5_read 9 = .ok (.invokevirtual 19, 3) := by decide +kernel
theorem dX5_read_12 : decode cX5_read 12 = .ok (.iconst 0, 1) := by decide +kernel
theorem dX5_read_13 : decode cX5_read 13 = .ok (.istore_n 2, 1) := by decide +kernel
theorem dX5_read_14 : decode cX5_read 14 = .ok (.iload_n 2, 1) := by decide +kernel
theorem dX5_read_15 : decode cX5_read 15 = .ok (.bipush 16, 2) := by decide +kernel
theorem dX5_read_17 : decode cX5_read 17 = .ok (.if_icmp .gt 33, 3) := by decide +kernel
theorem dX5_read_20 : decode cX5_read 20 = .ok (.aload_n 0, 1) := by decide +kernel
theorem dX5_read_21 : decode cX5_read 21 = .ok (.invokevirtual 24, 3) := by decide +kernel
theorem dX5_read_24 : decode cX5_read 24 = .ok (.aload_n 0, 1) := by decide +kernel
theorem dX5_read_25 : decode cX5_read 25 = .ok (.getfield 9, 3) := by decide +kernel
theorem dX5_read_28 : decode cX5_read 28 = .ok (.invokevirtual 27, 3) := by decide +kernel
theorem dX5_read_31 : decode cX5_read 31 = .ok (.ifCond .eq 4, 3) := by decide +kernel
theorem dX5_read_34 : decode cX5_read 34 = .ok (.return_, 1) := by decide +kernel
theorem dX5_read_35 : decode cX5_read 35 = .ok (.aload_n 0, 1) := by decide +kernel
theorem dX5_read_36 : decode cX5_read 36 = .ok (.getfield 9, 3) := by decide +kernel
theorem dX5_read_39 : decode cX5_read 39 = .ok (.bipush 59, 2) := by decide +kernel
theorem dX5_read_41 : decode cX5_read 41 = .ok (.invokevirtual 33, 3) := by decide +kernel
theorem dX5_read_44 : decode cX5_read 44 = .ok (.iinc 2 1, 3) := by decide +kernel
theorem dX5_read_47 : decode cX5_read 47 = .ok (.goto (-33), 3) := by decide +kernel
theorem dX5_read_50 : decode cX5_read 50 = .ok (.return_, 1) := by decide +kernel
theorem dX5_readRule_0 : decode cX5_readRule 0 = .ok (.aload_n 0, 1) := by decide +kernel
theorem dX5_readRule_1 : decode cX5_readRule 1 = .ok (.getfield 9, 3) := by decide +kernel
theorem dX5_readRule_4 : decode cX5_readRule 4 = .ok (.invokevirtual 37, 3) := by decide +kernel
theorem dX5_readRule_7 : decode cX5_readRule 7 = .ok (.istore_n 1, 1) := by decide +kernel
theorem dX5_readRule_8 : decode cX5_readRule 8 = .ok (.iload_n 1, 1) := by decide +kernel
theorem dX5_readRule_9 : decode cX5_readRule 9 = .ok (.bipush 99, 2) := by decide +kernel
theorem dX5_readRule_11 : decode cX5_readRule 11 = .ok (.if_icmp .eq 37, 3) := by decide +kernel
theorem dX5_readRule_14 : decode cX5_readRule 14 = .ok (.iload_n 1, 1) := by decide +kernel
theorem dX5_readRule_15 : decode cX5_readRule 15 = .ok (.bipush 107, 2) := by decide +kernel
theorem dX5_readRule_17 : decode cX5_readRule 17 = .ok (.if_icmp .eq 31, 3) := by decide +kernel
theorem dX5_readRule_20 : decode cX5_readRule 20 = .ok (.iload_n 1, 1) := by decide +kernel
theorem dX5_readRule_21 : decode cX5_readRule 21 = .ok (.bipush 100, 2) := by decide +kernel
theorem dX5_readRule_23 : decode cX5_readRule 23 = .ok (.if_icmp .eq 25, 3) := by decide +kernel
theorem dX5_readRule_26 : decode cX5_readRule 26 = .ok (.iload_n 1, 1) := by decide +kernel
theorem dX5_readRule_27 : decode cX5_readRule 27 = .ok (.bipush 120, 2) := by decide +kernel
theorem dX5_readRule_29 : decode cX5_readRule 29 = .ok (.if_icmp .eq 19, 3) := by decide +kernel
theorem dX5_readRule_32 : decode cX5_readRule 32 = .ok (.aload_n 0, 1) := by decide +kernel
theorem dX5_readRule_33 : decode cX5_readRule 33 = .ok (.getfield 9, 3) := by decide +kernel
theorem dX5_readRule_36 : decode cX5_readRule 36 = .ok (.iconst 1, 1) := by decide +kernel
theorem dX5_readRule_37 : decode cX5_readRule 37 = .ok (.aload_n 0, 1) := by decide +kernel
theorem dX5_readRule_38 : decode cX5_readRule 38 = .ok (.getfield 9, 3) := by decide +kernel
theorem dX5_readRule_41 : decode cX5_readRule 41 = .ok (.getfield 41, 3) := by decide +kernel
theorem dX5_readRule_44 : decode cX5_readRule 44 = .ok (.invokevirtual 45, 3) := by decide +kernel
theorem dX5_readRule_47 : decode cX5_readRule 47 = .ok (.return_, 1) := by decide +kernel
theorem dX5_readRule_48 : decode cX5_readRule 48 = .ok (.aload_n 0, 1) := by decide +kernel
theorem dX5_readRule_49 : decode cX5_readRule 49 = .ok (.getfield 15, 3) := by decide +kernel
theorem dX5_readRule_52 : decode cX5_readRule 52 = .ok (.getfield 49, 3) := by decide +kernel
theorem dX5_readRule_55 : decode cX5_readRule 55 = .ok (.bipush 16, 2) := by decide +kernel
theorem dX5_readRule_57 : decode cX5_readRule 57 = .ok (.if_icmp .ne 19, 3) := by decide +kernel
theorem dX5_readRule_60 : decode cX5_readRule 60 = .ok (.aload_n 0, 1) := by decide +kernel
theorem dX5_readRule_61 : decode cX5_readRule 61 = .ok (.getfield 9, 3) := by decide +kernel
theorem dX5_readRule_64 : decode cX5_readRule 64 = .ok (.iconst 4, 1) := by decide +kernel
theorem dX5_readRule_65 : decode cX5_readRule 65 = .ok (.aload_n 0, 1) := by decide +kernel
theorem dX5_readRule_66 : decode cX5_readRule 66 = .ok (.getfield 9, 3) := by decide +kernel
theorem dX5_readRule_69 : decode cX5_readRule 69 = .ok (.getfield 41, 3) := by decide +kernel
theorem dX5_readRule_72 : decode cX5_readRule 72 = .ok (.invokevirtual 45, 3) := by decide +kernel
theorem dX5_readRule_75 : decode cX5_readRule 75 = .ok (.return_, 1) := by decide +kernel
theorem dX5_readRule_76 : decode cX5_readRule 76 = .ok (.aload_n 0, 1) := by decide +kernel
theorem dX5_readRule_77 : decode cX5_readRule 77 = .ok (.getfield 9, 3) := by decide +kernel
theorem dX5_readRule_80 : decode cX5_readRule 80 = .ok (.invokevirtual 52, 3) := by decide +kernel
theorem dX5_readRule_83 : decode cX5_readRule 83 = .ok (.aload_n 0, 1) := by decide +kernel
theorem dX5_readRule_84 : decode cX5_readRule 84 = .ok (.getfield 15, 3) := by decide +kernel
theorem dX5_readRule_87 : decode cX5_readRule 87 = .ok (.getfield 55, 3) := by decide +kernel
theorem dX5_readRule_90 : decode cX5_readRule 90 = .ok (.istore_n 2, 1) := by decide +kernel
theorem dX5_readRule_91 : decode cX5_readRule 91 = .ok (.iload_n 1, 1) := by decide +kernel
theorem dX5_readRule_92 : decode cX5_readRule 92 = .ok (.bipush 120, 2) := by decide +kernel
theorem dX5_readRule_94 : decode cX5_readRule 94 = .ok (.if_icmp .eq 8, 3) := by decide +kernel
theorem dX5_readRule_97 : decode cX5_readRule 97 = .ok (.aload_n 0, 1) := by decide +kernel
theorem dX5_readRule_98 : decode cX5_readRule 98 = .ok (.iconst 0, 1) := by decide +kernel
theorem dX5_readRule_99 : decode cX5_readRule 99 = .ok (.invokevirtual 58, 3) := by decide +kernel
theorem dX5_readRule_102 : decode cX5_readRule 102 = .ok (.aload_n 0, 1) := by decide +kernel
theorem dX5_readRule_103 : decode cX5_readRule 103 = .ok (.getfield 15, 3) := by decide +kernel
theorem dX5_readRule_106 : decode cX5_readRule 106 = .ok (.getfield 55, 3) := by decide +kernel
theorem dX5_readRule_109 : decode cX5_readRule 109 = .ok (.istore_n 3, 1) := by decide +kernel
theorem dX5_readRule_110 : decode cX5_readRule 110 = .ok (.aload_n 0, 1) := by decide +kernel
theorem dX5_readRule_111 : decode cX5_readRule 111 = .ok (.getfield 9, 3) := by decide +kernel
theorem dX5_readRule_114 : decode cX5_readRule 114 = .ok (.bipush 40, 2) := by decide +kernel
theorem dX5_readRule_116 : decode cX5_readRule 116 = .ok (.invokevirtual 33, 3) := by decide +kernel
theorem dX5_readRule_119 : decode cX5_readRule 119 = .ok (.aload_n 0, 1) := by decide +kernel
theorem dX5_readRule_120 : decode cX5_readRule 120 = .ok (.iconst 1, 1) := by decide +kernel
theorem dX5_readRule_121 : decode cX5_readRule 121 = .ok (.invokevirtual 61, 3) := by decide +kernel
theorem dX5_readRule_124 : decode cX5_readRule 124 = .ok (.aload_n 0, 1) := by decide +kernel
theorem dX5_readRule_125 : decode cX5_readRule 125 = .ok (.getfield 9, 3) := by decide +kernel
theorem dX5_readRule_128 : decode cX5_readRule 128 = .ok (.bipush 41, 2) := by decide +kernel
theorem dX5_readRule_130 : decode cX5_readRule 130 = .ok (.invokevirtual 33, 3) := by decide +kernel
theorem dX5_readRule_133 : decode cX5_readRule 133 = .ok (.aload_n 0, 1) := by decide +kernel
theorem dX5_readRule_134 : decode cX5_readRule 134 = .ok (.getfield 15, 3) := by decide +kernel
theorem dX5_readRule_137 : decode cX5_readRule 137 = .ok (.iload_n 1, 1) := by decide +kernel
theorem dX5_readRule_138 : decode cX5_readRule 138 = .ok (.iload_n 2, 1) := by decide +kernel
theorem dX5_readRule_139 : decode cX5_readRule 139 = .ok (.iload_n 3, 1) := by decide +kernel
theorem dX5_readRule_140 : decode cX5_readRule 140 = .ok (.invokevirtual 64, 3) := by decide +kernel
theorem dX5_readRule_143 : decode cX5_readRule 143 = .ok (.return_, 1) := by decide +kernel
theorem dX5_readCondition_0 : decode cX5_readCondition 0 = .ok (.aload_n 0, 1) := by decide +kernel
theorem dX5_readCondition_1 : decode cX5_readCondition 1 = .ok (.iload_n 1, 1) := by decide +kernel
theorem dX5_readCondition_2 : decode cX5_readCondition 2 = .ok (.invokevirtual 68, 3) := by decide +kernel
theorem dX5_readCondition_5 : decode cX5_readCondition 5 = .ok (.iconst 0, 1) := by decide +kernel
theorem dX5_readCondition_6 : decode cX5_readCondition 6 = .ok (.istore_n 2, 1) := by decide +kernel
theorem dX5_readCondition_7 : decode cX5_readCondition 7 = .ok (.iload_n 2, 1) := by decide +kernel
theorem dX5_readCondition_8 : decode cX5_readCondition 8 = .ok (.sipush 240, 3) := by decide +kernel
theorem dX5_readCondition_11 : decode cX5_readCondition 11 = .ok (.if_icmp .ge 52, 3) := by decide +kernel
theorem dX5_readCondition_14 : decode cX5_readCondition 14 = .ok (.aload_n 0, 1) := by decide +kernel
theorem dX5_readCondition_15 : decode cX5_readCondition 15 = .ok (.getfield 9, 3) := by decide +kernel
theorem dX5_readCondition_18 : decode cX5_readCondition 18 = .ok (.invokevirtual 37, 3) := by decide +kernel
theorem dX5_readCondition_21 : decode cX5_readCondition 21 = .ok (.bipush 124, 2) := by decide +kernel
theorem dX5_readCondition_23 : decode cX5_readCondition 23 = .ok (.if_icmp .ne 40, 3) := by decide +kernel
theorem dX5_readCondition_26 : decode cX5_readCondition 26 = .ok (.aload_n 0, 1) := by decide +kernel
theorem dX5_readCondition_27 : decode cX5_readCondition 27 = .ok (.getfield 9, 3) := by decide +kernel
theorem dX5_readCondition_30 : decode cX5_readCondition 30 = .ok (.invokevirtual 52, 3) := by decide +kernel
theorem dX5_readCondition_33 : decode cX5_readCondition 33 = .ok (.aload_n 0, 1) := by decide +kernel
theorem dX5_readCondition_34 : decode cX5_readCondition 34 = .ok (.getfield 15, 3) := by decide +kernel
theorem dX5_readCondition_37 : decode cX5_readCondition 37 = .ok (.bipush 124, 2) := by decide +kernel
theorem dX5_readCondition_39 : decode cX5_readCondition 39 = .ok (.iconst 0, 1) := by decide +kernel
theorem dX5_readCondition_40 : decode cX5_readCondition 40 = .ok (.invokevirtual 71, 3) := by decide +kernel
theorem dX5_readCondition_43 : decode cX5_readCondition 43 = .ok (.istore_n 3, 1) := by decide +kernel
theorem dX5_readCondition_44 : decode cX5_readCondition 44 = .ok (.aload_n 0, 1) := by decide +kernel
theorem dX5_readCondition_45 : decode cX5_readCondition 45 = .ok (.iload_n 1, 1) := by decide +kernel
theorem dX5_readCondition_46 : decode cX5_readCondition 46 = .ok (.invokevirtual 68, 3) := by decide +kernel
theorem dX5_readCondition_49 : decode cX5_readCondition 49 = .ok (.aload_n 0, 1) := by decide +kernel
theorem dX5_readCondition_50 : decode cX5_readCondition 50 = .ok (.getfield 15, 3) := by decide +kernel
theorem dX5_readCondition_53 : decode cX5_readCondition 53 = .ok (.iload_n 3, 1) := by decide +kernel
theorem dX5_readCondition_54 : decode cX5_readCondition 54 = .ok (.invokevirtual 75, 3) := by decide +kernel
theorem dX5_readCondition_57 : decode cX5_readCondition 57 = .ok (.iinc 2 1, 3) := by decide +kernel
theorem dX5_readCondition_60 : decode cX5_readCondition 60 = .ok (.goto (-53), 3) := by decide +kernel
theorem dX5_readCondition_63 : decode cX5_readCondition 63 = .ok (.return_, 1) := by decide +kernel
theorem dX5_readPart_0 : decode cX5_readPart 0 = .ok (.aload_n 0, 1) := by decide +kernel
theorem dX5_readPart_1 : decode cX5_readPart 1 = .ok (.iload_n 1, 1) := by decide +kernel
theorem dX5_readPart_2 : decode cX5_readPart 2 = .ok (.invokevirtual 78, 3) := by decide +kernel
theorem dX5_readPart_5 : decode cX5_readPart 5 = .ok (.iconst 0, 1) := by decide +kernel
theorem dX5_readPart_6 : decode cX5_readPart 6 = .ok (.istore_n 2, 1) := by decide +kernel
theorem dX5_readPart_7 : decode cX5_readPart 7 = .ok (.iload_n 2, 1) := by decide +kernel
theorem dX5_readPart_8 : decode cX5_readPart 8 = .ok (.sipush 240, 3) := by decide +kernel
theorem dX5_readPart_11 : decode cX5_readPart 11 = .ok (.if_icmp .ge 52, 3) := by decide +kernel
theorem dX5_readPart_14 : decode cX5_readPart 14 = .ok (.aload_n 0, 1) := by decide +kernel
theorem dX5_readPart_15 : decode cX5_readPart 15 = .ok (.getfield 9, 3) := by decide +kernel
theorem dX5_readPart_18 : decode cX5_readPart 18 = .ok (.invokevirtual 37, 3) := by decide +kernel
theorem dX5_readPart_21 : decode cX5_readPart 21 = .ok (.bipush 38, 2) := by decide +kernel
theorem dX5_readPart_23 : decode cX5_readPart 23 = .ok (.if_icmp .ne 40, 3) := by decide +kernel
theorem dX5_readPart_26 : decode cX5_readPart 26 = .ok (.aload_n 0, 1) := by decide +kernel
theorem dX5_readPart_27 : decode cX5_readPart 27 = .ok (.getfield 9, 3) := by decide +kernel
theorem dX5_readPart_30 : decode cX5_readPart 30 = .ok (.invokevirtual 52, 3) := by decide +kernel
theorem dX5_readPart_33 : decode cX5_readPart 33 = .ok (.aload_n 0, 1) := by decide +kernel
theorem dX5_readPart_34 : decode cX5_readPart 34 = .ok (.getfield 15, 3) := by decide +kernel
theorem dX5_readPart_37 : decode cX5_readPart 37 = .ok (.bipush 38, 2) := by decide +kernel
theorem dX5_readPart_39 : decode cX5_readPart 39 = .ok (.iconst 0, 1) := by decide +kernel
theorem dX5_readPart_40 : decode cX5_readPart 40 = .ok (.invokevirtual 71, 3) := by decide +kernel
theorem dX5_readPart_43 : decode cX5_readPart 43 = .ok (.istore_n 3, 1) := by decide +kernel
theorem dX5_readPart_44 : decode cX5_readPart 44 = .ok (.aload_n 0, 1) := by decide +kernel
theorem dX5_readPart_45 : decode cX5_readPart 45 = .ok (.iload_n 1, 1) := by decide +kernel
theorem dX5_readPart_46 : decode cX5_readPart 46 = .ok (.invokevirtual 78, 3) := by decide +kernel
theorem dX5_readPart_49 : decode cX5_readPart 49 = .ok (.aload_n 0, 1) := by decide +kernel
theorem dX5_readPart_50 : decode cX5_readPart 50 = .ok (.getfield 15, 3) := by decide +kernel
theorem dX5_readPart_53 : decode cX5_readPart 53 = .ok (.iload_n 3, 1) := by decide +kernel
theorem dX5_readPart_54 : decode cX5_readPart 54 = .ok (.invokevirtual 75, 3) := by decide +kernel
theorem dX5_readPart_57 : decode cX5_readPart 57 = .ok (.iinc 2 1, 3) := by decide +kernel
theorem dX5_readPart_60 : decode cX5_readPart 60 = .ok (.goto (-53), 3) := by decide +kernel
theorem dX5_readPart_63 : decode cX5_readPart 63 = .ok (.return_, 1) := by decide +kernel
theorem dX5_readTest_0 : decode cX5_readTest 0 = .ok (.aload_n 0, 1) := by decide +kernel
theorem dX5_readTest_1 : decode cX5_readTest 1 = .ok (.getfield 9, 3) := by decide +kernel
theorem dX5_readTest_4 : decode cX5_readTest 4 = .ok (.invokevirtual 37, 3) := by decide +kernel
theorem dX5_readTest_7 : decode cX5_readTest 7 = .ok (.istore_n 2, 1) := by decide +kernel
theorem dX5_readTest_8 : decode cX5_readTest 8 = .ok (.iload_n 2, 1) := by decide +kernel
theorem dX5_readTest_9 : decode cX5_readTest 9 = .ok (.bipush 33, 2) := by decide +kernel
theorem dX5_readTest_11 : decode cX5_readTest 11 = .ok (.if_icmp .ne 30, 3) := by decide +kernel
theorem dX5_readTest_14 : decode cX5_readTest 14 = .ok (.aload_n 0, 1) := by decide +kernel
theorem dX5_readTest_15 : decode cX5_readTest 15 = .ok (.iload_n 1, 1) := by decide +kernel
theorem dX5_readTest_16 : decode cX5_readTest 16 = .ok (.invokevirtual 81, 3) := by decide +kernel
theorem dX5_readTest_19 : decode cX5_readTest 19 = .ok (.ifCond .eq 21, 3) := by decide +kernel
theorem dX5_readTest_22 : decode cX5_readTest 22 = .ok (.aload_n 0, 1) := by decide +kernel
theorem dX5_readTest_23 : decode cX5_readTest 23 = .ok (.iload_n 1, 1) := by decide +kernel
theorem dX5_readTest_24 : decode cX5_readTest 24 = .ok (.iconst 1, 1) := by decide +kernel
theorem dX5_readTest_25 : decode cX5_readTest 25 = .ok (.iadd, 1) := by decide +kernel
theorem dX5_readTest_26 : decode cX5_readTest 26 = .ok (.invokevirtual 78, 3) := by decide +kernel
theorem dX5_readTest_29 : decode cX5_readTest 29 = .ok (.aload_n 0, 1) := by decide +kernel
theorem dX5_readTest_30 : decode cX5_readTest 30 = .ok (.getfield 15, 3) := by decide +kernel
theorem dX5_readTest_33 : decode cX5_readTest 33 = .ok (.bipush 33, 2) := by decide +kernel
theorem dX5_readTest_35 : decode cX5_readTest 35 = .ok (.iconst 0, 1) := by decide +kernel
theorem dX5_readTest_36 : decode cX5_readTest 36 = .ok (.invokevirtual 71, 3) := by decide +kernel
theorem dX5_readTest_39 : decode cX5_readTest 39 = .ok (.pop, 1) := by decide +kernel
theorem dX5_readTest_40 : decode cX5_readTest 40 = .ok (.return_, 1) := by decide +kernel
theorem dX5_readTest_41 : decode cX5_readTest 41 = .ok (.iload_n 2, 1) := by decide +kernel
theorem dX5_readTest_42 : decode cX5_readTest 42 = .ok (.bipush 40, 2) := by decide +kernel
theorem dX5_readTest_44 : decode cX5_readTest 44 = .ok (.if_icmp .ne 28, 3) := by decide +kernel
theorem dX5_readTest_47 : decode cX5_readTest 47 = .ok (.aload_n 0, 1) := by decide +kernel
theorem dX5_readTest_48 : decode cX5_readTest 48 = .ok (.iload_n 1, 1) := by decide +kernel
theorem dX5_readTest_49 : decode cX5_readTest 49 = .ok (.invokevirtual 81, 3) := by decide +kernel
theorem dX5_readTest_52 : decode cX5_readTest 52 = .ok (.ifCond .eq 19, 3) := by decide +kernel
theorem dX5_readTest_55 : decode cX5_readTest 55 = .ok (.aload_n 0, 1) := by decide +kernel
theorem dX5_readTest_56 : decode cX5_readTest 56 = .ok (.iload_n 1, 1) := by decide +kernel
theorem dX5_readTest_57 : decode cX5_readTest 57 = .ok (.iconst 1, 1) := by decide +kernel
theorem dX5_readTest_58 : decode cX5_readTest 58 = .ok (.iadd, 1) := by decide +kernel
theorem dX5_readTest_59 : decode cX5_readTest 59 = .ok (.invokevirtual 61, 3) := by decide +kernel
theorem dX5_readTest_62 : decode cX5_readTest 62 = .ok (.aload_n 0, 1) := by decide +kernel
theorem dX5_readTest_63 : decode cX5_readTest 63 = .ok (.getfield 9, 3) := by decide +kernel
theorem dX5_readTest_66 : decode cX5_readTest 66 = .ok (.bipush 41, 2) := by decide +kernel
theorem dX5_readTest_68 : decode cX5_readTest 68 = .ok (.invokevirtual 33, 3) := by decide +kernel
theorem dX5_readTest_71 : decode cX5_readTest 71 = .ok (.return_, 1) := by decide +kernel
theorem dX5_readTest_72 : decode cX5_readTest 72 = .ok (.aload_n 0, 1) := by decide +kernel
theorem dX5_readTest_73 : decode cX5_readTest 73 = .ok (.iload_n 1, 1) := by decide +kernel
theorem dX5_readTest_74 : decode cX5_readTest 74 = .ok (.invokevirtual 58, 3) := by decide +kernel
theorem dX5_readTest_77 : decode cX5_readTest 77 = .ok (.aload_n 0, 1) := by decide +kernel
theorem dX5_readTest_78 : decode cX5_readTest 78 = .ok (.getfield 9, 3) := by decide +kernel
theorem dX5_readTest_81 : decode cX5_readTest 81 = .ok (.invokevirtual 37, 3) := by decide +kernel
theorem dX5_readTest_84 : decode cX5_readTest 84 = .ok (.istore_n 3, 1) := by decide +kernel
theorem dX5_readTest_85 : decode cX5_readTest 85 = .ok (.iload_n 3, 1) := by decide +kernel
theorem dX5_readTest_86 : decode cX5_readTest 86 = .ok (.bipush 60, 2) := by decide +kernel
theorem dX5_readTest_88 : decode cX5_readTest 88 = .ok (.if_icmp .eq 31, 3) := by decide +kernel
theorem dX5_readTest_91 : decode cX5_readTest 91 = .ok (.iload_n 3, 1) := by decide +kernel
theorem dX5_readTest_92 : decode cX5_readTest 92 = .ok (.bipush 62, 2) := by decide +kernel
theorem dX5_readTest_94 : decode cX5_readTest 94 = .ok (.if_icmp .eq 25, 3) := by decide +kernel
theorem dX5_readTest_97 : decode cX5_readTest 97 = .ok (.iload_n 3, 1) := by decide +kernel
theorem dX5_readTest_98 : decode cX5_readTest 98 = .ok (.bipush 61, 2) := by decide +kernel
theorem dX5_readTest_100 : decode cX5_readTest 100 = .ok (.if_icmp .eq 19, 3) := by decide +kernel
theorem dX5_readTest_103 : decode cX5_readTest 103 = .ok (.aload_n 0, 1) := by decide +kernel
theorem dX5_readTest_104 : decode cX5_readTest 104 = .ok (.getfield 9, 3) := by decide +kernel
theorem dX5_readTest_107 : decode cX5_readTest 107 = .ok (.iconst 1, 1) := by decide +kernel
theorem dX5_readTest_108 : decode cX5_readTest 108 = .ok (.aload_n 0, 1) := by decide +kernel
theorem dX5_readTest_109 : decode cX5_readTest 109 = .ok (.getfield 9, 3) := by decide +kernel
theorem dX5_readTest_112 : decode cX5_readTest 112 = .ok (.getfield 41, 3) := by decide +kernel
theorem dX5_readTest_115 : decode cX5_readTest 115 = .ok (.invokevirtual 45, 3) := by decide +kernel
theorem dX5_readTest_118 : decode cX5_readTest 118 = .ok (.return_, 1) := by decide +kernel
theorem dX5_readTest_119 : decode cX5_readTest 119 = .ok (.aload_n 0, 1) := by decide +kernel
theorem dX5_readTest_120 : decode cX5_readTest 120 = .ok (.getfield 9, 3) := by decide +kernel
theorem dX5_readTest_123 : decode cX5_readTest 123 = .ok (.invokevirtual 52, 3) := by decide +kernel
theorem dX5_readTest_126 : decode cX5_readTest 126 = .ok (.aload_n 0, 1) := by decide +kernel
theorem dX5_readTest_127 : decode cX5_readTest 127 = .ok (.iload_n 1, 1) := by decide +kernel
theorem dX5_readTest_128 : decode cX5_readTest 128 = .ok (.invokevirtual 58, 3) := by decide +kernel
theorem dX5_readTest_131 : decode cX5_readTest 131 = .ok (.aload_n 0, 1) := by decide +kernel
theorem dX5_readTest_132 : decode cX5_readTest 132 = .ok (.getfield 15, 3) := by decide +kernel
theorem dX5_readTest_135 : decode cX5_readTest 135 = .ok (.iload_n 3, 1) := by decide +kernel
theorem dX5_readTest_136 : decode cX5_readTest 136 = .ok (.iconst 0, 1) := by decide +kernel
theorem dX5_readTest_137 : decode cX5_readTest 137 = .ok (.invokevirtual 71, 3) := by decide +kernel
theorem dX5_readTest_140 : decode cX5_readTest 140 = .ok (.pop, 1) := by decide +kernel
theorem dX5_readTest_141 : decode cX5_readTest 141 = .ok (.return_, 1) := by decide +kernel
theorem dX5_readAmount_0 : decode cX5_readAmount 0 = .ok (.aload_n 0, 1) := by decide +kernel
theorem dX5_readAmount_1 : decode cX5_readAmount 1 = .ok (.iload_n 1, 1) := by decide +kernel
theorem dX5_readAmount_2 : decode cX5_readAmount 2 = .ok (.invokevirtual 85, 3) := by decide +kernel
theorem dX5_readAmount_5 : decode cX5_readAmount 5 = .ok (.iconst 0, 1) := by decide +kernel
theorem dX5_readAmount_6 : decode cX5_readAmount 6 = .ok (.istore_n 2, 1) := by decide +kernel
theorem dX5_readAmount_7 : decode cX5_readAmount 7 = .ok (.iload_n 2, 1) := by decide +kernel
theorem dX5_readAmount_8 : decode cX5_readAmount 8 = .ok (.sipush 240, 3) := by decide +kernel
theorem dX5_readAmount_11 : decode cX5_readAmount 11 = .ok (.if_icmp .ge 63, 3) := by decide +kernel
theorem dX5_readAmount_14 : decode cX5_readAmount 14 = .ok (.aload_n 0, 1) := by decide +kernel
theorem dX5_readAmount_15 : decode cX5_readAmount 15 = .ok (.getfield 9, 3) := by decide +kernel
theorem dX5_readAmount_18 : decode cX5_readAmount 18 = .ok (.invokevirtual 37, 3) := by decide +kernel
theorem dX5_readAmount_21 : decode cX5_readAmount 21 = .ok (.bipush 43, 2) := by decide +kernel
theorem dX5_readAmount_23 : decode cX5_readAmount 23 = .ok (.if_icmp .eq 15, 3) := by decide +kernel
theorem dX5_readAmount_26 : decode cX5_readAmount 26 = .ok (.aload_n 0, 1) := by decide +kernel
theorem dX5_readAmount_27 : decode cX5_readAmount 27 = .ok (.getfield 9, 3) := by decide +kernel
theorem dX5_readAmount_30 : decode cX5_readAmount 30 = .ok (.invokevirtual 37, 3) := by decide +kernel
theorem dX5_readAmount_33 : decode cX5_readAmount 33 = .ok (.bipush 45, 2) := by decide +kernel
theorem dX5_readAmount_35 : decode cX5_readAmount 35 = .ok (.if_icmp .ne 39, 3) := by decide +kernel
theorem dX5_readAmount_38 : decode cX5_readAmount 38 = .ok (.aload_n 0, 1) := by decide +kernel
theorem dX5_readAmount_39 : decode cX5_readAmount 39 = .ok (.getfield 9, 3) := by decide +kernel
theorem dX5_readAmount_42 : decode cX5_readAmount 42 = .ok (.invokevirtual 37, 3) := by decide +kernel
theorem dX5_readAmount_45 : decode cX5_readAmount 45 = .ok (.istore_n 3, 1) := by decide +kernel
theorem dX5_readAmount_46 : decode cX5_readAmount 46 = .ok (.aload_n 0, 1) := by decide +kernel
theorem dX5_readAmount_47 : decode cX5_readAmount 47 = .ok (.getfield 9, 3) := by decide +kernel
theorem dX5_readAmount_50 : decode cX5_readAmount 50 = .ok (.invokevirtual 52, 3) := by decide +kernel
theorem dX5_readAmount_53 : decode cX5_readAmount 53 = .ok (.aload_n 0, 1) := by decide +kernel
theorem dX5_readAmount_54 : decode cX5_readAmount 54 = .ok (.iload_n 1, 1) := by decide +kernel
theorem dX5_readAmount_55 : decode cX5_readAmount 55 = .ok (.invokevirtual 85, 3) := by decide +kernel
theorem dX5_readAmount_58 : decode cX5_readAmount 58 = .ok (.aload_n 0, 1) := by decide +kernel
theorem dX5_readAmount_59 : decode cX5_readAmount 59 = .ok (.getfield 15, 3) := by decide +kernel
theorem dX5_readAmount_62 : decode cX5_readAmount 62 = .ok (.iload_n 3, 1) := by decide +kernel
theorem dX5_readAmount_63 : decode cX5_readAmount 63 = .ok (.iconst 0, 1) := by decide +kernel
theorem dX5_readAmount_64 : decode cX5_readAmount 64 = .ok (.invokevirtual 71, 3) := by decide +kernel
theorem dX5_readAmount_67 : decode cX5_readAmount 67 = .ok (.pop, 1) := by decide +kernel
theorem dX5_readAmount_68 : decode cX5_readAmount 68 = .ok (.iinc 2 1, 3) := by decide +kernel
theorem dX5_readAmount_71 : decode cX5_readAmount 71 = .ok (.goto (-64), 3) := by decide +kernel
theorem dX5_readAmount_74 : decode cX5_readAmount 74 = .ok (.return_, 1) := by decide +kernel
theorem dX5_readTerm_0 : decode cX5_readTerm 0 = .ok (.aload_n 0, 1) := by decide +kernel
theorem dX5_readTerm_1 : decode cX5_readTerm 1 = .ok (.iload_n 1, 1) := by decide +kernel
theorem dX5_readTerm_2 : decode cX5_readTerm 2 = .ok (.invokevirtual 88, 3) := by decide +kernel
theorem dX5_readTerm_5 : decode cX5_readTerm 5 = .ok (.iconst 0, 1) := by decide +kernel
theorem dX5_readTerm_6 : decode cX5_readTerm 6 = .ok (.istore_n 2, 1) := by decide +kernel
theorem dX5_readTerm_7 : decode cX5_readTerm 7 = .ok (.iload_n 2, 1) := by decide +kernel
theorem dX5_readTerm_8 : decode cX5_readTerm 8 = .ok (.sipush 240, 3) := by decide +kernel
theorem dX5_readTerm_11 : decode cX5_readTerm 11 = .ok (.if_icmp .ge 52, 3) := by decide +kernel
theorem dX5_readTerm_14 : decode cX5_readTerm 14 = .ok (.aload_n 0, 1) := by decide +kernel
theorem dX5_readTerm_15 : decode cX5_readTerm 15 = .ok (.getfield 9, 3) := by decide +kernel
theorem dX5_readTerm_18 : decode cX5_readTerm 18 = .ok (.invokevirtual 37, 3) := by decide +kernel
theorem dX5_readTerm_21 : decode cX5_readTerm 21 = .ok (.invokestatic 91, 3) := by decide +kernel
theorem dX5_readTerm_24 : decode cX5_readTerm 24 = .ok (.ifCond .eq 39, 3) := by decide +kernel
theorem dX5_readTerm_27 : decode cX5_readTerm 27 = .ok (.aload_n 0, 1) := by decide +kernel
theorem dX5_readTerm_28 : decode cX5_readTerm 28 = .ok (.getfield 9, 3) := by decide +kernel
theorem dX5_readTerm_31 : decode cX5_readTerm 31 = .ok (.invokevirtual 37, 3) := by decide +kernel
theorem dX5_readTerm_34 : decode cX5_readTerm 34 = .ok (.istore_n 3, 1) := by decide +kernel
theorem dX5_readTerm_35 : decode cX5_readTerm 35 = .ok (.aload_n 0, 1) := by decide +kernel
theorem dX5_readTerm_36 : decode cX5_readTerm 36 = .ok (.getfield 9, 3) := by decide +kernel
theorem dX5_readTerm_39 : decode cX5_readTerm 39 = .ok (.invokevirtual 52, 3) := by decide +kernel
theorem dX5_readTerm_42 : decode cX5_readTerm 42 = .ok (.aload_n 0, 1) := by decide +kernel
theorem dX5_readTerm_43 : decode cX5_readTerm 43 = .ok (.iload_n 1, 1) := by decide +kernel
theorem dX5_readTerm_44 : decode cX5_readTerm 44 = .ok (.invokevirtual 88, 3) := by decide +kernel
theorem dX5_readTerm_47 : decode cX5_readTerm 47 = .ok (.aload_n 0, 1) := by decide +kernel
theorem dX5_readTerm_48 : decode cX5_readTerm 48 = .ok (.getfield 15, 3) := by decide +kernel
theorem dX5_readTerm_51 : decode cX5_readTerm 51 = .ok (.iload_n 3, 1) := by decide +kernel
theorem dX5_readTerm_52 : decode cX5_readTerm 52 = .ok (.iconst 0, 1) := by decide +kernel
theorem dX5_readTerm_53 : decode cX5_readTerm 53 = .ok (.invokevirtual 71, 3) := by decide +kernel
theorem dX5_readTerm_56 : decode cX5_readTerm 56 = .ok (.pop, 1) := by decide +kernel
theorem dX5_readTerm_57 : decode cX5_readTerm 57 = .ok (.iinc 2 1, 3) := by decide +kernel
theorem dX5_readTerm_60 : decode cX5_readTerm 60 = .ok (.goto (-53), 3) := by decide +kernel
theorem dX5_readTerm_63 : decode cX5_readTerm 63 = .ok (.return_, 1) := by decide +kernel
theorem dX5_readFactor_0 : decode cX5_readFactor 0 = .ok (.aload_n 0, 1) := by decide +kernel
theorem dX5_readFactor_1 : decode cX5_readFactor 1 = .ok (.getfield 9, 3) := by decide +kernel
theorem dX5_readFactor_4 : decode cX5_readFactor 4 = .ok (.invokevirtual 37, 3) := by decide +kernel
theorem dX5_readFactor_7 : decode cX5_readFactor 7 = .ok (.istore_n 2, 1) := by decide +kernel
theorem dX5_readFactor_8 : decode cX5_readFactor 8 = .ok (.iload_n 2, 1) := by decide +kernel
theorem dX5_readFactor_9 : decode cX5_readFactor 9 = .ok (.bipush 91, 2) := by decide +kernel
theorem dX5_readFactor_11 : decode cX5_readFactor 11 = .ok (.if_icmp .ne 30, 3) := by decide +kernel
theorem dX5_readFactor_14 : decode cX5_readFactor 14 = .ok (.aload_n 0, 1) := by decide +kernel
theorem dX5_readFactor_15 : decode cX5_readFactor 15 = .ok (.iload_n 1, 1) := by decide +kernel
theorem dX5_readFactor_16 : decode cX5_readFactor 16 = .ok (.invokevirtual 81, 3) := by decide +kernel
theorem dX5_readFactor_19 : decode cX5_readFactor 19 = .ok (.ifCond .eq 92, 3) := by decide +kernel
theorem dX5_readFactor_22 : decode cX5_readFactor 22 = .ok (.aload_n 0, 1) := by decide +kernel
theorem dX5_readFactor_23 : decode cX5_readFactor 23 = .ok (.iload_n 1, 1) := by decide +kernel
theorem dX5_readFactor_24 : decode cX5_readFactor 24 = .ok (.iconst 1, 1) := by decide +kernel
theorem dX5_readFactor_25 : decode cX5_readFactor 25 = .ok (.iadd, 1) := by decide +kernel
theorem dX5_readFactor_26 : decode cX5_readFactor 26 = .ok (.invokevirtual 58, 3) := by decide +kernel
theorem dX5_readFactor_29 : decode cX5_readFactor 29 = .ok (.aload_n 0, 1) := by decide +kernel
theorem dX5_readFactor_30 : decode cX5_readFactor 30 = .ok (.getfield 9, 3) := by decide +kernel
theorem dX5_readFactor_33 : decode cX5_readFactor 33 = .ok (.bipush 93, 2) := by decide +kernel
theorem dX5_readFactor_35 : decode cX5_readFactor 35 = .ok (.invokevirtual 33, 3) := by decide +kernel
theorem dX5_readFactor_38 : decode cX5_readFactor 38 = .ok (.goto 73, 3) := by decide +kernel
theorem dX5_readFactor_41 : decode cX5_readFactor 41 = .ok (.iload_n 2, 1) := by decide +kernel
theorem dX5_readFactor_42 : decode cX5_readFactor 42 = .ok (.invokestatic 94, 3) := by decide +kernel
theorem dX5_readFactor_45 : decode cX5_readFactor 45 = .ok (.ifCond .eq 24, 3) := by decide +kernel
theorem dX5_readFactor_48 : decode cX5_readFactor 48 = .ok (.aload_n 0, 1) := by decide +kernel
theorem dX5_readFactor_49 : decode cX5_readFactor 49 = .ok (.getfield 15, 3) := by decide +kernel
theorem dX5_readFactor_52 : decode cX5_readFactor 52 = .ok (.bipush 48, 2) := by decide +kernel
theorem dX5_readFactor_54 : decode cX5_readFactor 54 = .ok (.aload_n 0, 1) := by decide +kernel
theorem dX5_readFactor_55 : decode cX5_readFactor 55 = .ok (.getfield 9, 3) := by decide +kernel
theorem dX5_readFactor_58 : decode cX5_readFactor 58 = .ok (.iconst 5, 1) := by decide +kernel
theorem dX5_readFactor_59 : decode cX5_readFactor 59 = .ok (.invokevirtual 97, 3) := by decide +kernel
theorem dX5_readFactor_62 : decode cX5_readFactor 62 = .ok (.invokevirtual 71, 3) := by decide +kernel
theorem dX5_readFactor_65 : decode cX5_readFactor 65 = .ok (.pop, 1) := by decide +kernel
theorem dX5_readFactor_66 : decode cX5_readFactor 66 = .ok (.goto 45, 3) := by decide +kernel
theorem dX5_readFactor_69 : decode cX5_readFactor 69 = .ok (.iload_n 2, 1) := by decide +kernel
theorem dX5_readFactor_70 : decode cX5_readFactor 70 = .ok (.invokestatic 101, 3) := by decide +kernel
theorem dX5_readFactor_73 : decode cX5_readFactor 73 = .ok (.ifCond .eq 23, 3) := by decide +kernel
theorem dX5_readFactor_76 : decode cX5_readFactor 76 = .ok (.aload_n 0, 1) := by decide +kernel
theorem dX5_readFactor_77 : decode cX5_readFactor 77 = .ok (.getfield 9, 3) := by decide +kernel
theorem dX5_readFactor_80 : decode cX5_readFactor 80 = .ok (.invokevirtual 52, 3) := by decide +kernel
theorem dX5_readFactor_83 : decode cX5_readFactor 83 = .ok (.aload_n 0, 1) := by decide +kernel
theorem dX5_readFactor_84 : decode cX5_readFactor 84 = .ok (.getfield 15, 3) := by decide +kernel
theorem dX5_readFactor_87 : decode cX5_readFactor 87 = .ok (.iload_n 2, 1) := by decide +kernel
theorem dX5_readFactor_88 : decode cX5_readFactor 88 = .ok (.iconst 0, 1) := by decide +kernel
theorem dX5_readFactor_89 : decode cX5_readFactor 89 = .ok (.invokevirtual 71, 3) := by decide +kernel
theorem dX5_readFactor_92 : decode cX5_readFactor 92 = .ok (.pop, 1) := by decide +kernel
theorem dX5_readFactor_93 : decode cX5_readFactor 93 = .ok (.goto 18, 3) := by decide +kernel
theorem dX5_readFactor_96 : decode cX5_readFactor 96 = .ok (.aload_n 0, 1) := by decide +kernel
theorem dX5_readFactor_97 : decode cX5_readFactor 97 = .ok (.getfield 9, 3) := by decide +kernel
theorem dX5_readFactor_100 : decode cX5_readFactor 100 = .ok (.iconst 1, 1) := by decide +kernel
theorem dX5_readFactor_101 : decode cX5_readFactor 101 = .ok (.aload_n 0, 1) := by decide +kernel
theorem dX5_readFactor_102 : decode cX5_readFactor 102 = .ok (.getfield 9, 3) := by decide +kernel
theorem dX5_readFactor_105 : decode cX5_readFactor 105 = .ok (.getfield 41, 3) := by decide +kernel
theorem dX5_readFactor_108 : decode cX5_readFactor 108 = .ok (.invokevirtual 45, 3) := by decide +kernel
theorem dX5_readFactor_111 : decode cX5_readFactor 111 = .ok (.return_, 1) := by decide +kernel
theorem dX5_opens_0 : decode cX5_opens 0 = .ok (.iload_n 1, 1) := by decide +kernel
theorem dX5_opens_1 : decode cX5_opens 1 = .ok (.bipush 6, 2) := by decide +kernel
theorem dX5_opens_3 : decode cX5_opens 3 = .ok (.if_icmp .lt 20, 3) := by decide +kernel
theorem dX5_opens_6 : decode cX5_opens 6 = .ok (.aload_n 0, 1) := by decide +kernel
theorem dX5_opens_7 : decode cX5_opens 7 = .ok (.getfield 9, 3) := by decide +kernel
theorem dX5_opens_10 : decode cX5_opens 10 = .ok (.iconst 5, 1) := by decide +kernel
theorem dX5_opens_11 : decode cX5_opens 11 = .ok (.aload_n 0, 1) := by decide +kernel
theorem dX5_opens_12 : decode cX5_opens 12 = .ok (.getfield 9, 3) := by decide +kernel
theorem dX5_opens_15 : decode cX5_opens 15 = .ok (.getfield 41, 3) := by decide +kernel
theorem dX5_opens_18 : decode cX5_opens 18 = .ok (.invokevirtual 45, 3) := by decide +kernel
theorem dX5_opens_21 : decode cX5_opens 21 = .ok (.iconst 0, 1) := by decide +kernel
theorem dX5_opens_22 : decode cX5_opens 22 = .ok (.ireturn, 1) := by decide +kernel
theorem dX5_opens_23 : decode cX5_opens 23 = .ok (.aload_n 0, 1) := by decide +kernel
theorem dX5_opens_24 : decode cX5_opens 24 = .ok (.getfield 9, 3) := by decide +kernel
theorem dX5_opens_27 : decode cX5_opens 27 = .ok (.invokevirtual 52, 3) := by decide +kernel
theorem dX5_opens_30 : decode cX5_opens 30 = .ok (.iconst 1, 1) := by decide +kernel
theorem dX5_opens_31 : decode cX5_opens 31 = .ok (.ireturn, 1) := by decide +kernel
theorem dX5_isTimes_0 : decode cX5_isTimes 0 = .ok (.iload_n 0, 1) := by decide +kernel
theorem dX5_isTimes_1 : decode cX5_isTimes 1 = .ok (.bipush 42, 2) := by decide +kernel
theorem dX5_isTimes_3 : decode cX5_isTimes 3 = .ok (.if_icmp .eq 15, 3) := by decide +kernel
theorem dX5_isTimes_6 : decode cX5_isTimes 6 = .ok (.iload_n 0, 1) := by decide +kernel
theorem dX5_isTimes_7 : decode cX5_isTimes 7 = .ok (.bipush 47, 2) := by decide +kernel
theorem dX5_isTimes_9 : decode cX5_isTimes 9 = .ok (.if_icmp .eq 9, 3) := by decide +kernel
theorem dX5_isTimes_12 : decode cX5_isTimes 12 = .ok (.iload_n 0, 1) := by decide +kernel
theorem dX5_isTimes_13 : decode cX5_isTimes 13 = .ok (.bipush 37, 2) := by decide +kernel
theorem dX5_isTimes_15 : decode cX5_isTimes 15 = .ok (.if_icmp .ne 7, 3) := by decide +kernel
theorem dX5_isTimes_18 : decode cX5_isTimes 18 = .ok (.iconst 1, 1) := by decide +kernel
theorem dX5_isTimes_19 : decode cX5_isTimes 19 = .ok (.goto 4, 3) := by decide +kernel
theorem dX5_isTimes_22 : decode cX5_isTimes 22 = .ok (.iconst 0, 1) := by decide +kernel
theorem dX5_isTimes_23 : decode cX5_isTimes 23 = .ok (.ireturn, 1) := by decide +kernel
theorem dX5_isLetter_0 : decode cX5_isLetter 0 = .ok (.iload_n 0, 1) := by decide +kernel
theorem dX5_isLetter_1 : decode cX5_isLetter 1 = .ok (.tableswitch 109 97 119 #[107, 109, 109, 109, 109, 107, 107, 107, 109, 109, 109, 109, 109, 109, 109, 107, 109, 107, 107, 109, 109, 109, 107], 107) := by decide +kernel
theorem dX5_isLetter_108 : decode cX5_isLetter 108 = .ok (.iconst 1, 1) := by decide +kernel
theorem dX5_isLetter_109 : decode cX5_isLetter 109 = .ok (.ireturn, 1) := by decide +kernel
theorem dX5_isLetter_110 : decode cX5_isLetter 110 = .ok (.iconst 0, 1) := by decide +kernel
theorem dX5_isLetter_111 : decode cX5_isLetter 111 = .ok (.ireturn, 1) := by decide +kernel
theorem dX6_init_0 : decode cX6_init 0 = .ok (.aload_n 0, 1) := by decide +kernel
theorem dX6_init_1 : decode cX6_init 1 = .ok (.invokespecial 3, 3) := by decide +kernel
theorem dX6_init_4 : decode cX6_init 4 = .ok (.aload_n 0, 1) := by decide +kernel
theorem dX6_init_5 : decode cX6_init 5 = .ok (.aload_n 1, 1) := by decide +kernel
theorem dX6_init_6 : decode cX6_init 6 = .ok (.putfield 9, 3) := by decide +kernel
theorem dX6_init_9 : decode cX6_init 9 = .ok (.aload_n 0, 1) := by decide +kernel
theorem dX6_init_10 : decode cX6_init 10 = .ok (.aload_n 2, 1) := by decide +kernel
theorem dX6_init_11 : decode cX6_init 11 = .ok (.putfield 15, 3) := by decide +kernel
theorem dX6_init_14 : decode cX6_init 14 = .ok (.return_, 1) := by decide +kernel
theorem dX6_read_0 : decode cX6_read 0 = .ok (.aload_n 0, 1) := by decide +kernel
theorem dX6_read_1 : decode cX6_read 1 = .ok (.aload_n 1, 1) := by decide +kernel
theorem dX6_read_2 : decode cX6_read 2 = .ok (.putfield 15, 3) := by decide +kernel
theorem dX6_read_5 : decode cX6_read 5 = .ok (.iconst 1, 1) := by decide +kernel
theorem dX6_read_6 : decode cX6_read 6 = .ok (.istore_n 2, 1) := by decide +kernel
theorem dX6_read_7 : decode cX6_read 7 = .ok (.iload_n 2, 1) := by decide +kernel
theorem dX6_read_8 : decode cX6_read 8 = .ok (.bipush 20, 2) := by decide +kernel
theorem dX6_read_10 : decode cX6_read 10 = .ok (.if_icmp .gt 34, 3) := by decide +kernel
theorem dX6_read_13 : decode cX6_read 13 = .ok (.aload_n 0, 1) := by decide +kernel
theorem dX6_read_14 : decode cX6_read 14 = .ok (.invokevirtual 19, 3) := by decide +kernel
theorem dX6_read_17 : decode cX6_read 17 = .ok (.aload_n 0, 1) := by decide +kernel
theorem dX6_read_18 : decode cX6_read 18 = .ok (.getfield 9, 3) := by decide +kernel
theorem dX6_read_21 : decode cX6_read 21 = .ok (.invokevirtual 22, 3) := by decide +kernel
theorem dX6_read_24 : decode cX6_read 24 = .ok (.ifCond .eq 5, 3) := by decide +kernel
theorem dX6_read_27 : decode cX6_read 27 = .ok (.iload_n 2, 1) := by decide +kernel
theorem dX6_read_28 : decode cX6_read 28 = .ok (.ireturn, 1) := by decide +kernel
theorem dX6_read_29 : decode cX6_read 29 = .ok (.aload_n 0, 1) := by decide +kernel
theorem dX6_read_30 : decode cX6_read 30 = .ok (.getfield 9, 3) := by decide +kernel
theorem dX6_read_33 : decode cX6_read 33 = .ok (.bipush 59, 2) := by decide +kernel
theorem dX6_read_35 : decode cX6_read 35 = .ok (.invokevirtual 28, 3) := by decide +kernel
theorem dX6_read_38 : decode cX6_read 38 = .ok (.iinc 2 1, 3) := by decide +kernel
theorem dX6_read_41 : decode cX6_read 41 = .ok (.goto (-34), 3) := by decide +kernel
theorem dX6_read_44 : decode cX6_read 44 = .ok (.aload_n 0, 1) := by decide +kernel
theorem dX6_read_45 : decode cX6_read 45 = .ok (.getfield 9, 3) := by decide +kernel
theorem dX6_read_48 : decode cX6_read 48 = .ok (.aload_n 0, 1) := by decide +kernel
theorem dX6_read_49 : decode cX6_read 49 = .ok (.getfield 9, 3) := by decide +kernel
theorem dX6_read_52 : decode cX6_read 52 = .ok (.invokevirtual 32, 3) := by decide +kernel
theorem dX6_read_55 : decode cX6_read 55 = .ok (.invokestatic 36, 3) := by decide +kernel
theorem dX6_read_58 : decode cX6_read 58 = .ok (.ifCond .eq 7, 3) := by decide +kernel
theorem dX6_read_61 : decode cX6_read 61 = .ok (.iconst 4, 1) := by decide +kernel
theorem dX6_read_62 : decode cX6_read 62 = .ok (.goto 4, 3) := by decide +kernel
theorem dX6_read_65 : decode cX6_read 65 = .ok (.iconst 1, 1) := by decide +kernel
theorem dX6_read_66 : decode cX6_read 66 = .ok (.aload_n 0, 1) := by decide +kernel
theorem dX6_read_67 : decode cX6_read 67 = .ok (.getfield 9, 3) := by decide +kernel
theorem dX6_read_70 : decode cX6_read 70 = .ok (.getfield 40, 3) := by decide +kernel
theorem dX6_read_73 : decode cX6_read 73 = .ok (.invokevirtual 44, 3) := by decide +kernel
theorem dX6_read_76 : decode cX6_read 76 = .ok (.bipush 20, 2) := by decide +kernel
theorem dX6_read_78 : decode cX6_read 78 = .ok (.ireturn, 1) := by decide +kernel
theorem dX6_doLine_0 : decode cX6_doLine 0 = .ok (.aload_n 0, 1) := by decide +kernel
theorem dX6_doLine_1 : decode cX6_doLine 1 = .ok (.invokevirtual 48, 3) := by decide +kernel
theorem dX6_doLine_4 : decode cX6_doLine 4 = .ok (.istore_n 1, 1) := by decide +kernel
theorem dX6_doLine_5 : decode cX6_doLine 5 = .ok (.iload_n 1, 1) := by decide +kernel
theorem dX6_doLine_6 : decode cX6_doLine 6 = .ok (.iconst (-1), 1) := by decide +kernel
theorem dX6_doLine_7 : decode cX6_doLine 7 = .ok (.if_icmp .ne 4, 3) := by decide +kernel
theorem dX6_doLine_10 : decode cX6_doLine 10 = .ok (.return_, 1) := by decide +kernel
theorem dX6_doLine_11 : decode cX6_doLine 11 = .ok (.aload_n 0, 1) := by decide +kernel
theorem dX6_doLine_12 : decode cX6_doLine 12 = .ok (.getfield 9, 3) := by decide +kernel
theorem dX6_doLine_15 : decode cX6_doLine 15 = .ok (.getfield 40, 3) := by decide +kernel
theorem dX6_doLine_18 : decode cX6_doLine 18 = .ok (.istore_n 2, 1) := by decide +kernel
theorem dX6_doLine_19 : decode cX6_doLine 19 = .ok (.aload_n 0, 1) := by decide +kernel
theorem dX6_doLine_20 : decode cX6_doLine 20 = .ok (.getfield 9, 3) := by decide +kernel
theorem dX6_doLine_23 : decode cX6_doLine 23 = .ok (.invokevirtual 32, 3) := by decide +kernel
theorem dX6_doLine_26 : decode cX6_doLine 26 = .ok (.istore_n 3, 1) := by decide +kernel
theorem dX6_doLine_27 : decode cX6_doLine 27 = .ok (.aload_n 0, 1) := by decide +kernel
theorem dX6_doLine_28 : decode cX6_doLine 28 = .ok (.getfield 9, 3) := by decide +kernel
theorem dX6_doLine_31 : decode cX6_doLine 31 = .ok (.invokevirtual 51, 3) := by decide +kernel
theorem dX6_doLine_34 : decode cX6_doLine 34 = .ok (.iload_n 3, 1) := by decide +kernel
theorem dX6_doLine_35 : decode cX6_doLine 35 = .ok (.lookupswitch 159 #[(33, 81), (60, 123), (61, 73), (62, 147), (64, 90), (111, 99), (115, 111), (124, 135)], 73) := by decide +kernel
theorem dX6_doLine_108 : decode cX6_doLine 108 = .ok (.aload_n 0, 1) := by decide +kernel
theorem dX6_doLine_109 : decode cX6_doLine 109 = .ok (.iload_n 1, 1) := by decide +kernel
theorem dX6_doLine_110 : decode cX6_doLine 110 = .ok (.invokevirtual 54, 3) := by decide +kernel
theorem dX6_doLine_113 : decode cX6_doLine 113 = .ok (.goto 90, 3) := by decide +kernel
theorem dX6_doLine_116 : decode cX6_doLine 116 = .ok (.aload_n 0, 1) := by decide +kernel
theorem dX6_doLine_117 : decode cX6_doLine 117 = .ok (.iload_n 1, 1) := by decide +kernel
theorem dX6_doLine_118 : decode cX6_doLine 118 = .ok (.iload_n 2, 1) := by decide +kernel
theorem dX6_doLine_119 : decode cX6_doLine 119 = .ok (.invokevirtual 57, 3) := by decide +kernel
theorem dX6_doLine_122 : decode cX6_doLine 122 = .ok (.goto 81, 3) := by decide +kernel
theorem dX6_doLine_125 : decode cX6_doLine 125 = .ok (.aload_n 0, 1) := by decide +kernel
theorem dX6_doLine_126 : decode cX6_doLine 126 = .ok (.iload_n 1, 1) := by decide +kernel
theorem dX6_doLine_127 : decode cX6_doLine 127 = .ok (.iload_n 2, 1) := by decide +kernel
theorem dX6_doLine_128 : decode cX6_doLine 128 = .ok (.invokevirtual 60, 3) := by decide +kernel
theorem dX6_doLine_131 : decode cX6_doLine 131 = .ok (.goto 72, 3) := by decide +kernel
theorem dX6_doLine_134 : decode cX6_doLine 134 = .ok (.aload_n 0, 1) := by decide +kernel
theorem dX6_doLine_135 : decode cX6_doLine 135 = .ok (.getfield 15, 3) := by decide +kernel
theorem dX6_doLine_138 : decode cX6_doLine 138 = .ok (.iload_n 1, 1) := by decide +kernel
theorem dX6_doLine_139 : decode cX6_doLine 139 = .ok (.iconst 1, 1) := by decide +kernel
theorem dX6_doLine_140 : decode cX6_doLine 140 = .ok (.invokevirtual 63, 3) := by decide +kernel
theorem dX6_doLine_143 : decode cX6_doLine 143 = .ok (.goto 60, 3) := by decide +kernel
theorem dX6_doLine_146 : decode cX6_doLine 146 = .ok (.aload_n 0, 1) := by decide +kernel
theorem dX6_doLine_147 : decode cX6_doLine 147 = .ok (.getfield 15, 3) := by decide +kernel
theorem dX6_doLine_150 : decode cX6_doLine 150 = .ok (.iload_n 1, 1) := by decide +kernel
theorem dX6_doLine_151 : decode cX6_doLine 151 = .ok (.iconst 0, 1) := by decide +kernel
theorem dX6_doLine_152 : decode cX6_doLine 152 = .ok (.invokevirtual 63, 3) := by decide +kernel
theorem dX6_doLine_155 : decode cX6_doLine 155 = .ok (.goto 48, 3) := by decide +kernel
theorem dX6_doLine_158 : decode cX6_doLine 158 = .ok (.aload_n 0, 1) := by decide +kernel
theorem dX6_doLine_159 : decode cX6_doLine 159 = .ok (.getfield 15, 3) := by decide +kernel
theorem dX6_doLine_162 : decode cX6_doLine 162 = .ok (.iload_n 1, 1) := by decide +kernel
theorem dX6_doLine_163 : decode cX6_doLine 163 = .ok (.iconst 0, 1) := by decide +kernel
theorem dX6_doLine_164 : decode cX6_doLine 164 = .ok (.invokevirtual 69, 3) := by decide +kernel
theorem dX6_doLine_167 : decode cX6_doLine 167 = .ok (.goto 36, 3) := by decide +kernel
theorem dX6_doLine_170 : decode cX6_doLine 170 = .ok (.aload_n 0, 1) := by decide +kernel
theorem dX6_doLine_171 : decode cX6_doLine 171 = .ok (.getfield 15, 3) := by decide +kernel
theorem dX6_doLine_174 : decode cX6_doLine 174 = .ok (.iload_n 1, 1) := by decide +kernel
theorem dX6_doLine_175 : decode cX6_doLine 175 = .ok (.iconst 1, 1) := by decide +kernel
theorem dX6_doLine_176 : decode cX6_doLine 176 = .ok (.invokevirtual 69, 3) := by decide +kernel
theorem dX6_doLine_179 : decode cX6_doLine 179 = .ok (.goto 24, 3) := by decide +kernel
theorem dX6_doLine_182 : decode cX6_doLine 182 = .ok (.aload_n 0, 1) := by decide +kernel
theorem dX6_doLine_183 : decode cX6_doLine 183 = .ok (.getfield 15, 3) := by decide +kernel
theorem dX6_doLine_186 : decode cX6_doLine 186 = .ok (.iload_n 1, 1) := by decide +kernel
theorem dX6_doLine_187 : decode cX6_doLine 187 = .ok (.iconst 2, 1) := by decide +kernel
theorem dX6_doLine_188 : decode cX6_doLine 188 = .ok (.invokevirtual 69, 3) := by decide +kernel
theorem dX6_doLine_191 : decode cX6_doLine 191 = .ok (.goto 12, 3) := by decide +kernel
theorem dX6_doLine_194 : decode cX6_doLine 194 = .ok (.aload_n 0, 1) := by decide +kernel
theorem dX6_doLine_195 : decode cX6_doLine 195 = .ok (.getfield 9, 3) := by decide +kernel
theorem dX6_doLine_198 : decode cX6_doLine 198 = .ok (.iconst 1, 1) := by decide +kernel
theorem dX6_doLine_199 : decode cX6_doLine 199 = .ok (.iload_n 2, 1) := by decide +kernel
theorem dX6_doLine_200 : decode cX6_doLine 200 = .ok (.invokevirtual 44, 3) := by decide +kernel
theorem dX6_doLine_203 : decode cX6_doLine 203 = .ok (.return_, 1) := by decide +kernel
theorem dX6_readRoom_0 : decode cX6_readRoom 0 = .ok (.aload_n 0, 1) := by decide +kernel
theorem dX6_readRoom_1 : decode cX6_readRoom 1 = .ok (.getfield 9, 3) := by decide +kernel
theorem dX6_readRoom_4 : decode cX6_readRoom 4 = .ok (.getfield 40, 3) := by decide +kernel
theorem dX6_readRoom_7 : decode cX6_readRoom 7 = .ok (.istore_n 1, 1) := by decide +kernel
theorem dX6_readRoom_8 : decode cX6_readRoom 8 = .ok (.aload_n 0, 1) := by decide +kernel
theorem dX6_readRoom_9 : decode cX6_readRoom 9 = .ok (.getfield 9, 3) := by decide +kernel
theorem dX6_readRoom_12 : decode cX6_readRoom 12 = .ok (.iconst 2, 1) := by decide +kernel
theorem dX6_readRoom_13 : decode cX6_readRoom 13 = .ok (.invokevirtual 72, 3) := by decide +kernel
theorem dX6_readRoom_16 : decode cX6_readRoom 16 = .ok (.istore_n 2, 1) := by decide +kernel
theorem dX6_readRoom_17 : decode cX6_readRoom 17 = .ok (.iload_n 2, 1) := by decide +kernel
theorem dX6_readRoom_18 : decode cX6_readRoom 18 = .ok (.bipush 24, 2) := by decide +kernel
theorem dX6_readRoom_20 : decode cX6_readRoom 20 = .ok (.if_icmp .lt 14, 3) := by decide +kernel
theorem dX6_readRoom_23 : decode cX6_readRoom 23 = .ok (.aload_n 0, 1) := by decide +kernel
theorem dX6_readRoom_24 : decode cX6_readRoom 24 = .ok (.getfield 9, 3) := by decide +kernel
theorem dX6_readRoom_27 : decode cX6_readRoom 27 = .ok (.iconst 3, 1) := by decide +kernel
theorem dX6_readRoom_28 : decode cX6_readRoom 28 = .ok (.iload_n 1, 1) := by decide +kernel
theorem dX6_readRoom_29 : decode cX6_readRoom 29 = .ok (.invokevirtual 44, 3) := by decide +kernel
theorem dX6_readRoom_32 : decode cX6_readRoom 32 = .ok (.iconst (-1), 1) := by decide +kernel
theorem dX6_readRoom_33 : decode cX6_readRoom 33 = .ok (.ireturn, 1) := by decide +kernel
theorem dX6_readRoom_34 : decode cX6_readRoom 34 = .ok (.iload_n 2, 1) := by decide +kernel
theorem dX6_readRoom_35 : decode cX6_readRoom 35 = .ok (.ireturn, 1) := by decide +kernel
theorem dX6_takeIn_0 : decode cX6_takeIn 0 = .ok (.aload_n 0, 1) := by decide +kernel
theorem dX6_takeIn_1 : decode cX6_takeIn 1 = .ok (.getfield 9, 3) := by decide +kernel
theorem dX6_takeIn_4 : decode cX6_takeIn 4 = .ok (.iconst 4, 1) := by decide +kernel
theorem dX6_takeIn_5 : decode cX6_takeIn 5 = .ok (.invokevirtual 72, 3) := by decide +kernel
theorem dX6_takeIn_8 : decode cX6_takeIn 8 = .ok (.istore_n 2, 1) := by decide +kernel
theorem dX6_takeIn_9 : decode cX6_takeIn 9 = .ok (.iload_n 2, 1) := by decide +kernel
theorem dX6_takeIn_10 : decode cX6_takeIn 10 = .ok (.iconst (-1), 1) := by decide +kernel
theorem dX6_takeIn_11 : decode cX6_takeIn 11 = .ok (.if_icmp .eq 12, 3) := by decide +kernel
theorem dX6_takeIn_14 : decode cX6_takeIn 14 = .ok (.aload_n 0, 1) := by decide +kernel
theorem dX6_takeIn_15 : decode cX6_takeIn 15 = .ok (.getfield 15, 3) := by decide +kernel
theorem dX6_takeIn_18 : decode cX6_takeIn 18 = .ok (.iload_n 1, 1) := by decide +kernel
theorem dX6_takeIn_19 : decode cX6_takeIn 19 = .ok (.iload_n 2, 1) := by decide +kernel
theorem dX6_takeIn_20 : decode cX6_takeIn 20 = .ok (.invokevirtual 76, 3) := by decide +kernel
theorem dX6_takeIn_23 : decode cX6_takeIn 23 = .ok (.return_, 1) := by decide +kernel
theorem dX6_sendAway_0 : decode cX6_sendAway 0 = .ok (.aload_n 0, 1) := by decide +kernel
theorem dX6_sendAway_1 : decode cX6_sendAway 1 = .ok (.getfield 15, 3) := by decide +kernel
theorem dX6_sendAway_4 : decode cX6_sendAway 4 = .ok (.iload_n 1, 1) := by decide +kernel
theorem dX6_sendAway_5 : decode cX6_sendAway 5 = .ok (.invokevirtual 78, 3) := by decide +kernel
theorem dX6_sendAway_8 : decode cX6_sendAway 8 = .ok (.ifCond .eq 14, 3) := by decide +kernel
theorem dX6_sendAway_11 : decode cX6_sendAway 11 = .ok (.aload_n 0, 1) := by decide +kernel
theorem dX6_sendAway_12 : decode cX6_sendAway 12 = .ok (.getfield 15, 3) := by decide +kernel
theorem dX6_sendAway_15 : decode cX6_sendAway 15 = .ok (.iload_n 1, 1) := by decide +kernel
theorem dX6_sendAway_16 : decode cX6_sendAway 16 = .ok (.invokevirtual 81, 3) := by decide +kernel
theorem dX6_sendAway_19 : decode cX6_sendAway 19 = .ok (.goto 13, 3) := by decide +kernel
theorem dX6_sendAway_22 : decode cX6_sendAway 22 = .ok (.aload_n 0, 1) := by decide +kernel
theorem dX6_sendAway_23 : decode cX6_sendAway 23 = .ok (.getfield 9, 3) := by decide +kernel
theorem dX6_sendAway_26 : decode cX6_sendAway 26 = .ok (.bipush 7, 2) := by decide +kernel
theorem dX6_sendAway_28 : decode cX6_sendAway 28 = .ok (.iload_n 2, 1) := by decide +kernel
theorem dX6_sendAway_29 : decode cX6_sendAway 29 = .ok (.invokevirtual 44, 3) := by decide +kernel
theorem dX6_sendAway_32 : decode cX6_sendAway 32 = .ok (.return_, 1) := by decide +kernel
theorem dX6_exchange_0 : decode cX6_exchange 0 = .ok (.aload_n 0, 1) := by decide +kernel
theorem dX6_exchange_1 : decode cX6_exchange 1 = .ok (.invokevirtual 48, 3) := by decide +kernel
theorem dX6_exchange_4 : decode cX6_exchange 4 = .ok (.istore_n 3, 1) := by decide +kernel
theorem dX6_exchange_5 : decode cX6_exchange 5 = .ok (.iload_n 3, 1) := by decide +kernel
theorem dX6_exchange_6 : decode cX6_exchange 6 = .ok (.iconst (-1), 1) := by decide +kernel
theorem dX6_exchange_7 : decode cX6_exchange 7 = .ok (.if_icmp .ne 4, 3) := by decide +kernel
theorem dX6_exchange_10 : decode cX6_exchange 10 = .ok (.return_, 1) := by decide +kernel
theorem dX6_exchange_11 : decode cX6_exchange 11 = .ok (.aload_n 0, 1) := by decide +kernel
theorem dX6_exchange_12 : decode cX6_exchange 12 = .ok (.getfield 15, 3) := by decide +kernel
theorem dX6_exchange_15 : decode cX6_exchange 15 = .ok (.iload_n 1, 1) := by decide +kernel
theorem dX6_exchange_16 : decode cX6_exchange 16 = .ok (.invokevirtual 78, 3) := by decide +kernel
theorem dX6_exchange_19 : decode cX6_exchange 19 = .ok (.ifCond .ne 14, 3) := by decide +kernel
theorem dX6_exchange_22 : decode cX6_exchange 22 = .ok (.aload_n 0, 1) := by decide +kernel
theorem dX6_exchange_23 : decode cX6_exchange 23 = .ok (.getfield 15, 3) := by decide +kernel
theorem dX6_exchange_26 : decode cX6_exchange 26 = .ok (.iload_n 3, 1) := by decide +kernel
theorem dX6_exchange_27 : decode cX6_exchange 27 = .ok (.invokevirtual 78, 3) := by decide +kernel
theorem dX6_exchange_30 : decode cX6_exchange 30 = .ok (.ifCond .eq 15, 3) := by decide +kernel
theorem dX6_exchange_33 : decode cX6_exchange 33 = .ok (.aload_n 0, 1) := by decide +kernel
theorem dX6_exchange_34 : decode cX6_exchange 34 = .ok (.getfield 15, 3) := by decide +kernel
theorem dX6_exchange_37 : decode cX6_exchange 37 = .ok (.iload_n 1, 1) := by decide +kernel
theorem dX6_exchange_38 : decode cX6_exchange 38 = .ok (.iload_n 3, 1) := by decide +kernel
theorem dX6_exchange_39 : decode cX6_exchange 39 = .ok (.invokevirtual 83, 3) := by decide +kernel
theorem dX6_exchange_42 : decode cX6_exchange 42 = .ok (.goto 13, 3) := by decide +kernel
theorem dX6_exchange_45 : decode cX6_exchange 45 = .ok (.aload_n 0, 1) := by decide +kernel
theorem dX6_exchange_46 : decode cX6_exchange 46 = .ok (.getfield 9, 3) := by decide +kernel
theorem dX6_exchange_49 : decode cX6_exchange 49 = .ok (.bipush 7, 2) := by decide +kernel
theorem dX6_exchange_51 : decode cX6_exchange 51 = .ok (.iload_n 2, 1) := by decide +kernel
theorem dX6_exchange_52 : decode cX6_exchange 52 = .ok (.invokevirtual 44, 3) := by decide +kernel
theorem dX6_exchange_55 : decode cX6_exchange 55 = .ok (.return_, 1) := by decide +kernel
theorem dX7_init_0 : decode cX7_init 0 = .ok (.aload_n 0, 1) := by decide +kernel
theorem dX7_init_1 : decode cX7_init 1 = .ok (.invokespecial 3, 3) := by decide +kernel
theorem dX7_init_4 : decode cX7_init 4 = .ok (.aload_n 0, 1) := by decide +kernel
theorem dX7_init_5 : decode cX7_init 5 = .ok (.iconst 4, 1) := by decide +kernel
theorem dX7_init_6 : decode cX7_init 6 = .ok (.newarray .int, 2) := by decide +kernel
theorem dX7_init_8 : decode cX7_init 8 = .ok (.putfield 9, 3) := by decide +kernel
theorem dX7_init_11 : decode cX7_init 11 = .ok (.aload_n 0, 1) := by decide +kernel
theorem dX7_init_12 : decode cX7_init 12 = .ok (.iconst 4, 1) := by decide +kernel
theorem dX7_init_13 : decode cX7_init 13 = .ok (.newarray .int, 2) := by decide +kernel
theorem dX7_init_15 : decode cX7_init 15 = .ok (.putfield 15, 3) := by decide +kernel
theorem dX7_init_18 : decode cX7_init 18 = .ok (.aload_n 0, 1) := by decide +kernel
theorem dX7_init_19 : decode cX7_init 19 = .ok (.iconst 4, 1) := by decide +kernel
theorem dX7_init_20 : decode cX7_init 20 = .ok (.newarray .int, 2) := by decide +kernel
theorem dX7_init_22 : decode cX7_init 22 = .ok (.putfield 18, 3) := by decide +kernel
theorem dX7_init_25 : decode cX7_init 25 = .ok (.return_, 1) := by decide +kernel
theorem dX7_let_0 : decode cX7_let 0 = .ok (.aload_n 0, 1) := by decide +kernel
theorem dX7_let_1 : decode cX7_let 1 = .ok (.getfield 9, 3) := by decide +kernel
theorem dX7_let_4 : decode cX7_let 4 = .ok (.iconst 0, 1) := by decide +kernel
theorem dX7_let_5 : decode cX7_let 5 = .ok (.invokestatic 21, 3) := by decide +kernel
theorem dX7_let_8 : decode cX7_let 8 = .ok (.aload_n 0, 1) := by decide +kernel
theorem dX7_let_9 : decode cX7_let 9 = .ok (.getfield 15, 3) := by decide +kernel
theorem dX7_let_12 : decode cX7_let 12 = .ok (.ldc 27, 2) := by decide +kernel
theorem dX7_let_14 : decode cX7_let 14 = .ok (.invokestatic 21, 3) := by decide +kernel
theorem dX7_let_17 : decode cX7_let 17 = .ok (.aload_n 0, 1) := by decide +kernel
theorem dX7_let_18 : decode cX7_let 18 = .ok (.getfield 18, 3) := by decide +kernel
theorem dX7_let_21 : decode cX7_let 21 = .ok (.ldc 27, 2) := by decide +kernel
theorem dX7_let_23 : decode cX7_let 23 = .ok (.invokestatic 21, 3) := by decide +kernel
theorem dX7_let_26 : decode cX7_let 26 = .ok (.iconst 5, 1) := by decide +kernel
theorem dX7_let_27 : decode cX7_let 27 = .ok (.istore 5, 2) := by decide +kernel
theorem dX7_let_29 : decode cX7_let 29 = .ok (.iload 5, 2) := by decide +kernel
theorem dX7_let_31 : decode cX7_let 31 = .ok (.ifCond .lt 42, 3) := by decide +kernel
theorem dX7_let_34 : decode cX7_let 34 = .ok (.iload 5, 2) := by decide +kernel
theorem dX7_let_36 : decode cX7_let 36 = .ok (.iload_n 2, 1) := by decide +kernel
theorem dX7_let_37 : decode cX7_let 37 = .ok (.invokestatic 28, 3) := by decide +kernel
theorem dX7_let_40 : decode cX7_let 40 = .ok (.if_icmp .lt 33, 3) := by decide +kernel
theorem dX7_let_43 : decode cX7_let 43 = .ok (.aload_n 0, 1) := by decide +kernel
theorem dX7_let_44 : decode cX7_let 44 = .ok (.aload_n 1, 1) := by decide +kernel
theorem dX7_let_45 : decode cX7_let 45 = .ok (.iload 5, 2) := by decide +kernel
theorem dX7_let_47 : decode cX7_let 47 = .ok (.iload_n 3, 1) := by decide +kernel
theorem dX7_let_48 : decode cX7_let 48 = .ok (.invokevirtual 32, 3) := by decide +kernel
theorem dX7_let_51 : decode cX7_let 51 = .ok (.aload_n 0, 1) := by decide +kernel
theorem dX7_let_52 : decode cX7_let 52 = .ok (.aload_n 1, 1) := by decide +kernel
theorem dX7_let_53 : decode cX7_let 53 = .ok (.iload 5, 2) := by decide +kernel
theorem dX7_let_55 : decode cX7_let 55 = .ok (.iload_n 3, 1) := by decide +kernel
theorem dX7_let_56 : decode cX7_let 56 = .ok (.invokevirtual 36, 3) := by decide +kernel
theorem dX7_let_59 : decode cX7_let 59 = .ok (.aload_n 0, 1) := by decide +kernel
theorem dX7_let_60 : decode cX7_let 60 = .ok (.aload_n 1, 1) := by decide +kernel
theorem dX7_let_61 : decode cX7_let 61 = .ok (.iload 5, 2) := by decide +kernel
theorem dX7_let_63 : decode cX7_let 63 = .ok (.iload_n 3, 1) := by decide +kernel
theorem dX7_let_64 : decode cX7_let 64 = .ok (.invokevirtual 39, 3) := by decide +kernel
theorem dX7_let_67 : decode cX7_let 67 = .ok (.iinc 5 (-1), 3) := by decide +kernel
theorem dX7_let_70 : decode cX7_let 70 = .ok (.goto (-41), 3) := by decide +kernel
theorem dX7_let_73 : decode cX7_let 73 = .ok (.aload_n 0, 1) := by decide +kernel
theorem dX7_let_74 : decode cX7_let 74 = .ok (.getfield 9, 3) := by decide +kernel
theorem dX7_let_77 : decode cX7_let 77 = .ok (.iload_n 2, 1) := by decide +kernel
theorem dX7_let_78 : decode cX7_let 78 = .ok (.invokestatic 42, 3) := by decide +kernel
theorem dX7_let_81 : decode cX7_let 81 = .ok (.iaload, 1) := by decide +kernel
theorem dX7_let_82 : decode cX7_let 82 = .ok (.aload_n 0, 1) := by decide +kernel
theorem dX7_let_83 : decode cX7_let 83 = .ok (.iload_n 2, 1) := by decide +kernel
theorem dX7_let_84 : decode cX7_let 84 = .ok (.invokestatic 42, 3) := by decide +kernel
theorem dX7_let_87 : decode cX7_let 87 = .ok (.invokevirtual 45, 3) := by decide +kernel
theorem dX7_let_90 : decode cX7_let 90 = .ok (.invokestatic 48, 3) := by decide +kernel
theorem dX7_let_93 : decode cX7_let 93 = .ok (.istore 5, 2) := by decide +kernel
theorem dX7_let_95 : decode cX7_let 95 = .ok (.iload 5, 2) := by decide +kernel
theorem dX7_let_97 : decode cX7_let 97 = .ok (.ldc 27, 2) := by decide +kernel
theorem dX7_let_99 : decode cX7_let 99 = .ok (.if_icmp .lt 6, 3) := by decide +kernel
theorem dX7_let_102 : decode cX7_let 102 = .ok (.bipush (-2), 2) := by decide +kernel
theorem dX7_let_104 : decode cX7_let 104 = .ok (.ireturn, 1) := by decide +kernel
theorem dX7_let_105 : decode cX7_let 105 = .ok (.iload 4, 2) := by decide +kernel
theorem dX7_let_107 : decode cX7_let 107 = .ok (.ifCond .ne 11, 3) := by decide +kernel
theorem dX7_let_110 : decode cX7_let 110 = .ok (.iload 5, 2) := by decide +kernel
theorem dX7_let_112 : decode cX7_let 112 = .ok (.bipush 100, 2) := by decide +kernel
theorem dX7_let_114 : decode cX7_let 114 = .ok (.idiv, 1) := by decide +kernel
theorem dX7_let_115 : decode cX7_let 115 = .ok (.goto 8, 3) := by decide +kernel
theorem dX7_let_118 : decode cX7_let 118 = .ok (.iload 5, 2) := by decide +kernel
theorem dX7_let_120 : decode cX7_let 120 = .ok (.bipush 100, 2) := by decide +kernel
theorem dX7_let_122 : decode cX7_let 122 = .ok (.irem, 1) := by decide +kernel
theorem dX7_let_123 : decode cX7_let 123 = .ok (.ireturn, 1) := by decide +kernel
theorem dX7_aside_0 : decode cX7_aside 0 = .ok (.aload_n 0, 1) := by decide +kernel
theorem dX7_aside_1 : decode cX7_aside 1 = .ok (.getfield 15, 3) := by decide +kernel
theorem dX7_aside_4 : decode cX7_aside 4 = .ok (.iload_n 1, 1) := by decide +kernel
theorem dX7_aside_5 : decode cX7_aside 5 = .ok (.iaload, 1) := by decide +kernel
theorem dX7_aside_6 : decode cX7_aside 6 = .ok (.aload_n 0, 1) := by decide +kernel
theorem dX7_aside_7 : decode cX7_aside 7 = .ok (.getfield 18, 3) := by decide +kernel
theorem dX7_aside_10 : decode cX7_aside 10 = .ok (.iload_n 1, 1) := by decide +kernel
theorem dX7_aside_11 : decode cX7_aside 11 = .ok (.iaload, 1) := by decide +kernel
theorem dX7_aside_12 : decode cX7_aside 12 = .ok (.invokestatic 48, 3) := by decide +kernel
theorem dX7_aside_15 : decode cX7_aside 15 = .ok (.ireturn, 1) := by decide +kernel
theorem dX7_goDown_0 : decode cX7_goDown 0 = .ok (.iconst 0, 1) := by decide +kernel
theorem dX7_goDown_1 : decode cX7_goDown 1 = .ok (.istore 4, 2) := by decide +kernel
theorem dX7_goDown_3 : decode cX7_goDown 3 = .ok (.iload 4, 2) := by decide +kernel
theorem dX7_goDown_5 : decode cX7_goDown 5 = .ok (.iconst 4, 1) := by decide +kernel
theorem dX7_goDown_6 : decode cX7_goDown 6 = .ok (.if_icmp .ge 43, 3) := by decide +kernel
theorem dX7_goDown_9 : decode cX7_goDown 9 = .ok (.aload_n 0, 1) := by decide +kernel
theorem dX7_goDown_10 : decode cX7_goDown 10 = .ok (.getfield 9, 3) := by decide +kernel
theorem dX7_goDown_13 : decode cX7_goDown 13 = .ok (.iload 4, 2) := by decide +kernel
theorem dX7_goDown_15 : decode cX7_goDown 15 = .ok (.aload_n 1, 1) := by decide +kernel
theorem dX7_goDown_16 : decode cX7_goDown 16 = .ok (.iload_n 2, 1) := by decide +kernel
theorem dX7_goDown_17 : decode cX7_goDown 17 = .ok (.iload 4, 2) := by decide +kernel
theorem dX7_goDown_19 : decode cX7_goDown 19 = .ok (.iload_n 3, 1) := by decide +kernel
theorem dX7_goDown_20 : decode cX7_goDown 20 = .ok (.aload_n 0, 1) := by decide +kernel
theorem dX7_goDown_21 : decode cX7_goDown 21 = .ok (.getfield 9, 3) := by decide +kernel
theorem dX7_goDown_24 : decode cX7_goDown 24 = .ok (.iload 4, 2) := by decide +kernel
theorem dX7_goDown_26 : decode cX7_goDown 26 = .ok (.iaload, 1) := by decide +kernel
theorem dX7_goDown_27 : decode cX7_goDown 27 = .ok (.aload_n 0, 1) := by decide +kernel
theorem dX7_goDown_28 : decode cX7_goDown 28 = .ok (.iload 4, 2) := by decide +kernel
theorem dX7_goDown_30 : decode cX7_goDown 30 = .ok (.invokevirtual 45, 3) := by decide +kernel
theorem dX7_goDown_33 : decode cX7_goDown 33 = .ok (.bipush 100, 2) := by decide +kernel
theorem dX7_goDown_35 : decode cX7_goDown 35 = .ok (.iadd, 1) := by decide +kernel
theorem dX7_goDown_36 : decode cX7_goDown 36 = .ok (.invokestatic 48, 3) := by decide +kernel
theorem dX7_goDown_39 : decode cX7_goDown 39 = .ok (.invokestatic 54, 3) := by decide +kernel
theorem dX7_goDown_42 : decode cX7_goDown 42 = .ok (.iastore, 1) := by decide +kernel
theorem dX7_goDown_43 : decode cX7_goDown 43 = .ok (.iinc 4 1, 3) := by decide +kernel
theorem dX7_goDown_46 : decode cX7_goDown 46 = .ok (.goto (-43), 3) := by decide +kernel
theorem dX7_goDown_49 : decode cX7_goDown 49 = .ok (.return_, 1) := by decide +kernel
theorem dX7_goLeft_0 : decode cX7_goLeft 0 = .ok (.aload_n 0, 1) := by decide +kernel
theorem dX7_goLeft_1 : decode cX7_goLeft 1 = .ok (.getfield 15, 3) := by decide +kernel
theorem dX7_goLeft_4 : decode cX7_goLeft 4 = .ok (.iconst 3, 1) := by decide +kernel
theorem dX7_goLeft_5 : decode cX7_goLeft 5 = .ok (.ldc 27, 2) := by decide +kernel
theorem dX7_goLeft_7 : decode cX7_goLeft 7 = .ok (.iastore, 1) := by decide +kernel
theorem dX7_goLeft_8 : decode cX7_goLeft 8 = .ok (.iconst 2, 1) := by decide +kernel
theorem dX7_goLeft_9 : decode cX7_goLeft 9 = .ok (.istore 4, 2) := by decide +kernel
theorem dX7_goLeft_11 : decode cX7_goLeft 11 = .ok (.iload 4, 2) := by decide +kernel
theorem dX7_goLeft_13 : decode cX7_goLeft 13 = .ok (.ifCond .lt 48, 3) := by decide +kernel
theorem dX7_goLeft_16 : decode cX7_goLeft 16 = .ok (.aload_n 0, 1) := by decide +kernel
theorem dX7_goLeft_17 : decode cX7_goLeft 17 = .ok (.getfield 15, 3) := by decide +kernel
theorem dX7_goLeft_20 : decode cX7_goLeft 20 = .ok (.iload 4, 2) := by decide +kernel
theorem dX7_goLeft_22 : decode cX7_goLeft 22 = .ok (.aload_n 1, 1) := by decide +kernel
theorem dX7_goLeft_23 : decode cX7_goLeft 23 = .ok (.iload_n 2, 1) := by decide +kernel
theorem dX7_goLeft_24 : decode cX7_goLeft 24 = .ok (.iload 4, 2) := by decide +kernel
theorem dX7_goLeft_26 : decode cX7_goLeft 26 = .ok (.iload_n 3, 1) := by decide +kernel
theorem dX7_goLeft_27 : decode cX7_goLeft 27 = .ok (.aload_n 0, 1) := by decide +kernel
theorem dX7_goLeft_28 : decode cX7_goLeft 28 = .ok (.getfield 9, 3) := by decide +kernel
theorem dX7_goLeft_31 : decode cX7_goLeft 31 = .ok (.iload 4, 2) := by decide +kernel
theorem dX7_goLeft_33 : decode cX7_goLeft 33 = .ok (.iconst 1, 1) := by decide +kernel
theorem dX7_goLeft_34 : decode cX7_goLeft 34 = .ok (.iadd, 1) := by decide +kernel
theorem dX7_goLeft_35 : decode cX7_goLeft 35 = .ok (.iaload, 1) := by decide +kernel
theorem dX7_goLeft_36 : decode cX7_goLeft 36 = .ok (.bipush 100, 2) := by decide +kernel
theorem dX7_goLeft_38 : decode cX7_goLeft 38 = .ok (.iadd, 1) := by decide +kernel
theorem dX7_goLeft_39 : decode cX7_goLeft 39 = .ok (.aload_n 0, 1) := by decide +kernel
theorem dX7_goLeft_40 : decode cX7_goLeft 40 = .ok (.getfield 15, 3) := by decide +kernel
theorem dX7_goLeft_43 : decode cX7_goLeft 43 = .ok (.iload 4, 2) := by decide +kernel
theorem dX7_goLeft_45 : decode cX7_goLeft 45 = .ok (.iconst 1, 1) := by decide +kernel
theorem dX7_goLeft_46 : decode cX7_goLeft 46 = .ok (.iadd, 1) := by decide +kernel
theorem dX7_goLeft_47 : decode cX7_goLeft 47 = .ok (.iaload, 1) := by decide +kernel
theorem dX7_goLeft_48 : decode cX7_goLeft 48 = .ok (.invokestatic 48, 3) := by decide +kernel
theorem dX7_goLeft_51 : decode cX7_goLeft 51 = .ok (.invokestatic 54, 3) := by decide +kernel
theorem dX7_goLeft_54 : decode cX7_goLeft 54 = .ok (.iastore, 1) := by decide +kernel
theorem dX7_goLeft_55 : decode cX7_goLeft 55 = .ok (.iinc 4 (-1), 3) := by decide +kernel
theorem dX7_goLeft_58 : decode cX7_goLeft 58 = .ok (.goto (-47), 3) := by decide +kernel
theorem dX7_goLeft_61 : decode cX7_goLeft 61 = .ok (.return_, 1) := by decide +kernel
theorem dX7_goRight_0 : decode cX7_goRight 0 = .ok (.aload_n 0, 1) := by decide +kernel
theorem dX7_goRight_1 : decode cX7_goRight 1 = .ok (.getfield 18, 3) := by decide +kernel
theorem dX7_goRight_4 : decode cX7_goRight 4 = .ok (.iconst 0, 1) := by decide +kernel
theorem dX7_goRight_5 : decode cX7_goRight 5 = .ok (.ldc 27, 2) := by decide +kernel
theorem dX7_goRight_7 : decode cX7_goRight 7 = .ok (.iastore, 1) := by decide +kernel
theorem dX7_goRight_8 : decode cX7_goRight 8 = .ok (.iconst 1, 1) := by decide +kernel
theorem dX7_goRight_9 : decode cX7_goRight 9 = .ok (.istore 4, 2) := by decide +kernel
theorem dX7_goRight_11 : decode cX7_goRight 11 = .ok (.iload 4, 2) := by decide +kernel
theorem dX7_goRight_13 : decode cX7_goRight 13 = .ok (.iconst 4, 1) := by decide +kernel
theorem dX7_goRight_14 : decode cX7_goRight 14 = .ok (.if_icmp .ge 48, 3) := by decide +kernel
theorem dX7_goRight_17 : decode cX7_goRight 17 = .ok (.aload_n 0, 1) := by decide +kernel
theorem dX7_goRight_18 : decode cX7_goRight 18 = .ok (.getfield 18, 3) := by decide +kernel
theorem dX7_goRight_21 : decode cX7_goRight 21 = .ok (.iload 4, 2) := by decide +kernel
theorem dX7_goRight_23 : decode cX7_goRight 23 = .ok (.aload_n 1, 1) := by decide +kernel
theorem dX7_goRight_24 : decode cX7_goRight 24 = .ok (.iload_n 2, 1) := by decide +kernel
theorem dX7_goRight_25 : decode cX7_goRight 25 = .ok (.iload 4, 2) := by decide +kernel
theorem dX7_goRight_27 : decode cX7_goRight 27 = .ok (.iload_n 3, 1) := by decide +kernel
theorem dX7_goRight_28 : decode cX7_goRight 28 = .ok (.aload_n 0, 1) := by decide +kernel
theorem dX7_goRight_29 : decode cX7_goRight 29 = .ok (.getfield 9, 3) := by decide +kernel
theorem dX7_goRight_32 : decode cX7_goRight 32 = .ok (.iload 4, 2) := by decide +kernel
theorem dX7_goRight_34 : decode cX7_goRight 34 = .ok (.iconst 1, 1) := by decide +kernel
theorem dX7_goRight_35 : decode cX7_goRight 35 = .ok (.isub, 1) := by decide +kernel
theorem dX7_goRight_36 : decode cX7_goRight 36 = .ok (.iaload, 1) := by decide +kernel
theorem dX7_goRight_37 : decode cX7_goRight 37 = .ok (.bipush 100, 2) := by decide +kernel
theorem dX7_goRight_39 : decode cX7_goRight 39 = .ok (.iadd, 1) := by decide +kernel
theorem dX7_goRight_40 : decode cX7_goRight 40 = .ok (.aload_n 0, 1) := by decide +kernel
theorem dX7_goRight_41 : decode cX7_goRight 41 = .ok (.getfield 18, 3) := by decide +kernel
theorem dX7_goRight_44 : decode cX7_goRight 44 = .ok (.iload 4, 2) := by decide +kernel
theorem dX7_goRight_46 : decode cX7_goRight 46 = .ok (.iconst 1, 1) := by decide +kernel
theorem dX7_goRight_47 : decode cX7_goRight 47 = .ok (.isub, 1) := by decide +kernel
theorem dX7_goRight_48 : decode cX7_goRight 48 = .ok (.iaload, 1) := by decide +kernel
theorem dX7_goRight_49 : decode cX7_goRight 49 = .ok (.invokestatic 48, 3) := by decide +kernel
theorem dX7_goRight_52 : decode cX7_goRight 52 = .ok (.invokestatic 54, 3) := by decide +kernel
theorem dX7_goRight_55 : decode cX7_goRight 55 = .ok (.iastore, 1) := by decide +kernel
theorem dX7_goRight_56 : decode cX7_goRight 56 = .ok (.iinc 4 1, 3) := by decide +kernel
theorem dX7_goRight_59 : decode cX7_goRight 59 = .ok (.goto (-48), 3) := by decide +kernel
theorem dX7_goRight_62 : decode cX7_goRight 62 = .ok (.return_, 1) := by decide +kernel
theorem dX7_costAt_0 : decode cX7_costAt 0 = .ok (.aload_n 0, 1) := by decide +kernel
theorem dX7_costAt_1 : decode cX7_costAt 1 = .ok (.getfield 58, 3) := by decide +kernel
theorem dX7_costAt_4 : decode cX7_costAt 4 = .ok (.iload_n 1, 1) := by decide +kernel
theorem dX7_costAt_5 : decode cX7_costAt 5 = .ok (.iconst 4, 1) := by decide +kernel
theorem dX7_costAt_6 : decode cX7_costAt 6 = .ok (.imul, 1) := by decide +kernel
theorem dX7_costAt_7 : decode cX7_costAt 7 = .ok (.iload_n 2, 1) := by decide +kernel
theorem dX7_costAt_8 : decode cX7_costAt 8 = .ok (.iadd, 1) := by decide +kernel
theorem dX7_costAt_9 : decode cX7_costAt 9 = .ok (.iaload, 1) := by decide +kernel
theorem dX7_costAt_10 : decode cX7_costAt 10 = .ok (.iload_n 3, 1) := by decide +kernel
theorem dX7_costAt_11 : decode cX7_costAt 11 = .ok (.if_icmp .le 7, 3) := by decide +kernel
theorem dX7_costAt_14 : decode cX7_costAt 14 = .ok (.iconst 1, 1) := by decide +kernel
theorem dX7_costAt_15 : decode cX7_costAt 15 = .ok (.goto 4, 3) := by decide +kernel
theorem dX7_costAt_18 : decode cX7_costAt 18 = .ok (.iconst 0, 1) := by decide +kernel
theorem dX7_costAt_19 : decode cX7_costAt 19 = .ok (.istore 5, 2) := by decide +kernel
theorem dX7_costAt_21 : decode cX7_costAt 21 = .ok (.iload 5, 2) := by decide +kernel
theorem dX7_costAt_23 : decode cX7_costAt 23 = .ok (.ifCond .eq 8, 3) := by decide +kernel
theorem dX7_costAt_26 : decode cX7_costAt 26 = .ok (.ldc 27, 2) := by decide +kernel
theorem dX7_costAt_28 : decode cX7_costAt 28 = .ok (.goto 12, 3) := by decide +kernel
theorem dX7_costAt_31 : decode cX7_costAt 31 = .ok (.ldc 27, 2) := by decide +kernel
theorem dX7_costAt_33 : decode cX7_costAt 33 = .ok (.iload 4, 2) := by decide +kernel
theorem dX7_costAt_35 : decode cX7_costAt 35 = .ok (.iconst 1, 1) := by decide +kernel
theorem dX7_costAt_36 : decode cX7_costAt 36 = .ok (.iadd, 1) := by decide +kernel
theorem dX7_costAt_37 : decode cX7_costAt 37 = .ok (.invokestatic 48, 3) := by decide +kernel
theorem dX7_costAt_40 : decode cX7_costAt 40 = .ok (.ireturn, 1) := by decide +kernel
theorem dX8_init_0 : decode cX8_init 0 = .ok (.aload_n 0, 1) := by decide +kernel
theorem dX8_init_1 : decode cX8_init 1 = .ok (.invokespecial 3, 3) := by decide +kernel
theorem dX8_init_4 : decode cX8_init 4 = .ok (.aload_n 0, 1) := by decide +kernel
theorem dX8_init_5 : decode cX8_init 5 = .ok (.bipush 24, 2) := by decide +kernel
theorem dX8_init_7 : decode cX8_init 7 = .ok (.newarray .int, 2) := by decide +kernel
theorem dX8_init_9 : decode cX8_init 9 = .ok (.putfield 9, 3) := by decide +kernel
theorem dX8_init_12 : decode cX8_init 12 = .ok (.aload_n 0, 1) := by decide +kernel
theorem dX8_init_13 : decode cX8_init 13 = .ok (.bipush 24, 2) := by decide +kernel
theorem dX8_init_15 : decode cX8_init 15 = .ok (.newarray .int, 2) := by decide +kernel
theorem dX8_init_17 : decode cX8_init 17 = .ok (.putfield 15, 3) := by decide +kernel
theorem dX8_init_20 : decode cX8_init 20 = .ok (.aload_n 0, 1) := by decide +kernel
theorem dX8_init_21 : decode cX8_init 21 = .ok (.getfield 15, 3) := by decide +kernel
theorem dX8_init_24 : decode cX8_init 24 = .ok (.iconst 1, 1) := by decide +kernel
theorem dX8_init_25 : decode cX8_init 25 = .ok (.invokestatic 18, 3) := by decide +kernel
theorem dX8_init_28 : decode cX8_init 28 = .ok (.aload_n 0, 1) := by decide +kernel
theorem dX8_init_29 : decode cX8_init 29 = .ok (.bipush 24, 2) := by decide +kernel
theorem dX8_init_31 : decode cX8_init 31 = .ok (.newarray .int, 2) := by decide +kernel
theorem dX8_init_33 : decode cX8_init 33 = .ok (.putfield 24, 3) := by decide +kernel
theorem dX8_init_36 : decode cX8_init 36 = .ok (.aload_n 0, 1) := by decide +kernel
theorem dX8_init_37 : decode cX8_init 37 = .ok (.sipush 576, 3) := by decide +kernel
theorem dX8_init_40 : decode cX8_init 40 = .ok (.newarray .int, 2) := by decide +kernel
theorem dX8_init_42 : decode cX8_init 42 = .ok (.putfield 27, 3) := by decide +kernel
theorem dX8_init_45 : decode cX8_init 45 = .ok (.aload_n 0, 1) := by decide +kernel
theorem dX8_init_46 : decode cX8_init 46 = .ok (.bipush 24, 2) := by decide +kernel
theorem dX8_init_48 : decode cX8_init 48 = .ok (.newarray .int, 2) := by decide +kernel
theorem dX8_init_50 : decode cX8_init 50 = .ok (.putfield 30, 3) := by decide +kernel
theorem dX8_init_53 : decode cX8_init 53 = .ok (.aload_n 0, 1) := by decide +kernel
theorem dX8_init_54 : decode cX8_init 54 = .ok (.ldc 33, 2) := by decide +kernel
theorem dX8_init_56 : decode cX8_init 56 = .ok (.putfield 34, 3) := by decide +kernel
theorem dX8_init_59 : decode cX8_init 59 = .ok (.aload_n 0, 1) := by decide +kernel
theorem dX8_init_60 : decode cX8_init 60 = .ok (.iconst 1, 1) := by decide +kernel
theorem dX8_init_61 : decode cX8_init 61 = .ok (.putfield 38, 3) := by decide +kernel
theorem dX8_init_64 : decode cX8_init 64 = .ok (.return_, 1) := by decide +kernel
theorem dX8_copyFrom_0 : decode cX8_copyFrom 0 = .ok (.aload_n 1, 1) := by decide +kernel
theorem dX8_copyFrom_1 : decode cX8_copyFrom 1 = .ok (.getfield 9, 3) := by decide +kernel
theorem dX8_copyFrom_4 : decode cX8_copyFrom 4 = .ok (.iconst 0, 1) := by decide +kernel
theorem dX8_copyFrom_5 : decode cX8_copyFrom 5 = .ok (.aload_n 0, 1) := by decide +kernel
theorem dX8_copyFrom_6 : decode cX8_copyFrom 6 = .ok (.getfield 9, 3) := by decide +kernel
theorem dX8_copyFrom_9 : decode cX8_copyFrom 9 = .ok (.iconst 0, 1) := by decide +kernel
theorem dX8_copyFrom_10 : decode cX8_copyFrom 10 = .ok (.bipush 24, 2) := by decide +kernel
theorem dX8_copyFrom_12 : decode cX8_copyFrom 12 = .ok (.invokestatic 41, 3) := by decide +kernel
theorem dX8_copyFrom_15 : decode cX8_copyFrom 15 = .ok (.aload_n 1, 1) := by decide +kernel
theorem dX8_copyFrom_16 : decode cX8_copyFrom 16 = .ok (.getfield 15, 3) := by decide +kernel
theorem dX8_copyFrom_19 : decode cX8_copyFrom 19 = .ok (.iconst 0, 1) := by decide +kernel
theorem dX8_copyFrom_20 : decode cX8_copyFrom 20 = .ok (.aload_n 0, 1) := by decide +kernel
theorem dX8_copyFrom_21 : decode cX8_copyFrom 21 = .ok (.getfield 15, 3) := by decide +kernel
theorem dX8_copyFrom_24 : decode cX8_copyFrom 24 = .ok (.iconst 0, 1) := by decide +kernel
theorem dX8_copyFrom_25 : decode cX8_copyFrom 25 = .ok (.bipush 24, 2) := by decide +kernel
theorem dX8_copyFrom_27 : decode cX8_copyFrom 27 = .ok (.invokestatic 41, 3) := by decide +kernel
theorem dX8_copyFrom_30 : decode cX8_copyFrom 30 = .ok (.aload_n 1, 1) := by decide +kernel
theorem dX8_copyFrom_31 : decode cX8_copyFrom 31 = .ok (.getfield 24, 3) := by decide +kernel
theorem dX8_copyFrom_34 : decode cX8_copyFrom 34 = .ok (.iconst 0, 1) := by decide +kernel
theorem dX8_copyFrom_35 : decode cX8_copyFrom 35 = .ok (.aload_n 0, 1) := by decide +kernel
theorem dX8_copyFrom_36 : decode cX8_copyFrom 36 = .ok (.getfield 24, 3) := by decide +kernel
theorem dX8_copyFrom_39 : decode cX8_copyFrom 39 = .ok (.iconst 0, 1) := by decide +kernel
theorem dX8_copyFrom_40 : decode cX8_copyFrom 40 = .ok (.bipush 24, 2) := by decide +kernel
theorem dX8_copyFrom_42 : decode cX8_copyFrom 42 = .ok (.invokestatic 41, 3) := by decide +kernel
theorem dX8_copyFrom_45 : decode cX8_copyFrom 45 = .ok (.aload_n 1, 1) := by decide +kernel
theorem dX8_copyFrom_46 : decode cX8_copyFrom 46 = .ok (.getfield 27, 3) := by decide +kernel
theorem dX8_copyFrom_49 : decode cX8_copyFrom 49 = .ok (.iconst 0, 1) := by decide +kernel
theorem dX8_copyFrom_50 : decode cX8_copyFrom 50 = .ok (.aload_n 0, 1) := by decide +kernel
theorem dX8_copyFrom_51 : decode cX8_copyFrom 51 = .ok (.getfield 27, 3) := by decide +kernel
theorem dX8_copyFrom_54 : decode cX8_copyFrom 54 = .ok (.iconst 0, 1) := by decide +kernel
theorem dX8_copyFrom_55 : decode cX8_copyFrom 55 = .ok (.sipush 576, 3) := by decide +kernel
theorem dX8_copyFrom_58 : decode cX8_copyFrom 58 = .ok (.invokestatic 41, 3) := by decide +kernel
theorem dX8_copyFrom_61 : decode cX8_copyFrom 61 = .ok (.aload_n 1, 1) := by decide +kernel
theorem dX8_copyFrom_62 : decode cX8_copyFrom 62 = .ok (.getfield 30, 3) := by decide +kernel
theorem dX8_copyFrom_65 : decode cX8_copyFrom 65 = .ok (.iconst 0, 1) := by decide +kernel
theorem dX8_copyFrom_66 : decode cX8_copyFrom 66 = .ok (.aload_n 0, 1) := by decide +kernel
theorem dX8_copyFrom_67 : decode cX8_copyFrom 67 = .ok (.getfield 30, 3) := by decide +kernel
theorem dX8_copyFrom_70 : decode cX8_copyFrom 70 = .ok (.iconst 0, 1) := by decide +kernel
theorem dX8_copyFrom_71 : decode cX8_copyFrom 71 = .ok (.bipush 24, 2) := by decide +kernel
theorem dX8_copyFrom_73 : decode cX8_copyFrom 73 = .ok (.invokestatic 41, 3) := by decide +kernel
theorem dX8_copyFrom_76 : decode cX8_copyFrom 76 = .ok (.aload_n 0, 1) := by decide +kernel
theorem dX8_copyFrom_77 : decode cX8_copyFrom 77 = .ok (.aload_n 1, 1) := by decide +kernel
theorem dX8_copyFrom_78 : decode cX8_copyFrom 78 = .ok (.getfield 47, 3) := by decide +kernel
theorem dX8_copyFrom_81 : decode cX8_copyFrom 81 = .ok (.putfield 47, 3) := by decide +kernel
theorem dX8_copyFrom_84 : decode cX8_copyFrom 84 = .ok (.aload_n 0, 1) := by decide +kernel
theorem dX8_copyFrom_85 : decode cX8_copyFrom 85 = .ok (.aload_n 1, 1) := by decide +kernel
theorem dX8_copyFrom_86 : decode cX8_copyFrom 86 = .ok (.getfield 34, 3) := by decide +kernel
theorem dX8_copyFrom_89 : decode cX8_copyFrom 89 = .ok (.putfield 34, 3) := by decide +kernel
theorem dX8_copyFrom_92 : decode cX8_copyFrom 92 = .ok (.aload_n 0, 1) := by decide +kernel
theorem dX8_copyFrom_93 : decode cX8_copyFrom 93 = .ok (.aload_n 1, 1) := by decide +kernel
theorem dX8_copyFrom_94 : decode cX8_copyFrom 94 = .ok (.getfield 50, 3) := by decide +kernel
theorem dX8_copyFrom_97 : decode cX8_copyFrom 97 = .ok (.putfield 50, 3) := by decide +kernel
theorem dX8_copyFrom_100 : decode cX8_copyFrom 100 = .ok (.aload_n 0, 1) := by decide +kernel
theorem dX8_copyFrom_101 : decode cX8_copyFrom 101 = .ok (.aload_n 1, 1) := by decide +kernel
theorem dX8_copyFrom_102 : decode cX8_copyFrom 102 = .ok (.getfield 53, 3) := by decide +kernel
theorem dX8_copyFrom_105 : decode cX8_copyFrom 105 = .ok (.putfield 53, 3) := by decide +kernel
theorem dX8_copyFrom_108 : decode cX8_copyFrom 108 = .ok (.aload_n 0, 1) := by decide +kernel
theorem dX8_copyFrom_109 : decode cX8_copyFrom 109 = .ok (.aload_n 1, 1) := by decide +kernel
theorem dX8_copyFrom_110 : decode cX8_copyFrom 110 = .ok (.getfield 38, 3) := by decide +kernel
theorem dX8_copyFrom_113 : decode cX8_copyFrom 113 = .ok (.putfield 38, 3) := by decide +kernel
theorem dX8_copyFrom_116 : decode cX8_copyFrom 116 = .ok (.return_, 1) := by decide +kernel
theorem dX8_hasGuest_0 : decode cX8_hasGuest 0 = .ok (.iload_n 1, 1) := by decide +kernel
theorem dX8_hasGuest_1 : decode cX8_hasGuest 1 = .ok (.invokestatic 56, 3) := by decide +kernel
theorem dX8_hasGuest_4 : decode cX8_hasGuest 4 = .ok (.ifCond .eq 19, 3) := by decide +kernel
theorem dX8_hasGuest_7 : decode cX8_hasGuest 7 = .ok (.aload_n 0, 1) := by decide +kernel
theorem dX8_hasGuest_8 : decode cX8_hasGuest 8 = .ok (.getfield 47, 3) := by decide +kernel
theorem dX8_hasGuest_11 : decode cX8_hasGuest 11 = .ok (.iload_n 1, 1) := by decide +kernel
theorem dX8_hasGuest_12 : decode cX8_hasGuest 12 = .ok (.ishr, 1) := by decide +kernel
theorem dX8_hasGuest_13 : decode cX8_hasGuest 13 = .ok (.iconst 1, 1) := by decide +kernel
theorem dX8_hasGuest_14 : decode cX8_hasGuest 14 = .ok (.iand, 1) := by decide +kernel
theorem dX8_hasGuest_15 : decode cX8_hasGuest 15 = .ok (.iconst 1, 1) := by decide +kernel
theorem dX8_hasGuest_16 : decode cX8_hasGuest 16 = .ok (.if_icmp .ne 7, 3) := by decide +kernel
theorem dX8_hasGuest_19 : decode cX8_hasGuest 19 = .ok (.iconst 1, 1) := by decide +kernel
theorem dX8_hasGuest_20 : decode cX8_hasGuest 20 = .ok (.goto 4, 3) := by decide +kernel
theorem dX8_hasGuest_23 : decode cX8_hasGuest 23 = .ok (.iconst 0, 1) := by decide +kernel
theorem dX8_hasGuest_24 : decode cX8_hasGuest 24 = .ok (.ireturn, 1) := by decide +kernel
theorem dX8_isOpen_0 : decode cX8_isOpen 0 = .ok (.iload_n 1, 1) := by decide +kernel
theorem dX8_isOpen_1 : decode cX8_isOpen 1 = .ok (.invokestatic 56, 3) := by decide +kernel
theorem dX8_isOpen_4 : decode cX8_isOpen 4 = .ok (.ifCond .eq 19, 3) := by decide +kernel
theorem dX8_isOpen_7 : decode cX8_isOpen 7 = .ok (.aload_n 0, 1) := by decide +kernel
theorem dX8_isOpen_8 : decode cX8_isOpen 8 = .ok (.getfield 34, 3) := by decide +kernel
theorem dX8_isOpen_11 : decode cX8_isOpen 11 = .ok (.iload_n 1, 1) := by decide +kernel
theorem dX8_isOpen_12 : decode cX8_isOpen 12 = .ok (.ishr, 1) := by decide +kernel
theorem dX8_isOpen_13 : decode cX8_isOpen 13 = .ok (.iconst 1, 1) := by decide +kernel
theorem dX8_isOpen_14 : decode cX8_isOpen 14 = .ok (.iand, 1) := by decide +kernel
theorem dX8_isOpen_15 : decode cX8_isOpen 15 = .ok (.iconst 1, 1) := by decide +kernel
theorem dX8_isOpen_16 : decode cX8_isOpen 16 = .ok (.if_icmp .ne 7, 3) := by decide +kernel
theorem dX8_isOpen_19 : decode cX8_isOpen 19 = .ok (.iconst 1, 1) := by decide +kernel
theorem dX8_isOpen_20 : decode cX8_isOpen 20 = .ok (.goto 4, 3) := by decide +kernel
theorem dX8_isOpen_23 : decode cX8_isOpen 23 = .ok (.iconst 0, 1) := by decide +kernel
theorem dX8_isOpen_24 : decode cX8_isOpen 24 = .ok (.ireturn, 1) := by decide +kernel
theorem dX8_takesPart_0 : decode cX8_takesPart 0 = .ok (.iload_n 1, 1) := by decide +kernel
theorem dX8_takesPart_1 : decode cX8_takesPart 1 = .ok (.invokestatic 56, 3) := by decide +kernel
theorem dX8_takesPart_4 : decode cX8_takesPart 4 = .ok (.ifCond .eq 23, 3) := by decide +kernel
theorem dX8_takesPart_7 : decode cX8_takesPart 7 = .ok (.aload_n 0, 1) := by decide +kernel
theorem dX8_takesPart_8 : decode cX8_takesPart 8 = .ok (.getfield 47, 3) := by decide +kernel
theorem dX8_takesPart_11 : decode cX8_takesPart 11 = .ok (.aload_n 0, 1) := by decide +kernel
theorem dX8_takesPart_12 : decode cX8_takesPart 12 = .ok (.getfield 34, 3) := by decide +kernel
theorem dX8_takesPart_15 : decode cX8_takesPart 15 = .ok (.iand, 1) := by decide +kernel
theorem dX8_takesPart_16 : decode cX8_takesPart 16 = .ok (.iconst 1, 1) := by decide +kernel
theorem dX8_takesPart_17 : decode cX8_takesPart 17 = .ok (.iload_n 1, 1) := by decide +kernel
theorem dX8_takesPart_18 : decode cX8_takesPart 18 = .ok (.ishl, 1) := by decide +kernel
theorem dX8_takesPart_19 : decode cX8_takesPart 19 = .ok (.iand, 1) := by decide +kernel
theorem dX8_takesPart_20 : decode cX8_takesPart 20 = .ok (.ifCond .eq 7, 3) := by decide +kernel
theorem dX8_takesPart_23 : decode cX8_takesPart 23 = .ok (.iconst 1, 1) := by decide +kernel
theorem dX8_takesPart_24 : decode cX8_takesPart 24 = .ok (.goto 4, 3) := by decide +kernel
theorem dX8_takesPart_27 : decode cX8_takesPart 27 = .ok (.iconst 0, 1) := by decide +kernel
theorem dX8_takesPart_28 : decode cX8_takesPart 28 = .ok (.ireturn, 1) := by decide +kernel
theorem dX8_feelsOf_0 : decode cX8_feelsOf 0 = .ok (.iload_n 1, 1) := by decide +kernel
theorem dX8_feelsOf_1 : decode cX8_feelsOf 1 = .ok (.invokestatic 56, 3) := by decide +kernel
theorem dX8_feelsOf_4 : decode cX8_feelsOf 4 = .ok (.ifCond .eq 24, 3) := by decide +kernel
theorem dX8_feelsOf_7 : decode cX8_feelsOf 7 = .ok (.iload_n 2, 1) := by decide +kernel
theorem dX8_feelsOf_8 : decode cX8_feelsOf 8 = .ok (.invokestatic 56, 3) := by decide +kernel
theorem dX8_feelsOf_11 : decode cX8_feelsOf 11 = .ok (.ifCond .eq 17, 3) := by decide +kernel
theorem dX8_feelsOf_14 : decode cX8_feelsOf 14 = .ok (.aload_n 0, 1) := by decide +kernel
theorem dX8_feelsOf_15 : decode cX8_feelsOf 15 = .ok (.getfield 27, 3) := by decide +kernel
theorem dX8_feelsOf_18 : decode cX8_feelsOf 18 = .ok (.iload_n 1, 1) := by decide +kernel
theorem dX8_feelsOf_19 : decode cX8_feelsOf 19 = .ok (.bipush 24, 2) := by decide +kernel
theorem dX8_feelsOf_21 : decode cX8_feelsOf 21 = .ok (.imul, 1) := by decide +kernel
theorem dX8_feelsOf_22 : decode cX8_feelsOf 22 = .ok (.iload_n 2, 1) := by decide +kernel
theorem dX8_feelsOf_23 : decode cX8_feelsOf 23 = .ok (.iadd, 1) := by decide +kernel
theorem dX8_feelsOf_24 : decode cX8_feelsOf 24 = .ok (.iaload, 1) := by decide +kernel
theorem dX8_feelsOf_25 : decode cX8_feelsOf 25 = .ok (.goto 4, 3) := by decide +kernel
theorem dX8_feelsOf_28 : decode cX8_feelsOf 28 = .ok (.iconst 0, 1) := by decide +kernel
theorem dX8_feelsOf_29 : decode cX8_feelsOf 29 = .ok (.ireturn, 1) := by decide +kernel
theorem dX8_mostFeltBy_0 : decode cX8_mostFeltBy 0 = .ok (.iconst 0, 1) := by decide +kernel
theorem dX8_mostFeltBy_1 : decode cX8_mostFeltBy 1 = .ok (.istore_n 2, 1) := by decide +kernel
theorem dX8_mostFeltBy_2 : decode cX8_mostFeltBy 2 = .ok (.iconst 1, 1) := by decide +kernel
theorem dX8_mostFeltBy_3 : decode cX8_mostFeltBy 3 = .ok (.istore_n 3, 1) := by decide +kernel
theorem dX8_mostFeltBy_4 : decode cX8_mostFeltBy 4 = .ok (.iload_n 3, 1) := by decide +kernel
theorem dX8_mostFeltBy_5 : decode cX8_mostFeltBy 5 = .ok (.bipush 24, 2) := by decide +kernel
theorem dX8_mostFeltBy_7 : decode cX8_mostFeltBy 7 = .ok (.if_icmp .ge 26, 3) := by decide +kernel
theorem dX8_mostFeltBy_10 : decode cX8_mostFeltBy 10 = .ok (.aload_n 0, 1) := by decide +kernel
theorem dX8_mostFeltBy_11 : decode cX8_mostFeltBy 11 = .ok (.iload_n 1, 1) := by decide +kernel
theorem dX8_mostFeltBy_12 : decode cX8_mostFeltBy 12 = .ok (.iload_n 3, 1) := by decide +kernel
theorem dX8_mostFeltBy_13 : decode cX8_mostFeltBy 13 = .ok (.invokevirtual 60, 3) := by decide +kernel
theorem dX8_mostFeltBy_16 : decode cX8_mostFeltBy 16 = .ok (.aload_n 0, 1) := by decide +kernel
theorem dX8_mostFeltBy_17 : decode cX8_mostFeltBy 17 = .ok (.iload_n 1, 1) := by decide +kernel
theorem dX8_mostFeltBy_18 : decode cX8_mostFeltBy 18 = .ok (.iload_n 2, 1) := by decide +kernel
theorem dX8_mostFeltBy_19 : decode cX8_mostFeltBy 19 = .ok (.invokevirtual 60, 3) := by decide +kernel
theorem dX8_mostFeltBy_22 : decode cX8_mostFeltBy 22 = .ok (.if_icmp .le 5, 3) := by decide +kernel
theorem dX8_mostFeltBy_25 : decode cX8_mostFeltBy 25 = .ok (.iload_n 3, 1) := by decide +kernel
theorem dX8_mostFeltBy_26 : decode cX8_mostFeltBy 26 = .ok (.istore_n 2, 1) := by decide +kernel
theorem dX8_mostFeltBy_27 : decode cX8_mostFeltBy 27 = .ok (.iinc 3 1, 3) := by decide +kernel
theorem dX8_mostFeltBy_30 : decode cX8_mostFeltBy 30 = .ok (.goto (-26), 3) := by decide +kernel
theorem dX8_mostFeltBy_33 : decode cX8_mostFeltBy 33 = .ok (.iload_n 2, 1) := by decide +kernel
theorem dX8_mostFeltBy_34 : decode cX8_mostFeltBy 34 = .ok (.ireturn, 1) := by decide +kernel
theorem dX8_takeIn_0 : decode cX8_takeIn 0 = .ok (.iload_n 1, 1) := by decide +kernel
theorem dX8_takeIn_1 : decode cX8_takeIn 1 = .ok (.invokestatic 56, 3) := by decide +kernel
theorem dX8_takeIn_4 : decode cX8_takeIn 4 = .ok (.ifCond .eq 27, 3) := by decide +kernel
theorem dX8_takeIn_7 : decode cX8_takeIn 7 = .ok (.aload_n 0, 1) := by decide +kernel
theorem dX8_takeIn_8 : decode cX8_takeIn 8 = .ok (.dup, 1) := by decide +kernel
theorem dX8_takeIn_9 : decode cX8_takeIn 9 = .ok (.getfield 47, 3) := by decide +kernel
theorem dX8_takeIn_12 : decode cX8_takeIn 12 = .ok (.iconst 1, 1) := by decide +kernel
theorem dX8_takeIn_13 : decode cX8_takeIn 13 = .ok (.iload_n 1, 1) := by decide +kernel
theorem dX8_takeIn_14 : decode cX8_takeIn 14 = .ok (.ishl, 1) := by decide +kernel
theorem dX8_takeIn_15 : decode cX8_takeIn 15 = .ok (.ior, 1) := by decide +kernel
theorem dX8_takeIn_16 : decode cX8_takeIn 16 = .ok (.putfield 47, 3) := by decide +kernel
theorem dX8_takeIn_19 : decode cX8_takeIn 19 = .ok (.aload_n 0, 1) := by decide +kernel
theorem dX8_takeIn_20 : decode cX8_takeIn 20 = .ok (.getfield 9, 3) := by decide +kernel
theorem dX8_takeIn_23 : decode cX8_takeIn 23 = .ok (.iload_n 1, 1) := by decide +kernel
theorem dX8_takeIn_24 : decode cX8_takeIn 24 = .ok (.iload_n 2, 1) := by decide +kernel
theorem dX8_takeIn_25 : decode cX8_takeIn 25 = .ok (.iastore, 1) := by decide +kernel
theorem dX8_takeIn_26 : decode cX8_takeIn 26 = .ok (.aload_n 0, 1) := by decide +kernel
theorem dX8_takeIn_27 : decode cX8_takeIn 27 = .ok (.iload_n 1, 1) := by decide +kernel
theorem dX8_takeIn_28 : decode cX8_takeIn 28 = .ok (.invokevirtual 64, 3) := by decide +kernel
theorem dX8_takeIn_31 : decode cX8_takeIn 31 = .ok (.return_, 1) := by decide +kernel
theorem dX8_sendAway_0 : decode cX8_sendAway 0 = .ok (.iload_n 1, 1) := by decide +kernel
theorem dX8_sendAway_1 : decode cX8_sendAway 1 = .ok (.invokestatic 56, 3) := by decide +kernel
theorem dX8_sendAway_4 : decode cX8_sendAway 4 = .ok (.ifCond .eq 29, 3) := by decide +kernel
theorem dX8_sendAway_7 : decode cX8_sendAway 7 = .ok (.aload_n 0, 1) := by decide +kernel
theorem dX8_sendAway_8 : decode cX8_sendAway 8 = .ok (.dup, 1) := by decide +kernel
theorem dX8_sendAway_9 : decode cX8_sendAway 9 = .ok (.getfield 47, 3) := by decide +kernel
theorem dX8_sendAway_12 : decode cX8_sendAway 12 = .ok (.iconst 1, 1) := by decide +kernel
theorem dX8_sendAway_13 : decode cX8_sendAway 13 = .ok (.iload_n 1, 1) := by decide +kernel
theorem dX8_sendAway_14 : decode cX8_sendAway 14 = .ok (.ishl, 1) := by decide +kernel
theorem dX8_sendAway_15 : decode cX8_sendAway 15 = .ok (.iconst (-1), 1) := by decide +kernel
theorem dX8_sendAway_16 : decode cX8_sendAway 16 = .ok (.ixor, 1) := by decide +kernel
theorem dX8_sendAway_17 : decode cX8_sendAway 17 = .ok (.iand, 1) := by decide +kernel
theorem dX8_sendAway_18 : decode cX8_sendAway 18 = .ok (.putfield 47, 3) := by decide +kernel
theorem dX8_sendAway_21 : decode cX8_sendAway 21 = .ok (.aload_n 0, 1) := by decide +kernel
theorem dX8_sendAway_22 : decode cX8_sendAway 22 = .ok (.getfield 9, 3) := by decide +kernel
theorem dX8_sendAway_25 : decode cX8_sendAway 25 = .ok (.iload_n 1, 1) := by decide +kernel
theorem dX8_sendAway_26 : decode cX8_sendAway 26 = .ok (.iconst 0, 1) := by decide +kernel
theorem dX8_sendAway_27 : decode cX8_sendAway 27 = .ok (.iastore, 1) := by decide +kernel
theorem dX8_sendAway_28 : decode cX8_sendAway 28 = .ok (.aload_n 0, 1) := by decide +kernel
theorem dX8_sendAway_29 : decode cX8_sendAway 29 = .ok (.iload_n 1, 1) := by decide +kernel
theorem dX8_sendAway_30 : decode cX8_sendAway 30 = .ok (.invokevirtual 64, 3) := by decide +kernel
theorem dX8_sendAway_33 : decode cX8_sendAway 33 = .ok (.return_, 1) := by decide +kernel
theorem dX8_setGrille_0 : decode cX8_setGrille 0 = .ok (.iload_n 1, 1) := by decide +kernel
theorem dX8_setGrille_1 : decode cX8_setGrille 1 = .ok (.invokestatic 56, 3) := by decide +kernel
theorem dX8_setGrille_4 : decode cX8_setGrille 4 = .ok (.ifCond .eq 32, 3) := by decide +kernel
theorem dX8_setGrille_7 : decode cX8_setGrille 7 = .ok (.aload_n 0, 1) := by decide +kernel
theorem dX8_setGrille_8 : decode cX8_setGrille 8 = .ok (.iload_n 2, 1) := by decide +kernel
theorem dX8_setGrille_9 : decode cX8_setGrille 9 = .ok (.ifCond .eq 14, 3) := by decide +kernel
theorem dX8_setGrille_12 : decode cX8_setGrille 12 = .ok (.aload_n 0, 1) := by decide +kernel
theorem dX8_setGrille_13 : decode cX8_setGrille 13 = .ok (.getfield 34, 3) := by decide +kernel
theorem dX8_setGrille_16 : decode cX8_setGrille 16 = .ok (.iconst 1, 1) := by decide +kernel
theorem dX8_setGrille_17 : decode cX8_setGrille 17 = .ok (.iload_n 1, 1) := by decide +kernel
theorem dX8_setGrille_18 : decode cX8_setGrille 18 = .ok (.ishl, 1) := by decide +kernel
theorem dX8_setGrille_19 : decode cX8_setGrille 19 = .ok (.ior, 1) := by decide +kernel
theorem dX8_setGrille_20 : decode cX8_setGrille 20 = .ok (.goto 13, 3) := by decide +kernel
theorem dX8_setGrille_23 : decode cX8_setGrille 23 = .ok (.aload_n 0, 1) := by decide +kernel
theorem dX8_setGrille_24 : decode cX8_setGrille 24 = .ok (.getfield 34, 3) := by decide +kernel
theorem dX8_setGrille_27 : decode cX8_setGrille 27 = .ok (.iconst 1, 1) := by decide +kernel
theorem dX8_setGrille_28 : decode cX8_setGrille 28 = .ok (.iload_n 1, 1) := by decide +kernel
theorem dX8_setGrille_29 : decode cX8_setGrille 29 = .ok (.ishl, 1) := by decide +kernel
theorem dX8_setGrille_30 : decode cX8_setGrille 30 = .ok (.iconst (-1), 1) := by decide +kernel
theorem dX8_setGrille_31 : decode cX8_setGrille 31 = .ok (.ixor, 1) := by decide +kernel
theorem dX8_setGrille_32 : decode cX8_setGrille 32 = .ok (.iand, 1) := by decide +kernel
theorem dX8_setGrille_33 : decode cX8_setGrille 33 = .ok (.putfield 34, 3) := by decide +kernel
theorem dX8_setGrille_36 : decode cX8_setGrille 36 = .ok (.return_, 1) := by decide +kernel
theorem dX8_setLouvre_0 : decode cX8_setLouvre 0 = .ok (.iload_n 1, 1) := by decide +kernel
theorem dX8_setLouvre_1 : decode cX8_setLouvre 1 = .ok (.invokestatic 56, 3) := by decide +kernel
theorem dX8_setLouvre_4 : decode cX8_setLouvre 4 = .ok (.ifCond .eq 10, 3) := by decide +kernel
theorem dX8_setLouvre_7 : decode cX8_setLouvre 7 = .ok (.aload_n 0, 1) := by decide +kernel
theorem dX8_setLouvre_8 : decode cX8_setLouvre 8 = .ok (.getfield 15, 3) := by decide +kernel
theorem dX8_setLouvre_11 : decode cX8_setLouvre 11 = .ok (.iload_n 1, 1) := by decide +kernel
theorem dX8_setLouvre_12 : decode cX8_setLouvre 12 = .ok (.iload_n 2, 1) := by decide +kernel
theorem dX8_setLouvre_13 : decode cX8_setLouvre 13 = .ok (.iastore, 1) := by decide +kernel
theorem dX8_setLouvre_14 : decode cX8_setLouvre 14 = .ok (.return_, 1) := by decide +kernel
theorem dX8_exchange_0 : decode cX8_exchange 0 = .ok (.iload_n 1, 1) := by decide +kernel
theorem dX8_exchange_1 : decode cX8_exchange 1 = .ok (.invokestatic 56, 3) := by decide +kernel
theorem dX8_exchange_4 : decode cX8_exchange 4 = .ok (.ifCond .eq 10, 3) := by decide +kernel
theorem dX8_exchange_7 : decode cX8_exchange 7 = .ok (.iload_n 2, 1) := by decide +kernel
theorem dX8_exchange_8 : decode cX8_exchange 8 = .ok (.invokestatic 56, 3) := by decide +kernel
theorem dX8_exchange_11 : decode cX8_exchange 11 = .ok (.ifCond .ne 4, 3) := by decide +kernel
theorem dX8_exchange_14 : decode cX8_exchange 14 = .ok (.return_, 1) := by decide +kernel
theorem dX8_exchange_15 : decode cX8_exchange 15 = .ok (.aload_n 0, 1) := by decide +kernel
theorem dX8_exchange_16 : decode cX8_exchange 16 = .ok (.iload_n 1, 1) := by decide +kernel
theorem dX8_exchange_17 : decode cX8_exchange 17 = .ok (.invokevirtual 68, 3) := by decide +kernel
theorem dX8_exchange_20 : decode cX8_exchange 20 = .ok (.aload_n 0, 1) := by decide +kernel
theorem dX8_exchange_21 : decode cX8_exchange 21 = .ok (.iload_n 2, 1) := by decide +kernel
theorem dX8_exchange_22 : decode cX8_exchange 22 = .ok (.invokevirtual 68, 3) := by decide +kernel
theorem dX8_exchange_25 : decode cX8_exchange 25 = .ok (.if_icmp .eq 19, 3) := by decide +kernel
theorem dX8_exchange_28 : decode cX8_exchange 28 = .ok (.aload_n 0, 1) := by decide +kernel
theorem dX8_exchange_29 : decode cX8_exchange 29 = .ok (.dup, 1) := by decide +kernel
theorem dX8_exchange_30 : decode cX8_exchange 30 = .ok (.getfield 47, 3) := by decide +kernel
theorem dX8_exchange_33 : decode cX8_exchange 33 = .ok (.iconst 1, 1) := by decide +kernel
theorem dX8_exchange_34 : decode cX8_exchange 34 = .ok (.iload_n 1, 1) := by decide +kernel
theorem dX8_exchange_35 : decode cX8_exchange 35 = .ok (.ishl, 1) := by decide +kernel
theorem dX8_exchange_36 : decode cX8_exchange 36 = .ok (.iconst 1, 1) := by decide +kernel
theorem dX8_exchange_37 : decode cX8_exchange 37 = .ok (.iload_n 2, 1) := by decide +kernel
theorem dX8_exchange_38 : decode cX8_exchange 38 = .ok (.ishl, 1) := by decide +kernel
theorem dX8_exchange_39 : decode cX8_exchange 39 = .ok (.ior, 1) := by decide +kernel
theorem dX8_exchange_40 : decode cX8_exchange 40 = .ok (.ixor, 1) := by decide +kernel
theorem dX8_exchange_41 : decode cX8_exchange 41 = .ok (.putfield 47, 3) := by decide +kernel
theorem dX8_exchange_44 : decode cX8_exchange 44 = .ok (.aload_n 0, 1) := by decide +kernel
theorem dX8_exchange_45 : decode cX8_exchange 45 = .ok (.getfield 9, 3) := by decide +kernel
theorem dX8_exchange_48 : decode cX8_exchange 48 = .ok (.iload_n 1, 1) := by decide +kernel
theorem dX8_exchange_49 : decode cX8_exchange 49 = .ok (.iload_n 2, 1) := by decide +kernel
theorem dX8_exchange_50 : decode cX8_exchange 50 = .ok (.invokestatic 71, 3) := by decide +kernel
theorem dX8_exchange_53 : decode cX8_exchange 53 = .ok (.aload_n 0, 1) := by decide +kernel
theorem dX8_exchange_54 : decode cX8_exchange 54 = .ok (.getfield 30, 3) := by decide +kernel
theorem dX8_exchange_57 : decode cX8_exchange 57 = .ok (.iload_n 1, 1) := by decide +kernel
theorem dX8_exchange_58 : decode cX8_exchange 58 = .ok (.iload_n 2, 1) := by decide +kernel
theorem dX8_exchange_59 : decode cX8_exchange 59 = .ok (.invokestatic 71, 3) := by decide +kernel
theorem dX8_exchange_62 : decode cX8_exchange 62 = .ok (.iconst 0, 1) := by decide +kernel
theorem dX8_exchange_63 : decode cX8_exchange 63 = .ok (.istore_n 3, 1) := by decide +kernel
theorem dX8_exchange_64 : decode cX8_exchange 64 = .ok (.iload_n 3, 1) := by decide +kernel
theorem dX8_exchange_65 : decode cX8_exchange 65 = .ok (.bipush 24, 2) := by decide +kernel
theorem dX8_exchange_67 : decode cX8_exchange 67 = .ok (.if_icmp .ge 28, 3) := by decide +kernel
theorem dX8_exchange_70 : decode cX8_exchange 70 = .ok (.aload_n 0, 1) := by decide +kernel
theorem dX8_exchange_71 : decode cX8_exchange 71 = .ok (.getfield 27, 3) := by decide +kernel
theorem dX8_exchange_74 : decode cX8_exchange 74 = .ok (.iload_n 1, 1) := by decide +kernel
theorem dX8_exchange_75 : decode cX8_exchange 75 = .ok (.bipush 24, 2) := by decide +kernel
theorem dX8_exchange_77 : decode cX8_exchange 77 = .ok (.imul, 1) := by decide +kernel
theorem dX8_exchange_78 : decode cX8_exchange 78 = .ok (.iload_n 3, 1) := by decide +kernel
theorem dX8_exchange_79 : decode cX8_exchange 79 = .ok (.iadd, 1) := by decide +kernel
theorem dX8_exchange_80 : decode cX8_exchange 80 = .ok (.iload_n 2, 1) := by decide +kernel
theorem dX8_exchange_81 : decode cX8_exchange 81 = .ok (.bipush 24, 2) := by decide +kernel
theorem dX8_exchange_83 : decode cX8_exchange 83 = .ok (.imul, 1) := by decide +kernel
theorem dX8_exchange_84 : decode cX8_exchange 84 = .ok (.iload_n 3, 1) := by decide +kernel
theorem dX8_exchange_85 : decode cX8_exchange 85 = .ok (.iadd, 1) := by decide +kernel
theorem dX8_exchange_86 : decode cX8_exchange 86 = .ok (.invokestatic 71, 3) := by decide +kernel
theorem dX8_exchange_89 : decode cX8_exchange 89 = .ok (.iinc 3 1, 3) := by decide +kernel
theorem dX8_exchange_92 : decode cX8_exchange 92 = .ok (.goto (-28), 3) := by decide +kernel
theorem dX8_exchange_95 : decode cX8_exchange 95 = .ok (.return_, 1) := by decide +kernel
theorem dX8_addGrease_0 : decode cX8_addGrease 0 = .ok (.iload_n 1, 1) := by decide +kernel
theorem dX8_addGrease_1 : decode cX8_addGrease 1 = .ok (.invokestatic 56, 3) := by decide +kernel
theorem dX8_addGrease_4 : decode cX8_addGrease 4 = .ok (.ifCond .eq 22, 3) := by decide +kernel
theorem dX8_addGrease_7 : decode cX8_addGrease 7 = .ok (.aload_n 0, 1) := by decide +kernel
theorem dX8_addGrease_8 : decode cX8_addGrease 8 = .ok (.getfield 24, 3) := by decide +kernel
theorem dX8_addGrease_11 : decode cX8_addGrease 11 = .ok (.iload_n 1, 1) := by decide +kernel
theorem dX8_addGrease_12 : decode cX8_addGrease 12 = .ok (.ldc 75, 2) := by decide +kernel
theorem dX8_addGrease_14 : decode cX8_addGrease 14 = .ok (.aload_n 0, 1) := by decide +kernel
theorem dX8_addGrease_15 : decode cX8_addGrease 15 = .ok (.getfield 24, 3) := by decide +kernel
theorem dX8_addGrease_18 : decode cX8_addGrease 18 = .ok (.iload_n 1, 1) := by decide +kernel
theorem dX8_addGrease_19 : decode cX8_addGrease 19 = .ok (.iaload, 1) := by decide +kernel
theorem dX8_addGrease_20 : decode cX8_addGrease 20 = .ok (.iload_n 2, 1) := by decide +kernel
theorem dX8_addGrease_21 : decode cX8_addGrease 21 = .ok (.iadd, 1) := by decide +kernel
theorem dX8_addGrease_22 : decode cX8_addGrease 22 = .ok (.invokestatic 76, 3) := by decide +kernel
theorem dX8_addGrease_25 : decode cX8_addGrease 25 = .ok (.iastore, 1) := by decide +kernel
theorem dX8_addGrease_26 : decode cX8_addGrease 26 = .ok (.return_, 1) := by decide +kernel
theorem dX8_addFelt_0 : decode cX8_addFelt 0 = .ok (.iload_n 1, 1) := by decide +kernel
theorem dX8_addFelt_1 : decode cX8_addFelt 1 = .ok (.invokestatic 56, 3) := by decide +kernel
theorem dX8_addFelt_4 : decode cX8_addFelt 4 = .ok (.ifCond .eq 61, 3) := by decide +kernel
theorem dX8_addFelt_7 : decode cX8_addFelt 7 = .ok (.iload_n 2, 1) := by decide +kernel
theorem dX8_addFelt_8 : decode cX8_addFelt 8 = .ok (.invokestatic 56, 3) := by decide +kernel
theorem dX8_addFelt_11 : decode cX8_addFelt 11 = .ok (.ifCond .eq 54, 3) := by decide +kernel
theorem dX8_addFelt_14 : decode cX8_addFelt 14 = .ok (.aload_n 0, 1) := by decide +kernel
theorem dX8_addFelt_15 : decode cX8_addFelt 15 = .ok (.getfield 27, 3) := by decide +kernel
theorem dX8_addFelt_18 : decode cX8_addFelt 18 = .ok (.iload_n 1, 1) := by decide +kernel
theorem dX8_addFelt_19 : decode cX8_addFelt 19 = .ok (.bipush 24, 2) := by decide +kernel
theorem dX8_addFelt_21 : decode cX8_addFelt 21 = .ok (.imul, 1) := by decide +kernel
theorem dX8_addFelt_22 : decode cX8_addFelt 22 = .ok (.iload_n 2, 1) := by decide +kernel
theorem dX8_addFelt_23 : decode cX8_addFelt 23 = .ok (.iadd, 1) := by decide +kernel
theorem dX8_addFelt_24 : decode cX8_addFelt 24 = .ok (.iaload, 1) := by decide +kernel
theorem dX8_addFelt_25 : decode cX8_addFelt 25 = .ok (.istore 4, 2) := by decide +kernel
theorem dX8_addFelt_27 : decode cX8_addFelt 27 = .ok (.ldc 75, 2) := by decide +kernel
theorem dX8_addFelt_29 : decode cX8_addFelt 29 = .ok (.iload 4, 2) := by decide +kernel
theorem dX8_addFelt_31 : decode cX8_addFelt 31 = .ok (.iload_n 3, 1) := by decide +kernel
theorem dX8_addFelt_32 : decode cX8_addFelt 32 = .ok (.iadd, 1) := by decide +kernel
theorem dX8_addFelt_33 : decode cX8_addFelt 33 = .ok (.invokestatic 76, 3) := by decide +kernel
theorem dX8_addFelt_36 : decode cX8_addFelt 36 = .ok (.istore 5, 2) := by decide +kernel
theorem dX8_addFelt_38 : decode cX8_addFelt 38 = .ok (.aload_n 0, 1) := by decide +kernel
theorem dX8_addFelt_39 : decode cX8_addFelt 39 = .ok (.getfield 27, 3) := by decide +kernel
theorem dX8_addFelt_42 : decode cX8_addFelt 42 = .ok (.iload_n 1, 1) := by decide +kernel
theorem dX8_addFelt_43 : decode cX8_addFelt 43 = .ok (.bipush 24, 2) := by decide +kernel
theorem dX8_addFelt_45 : decode cX8_addFelt 45 = .ok (.imul, 1) := by decide +kernel
theorem dX8_addFelt_46 : decode cX8_addFelt 46 = .ok (.iload_n 2, 1) := by decide +kernel
theorem dX8_addFelt_47 : decode cX8_addFelt 47 = .ok (.iadd, 1) := by decide +kernel
theorem dX8_addFelt_48 : decode cX8_addFelt 48 = .ok (.iload 5, 2) := by decide +kernel
theorem dX8_addFelt_50 : decode cX8_addFelt 50 = .ok (.iastore, 1) := by decide +kernel
theorem dX8_addFelt_51 : decode cX8_addFelt 51 = .ok (.aload_n 0, 1) := by decide +kernel
theorem dX8_addFelt_52 : decode cX8_addFelt 52 = .ok (.getfield 30, 3) := by decide +kernel
theorem dX8_addFelt_55 : decode cX8_addFelt 55 = .ok (.iload_n 1, 1) := by decide +kernel
theorem dX8_addFelt_56 : decode cX8_addFelt 56 = .ok (.dup2, 1) := by decide +kernel
