theorem dX12_mayCross_82 : decode cX12_mayCross 82 = .ok (.iaload, 1) := by decide +kernel
theorem dX12_mayCross_83 : decode cX12_mayCross 83 = .ok (.if_icmp .gt 15, 3) := by decide +kernel
theorem dX12_mayCross_86 : decode cX12_mayCross 86 = .ok (.iload 10, 2) := by decide +kernel
theorem dX12_mayCross_88 : decode cX12_mayCross 88 = .ok (.iload 9, 2) := by decide +kernel
theorem dX12_mayCross_90 : decode cX12_mayCross 90 = .ok (.if_icmp .lt 8, 3) := by decide +kernel
theorem dX12_mayCross_93 : decode cX12_mayCross 93 = .ok (.iload 10, 2) := by decide +kernel
theorem dX12_mayCross_95 : decode cX12_mayCross 95 = .ok (.ifCond .ne 5, 3) := by decide +kernel
theorem dX12_mayCross_98 : decode cX12_mayCross 98 = .ok (.iconst 0, 1) := by decide +kernel
theorem dX12_mayCross_99 : decode cX12_mayCross 99 = .ok (.ireturn, 1) := by decide +kernel
theorem dX12_mayCross_100 : decode cX12_mayCross 100 = .ok (.iconst 0, 1) := by decide +kernel
theorem dX12_mayCross_101 : decode cX12_mayCross 101 = .ok (.istore 11, 2) := by decide +kernel
theorem dX12_mayCross_103 : decode cX12_mayCross 103 = .ok (.iload 11, 2) := by decide +kernel
theorem dX12_mayCross_105 : decode cX12_mayCross 105 = .ok (.aload_n 0, 1) := by decide +kernel
theorem dX12_mayCross_106 : decode cX12_mayCross 106 = .ok (.getfield 7, 3) := by decide +kernel
theorem dX12_mayCross_109 : decode cX12_mayCross 109 = .ok (.bipush 13, 2) := by decide +kernel
theorem dX12_mayCross_111 : decode cX12_mayCross 111 = .ok (.iaload, 1) := by decide +kernel
theorem dX12_mayCross_112 : decode cX12_mayCross 112 = .ok (.if_icmp .ge 51, 3) := by decide +kernel
theorem dX12_mayCross_115 : decode cX12_mayCross 115 = .ok (.iload_n 3, 1) := by decide +kernel
theorem dX12_mayCross_116 : decode cX12_mayCross 116 = .ok (.aload_n 0, 1) := by decide +kernel
theorem dX12_mayCross_117 : decode cX12_mayCross 117 = .ok (.getfield 7, 3) := by decide +kernel
theorem dX12_mayCross_120 : decode cX12_mayCross 120 = .ok (.bipush 124, 2) := by decide +kernel
theorem dX12_mayCross_122 : decode cX12_mayCross 122 = .ok (.iconst 2, 1) := by decide +kernel
theorem dX12_mayCross_123 : decode cX12_mayCross 123 = .ok (.iload 11, 2) := by decide +kernel
theorem dX12_mayCross_125 : decode cX12_mayCross 125 = .ok (.imul, 1) := by decide +kernel
theorem dX12_mayCross_126 : decode cX12_mayCross 126 = .ok (.iadd, 1) := by decide +kernel
theorem dX12_mayCross_127 : decode cX12_mayCross 127 = .ok (.iaload, 1) := by decide +kernel
theorem dX12_mayCross_128 : decode cX12_mayCross 128 = .ok (.invokestatic 70, 3) := by decide +kernel
theorem dX12_mayCross_131 : decode cX12_mayCross 131 = .ok (.ifCond .eq 26, 3) := by decide +kernel
theorem dX12_mayCross_134 : decode cX12_mayCross 134 = .ok (.iload_n 3, 1) := by decide +kernel
theorem dX12_mayCross_135 : decode cX12_mayCross 135 = .ok (.aload_n 0, 1) := by decide +kernel
theorem dX12_mayCross_136 : decode cX12_mayCross 136 = .ok (.getfield 7, 3) := by decide +kernel
theorem dX12_mayCross_139 : decode cX12_mayCross 139 = .ok (.bipush 124, 2) := by decide +kernel
theorem dX12_mayCross_141 : decode cX12_mayCross 141 = .ok (.iconst 2, 1) := by decide +kernel
theorem dX12_mayCross_142 : decode cX12_mayCross 142 = .ok (.iload 11, 2) := by decide +kernel
theorem dX12_mayCross_144 : decode cX12_mayCross 144 = .ok (.imul, 1) := by decide +kernel
theorem dX12_mayCross_145 : decode cX12_mayCross 145 = .ok (.iadd, 1) := by decide +kernel
theorem dX12_mayCross_146 : decode cX12_mayCross 146 = .ok (.iconst 1, 1) := by decide +kernel
theorem dX12_mayCross_147 : decode cX12_mayCross 147 = .ok (.iadd, 1) := by decide +kernel
theorem dX12_mayCross_148 : decode cX12_mayCross 148 = .ok (.iaload, 1) := by decide +kernel
theorem dX12_mayCross_149 : decode cX12_mayCross 149 = .ok (.invokestatic 70, 3) := by decide +kernel
theorem dX12_mayCross_152 : decode cX12_mayCross 152 = .ok (.ifCond .ne 5, 3) := by decide +kernel
theorem dX12_mayCross_155 : decode cX12_mayCross 155 = .ok (.iconst 0, 1) := by decide +kernel
theorem dX12_mayCross_156 : decode cX12_mayCross 156 = .ok (.ireturn, 1) := by decide +kernel
theorem dX12_mayCross_157 : decode cX12_mayCross 157 = .ok (.iinc 11 1, 3) := by decide +kernel
theorem dX12_mayCross_160 : decode cX12_mayCross 160 = .ok (.goto (-57), 3) := by decide +kernel
theorem dX12_mayCross_163 : decode cX12_mayCross 163 = .ok (.aload_n 0, 1) := by decide +kernel
theorem dX12_mayCross_164 : decode cX12_mayCross 164 = .ok (.iload 6, 2) := by decide +kernel
theorem dX12_mayCross_166 : decode cX12_mayCross 166 = .ok (.iload_n 3, 1) := by decide +kernel
theorem dX12_mayCross_167 : decode cX12_mayCross 167 = .ok (.iconst (-1), 1) := by decide +kernel
theorem dX12_mayCross_168 : decode cX12_mayCross 168 = .ok (.ixor, 1) := by decide +kernel
theorem dX12_mayCross_169 : decode cX12_mayCross 169 = .ok (.iand, 1) := by decide +kernel
theorem dX12_mayCross_170 : decode cX12_mayCross 170 = .ok (.invokevirtual 220, 3) := by decide +kernel
theorem dX12_mayCross_173 : decode cX12_mayCross 173 = .ok (.ifCond .eq 23, 3) := by decide +kernel
theorem dX12_mayCross_176 : decode cX12_mayCross 176 = .ok (.aload_n 0, 1) := by decide +kernel
theorem dX12_mayCross_177 : decode cX12_mayCross 177 = .ok (.iload 7, 2) := by decide +kernel
theorem dX12_mayCross_179 : decode cX12_mayCross 179 = .ok (.invokevirtual 220, 3) := by decide +kernel
theorem dX12_mayCross_182 : decode cX12_mayCross 182 = .ok (.ifCond .eq 14, 3) := by decide +kernel
theorem dX12_mayCross_185 : decode cX12_mayCross 185 = .ok (.aload_n 0, 1) := by decide +kernel
theorem dX12_mayCross_186 : decode cX12_mayCross 186 = .ok (.iload 7, 2) := by decide +kernel
theorem dX12_mayCross_188 : decode cX12_mayCross 188 = .ok (.iload_n 3, 1) := by decide +kernel
theorem dX12_mayCross_189 : decode cX12_mayCross 189 = .ok (.ior, 1) := by decide +kernel
theorem dX12_mayCross_190 : decode cX12_mayCross 190 = .ok (.invokevirtual 220, 3) := by decide +kernel
theorem dX12_mayCross_193 : decode cX12_mayCross 193 = .ok (.ifCond .ne 5, 3) := by decide +kernel
theorem dX12_mayCross_196 : decode cX12_mayCross 196 = .ok (.iconst 0, 1) := by decide +kernel
theorem dX12_mayCross_197 : decode cX12_mayCross 197 = .ok (.ireturn, 1) := by decide +kernel
theorem dX12_mayCross_198 : decode cX12_mayCross 198 = .ok (.aload_n 0, 1) := by decide +kernel
theorem dX12_mayCross_199 : decode cX12_mayCross 199 = .ok (.aload_n 0, 1) := by decide +kernel
theorem dX12_mayCross_200 : decode cX12_mayCross 200 = .ok (.iload 9, 2) := by decide +kernel
theorem dX12_mayCross_202 : decode cX12_mayCross 202 = .ok (.iload 10, 2) := by decide +kernel
theorem dX12_mayCross_204 : decode cX12_mayCross 204 = .ok (.invokevirtual 223, 3) := by decide +kernel
theorem dX12_mayCross_207 : decode cX12_mayCross 207 = .ok (.putfield 226, 3) := by decide +kernel
theorem dX12_mayCross_210 : decode cX12_mayCross 210 = .ok (.iconst 1, 1) := by decide +kernel
theorem dX12_mayCross_211 : decode cX12_mayCross 211 = .ok (.ireturn, 1) := by decide +kernel
theorem dX12_maySwim_0 : decode cX12_maySwim 0 = .ok (.aload_n 0, 1) := by decide +kernel
theorem dX12_maySwim_1 : decode cX12_maySwim 1 = .ok (.invokevirtual 208, 3) := by decide +kernel
theorem dX12_maySwim_4 : decode cX12_maySwim 4 = .ok (.istore_n 3, 1) := by decide +kernel
theorem dX12_maySwim_5 : decode cX12_maySwim 5 = .ok (.iload_n 1, 1) := by decide +kernel
theorem dX12_maySwim_6 : decode cX12_maySwim 6 = .ok (.iload_n 2, 1) := by decide +kernel
theorem dX12_maySwim_7 : decode cX12_maySwim 7 = .ok (.invokestatic 70, 3) := by decide +kernel
theorem dX12_maySwim_10 : decode cX12_maySwim 10 = .ok (.ifCond .eq 7, 3) := by decide +kernel
theorem dX12_maySwim_13 : decode cX12_maySwim 13 = .ok (.iload_n 1, 1) := by decide +kernel
theorem dX12_maySwim_14 : decode cX12_maySwim 14 = .ok (.goto 8, 3) := by decide +kernel
theorem dX12_maySwim_17 : decode cX12_maySwim 17 = .ok (.iload_n 3, 1) := by decide +kernel
theorem dX12_maySwim_18 : decode cX12_maySwim 18 = .ok (.iload_n 1, 1) := by decide +kernel
theorem dX12_maySwim_19 : decode cX12_maySwim 19 = .ok (.iconst (-1), 1) := by decide +kernel
theorem dX12_maySwim_20 : decode cX12_maySwim 20 = .ok (.ixor, 1) := by decide +kernel
theorem dX12_maySwim_21 : decode cX12_maySwim 21 = .ok (.iand, 1) := by decide +kernel
theorem dX12_maySwim_22 : decode cX12_maySwim 22 = .ok (.istore 4, 2) := by decide +kernel
theorem dX12_maySwim_24 : decode cX12_maySwim 24 = .ok (.iload_n 3, 1) := by decide +kernel
theorem dX12_maySwim_25 : decode cX12_maySwim 25 = .ok (.iload 4, 2) := by decide +kernel
theorem dX12_maySwim_27 : decode cX12_maySwim 27 = .ok (.iconst (-1), 1) := by decide +kernel
theorem dX12_maySwim_28 : decode cX12_maySwim 28 = .ok (.ixor, 1) := by decide +kernel
theorem dX12_maySwim_29 : decode cX12_maySwim 29 = .ok (.iand, 1) := by decide +kernel
theorem dX12_maySwim_30 : decode cX12_maySwim 30 = .ok (.istore 5, 2) := by decide +kernel
theorem dX12_maySwim_32 : decode cX12_maySwim 32 = .ok (.aload_n 0, 1) := by decide +kernel
theorem dX12_maySwim_33 : decode cX12_maySwim 33 = .ok (.iload_n 2, 1) := by decide +kernel
theorem dX12_maySwim_34 : decode cX12_maySwim 34 = .ok (.iconst 3, 1) := by decide +kernel
theorem dX12_maySwim_35 : decode cX12_maySwim 35 = .ok (.invokevirtual 66, 3) := by decide +kernel
theorem dX12_maySwim_38 : decode cX12_maySwim 38 = .ok (.ifCond .eq 23, 3) := by decide +kernel
theorem dX12_maySwim_41 : decode cX12_maySwim 41 = .ok (.aload_n 0, 1) := by decide +kernel
theorem dX12_maySwim_42 : decode cX12_maySwim 42 = .ok (.iload_n 2, 1) := by decide +kernel
theorem dX12_maySwim_43 : decode cX12_maySwim 43 = .ok (.invokevirtual 74, 3) := by decide +kernel
theorem dX12_maySwim_46 : decode cX12_maySwim 46 = .ok (.aload_n 0, 1) := by decide +kernel
theorem dX12_maySwim_47 : decode cX12_maySwim 47 = .ok (.invokevirtual 78, 3) := by decide +kernel
theorem dX12_maySwim_50 : decode cX12_maySwim 50 = .ok (.if_icmp .lt 11, 3) := by decide +kernel
theorem dX12_maySwim_53 : decode cX12_maySwim 53 = .ok (.aload_n 0, 1) := by decide +kernel
theorem dX12_maySwim_54 : decode cX12_maySwim 54 = .ok (.iload_n 2, 1) := by decide +kernel
theorem dX12_maySwim_55 : decode cX12_maySwim 55 = .ok (.invokevirtual 229, 3) := by decide +kernel
theorem dX12_maySwim_58 : decode cX12_maySwim 58 = .ok (.ifCond .eq 5, 3) := by decide +kernel
theorem dX12_maySwim_61 : decode cX12_maySwim 61 = .ok (.iconst 0, 1) := by decide +kernel
theorem dX12_maySwim_62 : decode cX12_maySwim 62 = .ok (.ireturn, 1) := by decide +kernel
theorem dX12_maySwim_63 : decode cX12_maySwim 63 = .ok (.aload_n 0, 1) := by decide +kernel
theorem dX12_maySwim_64 : decode cX12_maySwim 64 = .ok (.iload 4, 2) := by decide +kernel
theorem dX12_maySwim_66 : decode cX12_maySwim 66 = .ok (.iconst 1, 1) := by decide +kernel
theorem dX12_maySwim_67 : decode cX12_maySwim 67 = .ok (.iload_n 2, 1) := by decide +kernel
theorem dX12_maySwim_68 : decode cX12_maySwim 68 = .ok (.ishl, 1) := by decide +kernel
theorem dX12_maySwim_69 : decode cX12_maySwim 69 = .ok (.iconst (-1), 1) := by decide +kernel
theorem dX12_maySwim_70 : decode cX12_maySwim 70 = .ok (.ixor, 1) := by decide +kernel
theorem dX12_maySwim_71 : decode cX12_maySwim 71 = .ok (.iand, 1) := by decide +kernel
theorem dX12_maySwim_72 : decode cX12_maySwim 72 = .ok (.invokevirtual 220, 3) := by decide +kernel
theorem dX12_maySwim_75 : decode cX12_maySwim 75 = .ok (.ifCond .eq 29, 3) := by decide +kernel
theorem dX12_maySwim_78 : decode cX12_maySwim 78 = .ok (.aload_n 0, 1) := by decide +kernel
theorem dX12_maySwim_79 : decode cX12_maySwim 79 = .ok (.iload 5, 2) := by decide +kernel
theorem dX12_maySwim_81 : decode cX12_maySwim 81 = .ok (.invokevirtual 220, 3) := by decide +kernel
theorem dX12_maySwim_84 : decode cX12_maySwim 84 = .ok (.ifCond .eq 20, 3) := by decide +kernel
theorem dX12_maySwim_87 : decode cX12_maySwim 87 = .ok (.aload_n 0, 1) := by decide +kernel
theorem dX12_maySwim_88 : decode cX12_maySwim 88 = .ok (.iload 5, 2) := by decide +kernel
theorem dX12_maySwim_90 : decode cX12_maySwim 90 = .ok (.iconst 1, 1) := by decide +kernel
theorem dX12_maySwim_91 : decode cX12_maySwim 91 = .ok (.iload_n 2, 1) := by decide +kernel
theorem dX12_maySwim_92 : decode cX12_maySwim 92 = .ok (.ishl, 1) := by decide +kernel
theorem dX12_maySwim_93 : decode cX12_maySwim 93 = .ok (.ior, 1) := by decide +kernel
theorem dX12_maySwim_94 : decode cX12_maySwim 94 = .ok (.invokevirtual 220, 3) := by decide +kernel
theorem dX12_maySwim_97 : decode cX12_maySwim 97 = .ok (.ifCond .eq 7, 3) := by decide +kernel
theorem dX12_maySwim_100 : decode cX12_maySwim 100 = .ok (.iconst 1, 1) := by decide +kernel
theorem dX12_maySwim_101 : decode cX12_maySwim 101 = .ok (.goto 4, 3) := by decide +kernel
theorem dX12_maySwim_104 : decode cX12_maySwim 104 = .ok (.iconst 0, 1) := by decide +kernel
theorem dX12_maySwim_105 : decode cX12_maySwim 105 = .ok (.ireturn, 1) := by decide +kernel
theorem dX12_goOn_0 : decode cX12_goOn 0 = .ok (.aload_n 0, 1) := by decide +kernel
theorem dX12_goOn_1 : decode cX12_goOn 1 = .ok (.getfield 7, 3) := by decide +kernel
theorem dX12_goOn_4 : decode cX12_goOn 4 = .ok (.iconst 2, 1) := by decide +kernel
theorem dX12_goOn_5 : decode cX12_goOn 5 = .ok (.iaload, 1) := by decide +kernel
theorem dX12_goOn_6 : decode cX12_goOn 6 = .ok (.iload_n 1, 1) := by decide +kernel
theorem dX12_goOn_7 : decode cX12_goOn 7 = .ok (.iadd, 1) := by decide +kernel
theorem dX12_goOn_8 : decode cX12_goOn 8 = .ok (.bipush 60, 2) := by decide +kernel
theorem dX12_goOn_10 : decode cX12_goOn 10 = .ok (.idiv, 1) := by decide +kernel
theorem dX12_goOn_11 : decode cX12_goOn 11 = .ok (.aload_n 0, 1) := by decide +kernel
theorem dX12_goOn_12 : decode cX12_goOn 12 = .ok (.getfield 7, 3) := by decide +kernel
theorem dX12_goOn_15 : decode cX12_goOn 15 = .ok (.iconst 2, 1) := by decide +kernel
theorem dX12_goOn_16 : decode cX12_goOn 16 = .ok (.iaload, 1) := by decide +kernel
theorem dX12_goOn_17 : decode cX12_goOn 17 = .ok (.bipush 60, 2) := by decide +kernel
theorem dX12_goOn_19 : decode cX12_goOn 19 = .ok (.idiv, 1) := by decide +kernel
theorem dX12_goOn_20 : decode cX12_goOn 20 = .ok (.isub, 1) := by decide +kernel
theorem dX12_goOn_21 : decode cX12_goOn 21 = .ok (.istore_n 2, 1) := by decide +kernel
theorem dX12_goOn_22 : decode cX12_goOn 22 = .ok (.aload_n 0, 1) := by decide +kernel
theorem dX12_goOn_23 : decode cX12_goOn 23 = .ok (.getfield 7, 3) := by decide +kernel
theorem dX12_goOn_26 : decode cX12_goOn 26 = .ok (.iconst 2, 1) := by decide +kernel
theorem dX12_goOn_27 : decode cX12_goOn 27 = .ok (.dup2, 1) := by decide +kernel
theorem dX12_goOn_28 : decode cX12_goOn 28 = .ok (.iaload, 1) := by decide +kernel
theorem dX12_goOn_29 : decode cX12_goOn 29 = .ok (.iload_n 1, 1) := by decide +kernel
theorem dX12_goOn_30 : decode cX12_goOn 30 = .ok (.iadd, 1) := by decide +kernel
theorem dX12_goOn_31 : decode cX12_goOn 31 = .ok (.iastore, 1) := by decide +kernel
theorem dX12_goOn_32 : decode cX12_goOn 32 = .ok (.iconst 0, 1) := by decide +kernel
theorem dX12_goOn_33 : decode cX12_goOn 33 = .ok (.istore_n 3, 1) := by decide +kernel
theorem dX12_goOn_34 : decode cX12_goOn 34 = .ok (.iload_n 3, 1) := by decide +kernel
theorem dX12_goOn_35 : decode cX12_goOn 35 = .ok (.aload_n 0, 1) := by decide +kernel
theorem dX12_goOn_36 : decode cX12_goOn 36 = .ok (.getfield 7, 3) := by decide +kernel
theorem dX12_goOn_39 : decode cX12_goOn 39 = .ok (.iconst 1, 1) := by decide +kernel
theorem dX12_goOn_40 : decode cX12_goOn 40 = .ok (.iaload, 1) := by decide +kernel
theorem dX12_goOn_41 : decode cX12_goOn 41 = .ok (.if_icmp .ge 43, 3) := by decide +kernel
theorem dX12_goOn_44 : decode cX12_goOn 44 = .ok (.aload_n 0, 1) := by decide +kernel
theorem dX12_goOn_45 : decode cX12_goOn 45 = .ok (.iload_n 3, 1) := by decide +kernel
theorem dX12_goOn_46 : decode cX12_goOn 46 = .ok (.iconst 4, 1) := by decide +kernel
theorem dX12_goOn_47 : decode cX12_goOn 47 = .ok (.invokevirtual 66, 3) := by decide +kernel
theorem dX12_goOn_50 : decode cX12_goOn 50 = .ok (.iload_n 2, 1) := by decide +kernel
theorem dX12_goOn_51 : decode cX12_goOn 51 = .ok (.isub, 1) := by decide +kernel
theorem dX12_goOn_52 : decode cX12_goOn 52 = .ok (.istore 4, 2) := by decide +kernel
theorem dX12_goOn_54 : decode cX12_goOn 54 = .ok (.aload_n 0, 1) := by decide +kernel
theorem dX12_goOn_55 : decode cX12_goOn 55 = .ok (.getfield 7, 3) := by decide +kernel
theorem dX12_goOn_58 : decode cX12_goOn 58 = .ok (.bipush 38, 2) := by decide +kernel
theorem dX12_goOn_60 : decode cX12_goOn 60 = .ok (.iconst 5, 1) := by decide +kernel
theorem dX12_goOn_61 : decode cX12_goOn 61 = .ok (.iload_n 3, 1) := by decide +kernel
theorem dX12_goOn_62 : decode cX12_goOn 62 = .ok (.imul, 1) := by decide +kernel
theorem dX12_goOn_63 : decode cX12_goOn 63 = .ok (.iadd, 1) := by decide +kernel
theorem dX12_goOn_64 : decode cX12_goOn 64 = .ok (.iconst 4, 1) := by decide +kernel
theorem dX12_goOn_65 : decode cX12_goOn 65 = .ok (.iadd, 1) := by decide +kernel
theorem dX12_goOn_66 : decode cX12_goOn 66 = .ok (.iload 4, 2) := by decide +kernel
theorem dX12_goOn_68 : decode cX12_goOn 68 = .ok (.ifCond .ge 7, 3) := by decide +kernel
theorem dX12_goOn_71 : decode cX12_goOn 71 = .ok (.iconst 0, 1) := by decide +kernel
theorem dX12_goOn_72 : decode cX12_goOn 72 = .ok (.goto 5, 3) := by decide +kernel
theorem dX12_goOn_75 : decode cX12_goOn 75 = .ok (.iload 4, 2) := by decide +kernel
theorem dX12_goOn_77 : decode cX12_goOn 77 = .ok (.iastore, 1) := by decide +kernel
theorem dX12_goOn_78 : decode cX12_goOn 78 = .ok (.iinc 3 1, 3) := by decide +kernel
theorem dX12_goOn_81 : decode cX12_goOn 81 = .ok (.goto (-47), 3) := by decide +kernel
theorem dX12_goOn_84 : decode cX12_goOn 84 = .ok (.return_, 1) := by decide +kernel
theorem dX12_need_0 : decode cX12_need 0 = .ok (.aload_n 0, 1) := by decide +kernel
theorem dX12_need_1 : decode cX12_need 1 = .ok (.iconst 0, 1) := by decide +kernel
theorem dX12_need_2 : decode cX12_need 2 = .ok (.putfield 59, 3) := by decide +kernel
theorem dX12_need_5 : decode cX12_need 5 = .ok (.aload_n 0, 1) := by decide +kernel
theorem dX12_need_6 : decode cX12_need 6 = .ok (.aload_n 0, 1) := by decide +kernel
theorem dX12_need_7 : decode cX12_need 7 = .ok (.iload_n 1, 1) := by decide +kernel
theorem dX12_need_8 : decode cX12_need 8 = .ok (.invokevirtual 211, 3) := by decide +kernel
theorem dX12_need_11 : decode cX12_need 11 = .ok (.invokevirtual 214, 3) := by decide +kernel
theorem dX12_need_14 : decode cX12_need 14 = .ok (.ireturn, 1) := by decide +kernel
theorem dX12_cross_0 : decode cX12_cross 0 = .ok (.aload_n 0, 1) := by decide +kernel
theorem dX12_cross_1 : decode cX12_cross 1 = .ok (.aload_n 0, 1) := by decide +kernel
theorem dX12_cross_2 : decode cX12_cross 2 = .ok (.aload_n 0, 1) := by decide +kernel
theorem dX12_cross_3 : decode cX12_cross 3 = .ok (.getfield 7, 3) := by decide +kernel
theorem dX12_cross_6 : decode cX12_cross 6 = .ok (.iconst 4, 1) := by decide +kernel
theorem dX12_cross_7 : decode cX12_cross 7 = .ok (.iaload, 1) := by decide +kernel
theorem dX12_cross_8 : decode cX12_cross 8 = .ok (.aload_n 0, 1) := by decide +kernel
theorem dX12_cross_9 : decode cX12_cross 9 = .ok (.getfield 7, 3) := by decide +kernel
theorem dX12_cross_12 : decode cX12_cross 12 = .ok (.iconst 3, 1) := by decide +kernel
theorem dX12_cross_13 : decode cX12_cross 13 = .ok (.iaload, 1) := by decide +kernel
theorem dX12_cross_14 : decode cX12_cross 14 = .ok (.iload_n 1, 1) := by decide +kernel
theorem dX12_cross_15 : decode cX12_cross 15 = .ok (.iload_n 2, 1) := by decide +kernel
theorem dX12_cross_16 : decode cX12_cross 16 = .ok (.invokevirtual 232, 3) := by decide +kernel
theorem dX12_cross_19 : decode cX12_cross 19 = .ok (.ifCond .ne 7, 3) := by decide +kernel
theorem dX12_cross_22 : decode cX12_cross 22 = .ok (.iconst 1, 1) := by decide +kernel
theorem dX12_cross_23 : decode cX12_cross 23 = .ok (.goto 4, 3) := by decide +kernel
theorem dX12_cross_26 : decode cX12_cross 26 = .ok (.iconst 0, 1) := by decide +kernel
theorem dX12_cross_27 : decode cX12_cross 27 = .ok (.putfield 59, 3) := by decide +kernel
theorem dX12_cross_30 : decode cX12_cross 30 = .ok (.aload_n 0, 1) := by decide +kernel
theorem dX12_cross_31 : decode cX12_cross 31 = .ok (.getfield 59, 3) := by decide +kernel
theorem dX12_cross_34 : decode cX12_cross 34 = .ok (.ifCond .le 5, 3) := by decide +kernel
theorem dX12_cross_37 : decode cX12_cross 37 = .ok (.iconst 0, 1) := by decide +kernel
theorem dX12_cross_38 : decode cX12_cross 38 = .ok (.ireturn, 1) := by decide +kernel
theorem dX12_cross_39 : decode cX12_cross 39 = .ok (.aload_n 0, 1) := by decide +kernel
theorem dX12_cross_40 : decode cX12_cross 40 = .ok (.getfield 226, 3) := by decide +kernel
theorem dX12_cross_43 : decode cX12_cross 43 = .ok (.istore_n 3, 1) := by decide +kernel
theorem dX12_cross_44 : decode cX12_cross 44 = .ok (.aload_n 0, 1) := by decide +kernel
theorem dX12_cross_45 : decode cX12_cross 45 = .ok (.getfield 7, 3) := by decide +kernel
theorem dX12_cross_48 : decode cX12_cross 48 = .ok (.iconst 4, 1) := by decide +kernel
theorem dX12_cross_49 : decode cX12_cross 49 = .ok (.aload_n 0, 1) := by decide +kernel
theorem dX12_cross_50 : decode cX12_cross 50 = .ok (.getfield 7, 3) := by decide +kernel
theorem dX12_cross_53 : decode cX12_cross 53 = .ok (.iconst 4, 1) := by decide +kernel
theorem dX12_cross_54 : decode cX12_cross 54 = .ok (.iaload, 1) := by decide +kernel
theorem dX12_cross_55 : decode cX12_cross 55 = .ok (.iload_n 1, 1) := by decide +kernel
theorem dX12_cross_56 : decode cX12_cross 56 = .ok (.ixor, 1) := by decide +kernel
theorem dX12_cross_57 : decode cX12_cross 57 = .ok (.iastore, 1) := by decide +kernel
theorem dX12_cross_58 : decode cX12_cross 58 = .ok (.aload_n 0, 1) := by decide +kernel
theorem dX12_cross_59 : decode cX12_cross 59 = .ok (.getfield 7, 3) := by decide +kernel
theorem dX12_cross_62 : decode cX12_cross 62 = .ok (.iconst 3, 1) := by decide +kernel
theorem dX12_cross_63 : decode cX12_cross 63 = .ok (.iconst 1, 1) := by decide +kernel
theorem dX12_cross_64 : decode cX12_cross 64 = .ok (.aload_n 0, 1) := by decide +kernel
theorem dX12_cross_65 : decode cX12_cross 65 = .ok (.getfield 7, 3) := by decide +kernel
theorem dX12_cross_68 : decode cX12_cross 68 = .ok (.iconst 3, 1) := by decide +kernel
theorem dX12_cross_69 : decode cX12_cross 69 = .ok (.iaload, 1) := by decide +kernel
theorem dX12_cross_70 : decode cX12_cross 70 = .ok (.isub, 1) := by decide +kernel
theorem dX12_cross_71 : decode cX12_cross 71 = .ok (.iastore, 1) := by decide +kernel
theorem dX12_cross_72 : decode cX12_cross 72 = .ok (.aload_n 0, 1) := by decide +kernel
theorem dX12_cross_73 : decode cX12_cross 73 = .ok (.getfield 7, 3) := by decide +kernel
theorem dX12_cross_76 : decode cX12_cross 76 = .ok (.bipush 10, 2) := by decide +kernel
theorem dX12_cross_78 : decode cX12_cross 78 = .ok (.dup2, 1) := by decide +kernel
theorem dX12_cross_79 : decode cX12_cross 79 = .ok (.iaload, 1) := by decide +kernel
theorem dX12_cross_80 : decode cX12_cross 80 = .ok (.iconst 1, 1) := by decide +kernel
theorem dX12_cross_81 : decode cX12_cross 81 = .ok (.iadd, 1) := by decide +kernel
theorem dX12_cross_82 : decode cX12_cross 82 = .ok (.iastore, 1) := by decide +kernel
theorem dX12_cross_83 : decode cX12_cross 83 = .ok (.iconst 0, 1) := by decide +kernel
theorem dX12_cross_84 : decode cX12_cross 84 = .ok (.istore 4, 2) := by decide +kernel
theorem dX12_cross_86 : decode cX12_cross 86 = .ok (.iload 4, 2) := by decide +kernel
theorem dX12_cross_88 : decode cX12_cross 88 = .ok (.aload_n 0, 1) := by decide +kernel
theorem dX12_cross_89 : decode cX12_cross 89 = .ok (.getfield 7, 3) := by decide +kernel
theorem dX12_cross_92 : decode cX12_cross 92 = .ok (.iconst 1, 1) := by decide +kernel
theorem dX12_cross_93 : decode cX12_cross 93 = .ok (.iaload, 1) := by decide +kernel
theorem dX12_cross_94 : decode cX12_cross 94 = .ok (.if_icmp .ge 110, 3) := by decide +kernel
theorem dX12_cross_97 : decode cX12_cross 97 = .ok (.iload_n 2, 1) := by decide +kernel
theorem dX12_cross_98 : decode cX12_cross 98 = .ok (.iload 4, 2) := by decide +kernel
theorem dX12_cross_100 : decode cX12_cross 100 = .ok (.invokestatic 70, 3) := by decide +kernel
theorem dX12_cross_103 : decode cX12_cross 103 = .ok (.ifCond .ne 6, 3) := by decide +kernel
theorem dX12_cross_106 : decode cX12_cross 106 = .ok (.goto 92, 3) := by decide +kernel
theorem dX12_cross_109 : decode cX12_cross 109 = .ok (.aload_n 0, 1) := by decide +kernel
theorem dX12_cross_110 : decode cX12_cross 110 = .ok (.getfield 7, 3) := by decide +kernel
theorem dX12_cross_113 : decode cX12_cross 113 = .ok (.bipush 38, 2) := by decide +kernel
theorem dX12_cross_115 : decode cX12_cross 115 = .ok (.iconst 5, 1) := by decide +kernel
theorem dX12_cross_116 : decode cX12_cross 116 = .ok (.iload 4, 2) := by decide +kernel
theorem dX12_cross_118 : decode cX12_cross 118 = .ok (.imul, 1) := by decide +kernel
theorem dX12_cross_119 : decode cX12_cross 119 = .ok (.iadd, 1) := by decide +kernel
theorem dX12_cross_120 : decode cX12_cross 120 = .ok (.iconst 4, 1) := by decide +kernel
theorem dX12_cross_121 : decode cX12_cross 121 = .ok (.iadd, 1) := by decide +kernel
theorem dX12_cross_122 : decode cX12_cross 122 = .ok (.dup2, 1) := by decide +kernel
theorem dX12_cross_123 : decode cX12_cross 123 = .ok (.iaload, 1) := by decide +kernel
theorem dX12_cross_124 : decode cX12_cross 124 = .ok (.iconst 1, 1) := by decide +kernel
theorem dX12_cross_125 : decode cX12_cross 125 = .ok (.iadd, 1) := by decide +kernel
theorem dX12_cross_126 : decode cX12_cross 126 = .ok (.iastore, 1) := by decide +kernel
theorem dX12_cross_127 : decode cX12_cross 127 = .ok (.iconst 0, 1) := by decide +kernel
theorem dX12_cross_128 : decode cX12_cross 128 = .ok (.istore 5, 2) := by decide +kernel
theorem dX12_cross_130 : decode cX12_cross 130 = .ok (.iload 5, 2) := by decide +kernel
theorem dX12_cross_132 : decode cX12_cross 132 = .ok (.aload_n 0, 1) := by decide +kernel
theorem dX12_cross_133 : decode cX12_cross 133 = .ok (.getfield 7, 3) := by decide +kernel
theorem dX12_cross_136 : decode cX12_cross 136 = .ok (.iconst 1, 1) := by decide +kernel
theorem dX12_cross_137 : decode cX12_cross 137 = .ok (.iaload, 1) := by decide +kernel
theorem dX12_cross_138 : decode cX12_cross 138 = .ok (.if_icmp .ge 60, 3) := by decide +kernel
theorem dX12_cross_141 : decode cX12_cross 141 = .ok (.iload_n 1, 1) := by decide +kernel
theorem dX12_cross_142 : decode cX12_cross 142 = .ok (.iload 5, 2) := by decide +kernel
theorem dX12_cross_144 : decode cX12_cross 144 = .ok (.invokestatic 70, 3) := by decide +kernel
theorem dX12_cross_147 : decode cX12_cross 147 = .ok (.ifCond .eq 45, 3) := by decide +kernel
theorem dX12_cross_150 : decode cX12_cross 150 = .ok (.aload_n 0, 1) := by decide +kernel
theorem dX12_cross_151 : decode cX12_cross 151 = .ok (.iload 5, 2) := by decide +kernel
theorem dX12_cross_153 : decode cX12_cross 153 = .ok (.iconst 0, 1) := by decide +kernel
theorem dX12_cross_154 : decode cX12_cross 154 = .ok (.invokevirtual 66, 3) := by decide +kernel
theorem dX12_cross_157 : decode cX12_cross 157 = .ok (.ifCond .eq 14, 3) := by decide +kernel
theorem dX12_cross_160 : decode cX12_cross 160 = .ok (.aload_n 0, 1) := by decide +kernel
theorem dX12_cross_161 : decode cX12_cross 161 = .ok (.iload 5, 2) := by decide +kernel
theorem dX12_cross_163 : decode cX12_cross 163 = .ok (.iconst 0, 1) := by decide +kernel
theorem dX12_cross_164 : decode cX12_cross 164 = .ok (.invokevirtual 66, 3) := by decide +kernel
theorem dX12_cross_167 : decode cX12_cross 167 = .ok (.iconst 3, 1) := by decide +kernel
theorem dX12_cross_168 : decode cX12_cross 168 = .ok (.if_icmp .ne 24, 3) := by decide +kernel
theorem dX12_cross_171 : decode cX12_cross 171 = .ok (.aload_n 0, 1) := by decide +kernel
theorem dX12_cross_172 : decode cX12_cross 172 = .ok (.getfield 7, 3) := by decide +kernel
theorem dX12_cross_175 : decode cX12_cross 175 = .ok (.sipush 148, 3) := by decide +kernel
theorem dX12_cross_178 : decode cX12_cross 178 = .ok (.bipush 10, 2) := by decide +kernel
theorem dX12_cross_180 : decode cX12_cross 180 = .ok (.iload 5, 2) := by decide +kernel
theorem dX12_cross_182 : decode cX12_cross 182 = .ok (.imul, 1) := by decide +kernel
theorem dX12_cross_183 : decode cX12_cross 183 = .ok (.iadd, 1) := by decide +kernel
theorem dX12_cross_184 : decode cX12_cross 184 = .ok (.iload 4, 2) := by decide +kernel
theorem dX12_cross_186 : decode cX12_cross 186 = .ok (.iadd, 1) := by decide +kernel
theorem dX12_cross_187 : decode cX12_cross 187 = .ok (.dup2, 1) := by decide +kernel
theorem dX12_cross_188 : decode cX12_cross 188 = .ok (.iaload, 1) := by decide +kernel
theorem dX12_cross_189 : decode cX12_cross 189 = .ok (.iconst 1, 1) := by decide +kernel
theorem dX12_cross_190 : decode cX12_cross 190 = .ok (.iadd, 1) := by decide +kernel
theorem dX12_cross_191 : decode cX12_cross 191 = .ok (.iastore, 1) := by decide +kernel
theorem dX12_cross_192 : decode cX12_cross 192 = .ok (.iinc 5 1, 3) := by decide +kernel
theorem dX12_cross_195 : decode cX12_cross 195 = .ok (.goto (-65), 3) := by decide +kernel
theorem dX12_cross_198 : decode cX12_cross 198 = .ok (.iinc 4 1, 3) := by decide +kernel
theorem dX12_cross_201 : decode cX12_cross 201 = .ok (.goto (-115), 3) := by decide +kernel
theorem dX12_cross_204 : decode cX12_cross 204 = .ok (.aload_n 0, 1) := by decide +kernel
theorem dX12_cross_205 : decode cX12_cross 205 = .ok (.iload_n 3, 1) := by decide +kernel
theorem dX12_cross_206 : decode cX12_cross 206 = .ok (.invokevirtual 236, 3) := by decide +kernel
theorem dX12_cross_209 : decode cX12_cross 209 = .ok (.iload_n 3, 1) := by decide +kernel
theorem dX12_cross_210 : decode cX12_cross 210 = .ok (.ireturn, 1) := by decide +kernel
theorem dX12_swim_0 : decode cX12_swim 0 = .ok (.aload_n 0, 1) := by decide +kernel
theorem dX12_swim_1 : decode cX12_swim 1 = .ok (.aload_n 0, 1) := by decide +kernel
theorem dX12_swim_2 : decode cX12_swim 2 = .ok (.iload_n 1, 1) := by decide +kernel
theorem dX12_swim_3 : decode cX12_swim 3 = .ok (.invokevirtual 239, 3) := by decide +kernel
theorem dX12_swim_6 : decode cX12_swim 6 = .ok (.ifCond .ne 7, 3) := by decide +kernel
theorem dX12_swim_9 : decode cX12_swim 9 = .ok (.iconst 1, 1) := by decide +kernel
theorem dX12_swim_10 : decode cX12_swim 10 = .ok (.goto 22, 3) := by decide +kernel
theorem dX12_swim_13 : decode cX12_swim 13 = .ok (.aload_n 0, 1) := by decide +kernel
theorem dX12_swim_14 : decode cX12_swim 14 = .ok (.aload_n 0, 1) := by decide +kernel
theorem dX12_swim_15 : decode cX12_swim 15 = .ok (.getfield 7, 3) := by decide +kernel
theorem dX12_swim_18 : decode cX12_swim 18 = .ok (.iconst 4, 1) := by decide +kernel
theorem dX12_swim_19 : decode cX12_swim 19 = .ok (.iaload, 1) := by decide +kernel
theorem dX12_swim_20 : decode cX12_swim 20 = .ok (.iload_n 1, 1) := by decide +kernel
theorem dX12_swim_21 : decode cX12_swim 21 = .ok (.invokevirtual 242, 3) := by decide +kernel
theorem dX12_swim_24 : decode cX12_swim 24 = .ok (.ifCond .ne 7, 3) := by decide +kernel
theorem dX12_swim_27 : decode cX12_swim 27 = .ok (.iconst 2, 1) := by decide +kernel
theorem dX12_swim_28 : decode cX12_swim 28 = .ok (.goto 4, 3) := by decide +kernel
theorem dX12_swim_31 : decode cX12_swim 31 = .ok (.iconst 0, 1) := by decide +kernel
theorem dX12_swim_32 : decode cX12_swim 32 = .ok (.putfield 59, 3) := by decide +kernel
theorem dX12_swim_35 : decode cX12_swim 35 = .ok (.aload_n 0, 1) := by decide +kernel
theorem dX12_swim_36 : decode cX12_swim 36 = .ok (.getfield 59, 3) := by decide +kernel
theorem dX12_swim_39 : decode cX12_swim 39 = .ok (.ifCond .le 5, 3) := by decide +kernel
theorem dX12_swim_42 : decode cX12_swim 42 = .ok (.iconst 0, 1) := by decide +kernel
theorem dX12_swim_43 : decode cX12_swim 43 = .ok (.ireturn, 1) := by decide +kernel
theorem dX12_swim_44 : decode cX12_swim 44 = .ok (.aload_n 0, 1) := by decide +kernel
theorem dX12_swim_45 : decode cX12_swim 45 = .ok (.getfield 7, 3) := by decide +kernel
theorem dX12_swim_48 : decode cX12_swim 48 = .ok (.bipush 7, 2) := by decide +kernel
theorem dX12_swim_50 : decode cX12_swim 50 = .ok (.iaload, 1) := by decide +kernel
theorem dX12_swim_51 : decode cX12_swim 51 = .ok (.aload_n 0, 1) := by decide +kernel
theorem dX12_swim_52 : decode cX12_swim 52 = .ok (.invokevirtual 78, 3) := by decide +kernel
theorem dX12_swim_55 : decode cX12_swim 55 = .ok (.iadd, 1) := by decide +kernel
theorem dX12_swim_56 : decode cX12_swim 56 = .ok (.istore_n 2, 1) := by decide +kernel
theorem dX12_swim_57 : decode cX12_swim 57 = .ok (.aload_n 0, 1) := by decide +kernel
theorem dX12_swim_58 : decode cX12_swim 58 = .ok (.getfield 7, 3) := by decide +kernel
theorem dX12_swim_61 : decode cX12_swim 61 = .ok (.iconst 4, 1) := by decide +kernel
theorem dX12_swim_62 : decode cX12_swim 62 = .ok (.aload_n 0, 1) := by decide +kernel
theorem dX12_swim_63 : decode cX12_swim 63 = .ok (.getfield 7, 3) := by decide +kernel
theorem dX12_swim_66 : decode cX12_swim 66 = .ok (.iconst 4, 1) := by decide +kernel
theorem dX12_swim_67 : decode cX12_swim 67 = .ok (.iaload, 1) := by decide +kernel
theorem dX12_swim_68 : decode cX12_swim 68 = .ok (.iconst 1, 1) := by decide +kernel
theorem dX12_swim_69 : decode cX12_swim 69 = .ok (.iload_n 1, 1) := by decide +kernel
theorem dX12_swim_70 : decode cX12_swim 70 = .ok (.ishl, 1) := by decide +kernel
theorem dX12_swim_71 : decode cX12_swim 71 = .ok (.ixor, 1) := by decide +kernel
theorem dX12_swim_72 : decode cX12_swim 72 = .ok (.iastore, 1) := by decide +kernel
theorem dX12_swim_73 : decode cX12_swim 73 = .ok (.aload_n 0, 1) := by decide +kernel
theorem dX12_swim_74 : decode cX12_swim 74 = .ok (.getfield 7, 3) := by decide +kernel
theorem dX12_swim_77 : decode cX12_swim 77 = .ok (.bipush 11, 2) := by decide +kernel
theorem dX12_swim_79 : decode cX12_swim 79 = .ok (.dup2, 1) := by decide +kernel
theorem dX12_swim_80 : decode cX12_swim 80 = .ok (.iaload, 1) := by decide +kernel
theorem dX12_swim_81 : decode cX12_swim 81 = .ok (.iconst 1, 1) := by decide +kernel
theorem dX12_swim_82 : decode cX12_swim 82 = .ok (.iadd, 1) := by decide +kernel
theorem dX12_swim_83 : decode cX12_swim 83 = .ok (.iastore, 1) := by decide +kernel
theorem dX12_swim_84 : decode cX12_swim 84 = .ok (.aload_n 0, 1) := by decide +kernel
theorem dX12_swim_85 : decode cX12_swim 85 = .ok (.getfield 7, 3) := by decide +kernel
theorem dX12_swim_88 : decode cX12_swim 88 = .ok (.bipush 38, 2) := by decide +kernel
theorem dX12_swim_90 : decode cX12_swim 90 = .ok (.iconst 5, 1) := by decide +kernel
theorem dX12_swim_91 : decode cX12_swim 91 = .ok (.iload_n 1, 1) := by decide +kernel
theorem dX12_swim_92 : decode cX12_swim 92 = .ok (.imul, 1) := by decide +kernel
theorem dX12_swim_93 : decode cX12_swim 93 = .ok (.iadd, 1) := by decide +kernel
theorem dX12_swim_94 : decode cX12_swim 94 = .ok (.iconst 4, 1) := by decide +kernel
theorem dX12_swim_95 : decode cX12_swim 95 = .ok (.iadd, 1) := by decide +kernel
theorem dX12_swim_96 : decode cX12_swim 96 = .ok (.dup2, 1) := by decide +kernel
theorem dX12_swim_97 : decode cX12_swim 97 = .ok (.iaload, 1) := by decide +kernel
theorem dX12_swim_98 : decode cX12_swim 98 = .ok (.iconst 2, 1) := by decide +kernel
theorem dX12_swim_99 : decode cX12_swim 99 = .ok (.iadd, 1) := by decide +kernel
theorem dX12_swim_100 : decode cX12_swim 100 = .ok (.iastore, 1) := by decide +kernel
theorem dX12_swim_101 : decode cX12_swim 101 = .ok (.aload_n 0, 1) := by decide +kernel
theorem dX12_swim_102 : decode cX12_swim 102 = .ok (.iload_n 2, 1) := by decide +kernel
theorem dX12_swim_103 : decode cX12_swim 103 = .ok (.invokevirtual 236, 3) := by decide +kernel
theorem dX12_swim_106 : decode cX12_swim 106 = .ok (.iload_n 2, 1) := by decide +kernel
theorem dX12_swim_107 : decode cX12_swim 107 = .ok (.ireturn, 1) := by decide +kernel
theorem dX12_rest_0 : decode cX12_rest 0 = .ok (.aload_n 0, 1) := by decide +kernel
theorem dX12_rest_1 : decode cX12_rest 1 = .ok (.iload_n 1, 1) := by decide +kernel
theorem dX12_rest_2 : decode cX12_rest 2 = .ok (.iconst 1, 1) := by decide +kernel
theorem dX12_rest_3 : decode cX12_rest 3 = .ok (.sipush 600, 3) := by decide +kernel
theorem dX12_rest_6 : decode cX12_rest 6 = .ok (.invokestatic 62, 3) := by decide +kernel
theorem dX12_rest_9 : decode cX12_rest 9 = .ok (.ifCond .ne 7, 3) := by decide +kernel
theorem dX12_rest_12 : decode cX12_rest 12 = .ok (.iconst 1, 1) := by decide +kernel
theorem dX12_rest_13 : decode cX12_rest 13 = .ok (.goto 4, 3) := by decide +kernel
theorem dX12_rest_16 : decode cX12_rest 16 = .ok (.iconst 0, 1) := by decide +kernel
theorem dX12_rest_17 : decode cX12_rest 17 = .ok (.putfield 59, 3) := by decide +kernel
theorem dX12_rest_20 : decode cX12_rest 20 = .ok (.aload_n 0, 1) := by decide +kernel
theorem dX12_rest_21 : decode cX12_rest 21 = .ok (.getfield 59, 3) := by decide +kernel
theorem dX12_rest_24 : decode cX12_rest 24 = .ok (.ifCond .le 5, 3) := by decide +kernel
theorem dX12_rest_27 : decode cX12_rest 27 = .ok (.iconst 0, 1) := by decide +kernel
theorem dX12_rest_28 : decode cX12_rest 28 = .ok (.ireturn, 1) := by decide +kernel
theorem dX12_rest_29 : decode cX12_rest 29 = .ok (.aload_n 0, 1) := by decide +kernel
theorem dX12_rest_30 : decode cX12_rest 30 = .ok (.iload_n 1, 1) := by decide +kernel
theorem dX12_rest_31 : decode cX12_rest 31 = .ok (.invokevirtual 236, 3) := by decide +kernel
theorem dX12_rest_34 : decode cX12_rest 34 = .ok (.aload_n 0, 1) := by decide +kernel
theorem dX12_rest_35 : decode cX12_rest 35 = .ok (.getfield 7, 3) := by decide +kernel
theorem dX12_rest_38 : decode cX12_rest 38 = .ok (.iconst 2, 1) := by decide +kernel
theorem dX12_rest_39 : decode cX12_rest 39 = .ok (.iaload, 1) := by decide +kernel
theorem dX12_rest_40 : decode cX12_rest 40 = .ok (.ireturn, 1) := by decide +kernel
theorem dX12_may_0 : decode cX12_may 0 = .ok (.aload_n 0, 1) := by decide +kernel
theorem dX12_may_1 : decode cX12_may 1 = .ok (.iconst 0, 1) := by decide +kernel
theorem dX12_may_2 : decode cX12_may 2 = .ok (.putfield 59, 3) := by decide +kernel
theorem dX12_may_5 : decode cX12_may 5 = .ok (.aload_n 0, 1) := by decide +kernel
theorem dX12_may_6 : decode cX12_may 6 = .ok (.iload_n 1, 1) := by decide +kernel
theorem dX12_may_7 : decode cX12_may 7 = .ok (.aload_n 0, 1) := by decide +kernel
theorem dX12_may_8 : decode cX12_may 8 = .ok (.invokevirtual 208, 3) := by decide +kernel
theorem dX12_may_11 : decode cX12_may 11 = .ok (.iand, 1) := by decide +kernel
theorem dX12_may_12 : decode cX12_may 12 = .ok (.invokevirtual 220, 3) := by decide +kernel
theorem dX12_may_15 : decode cX12_may 15 = .ok (.ireturn, 1) := by decide +kernel
theorem dX12_balanceOf_0 : decode cX12_balanceOf 0 = .ok (.iconst 0, 1) := by decide +kernel
theorem dX12_balanceOf_1 : decode cX12_balanceOf 1 = .ok (.istore_n 2, 1) := by decide +kernel
theorem dX12_balanceOf_2 : decode cX12_balanceOf 2 = .ok (.iconst 0, 1) := by decide +kernel
theorem dX12_balanceOf_3 : decode cX12_balanceOf 3 = .ok (.istore_n 3, 1) := by decide +kernel
theorem dX12_balanceOf_4 : decode cX12_balanceOf 4 = .ok (.iload_n 3, 1) := by decide +kernel
theorem dX12_balanceOf_5 : decode cX12_balanceOf 5 = .ok (.aload_n 0, 1) := by decide +kernel
theorem dX12_balanceOf_6 : decode cX12_balanceOf 6 = .ok (.getfield 7, 3) := by decide +kernel
theorem dX12_balanceOf_9 : decode cX12_balanceOf 9 = .ok (.iconst 1, 1) := by decide +kernel
theorem dX12_balanceOf_10 : decode cX12_balanceOf 10 = .ok (.iaload, 1) := by decide +kernel
theorem dX12_balanceOf_11 : decode cX12_balanceOf 11 = .ok (.if_icmp .ge 43, 3) := by decide +kernel
theorem dX12_balanceOf_14 : decode cX12_balanceOf 14 = .ok (.iload_n 2, 1) := by decide +kernel
theorem dX12_balanceOf_15 : decode cX12_balanceOf 15 = .ok (.aload_n 0, 1) := by decide +kernel
theorem dX12_balanceOf_16 : decode cX12_balanceOf 16 = .ok (.getfield 7, 3) := by decide +kernel
theorem dX12_balanceOf_19 : decode cX12_balanceOf 19 = .ok (.sipush 148, 3) := by decide +kernel
theorem dX12_balanceOf_22 : decode cX12_balanceOf 22 = .ok (.bipush 10, 2) := by decide +kernel
theorem dX12_balanceOf_24 : decode cX12_balanceOf 24 = .ok (.iload_n 3, 1) := by decide +kernel
theorem dX12_balanceOf_25 : decode cX12_balanceOf 25 = .ok (.imul, 1) := by decide +kernel
theorem dX12_balanceOf_26 : decode cX12_balanceOf 26 = .ok (.iadd, 1) := by decide +kernel
theorem dX12_balanceOf_27 : decode cX12_balanceOf 27 = .ok (.iload_n 1, 1) := by decide +kernel
theorem dX12_balanceOf_28 : decode cX12_balanceOf 28 = .ok (.iadd, 1) := by decide +kernel
theorem dX12_balanceOf_29 : decode cX12_balanceOf 29 = .ok (.iaload, 1) := by decide +kernel
theorem dX12_balanceOf_30 : decode cX12_balanceOf 30 = .ok (.aload_n 0, 1) := by decide +kernel
theorem dX12_balanceOf_31 : decode cX12_balanceOf 31 = .ok (.getfield 7, 3) := by decide +kernel
theorem dX12_balanceOf_34 : decode cX12_balanceOf 34 = .ok (.sipush 148, 3) := by decide +kernel
theorem dX12_balanceOf_37 : decode cX12_balanceOf 37 = .ok (.bipush 10, 2) := by decide +kernel
theorem dX12_balanceOf_39 : decode cX12_balanceOf 39 = .ok (.iload_n 1, 1) := by decide +kernel
theorem dX12_balanceOf_40 : decode cX12_balanceOf 40 = .ok (.imul, 1) := by decide +kernel
theorem dX12_balanceOf_41 : decode cX12_balanceOf 41 = .ok (.iadd, 1) := by decide +kernel
theorem dX12_balanceOf_42 : decode cX12_balanceOf 42 = .ok (.iload_n 3, 1) := by decide +kernel
theorem dX12_balanceOf_43 : decode cX12_balanceOf 43 = .ok (.iadd, 1) := by decide +kernel
theorem dX12_balanceOf_44 : decode cX12_balanceOf 44 = .ok (.iaload, 1) := by decide +kernel
theorem dX12_balanceOf_45 : decode cX12_balanceOf 45 = .ok (.isub, 1) := by decide +kernel
theorem dX12_balanceOf_46 : decode cX12_balanceOf 46 = .ok (.iadd, 1) := by decide +kernel
theorem dX12_balanceOf_47 : decode cX12_balanceOf 47 = .ok (.istore_n 2, 1) := by decide +kernel
theorem dX12_balanceOf_48 : decode cX12_balanceOf 48 = .ok (.iinc 3 1, 3) := by decide +kernel
theorem dX12_balanceOf_51 : decode cX12_balanceOf 51 = .ok (.goto (-47), 3) := by decide +kernel
theorem dX12_balanceOf_54 : decode cX12_balanceOf 54 = .ok (.iload_n 2, 1) := by decide +kernel
theorem dX12_balanceOf_55 : decode cX12_balanceOf 55 = .ok (.ireturn, 1) := by decide +kernel
theorem dX12_look_0 : decode cX12_look 0 = .ok (.aload_n 0, 1) := by decide +kernel
theorem dX12_look_1 : decode cX12_look 1 = .ok (.aload_n 0, 1) := by decide +kernel
theorem dX12_look_2 : decode cX12_look 2 = .ok (.iload_n 1, 1) := by decide +kernel
theorem dX12_look_3 : decode cX12_look 3 = .ok (.invokevirtual 239, 3) := by decide +kernel
theorem dX12_look_6 : decode cX12_look 6 = .ok (.ifCond .ne 7, 3) := by decide +kernel
theorem dX12_look_9 : decode cX12_look 9 = .ok (.iconst 1, 1) := by decide +kernel
theorem dX12_look_10 : decode cX12_look 10 = .ok (.goto 18, 3) := by decide +kernel
theorem dX12_look_13 : decode cX12_look 13 = .ok (.iload_n 2, 1) := by decide +kernel
theorem dX12_look_14 : decode cX12_look 14 = .ok (.iconst 0, 1) := by decide +kernel
theorem dX12_look_15 : decode cX12_look 15 = .ok (.bipush 7, 2) := by decide +kernel
theorem dX12_look_17 : decode cX12_look 17 = .ok (.invokestatic 62, 3) := by decide +kernel
theorem dX12_look_20 : decode cX12_look 20 = .ok (.ifCond .ne 7, 3) := by decide +kernel
theorem dX12_look_23 : decode cX12_look 23 = .ok (.iconst 2, 1) := by decide +kernel
theorem dX12_look_24 : decode cX12_look 24 = .ok (.goto 4, 3) := by decide +kernel
theorem dX12_look_27 : decode cX12_look 27 = .ok (.iconst 0, 1) := by decide +kernel
theorem dX12_look_28 : decode cX12_look 28 = .ok (.putfield 59, 3) := by decide +kernel
theorem dX12_look_31 : decode cX12_look 31 = .ok (.aload_n 0, 1) := by decide +kernel
theorem dX12_look_32 : decode cX12_look 32 = .ok (.getfield 59, 3) := by decide +kernel
theorem dX12_look_35 : decode cX12_look 35 = .ok (.ifCond .le 5, 3) := by decide +kernel
theorem dX12_look_38 : decode cX12_look 38 = .ok (.iconst 0, 1) := by decide +kernel
theorem dX12_look_39 : decode cX12_look 39 = .ok (.ireturn, 1) := by decide +kernel
theorem dX12_look_40 : decode cX12_look 40 = .ok (.iload_n 2, 1) := by decide +kernel
theorem dX12_look_41 : decode cX12_look 41 = .ok (.iconst 5, 1) := by decide +kernel
theorem dX12_look_42 : decode cX12_look 42 = .ok (.if_icmp .ge 12, 3) := by decide +kernel
theorem dX12_look_45 : decode cX12_look 45 = .ok (.aload_n 0, 1) := by decide +kernel
theorem dX12_look_46 : decode cX12_look 46 = .ok (.iload_n 1, 1) := by decide +kernel
theorem dX12_look_47 : decode cX12_look 47 = .ok (.iload_n 2, 1) := by decide +kernel
theorem dX12_look_48 : decode cX12_look 48 = .ok (.invokevirtual 66, 3) := by decide +kernel
theorem dX12_look_51 : decode cX12_look 51 = .ok (.goto 40, 3) := by decide +kernel
theorem dX12_look_54 : decode cX12_look 54 = .ok (.iload_n 2, 1) := by decide +kernel
theorem dX12_look_55 : decode cX12_look 55 = .ok (.iconst 5, 1) := by decide +kernel
theorem dX12_look_56 : decode cX12_look 56 = .ok (.if_icmp .ne 11, 3) := by decide +kernel
theorem dX12_look_59 : decode cX12_look 59 = .ok (.aload_n 0, 1) := by decide +kernel
theorem dX12_look_60 : decode cX12_look 60 = .ok (.iload_n 1, 1) := by decide +kernel
theorem dX12_look_61 : decode cX12_look 61 = .ok (.invokevirtual 74, 3) := by decide +kernel
theorem dX12_look_64 : decode cX12_look 64 = .ok (.goto 27, 3) := by decide +kernel
theorem dX12_look_67 : decode cX12_look 67 = .ok (.iload_n 2, 1) := by decide +kernel
theorem dX12_look_68 : decode cX12_look 68 = .ok (.bipush 6, 2) := by decide +kernel
theorem dX12_look_70 : decode cX12_look 70 = .ok (.if_icmp .ne 16, 3) := by decide +kernel
theorem dX12_look_73 : decode cX12_look 73 = .ok (.aload_n 0, 1) := by decide +kernel
theorem dX12_look_74 : decode cX12_look 74 = .ok (.getfield 7, 3) := by decide +kernel
theorem dX12_look_77 : decode cX12_look 77 = .ok (.iconst 4, 1) := by decide +kernel
theorem dX12_look_78 : decode cX12_look 78 = .ok (.iaload, 1) := by decide +kernel
theorem dX12_look_79 : decode cX12_look 79 = .ok (.iload_n 1, 1) := by decide +kernel
theorem dX12_look_80 : decode cX12_look 80 = .ok (.ishr, 1) := by decide +kernel
theorem dX12_look_81 : decode cX12_look 81 = .ok (.iconst 1, 1) := by decide +kernel
theorem dX12_look_82 : decode cX12_look 82 = .ok (.iand, 1) := by decide +kernel
theorem dX12_look_83 : decode cX12_look 83 = .ok (.goto 8, 3) := by decide +kernel
theorem dX12_look_86 : decode cX12_look 86 = .ok (.aload_n 0, 1) := by decide +kernel
theorem dX12_look_87 : decode cX12_look 87 = .ok (.iload_n 1, 1) := by decide +kernel
theorem dX12_look_88 : decode cX12_look 88 = .ok (.invokevirtual 245, 3) := by decide +kernel
theorem dX12_look_91 : decode cX12_look 91 = .ok (.ireturn, 1) := by decide +kernel
theorem dX12_owed_0 : decode cX12_owed 0 = .ok (.aload_n 0, 1) := by decide +kernel
theorem dX12_owed_1 : decode cX12_owed 1 = .ok (.aload_n 0, 1) := by decide +kernel
theorem dX12_owed_2 : decode cX12_owed 2 = .ok (.iload_n 1, 1) := by decide +kernel
theorem dX12_owed_3 : decode cX12_owed 3 = .ok (.invokevirtual 239, 3) := by decide +kernel
theorem dX12_owed_6 : decode cX12_owed 6 = .ok (.ifCond .eq 11, 3) := by decide +kernel
theorem dX12_owed_9 : decode cX12_owed 9 = .ok (.aload_n 0, 1) := by decide +kernel
theorem dX12_owed_10 : decode cX12_owed 10 = .ok (.iload_n 2, 1) := by decide +kernel
theorem dX12_owed_11 : decode cX12_owed 11 = .ok (.invokevirtual 239, 3) := by decide +kernel
theorem dX12_owed_14 : decode cX12_owed 14 = .ok (.ifCond .ne 7, 3) := by decide +kernel
theorem dX12_owed_17 : decode cX12_owed 17 = .ok (.iconst 1, 1) := by decide +kernel
theorem dX12_owed_18 : decode cX12_owed 18 = .ok (.goto 4, 3) := by decide +kernel
theorem dX12_owed_21 : decode cX12_owed 21 = .ok (.iconst 0, 1) := by decide +kernel
theorem dX12_owed_22 : decode cX12_owed 22 = .ok (.putfield 59, 3) := by decide +kernel
theorem dX12_owed_25 : decode cX12_owed 25 = .ok (.aload_n 0, 1) := by decide +kernel
theorem dX12_owed_26 : decode cX12_owed 26 = .ok (.getfield 59, 3) := by decide +kernel
theorem dX12_owed_29 : decode cX12_owed 29 = .ok (.ifCond .le 5, 3) := by decide +kernel
theorem dX12_owed_32 : decode cX12_owed 32 = .ok (.iconst 0, 1) := by decide +kernel
theorem dX12_owed_33 : decode cX12_owed 33 = .ok (.ireturn, 1) := by decide +kernel
theorem dX12_owed_34 : decode cX12_owed 34 = .ok (.aload_n 0, 1) := by decide +kernel
theorem dX12_owed_35 : decode cX12_owed 35 = .ok (.getfield 7, 3) := by decide +kernel
theorem dX12_owed_38 : decode cX12_owed 38 = .ok (.sipush 148, 3) := by decide +kernel
theorem dX12_owed_41 : decode cX12_owed 41 = .ok (.bipush 10, 2) := by decide +kernel
theorem dX12_owed_43 : decode cX12_owed 43 = .ok (.iload_n 1, 1) := by decide +kernel
theorem dX12_owed_44 : decode cX12_owed 44 = .ok (.imul, 1) := by decide +kernel
theorem dX12_owed_45 : decode cX12_owed 45 = .ok (.iadd, 1) := by decide +kernel
theorem dX12_owed_46 : decode cX12_owed 46 = .ok (.iload_n 2, 1) := by decide +kernel
theorem dX12_owed_47 : decode cX12_owed 47 = .ok (.iadd, 1) := by decide +kernel
theorem dX12_owed_48 : decode cX12_owed 48 = .ok (.iaload, 1) := by decide +kernel
theorem dX12_owed_49 : decode cX12_owed 49 = .ok (.ireturn, 1) := by decide +kernel
theorem dX12_clear_0 : decode cX12_clear 0 = .ok (.aload_n 0, 1) := by decide +kernel
theorem dX12_clear_1 : decode cX12_clear 1 = .ok (.iload_n 1, 1) := by decide +kernel
theorem dX12_clear_2 : decode cX12_clear 2 = .ok (.iconst (-1), 1) := by decide +kernel
theorem dX12_clear_3 : decode cX12_clear 3 = .ok (.if_icmp .ge 7, 3) := by decide +kernel
theorem dX12_clear_6 : decode cX12_clear 6 = .ok (.iconst 1, 1) := by decide +kernel
theorem dX12_clear_7 : decode cX12_clear 7 = .ok (.goto 4, 3) := by decide +kernel
theorem dX12_clear_10 : decode cX12_clear 10 = .ok (.iconst 0, 1) := by decide +kernel
theorem dX12_clear_11 : decode cX12_clear 11 = .ok (.putfield 59, 3) := by decide +kernel
theorem dX12_clear_14 : decode cX12_clear 14 = .ok (.aload_n 0, 1) := by decide +kernel
theorem dX12_clear_15 : decode cX12_clear 15 = .ok (.getfield 59, 3) := by decide +kernel
theorem dX12_clear_18 : decode cX12_clear 18 = .ok (.ifCond .le 5, 3) := by decide +kernel
theorem dX12_clear_21 : decode cX12_clear 21 = .ok (.iconst 0, 1) := by decide +kernel
theorem dX12_clear_22 : decode cX12_clear 22 = .ok (.ireturn, 1) := by decide +kernel
theorem dX12_clear_23 : decode cX12_clear 23 = .ok (.iconst 0, 1) := by decide +kernel
theorem dX12_clear_24 : decode cX12_clear 24 = .ok (.istore_n 2, 1) := by decide +kernel
theorem dX12_clear_25 : decode cX12_clear 25 = .ok (.iload_n 2, 1) := by decide +kernel
theorem dX12_clear_26 : decode cX12_clear 26 = .ok (.aload_n 0, 1) := by decide +kernel
theorem dX12_clear_27 : decode cX12_clear 27 = .ok (.getfield 7, 3) := by decide +kernel
theorem dX12_clear_30 : decode cX12_clear 30 = .ok (.iconst 1, 1) := by decide +kernel
theorem dX12_clear_31 : decode cX12_clear 31 = .ok (.iaload, 1) := by decide +kernel
theorem dX12_clear_32 : decode cX12_clear 32 = .ok (.if_icmp .ge 20, 3) := by decide +kernel
theorem dX12_clear_35 : decode cX12_clear 35 = .ok (.aload_n 0, 1) := by decide +kernel
theorem dX12_clear_36 : decode cX12_clear 36 = .ok (.getfield 47, 3) := by decide +kernel
theorem dX12_clear_39 : decode cX12_clear 39 = .ok (.iload_n 2, 1) := by decide +kernel
theorem dX12_clear_40 : decode cX12_clear 40 = .ok (.aload_n 0, 1) := by decide +kernel
theorem dX12_clear_41 : decode cX12_clear 41 = .ok (.iload_n 2, 1) := by decide +kernel
theorem dX12_clear_42 : decode cX12_clear 42 = .ok (.invokevirtual 245, 3) := by decide +kernel
theorem dX12_clear_45 : decode cX12_clear 45 = .ok (.iastore, 1) := by decide +kernel
theorem dX12_clear_46 : decode cX12_clear 46 = .ok (.iinc 2 1, 3) := by decide +kernel
theorem dX12_clear_49 : decode cX12_clear 49 = .ok (.goto (-24), 3) := by decide +kernel
theorem dX12_clear_52 : decode cX12_clear 52 = .ok (.iconst 0, 1) := by decide +kernel
theorem dX12_clear_53 : decode cX12_clear 53 = .ok (.istore_n 2, 1) := by decide +kernel
theorem dX12_clear_54 : decode cX12_clear 54 = .ok (.iconst 1, 1) := by decide +kernel
theorem dX12_clear_55 : decode cX12_clear 55 = .ok (.istore_n 3, 1) := by decide +kernel
theorem dX12_clear_56 : decode cX12_clear 56 = .ok (.iload_n 3, 1) := by decide +kernel
theorem dX12_clear_57 : decode cX12_clear 57 = .ok (.ifCond .eq 214, 3) := by decide +kernel
theorem dX12_clear_60 : decode cX12_clear 60 = .ok (.iconst (-1), 1) := by decide +kernel
theorem dX12_clear_61 : decode cX12_clear 61 = .ok (.istore 4, 2) := by decide +kernel
theorem dX12_clear_63 : decode cX12_clear 63 = .ok (.iconst (-1), 1) := by decide +kernel
theorem dX12_clear_64 : decode cX12_clear 64 = .ok (.istore 5, 2) := by decide +kernel
theorem dX12_clear_66 : decode cX12_clear 66 = .ok (.iconst 0, 1) := by decide +kernel
theorem dX12_clear_67 : decode cX12_clear 67 = .ok (.istore 6, 2) := by decide +kernel
theorem dX12_clear_69 : decode cX12_clear 69 = .ok (.iload 6, 2) := by decide +kernel
theorem dX12_clear_71 : decode cX12_clear 71 = .ok (.aload_n 0, 1) := by decide +kernel
theorem dX12_clear_72 : decode cX12_clear 72 = .ok (.getfield 7, 3) := by decide +kernel
theorem dX12_clear_75 : decode cX12_clear 75 = .ok (.iconst 1, 1) := by decide +kernel
theorem dX12_clear_76 : decode cX12_clear 76 = .ok (.iaload, 1) := by decide +kernel
theorem dX12_clear_77 : decode cX12_clear 77 = .ok (.if_icmp .ge 73, 3) := by decide +kernel
theorem dX12_clear_80 : decode cX12_clear 80 = .ok (.iload 4, 2) := by decide +kernel
theorem dX12_clear_82 : decode cX12_clear 82 = .ok (.iconst (-1), 1) := by decide +kernel
theorem dX12_clear_83 : decode cX12_clear 83 = .ok (.if_icmp .eq 20, 3) := by decide +kernel
theorem dX12_clear_86 : decode cX12_clear 86 = .ok (.aload_n 0, 1) := by decide +kernel
theorem dX12_clear_87 : decode cX12_clear 87 = .ok (.getfield 47, 3) := by decide +kernel
theorem dX12_clear_90 : decode cX12_clear 90 = .ok (.iload 6, 2) := by decide +kernel
theorem dX12_clear_92 : decode cX12_clear 92 = .ok (.iaload, 1) := by decide +kernel
theorem dX12_clear_93 : decode cX12_clear 93 = .ok (.aload_n 0, 1) := by decide +kernel
theorem dX12_clear_94 : decode cX12_clear 94 = .ok (.getfield 47, 3) := by decide +kernel
theorem dX12_clear_97 : decode cX12_clear 97 = .ok (.iload 4, 2) := by decide +kernel
theorem dX12_clear_99 : decode cX12_clear 99 = .ok (.iaload, 1) := by decide +kernel
theorem dX12_clear_100 : decode cX12_clear 100 = .ok (.if_icmp .le 8, 3) := by decide +kernel
theorem dX12_clear_103 : decode cX12_clear 103 = .ok (.iload 6, 2) := by decide +kernel
theorem dX12_clear_105 : decode cX12_clear 105 = .ok (.goto 5, 3) := by decide +kernel
theorem dX12_clear_108 : decode cX12_clear 108 = .ok (.iload 4, 2) := by decide +kernel
theorem dX12_clear_110 : decode cX12_clear 110 = .ok (.istore 4, 2) := by decide +kernel
theorem dX12_clear_112 : decode cX12_clear 112 = .ok (.iload 5, 2) := by decide +kernel
theorem dX12_clear_114 : decode cX12_clear 114 = .ok (.iconst (-1), 1) := by decide +kernel
theorem dX12_clear_115 : decode cX12_clear 115 = .ok (.if_icmp .eq 20, 3) := by decide +kernel
theorem dX12_clear_118 : decode cX12_clear 118 = .ok (.aload_n 0, 1) := by decide +kernel
theorem dX12_clear_119 : decode cX12_clear 119 = .ok (.getfield 47, 3) := by decide +kernel
theorem dX12_clear_122 : decode cX12_clear 122 = .ok (.iload 6, 2) := by decide +kernel
theorem dX12_clear_124 : decode cX12_clear 124 = .ok (.iaload, 1) := by decide +kernel
theorem dX12_clear_125 : decode cX12_clear 125 = .ok (.aload_n 0, 1) := by decide +kernel
theorem dX12_clear_126 : decode cX12_clear 126 = .ok (.getfield 47, 3) := by decide +kernel
theorem dX12_clear_129 : decode cX12_clear 129 = .ok (.iload 5, 2) := by decide +kernel
theorem dX12_clear_131 : decode cX12_clear 131 = .ok (.iaload, 1) := by decide +kernel
theorem dX12_clear_132 : decode cX12_clear 132 = .ok (.if_icmp .ge 8, 3) := by decide +kernel
theorem dX12_clear_135 : decode cX12_clear 135 = .ok (.iload 6, 2) := by decide +kernel
theorem dX12_clear_137 : decode cX12_clear 137 = .ok (.goto 5, 3) := by decide +kernel
theorem dX12_clear_140 : decode cX12_clear 140 = .ok (.iload 5, 2) := by decide +kernel
theorem dX12_clear_142 : decode cX12_clear 142 = .ok (.istore 5, 2) := by decide +kernel
theorem dX12_clear_144 : decode cX12_clear 144 = .ok (.iinc 6 1, 3) := by decide +kernel
theorem dX12_clear_147 : decode cX12_clear 147 = .ok (.goto (-78), 3) := by decide +kernel
theorem dX12_clear_150 : decode cX12_clear 150 = .ok (.iload 4, 2) := by decide +kernel
theorem dX12_clear_152 : decode cX12_clear 152 = .ok (.iconst (-1), 1) := by decide +kernel
theorem dX12_clear_153 : decode cX12_clear 153 = .ok (.if_icmp .eq 17, 3) := by decide +kernel
theorem dX12_clear_156 : decode cX12_clear 156 = .ok (.aload_n 0, 1) := by decide +kernel
theorem dX12_clear_157 : decode cX12_clear 157 = .ok (.getfield 47, 3) := by decide +kernel
theorem dX12_clear_160 : decode cX12_clear 160 = .ok (.iload 4, 2) := by decide +kernel
theorem dX12_clear_162 : decode cX12_clear 162 = .ok (.iaload, 1) := by decide +kernel
theorem dX12_clear_163 : decode cX12_clear 163 = .ok (.ifCond .le 7, 3) := by decide +kernel
theorem dX12_clear_166 : decode cX12_clear 166 = .ok (.iconst 1, 1) := by decide +kernel
theorem dX12_clear_167 : decode cX12_clear 167 = .ok (.goto 4, 3) := by decide +kernel
theorem dX12_clear_170 : decode cX12_clear 170 = .ok (.iconst 0, 1) := by decide +kernel
theorem dX12_clear_171 : decode cX12_clear 171 = .ok (.istore_n 3, 1) := by decide +kernel
theorem dX12_clear_172 : decode cX12_clear 172 = .ok (.iload_n 3, 1) := by decide +kernel
theorem dX12_clear_173 : decode cX12_clear 173 = .ok (.ifCond .ne 6, 3) := by decide +kernel
theorem dX12_clear_176 : decode cX12_clear 176 = .ok (.goto (-120), 3) := by decide +kernel
theorem dX12_clear_179 : decode cX12_clear 179 = .ok (.aload_n 0, 1) := by decide +kernel
theorem dX12_clear_180 : decode cX12_clear 180 = .ok (.getfield 47, 3) := by decide +kernel
theorem dX12_clear_183 : decode cX12_clear 183 = .ok (.iload 4, 2) := by decide +kernel
theorem dX12_clear_185 : decode cX12_clear 185 = .ok (.iaload, 1) := by decide +kernel
theorem dX12_clear_186 : decode cX12_clear 186 = .ok (.aload_n 0, 1) := by decide +kernel
theorem dX12_clear_187 : decode cX12_clear 187 = .ok (.getfield 47, 3) := by decide +kernel
theorem dX12_clear_190 : decode cX12_clear 190 = .ok (.iload 5, 2) := by decide +kernel
theorem dX12_clear_192 : decode cX12_clear 192 = .ok (.iaload, 1) := by decide +kernel
theorem dX12_clear_193 : decode cX12_clear 193 = .ok (.ineg, 1) := by decide +kernel
theorem dX12_clear_194 : decode cX12_clear 194 = .ok (.if_icmp .ge 13, 3) := by decide +kernel
theorem dX12_clear_197 : decode cX12_clear 197 = .ok (.aload_n 0, 1) := by decide +kernel
theorem dX12_clear_198 : decode cX12_clear 198 = .ok (.getfield 47, 3) := by decide +kernel
theorem dX12_clear_201 : decode cX12_clear 201 = .ok (.iload 4, 2) := by decide +kernel
theorem dX12_clear_203 : decode cX12_clear 203 = .ok (.iaload, 1) := by decide +kernel
theorem dX12_clear_204 : decode cX12_clear 204 = .ok (.goto 11, 3) := by decide +kernel
theorem dX12_clear_207 : decode cX12_clear 207 = .ok (.aload_n 0, 1) := by decide +kernel
theorem dX12_clear_208 : decode cX12_clear 208 = .ok (.getfield 47, 3) := by decide +kernel
theorem dX12_clear_211 : decode cX12_clear 211 = .ok (.iload 5, 2) := by decide +kernel
theorem dX12_clear_213 : decode cX12_clear 213 = .ok (.iaload, 1) := by decide +kernel
theorem dX12_clear_214 : decode cX12_clear 214 = .ok (.ineg, 1) := by decide +kernel
theorem dX12_clear_215 : decode cX12_clear 215 = .ok (.istore 6, 2) := by decide +kernel
theorem dX12_clear_217 : decode cX12_clear 217 = .ok (.iload_n 2, 1) := by decide +kernel
theorem dX12_clear_218 : decode cX12_clear 218 = .ok (.iload_n 1, 1) := by decide +kernel
theorem dX12_clear_219 : decode cX12_clear 219 = .ok (.if_icmp .ne 22, 3) := by decide +kernel
theorem dX12_clear_222 : decode cX12_clear 222 = .ok (.sipush 10000, 3) := by decide +kernel
theorem dX12_clear_225 : decode cX12_clear 225 = .ok (.iload 5, 2) := by decide +kernel
theorem dX12_clear_227 : decode cX12_clear 227 = .ok (.imul, 1) := by decide +kernel
theorem dX12_clear_228 : decode cX12_clear 228 = .ok (.bipush 100, 2) := by decide +kernel
theorem dX12_clear_230 : decode cX12_clear 230 = .ok (.iload 4, 2) := by decide +kernel
theorem dX12_clear_232 : decode cX12_clear 232 = .ok (.imul, 1) := by decide +kernel
theorem dX12_clear_233 : decode cX12_clear 233 = .ok (.iadd, 1) := by decide +kernel
theorem dX12_clear_234 : decode cX12_clear 234 = .ok (.iload 6, 2) := by decide +kernel
theorem dX12_clear_236 : decode cX12_clear 236 = .ok (.bipush 100, 2) := by decide +kernel
theorem dX12_clear_238 : decode cX12_clear 238 = .ok (.irem, 1) := by decide +kernel
theorem dX12_clear_239 : decode cX12_clear 239 = .ok (.iadd, 1) := by decide +kernel
theorem dX12_clear_240 : decode cX12_clear 240 = .ok (.ireturn, 1) := by decide +kernel
theorem dX12_clear_241 : decode cX12_clear 241 = .ok (.aload_n 0, 1) := by decide +kernel
theorem dX12_clear_242 : decode cX12_clear 242 = .ok (.getfield 47, 3) := by decide +kernel
theorem dX12_clear_245 : decode cX12_clear 245 = .ok (.iload 4, 2) := by decide +kernel
theorem dX12_clear_247 : decode cX12_clear 247 = .ok (.dup2, 1) := by decide +kernel
theorem dX12_clear_248 : decode cX12_clear 248 = .ok (.iaload, 1) := by decide +kernel
theorem dX12_clear_249 : decode cX12_clear 249 = .ok (.iload 6, 2) := by decide +kernel
theorem dX12_clear_251 : decode cX12_clear 251 = .ok (.isub, 1) := by decide +kernel
theorem dX12_clear_252 : decode cX12_clear 252 = .ok (.iastore, 1) := by decide +kernel
theorem dX12_clear_253 : decode cX12_clear 253 = .ok (.aload_n 0, 1) := by decide +kernel
theorem dX12_clear_254 : decode cX12_clear 254 = .ok (.getfield 47, 3) := by decide +kernel
theorem dX12_clear_257 : decode cX12_clear 257 = .ok (.iload 5, 2) := by decide +kernel
theorem dX12_clear_259 : decode cX12_clear 259 = .ok (.dup2, 1) := by decide +kernel
theorem dX12_clear_260 : decode cX12_clear 260 = .ok (.iaload, 1) := by decide +kernel
theorem dX12_clear_261 : decode cX12_clear 261 = .ok (.iload 6, 2) := by decide +kernel
theorem dX12_clear_263 : decode cX12_clear 263 = .ok (.iadd, 1) := by decide +kernel
theorem dX12_clear_264 : decode cX12_clear 264 = .ok (.iastore, 1) := by decide +kernel
theorem dX12_clear_265 : decode cX12_clear 265 = .ok (.iinc 2 1, 3) := by decide +kernel
theorem dX12_clear_268 : decode cX12_clear 268 = .ok (.goto (-212), 3) := by decide +kernel
theorem dX12_clear_271 : decode cX12_clear 271 = .ok (.iload_n 1, 1) := by decide +kernel
theorem dX12_clear_272 : decode cX12_clear 272 = .ok (.iconst (-1), 1) := by decide +kernel
theorem dX12_clear_273 : decode cX12_clear 273 = .ok (.if_icmp .ne 7, 3) := by decide +kernel
theorem dX12_clear_276 : decode cX12_clear 276 = .ok (.iload_n 2, 1) := by decide +kernel
theorem dX12_clear_277 : decode cX12_clear 277 = .ok (.goto 4, 3) := by decide +kernel
theorem dX12_clear_280 : decode cX12_clear 280 = .ok (.iconst (-1), 1) := by decide +kernel
theorem dX12_clear_281 : decode cX12_clear 281 = .ok (.ireturn, 1) := by decide +kernel
theorem dX12_pullersAt_0 : decode cX12_pullersAt 0 = .ok (.iload_n 2, 1) := by decide +kernel
theorem dX12_pullersAt_1 : decode cX12_pullersAt 1 = .ok (.ifCond .ne 7, 3) := by decide +kernel
theorem dX12_pullersAt_4 : decode cX12_pullersAt 4 = .ok (.iload_n 1, 1) := by decide +kernel
theorem dX12_pullersAt_5 : decode cX12_pullersAt 5 = .ok (.goto 11, 3) := by decide +kernel
theorem dX12_pullersAt_8 : decode cX12_pullersAt 8 = .ok (.aload_n 0, 1) := by decide +kernel
theorem dX12_pullersAt_9 : decode cX12_pullersAt 9 = .ok (.invokevirtual 208, 3) := by decide +kernel
theorem dX12_pullersAt_12 : decode cX12_pullersAt 12 = .ok (.iload_n 1, 1) := by decide +kernel
theorem dX12_pullersAt_13 : decode cX12_pullersAt 13 = .ok (.iconst (-1), 1) := by decide +kernel
theorem dX12_pullersAt_14 : decode cX12_pullersAt 14 = .ok (.ixor, 1) := by decide +kernel
theorem dX12_pullersAt_15 : decode cX12_pullersAt 15 = .ok (.iand, 1) := by decide +kernel
theorem dX12_pullersAt_16 : decode cX12_pullersAt 16 = .ok (.istore_n 3, 1) := by decide +kernel
theorem dX12_pullersAt_17 : decode cX12_pullersAt 17 = .ok (.iconst 0, 1) := by decide +kernel
theorem dX12_pullersAt_18 : decode cX12_pullersAt 18 = .ok (.istore 4, 2) := by decide +kernel
theorem dX12_pullersAt_20 : decode cX12_pullersAt 20 = .ok (.iconst 0, 1) := by decide +kernel
theorem dX12_pullersAt_21 : decode cX12_pullersAt 21 = .ok (.istore 5, 2) := by decide +kernel
theorem dX12_pullersAt_23 : decode cX12_pullersAt 23 = .ok (.iload 5, 2) := by decide +kernel
theorem dX12_pullersAt_25 : decode cX12_pullersAt 25 = .ok (.aload_n 0, 1) := by decide +kernel
theorem dX12_pullersAt_26 : decode cX12_pullersAt 26 = .ok (.getfield 7, 3) := by decide +kernel
theorem dX12_pullersAt_29 : decode cX12_pullersAt 29 = .ok (.iconst 1, 1) := by decide +kernel
theorem dX12_pullersAt_30 : decode cX12_pullersAt 30 = .ok (.iaload, 1) := by decide +kernel
theorem dX12_pullersAt_31 : decode cX12_pullersAt 31 = .ok (.if_icmp .ge 41, 3) := by decide +kernel
theorem dX12_pullersAt_34 : decode cX12_pullersAt 34 = .ok (.iload_n 3, 1) := by decide +kernel
theorem dX12_pullersAt_35 : decode cX12_pullersAt 35 = .ok (.iload 5, 2) := by decide +kernel
theorem dX12_pullersAt_37 : decode cX12_pullersAt 37 = .ok (.invokestatic 70, 3) := by decide +kernel
theorem dX12_pullersAt_40 : decode cX12_pullersAt 40 = .ok (.ifCond .eq 22, 3) := by decide +kernel
theorem dX12_pullersAt_43 : decode cX12_pullersAt 43 = .ok (.aload_n 0, 1) := by decide +kernel
theorem dX12_pullersAt_44 : decode cX12_pullersAt 44 = .ok (.iload 5, 2) := by decide +kernel
theorem dX12_pullersAt_46 : decode cX12_pullersAt 46 = .ok (.invokevirtual 74, 3) := by decide +kernel
theorem dX12_pullersAt_49 : decode cX12_pullersAt 49 = .ok (.ifCond .le 13, 3) := by decide +kernel
theorem dX12_pullersAt_52 : decode cX12_pullersAt 52 = .ok (.iload 4, 2) := by decide +kernel
theorem dX12_pullersAt_54 : decode cX12_pullersAt 54 = .ok (.iconst 1, 1) := by decide +kernel
theorem dX12_pullersAt_55 : decode cX12_pullersAt 55 = .ok (.iload 5, 2) := by decide +kernel
theorem dX12_pullersAt_57 : decode cX12_pullersAt 57 = .ok (.ishl, 1) := by decide +kernel
theorem dX12_pullersAt_58 : decode cX12_pullersAt 58 = .ok (.ior, 1) := by decide +kernel
theorem dX12_pullersAt_59 : decode cX12_pullersAt 59 = .ok (.goto 5, 3) := by decide +kernel
theorem dX12_pullersAt_62 : decode cX12_pullersAt 62 = .ok (.iload 4, 2) := by decide +kernel
theorem dX12_pullersAt_64 : decode cX12_pullersAt 64 = .ok (.istore 4, 2) := by decide +kernel
theorem dX12_pullersAt_66 : decode cX12_pullersAt 66 = .ok (.iinc 5 1, 3) := by decide +kernel
theorem dX12_pullersAt_69 : decode cX12_pullersAt 69 = .ok (.goto (-46), 3) := by decide +kernel
theorem dX12_pullersAt_72 : decode cX12_pullersAt 72 = .ok (.iload 4, 2) := by decide +kernel
theorem dX12_pullersAt_74 : decode cX12_pullersAt 74 = .ok (.ireturn, 1) := by decide +kernel
theorem dX12_isLess_0 : decode cX12_isLess 0 = .ok (.iload_n 1, 1) := by decide +kernel
theorem dX12_isLess_1 : decode cX12_isLess 1 = .ok (.ifCond .eq 7, 3) := by decide +kernel
theorem dX12_isLess_4 : decode cX12_isLess 4 = .ok (.iload_n 3, 1) := by decide +kernel
theorem dX12_isLess_5 : decode cX12_isLess 5 = .ok (.goto 4, 3) := by decide +kernel
theorem dX12_isLess_8 : decode cX12_isLess 8 = .ok (.iload_n 2, 1) := by decide +kernel
theorem dX12_isLess_9 : decode cX12_isLess 9 = .ok (.istore 6, 2) := by decide +kernel
theorem dX12_isLess_11 : decode cX12_isLess 11 = .ok (.iload_n 1, 1) := by decide +kernel
theorem dX12_isLess_12 : decode cX12_isLess 12 = .ok (.ifCond .eq 8, 3) := by decide +kernel
theorem dX12_isLess_15 : decode cX12_isLess 15 = .ok (.iload 5, 2) := by decide +kernel
theorem dX12_isLess_17 : decode cX12_isLess 17 = .ok (.goto 5, 3) := by decide +kernel
theorem dX12_isLess_20 : decode cX12_isLess 20 = .ok (.iload 4, 2) := by decide +kernel
theorem dX12_isLess_22 : decode cX12_isLess 22 = .ok (.istore 7, 2) := by decide +kernel
theorem dX12_isLess_24 : decode cX12_isLess 24 = .ok (.iload 6, 2) := by decide +kernel
theorem dX12_isLess_26 : decode cX12_isLess 26 = .ok (.iload 7, 2) := by decide +kernel
theorem dX12_isLess_28 : decode cX12_isLess 28 = .ok (.if_icmp .lt 29, 3) := by decide +kernel
theorem dX12_isLess_31 : decode cX12_isLess 31 = .ok (.iload 6, 2) := by decide +kernel
theorem dX12_isLess_33 : decode cX12_isLess 33 = .ok (.iload 7, 2) := by decide +kernel
theorem dX12_isLess_35 : decode cX12_isLess 35 = .ok (.if_icmp .ne 26, 3) := by decide +kernel
theorem dX12_isLess_38 : decode cX12_isLess 38 = .ok (.iload_n 1, 1) := by decide +kernel
theorem dX12_isLess_39 : decode cX12_isLess 39 = .ok (.ifCond .eq 12, 3) := by decide +kernel
theorem dX12_isLess_42 : decode cX12_isLess 42 = .ok (.iload_n 2, 1) := by decide +kernel
theorem dX12_isLess_43 : decode cX12_isLess 43 = .ok (.iload 4, 2) := by decide +kernel
theorem dX12_isLess_45 : decode cX12_isLess 45 = .ok (.if_icmp .ge 16, 3) := by decide +kernel
theorem dX12_isLess_48 : decode cX12_isLess 48 = .ok (.goto 9, 3) := by decide +kernel
theorem dX12_isLess_51 : decode cX12_isLess 51 = .ok (.iload_n 3, 1) := by decide +kernel
theorem dX12_isLess_52 : decode cX12_isLess 52 = .ok (.iload 5, 2) := by decide +kernel
theorem dX12_isLess_54 : decode cX12_isLess 54 = .ok (.if_icmp .ge 7, 3) := by decide +kernel
theorem dX12_isLess_57 : decode cX12_isLess 57 = .ok (.iconst 1, 1) := by decide +kernel
theorem dX12_isLess_58 : decode cX12_isLess 58 = .ok (.goto 4, 3) := by decide +kernel
theorem dX12_isLess_61 : decode cX12_isLess 61 = .ok (.iconst 0, 1) := by decide +kernel
theorem dX12_isLess_62 : decode cX12_isLess 62 = .ok (.ireturn, 1) := by decide +kernel
theorem dX12_behind_0 : decode cX12_behind 0 = .ok (.iload_n 1, 1) := by decide +kernel
theorem dX12_behind_1 : decode cX12_behind 1 = .ok (.iconst 2, 1) := by decide +kernel
theorem dX12_behind_2 : decode cX12_behind 2 = .ok (.idiv, 1) := by decide +kernel
theorem dX12_behind_3 : decode cX12_behind 3 = .ok (.istore_n 3, 1) := by decide +kernel
theorem dX12_behind_4 : decode cX12_behind 4 = .ok (.iload_n 1, 1) := by decide +kernel
theorem dX12_behind_5 : decode cX12_behind 5 = .ok (.iconst 2, 1) := by decide +kernel
theorem dX12_behind_6 : decode cX12_behind 6 = .ok (.irem, 1) := by decide +kernel
theorem dX12_behind_7 : decode cX12_behind 7 = .ok (.istore 4, 2) := by decide +kernel
theorem dX12_behind_9 : decode cX12_behind 9 = .ok (.iload_n 2, 1) := by decide +kernel
theorem dX12_behind_10 : decode cX12_behind 10 = .ok (.sipush 1024, 3) := by decide +kernel
theorem dX12_behind_13 : decode cX12_behind 13 = .ok (.if_icmp .lt 59, 3) := by decide +kernel
theorem dX12_behind_16 : decode cX12_behind 16 = .ok (.iload_n 2, 1) := by decide +kernel
theorem dX12_behind_17 : decode cX12_behind 17 = .ok (.sipush 1024, 3) := by decide +kernel
theorem dX12_behind_20 : decode cX12_behind 20 = .ok (.isub, 1) := by decide +kernel
theorem dX12_behind_21 : decode cX12_behind 21 = .ok (.istore 5, 2) := by decide +kernel
theorem dX12_behind_23 : decode cX12_behind 23 = .ok (.aload_n 0, 1) := by decide +kernel
theorem dX12_behind_24 : decode cX12_behind 24 = .ok (.iload 5, 2) := by decide +kernel
theorem dX12_behind_26 : decode cX12_behind 26 = .ok (.invokevirtual 239, 3) := by decide +kernel
theorem dX12_behind_29 : decode cX12_behind 29 = .ok (.ifCond .eq 13, 3) := by decide +kernel
theorem dX12_behind_32 : decode cX12_behind 32 = .ok (.aload_n 0, 1) := by decide +kernel
theorem dX12_behind_33 : decode cX12_behind 33 = .ok (.iload_n 3, 1) := by decide +kernel
theorem dX12_behind_34 : decode cX12_behind 34 = .ok (.iload 5, 2) := by decide +kernel
theorem dX12_behind_36 : decode cX12_behind 36 = .ok (.invokevirtual 242, 3) := by decide +kernel
theorem dX12_behind_39 : decode cX12_behind 39 = .ok (.ifCond .ne 5, 3) := by decide +kernel
theorem dX12_behind_42 : decode cX12_behind 42 = .ok (.iconst (-1), 1) := by decide +kernel
theorem dX12_behind_43 : decode cX12_behind 43 = .ok (.ireturn, 1) := by decide +kernel
theorem dX12_behind_44 : decode cX12_behind 44 = .ok (.aload_n 0, 1) := by decide +kernel
theorem dX12_behind_45 : decode cX12_behind 45 = .ok (.aload_n 0, 1) := by decide +kernel
theorem dX12_behind_46 : decode cX12_behind 46 = .ok (.getfield 7, 3) := by decide +kernel
theorem dX12_behind_49 : decode cX12_behind 49 = .ok (.bipush 7, 2) := by decide +kernel
theorem dX12_behind_51 : decode cX12_behind 51 = .ok (.iaload, 1) := by decide +kernel
theorem dX12_behind_52 : decode cX12_behind 52 = .ok (.aload_n 0, 1) := by decide +kernel
theorem dX12_behind_53 : decode cX12_behind 53 = .ok (.invokevirtual 78, 3) := by decide +kernel
theorem dX12_behind_56 : decode cX12_behind 56 = .ok (.iadd, 1) := by decide +kernel
theorem dX12_behind_57 : decode cX12_behind 57 = .ok (.putfield 226, 3) := by decide +kernel
theorem dX12_behind_60 : decode cX12_behind 60 = .ok (.iconst 2, 1) := by decide +kernel
theorem dX12_behind_61 : decode cX12_behind 61 = .ok (.iload_n 3, 1) := by decide +kernel
theorem dX12_behind_62 : decode cX12_behind 62 = .ok (.iconst 1, 1) := by decide +kernel
theorem dX12_behind_63 : decode cX12_behind 63 = .ok (.iload 5, 2) := by decide +kernel
theorem dX12_behind_65 : decode cX12_behind 65 = .ok (.ishl, 1) := by decide +kernel
theorem dX12_behind_66 : decode cX12_behind 66 = .ok (.ixor, 1) := by decide +kernel
theorem dX12_behind_67 : decode cX12_behind 67 = .ok (.imul, 1) := by decide +kernel
theorem dX12_behind_68 : decode cX12_behind 68 = .ok (.iload 4, 2) := by decide +kernel
theorem dX12_behind_70 : decode cX12_behind 70 = .ok (.iadd, 1) := by decide +kernel
theorem dX12_behind_71 : decode cX12_behind 71 = .ok (.ireturn, 1) := by decide +kernel
theorem dX12_behind_72 : decode cX12_behind 72 = .ok (.aload_n 0, 1) := by decide +kernel
theorem dX12_behind_73 : decode cX12_behind 73 = .ok (.iload_n 3, 1) := by decide +kernel
theorem dX12_behind_74 : decode cX12_behind 74 = .ok (.iload 4, 2) := by decide +kernel
theorem dX12_behind_76 : decode cX12_behind 76 = .ok (.iload_n 2, 1) := by decide +kernel
theorem dX12_behind_77 : decode cX12_behind 77 = .ok (.aload_n 0, 1) := by decide +kernel
theorem dX12_behind_78 : decode cX12_behind 78 = .ok (.iload_n 3, 1) := by decide +kernel
theorem dX12_behind_79 : decode cX12_behind 79 = .ok (.iload 4, 2) := by decide +kernel
theorem dX12_behind_81 : decode cX12_behind 81 = .ok (.invokevirtual 248, 3) := by decide +kernel
theorem dX12_behind_84 : decode cX12_behind 84 = .ok (.invokevirtual 232, 3) := by decide +kernel
theorem dX12_behind_87 : decode cX12_behind 87 = .ok (.ifCond .ne 5, 3) := by decide +kernel
theorem dX12_behind_90 : decode cX12_behind 90 = .ok (.iconst (-1), 1) := by decide +kernel
theorem dX12_behind_91 : decode cX12_behind 91 = .ok (.ireturn, 1) := by decide +kernel
theorem dX12_behind_92 : decode cX12_behind 92 = .ok (.iconst 2, 1) := by decide +kernel
theorem dX12_behind_93 : decode cX12_behind 93 = .ok (.iload_n 3, 1) := by decide +kernel
theorem dX12_behind_94 : decode cX12_behind 94 = .ok (.iload_n 2, 1) := by decide +kernel
theorem dX12_behind_95 : decode cX12_behind 95 = .ok (.ixor, 1) := by decide +kernel
theorem dX12_behind_96 : decode cX12_behind 96 = .ok (.imul, 1) := by decide +kernel
theorem dX12_behind_97 : decode cX12_behind 97 = .ok (.iconst 1, 1) := by decide +kernel
theorem dX12_behind_98 : decode cX12_behind 98 = .ok (.iadd, 1) := by decide +kernel
theorem dX12_behind_99 : decode cX12_behind 99 = .ok (.iload 4, 2) := by decide +kernel
theorem dX12_behind_101 : decode cX12_behind 101 = .ok (.isub, 1) := by decide +kernel
theorem dX12_behind_102 : decode cX12_behind 102 = .ok (.ireturn, 1) := by decide +kernel
theorem dX12_costs_0 : decode cX12_costs 0 = .ok (.iconst 2, 1) := by decide +kernel
theorem dX12_costs_1 : decode cX12_costs 1 = .ok (.aload_n 0, 1) := by decide +kernel
theorem dX12_costs_2 : decode cX12_costs 2 = .ok (.getfield 7, 3) := by decide +kernel
theorem dX12_costs_5 : decode cX12_costs 5 = .ok (.iconst 1, 1) := by decide +kernel
theorem dX12_costs_6 : decode cX12_costs 6 = .ok (.iaload, 1) := by decide +kernel
theorem dX12_costs_7 : decode cX12_costs 7 = .ok (.ishl, 1) := by decide +kernel
theorem dX12_costs_8 : decode cX12_costs 8 = .ok (.istore_n 3, 1) := by decide +kernel
theorem dX12_costs_9 : decode cX12_costs 9 = .ok (.iconst 0, 1) := by decide +kernel
theorem dX12_costs_10 : decode cX12_costs 10 = .ok (.istore 4, 2) := by decide +kernel
theorem dX12_costs_12 : decode cX12_costs 12 = .ok (.iload 4, 2) := by decide +kernel
theorem dX12_costs_14 : decode cX12_costs 14 = .ok (.iload_n 3, 1) := by decide +kernel
theorem dX12_costs_15 : decode cX12_costs 15 = .ok (.if_icmp .ge 62, 3) := by decide +kernel
theorem dX12_costs_18 : decode cX12_costs 18 = .ok (.iload 4, 2) := by decide +kernel
theorem dX12_costs_20 : decode cX12_costs 20 = .ok (.iconst 2, 1) := by decide +kernel
theorem dX12_costs_21 : decode cX12_costs 21 = .ok (.idiv, 1) := by decide +kernel
theorem dX12_costs_22 : decode cX12_costs 22 = .ok (.iload_n 1, 1) := by decide +kernel
theorem dX12_costs_23 : decode cX12_costs 23 = .ok (.iand, 1) := by decide +kernel
theorem dX12_costs_24 : decode cX12_costs 24 = .ok (.iload_n 1, 1) := by decide +kernel
theorem dX12_costs_25 : decode cX12_costs 25 = .ok (.if_icmp .ne 7, 3) := by decide +kernel
theorem dX12_costs_28 : decode cX12_costs 28 = .ok (.iconst 1, 1) := by decide +kernel
theorem dX12_costs_29 : decode cX12_costs 29 = .ok (.goto 4, 3) := by decide +kernel
theorem dX12_costs_32 : decode cX12_costs 32 = .ok (.iconst 0, 1) := by decide +kernel
theorem dX12_costs_33 : decode cX12_costs 33 = .ok (.istore 5, 2) := by decide +kernel
theorem dX12_costs_35 : decode cX12_costs 35 = .ok (.aload_n 0, 1) := by decide +kernel
theorem dX12_costs_36 : decode cX12_costs 36 = .ok (.getfield 29, 3) := by decide +kernel
theorem dX12_costs_39 : decode cX12_costs 39 = .ok (.iload 4, 2) := by decide +kernel
theorem dX12_costs_41 : decode cX12_costs 41 = .ok (.iload 5, 2) := by decide +kernel
theorem dX12_costs_43 : decode cX12_costs 43 = .ok (.ifCond .eq 7, 3) := by decide +kernel
theorem dX12_costs_46 : decode cX12_costs 46 = .ok (.iconst 0, 1) := by decide +kernel
theorem dX12_costs_47 : decode cX12_costs 47 = .ok (.goto 5, 3) := by decide +kernel
theorem dX12_costs_50 : decode cX12_costs 50 = .ok (.ldc 251, 2) := by decide +kernel
theorem dX12_costs_52 : decode cX12_costs 52 = .ok (.iastore, 1) := by decide +kernel
theorem dX12_costs_53 : decode cX12_costs 53 = .ok (.aload_n 0, 1) := by decide +kernel
theorem dX12_costs_54 : decode cX12_costs 54 = .ok (.getfield 32, 3) := by decide +kernel
theorem dX12_costs_57 : decode cX12_costs 57 = .ok (.iload 4, 2) := by decide +kernel
theorem dX12_costs_59 : decode cX12_costs 59 = .ok (.iload 5, 2) := by decide +kernel
theorem dX12_costs_61 : decode cX12_costs 61 = .ok (.ifCond .eq 7, 3) := by decide +kernel
theorem dX12_costs_64 : decode cX12_costs 64 = .ok (.iconst 0, 1) := by decide +kernel
theorem dX12_costs_65 : decode cX12_costs 65 = .ok (.goto 5, 3) := by decide +kernel
theorem dX12_costs_68 : decode cX12_costs 68 = .ok (.ldc 251, 2) := by decide +kernel
theorem dX12_costs_70 : decode cX12_costs 70 = .ok (.iastore, 1) := by decide +kernel
theorem dX12_costs_71 : decode cX12_costs 71 = .ok (.iinc 4 1, 3) := by decide +kernel
theorem dX12_costs_74 : decode cX12_costs 74 = .ok (.goto (-62), 3) := by decide +kernel
theorem dX12_costs_77 : decode cX12_costs 77 = .ok (.iconst 1, 1) := by decide +kernel
theorem dX12_costs_78 : decode cX12_costs 78 = .ok (.istore 4, 2) := by decide +kernel
theorem dX12_costs_80 : decode cX12_costs 80 = .ok (.iload 4, 2) := by decide +kernel
theorem dX12_costs_82 : decode cX12_costs 82 = .ok (.ifCond .eq 56, 3) := by decide +kernel
theorem dX12_costs_85 : decode cX12_costs 85 = .ok (.iconst 0, 1) := by decide +kernel
theorem dX12_costs_86 : decode cX12_costs 86 = .ok (.istore 4, 2) := by decide +kernel
theorem dX12_costs_88 : decode cX12_costs 88 = .ok (.iconst 0, 1) := by decide +kernel
theorem dX12_costs_89 : decode cX12_costs 89 = .ok (.istore 5, 2) := by decide +kernel
theorem dX12_costs_91 : decode cX12_costs 91 = .ok (.iload 5, 2) := by decide +kernel
theorem dX12_costs_93 : decode cX12_costs 93 = .ok (.iload_n 3, 1) := by decide +kernel
theorem dX12_costs_94 : decode cX12_costs 94 = .ok (.if_icmp .ge 41, 3) := by decide +kernel
theorem dX12_costs_97 : decode cX12_costs 97 = .ok (.aload_n 0, 1) := by decide +kernel
theorem dX12_costs_98 : decode cX12_costs 98 = .ok (.getfield 32, 3) := by decide +kernel
theorem dX12_costs_101 : decode cX12_costs 101 = .ok (.iload 5, 2) := by decide +kernel
theorem dX12_costs_103 : decode cX12_costs 103 = .ok (.iaload, 1) := by decide +kernel
theorem dX12_costs_104 : decode cX12_costs 104 = .ok (.ifCond .eq 25, 3) := by decide +kernel
theorem dX12_costs_107 : decode cX12_costs 107 = .ok (.aload_n 0, 1) := by decide +kernel
theorem dX12_costs_108 : decode cX12_costs 108 = .ok (.iload 5, 2) := by decide +kernel
theorem dX12_costs_110 : decode cX12_costs 110 = .ok (.iload_n 2, 1) := by decide +kernel
theorem dX12_costs_111 : decode cX12_costs 111 = .ok (.invokevirtual 252, 3) := by decide +kernel
theorem dX12_costs_114 : decode cX12_costs 114 = .ok (.ifCond .ne 8, 3) := by decide +kernel
theorem dX12_costs_117 : decode cX12_costs 117 = .ok (.iload 4, 2) := by decide +kernel
theorem dX12_costs_119 : decode cX12_costs 119 = .ok (.ifCond .eq 7, 3) := by decide +kernel
theorem dX12_costs_122 : decode cX12_costs 122 = .ok (.iconst 1, 1) := by decide +kernel
theorem dX12_costs_123 : decode cX12_costs 123 = .ok (.goto 4, 3) := by decide +kernel
theorem dX12_costs_126 : decode cX12_costs 126 = .ok (.iconst 0, 1) := by decide +kernel
theorem dX12_costs_127 : decode cX12_costs 127 = .ok (.istore 4, 2) := by decide +kernel
theorem dX12_costs_129 : decode cX12_costs 129 = .ok (.iinc 5 1, 3) := by decide +kernel
theorem dX12_costs_132 : decode cX12_costs 132 = .ok (.goto (-41), 3) := by decide +kernel
theorem dX12_costs_135 : decode cX12_costs 135 = .ok (.goto (-55), 3) := by decide +kernel
theorem dX12_costs_138 : decode cX12_costs 138 = .ok (.return_, 1) := by decide +kernel
theorem dX12_lowers_0 : decode cX12_lowers 0 = .ok (.iload_n 1, 1) := by decide +kernel
theorem dX12_lowers_1 : decode cX12_lowers 1 = .ok (.iconst 2, 1) := by decide +kernel
theorem dX12_lowers_2 : decode cX12_lowers 2 = .ok (.idiv, 1) := by decide +kernel
theorem dX12_lowers_3 : decode cX12_lowers 3 = .ok (.istore_n 3, 1) := by decide +kernel
theorem dX12_lowers_4 : decode cX12_lowers 4 = .ok (.iload_n 1, 1) := by decide +kernel
theorem dX12_lowers_5 : decode cX12_lowers 5 = .ok (.iconst 2, 1) := by decide +kernel
theorem dX12_lowers_6 : decode cX12_lowers 6 = .ok (.irem, 1) := by decide +kernel
theorem dX12_lowers_7 : decode cX12_lowers 7 = .ok (.ifCond .ne 14, 3) := by decide +kernel
theorem dX12_lowers_10 : decode cX12_lowers 10 = .ok (.aload_n 0, 1) := by decide +kernel
theorem dX12_lowers_11 : decode cX12_lowers 11 = .ok (.invokevirtual 208, 3) := by decide +kernel
theorem dX12_lowers_14 : decode cX12_lowers 14 = .ok (.iload_n 3, 1) := by decide +kernel
theorem dX12_lowers_15 : decode cX12_lowers 15 = .ok (.iconst (-1), 1) := by decide +kernel
theorem dX12_lowers_16 : decode cX12_lowers 16 = .ok (.ixor, 1) := by decide +kernel
theorem dX12_lowers_17 : decode cX12_lowers 17 = .ok (.iand, 1) := by decide +kernel
theorem dX12_lowers_18 : decode cX12_lowers 18 = .ok (.goto 4, 3) := by decide +kernel
theorem dX12_lowers_21 : decode cX12_lowers 21 = .ok (.iload_n 3, 1) := by decide +kernel
theorem dX12_lowers_22 : decode cX12_lowers 22 = .ok (.istore 4, 2) := by decide +kernel
theorem dX12_lowers_24 : decode cX12_lowers 24 = .ok (.iconst 0, 1) := by decide +kernel
theorem dX12_lowers_25 : decode cX12_lowers 25 = .ok (.istore 5, 2) := by decide +kernel
theorem dX12_lowers_27 : decode cX12_lowers 27 = .ok (.iload 4, 2) := by decide +kernel
theorem dX12_lowers_29 : decode cX12_lowers 29 = .ok (.istore 6, 2) := by decide +kernel
theorem dX12_lowers_31 : decode cX12_lowers 31 = .ok (.iconst 0, 1) := by decide +kernel
theorem dX12_lowers_32 : decode cX12_lowers 32 = .ok (.istore 7, 2) := by decide +kernel
theorem dX12_lowers_34 : decode cX12_lowers 34 = .ok (.iload 7, 2) := by decide +kernel
theorem dX12_lowers_36 : decode cX12_lowers 36 = .ok (.ifCond .ne 50, 3) := by decide +kernel
theorem dX12_lowers_39 : decode cX12_lowers 39 = .ok (.aload_n 0, 1) := by decide +kernel
theorem dX12_lowers_40 : decode cX12_lowers 40 = .ok (.iload_n 1, 1) := by decide +kernel
theorem dX12_lowers_41 : decode cX12_lowers 41 = .ok (.iload 6, 2) := by decide +kernel
theorem dX12_lowers_43 : decode cX12_lowers 43 = .ok (.iload_n 2, 1) := by decide +kernel
theorem dX12_lowers_44 : decode cX12_lowers 44 = .ok (.invokevirtual 256, 3) := by decide +kernel
theorem dX12_lowers_47 : decode cX12_lowers 47 = .ok (.ifCond .ne 8, 3) := by decide +kernel
theorem dX12_lowers_50 : decode cX12_lowers 50 = .ok (.iload 5, 2) := by decide +kernel
theorem dX12_lowers_52 : decode cX12_lowers 52 = .ok (.ifCond .eq 7, 3) := by decide +kernel
theorem dX12_lowers_55 : decode cX12_lowers 55 = .ok (.iconst 1, 1) := by decide +kernel
theorem dX12_lowers_56 : decode cX12_lowers 56 = .ok (.goto 4, 3) := by decide +kernel
theorem dX12_lowers_59 : decode cX12_lowers 59 = .ok (.iconst 0, 1) := by decide +kernel
theorem dX12_lowers_60 : decode cX12_lowers 60 = .ok (.istore 5, 2) := by decide +kernel
theorem dX12_lowers_62 : decode cX12_lowers 62 = .ok (.iload 6, 2) := by decide +kernel
theorem dX12_lowers_64 : decode cX12_lowers 64 = .ok (.ifCond .ne 7, 3) := by decide +kernel
theorem dX12_lowers_67 : decode cX12_lowers 67 = .ok (.iconst 1, 1) := by decide +kernel
theorem dX12_lowers_68 : decode cX12_lowers 68 = .ok (.goto 4, 3) := by decide +kernel
theorem dX12_lowers_71 : decode cX12_lowers 71 = .ok (.iconst 0, 1) := by decide +kernel
theorem dX12_lowers_72 : decode cX12_lowers 72 = .ok (.istore 7, 2) := by decide +kernel
theorem dX12_lowers_74 : decode cX12_lowers 74 = .ok (.iload 6, 2) := by decide +kernel
theorem dX12_lowers_76 : decode cX12_lowers 76 = .ok (.iconst 1, 1) := by decide +kernel
theorem dX12_lowers_77 : decode cX12_lowers 77 = .ok (.isub, 1) := by decide +kernel
theorem dX12_lowers_78 : decode cX12_lowers 78 = .ok (.iload 4, 2) := by decide +kernel
theorem dX12_lowers_80 : decode cX12_lowers 80 = .ok (.iand, 1) := by decide +kernel
theorem dX12_lowers_81 : decode cX12_lowers 81 = .ok (.istore 6, 2) := by decide +kernel
theorem dX12_lowers_83 : decode cX12_lowers 83 = .ok (.goto (-49), 3) := by decide +kernel
theorem dX12_lowers_86 : decode cX12_lowers 86 = .ok (.iconst 0, 1) := by decide +kernel
theorem dX12_lowers_87 : decode cX12_lowers 87 = .ok (.istore 8, 2) := by decide +kernel
theorem dX12_lowers_89 : decode cX12_lowers 89 = .ok (.iload 8, 2) := by decide +kernel
theorem dX12_lowers_91 : decode cX12_lowers 91 = .ok (.aload_n 0, 1) := by decide +kernel
theorem dX12_lowers_92 : decode cX12_lowers 92 = .ok (.getfield 7, 3) := by decide +kernel
theorem dX12_lowers_95 : decode cX12_lowers 95 = .ok (.iconst 1, 1) := by decide +kernel
theorem dX12_lowers_96 : decode cX12_lowers 96 = .ok (.iaload, 1) := by decide +kernel
theorem dX12_lowers_97 : decode cX12_lowers 97 = .ok (.if_icmp .ge 36, 3) := by decide +kernel
theorem dX12_lowers_100 : decode cX12_lowers 100 = .ok (.aload_n 0, 1) := by decide +kernel
theorem dX12_lowers_101 : decode cX12_lowers 101 = .ok (.iload_n 1, 1) := by decide +kernel
theorem dX12_lowers_102 : decode cX12_lowers 102 = .ok (.sipush 1024, 3) := by decide +kernel
theorem dX12_lowers_105 : decode cX12_lowers 105 = .ok (.iload 8, 2) := by decide +kernel
theorem dX12_lowers_107 : decode cX12_lowers 107 = .ok (.iadd, 1) := by decide +kernel
theorem dX12_lowers_108 : decode cX12_lowers 108 = .ok (.iload_n 2, 1) := by decide +kernel
theorem dX12_lowers_109 : decode cX12_lowers 109 = .ok (.invokevirtual 256, 3) := by decide +kernel
theorem dX12_lowers_112 : decode cX12_lowers 112 = .ok (.ifCond .ne 8, 3) := by decide +kernel
theorem dX12_lowers_115 : decode cX12_lowers 115 = .ok (.iload 5, 2) := by decide +kernel
theorem dX12_lowers_117 : decode cX12_lowers 117 = .ok (.ifCond .eq 7, 3) := by decide +kernel
theorem dX12_lowers_120 : decode cX12_lowers 120 = .ok (.iconst 1, 1) := by decide +kernel
theorem dX12_lowers_121 : decode cX12_lowers 121 = .ok (.goto 4, 3) := by decide +kernel
theorem dX12_lowers_124 : decode cX12_lowers 124 = .ok (.iconst 0, 1) := by decide +kernel
theorem dX12_lowers_125 : decode cX12_lowers 125 = .ok (.istore 5, 2) := by decide +kernel
theorem dX12_lowers_127 : decode cX12_lowers 127 = .ok (.iinc 8 1, 3) := by decide +kernel
theorem dX12_lowers_130 : decode cX12_lowers 130 = .ok (.goto (-41), 3) := by decide +kernel
theorem dX12_lowers_133 : decode cX12_lowers 133 = .ok (.iload 5, 2) := by decide +kernel
theorem dX12_lowers_135 : decode cX12_lowers 135 = .ok (.ireturn, 1) := by decide +kernel
theorem dX12_tries_0 : decode cX12_tries 0 = .ok (.aload_n 0, 1) := by decide +kernel
theorem dX12_tries_1 : decode cX12_tries 1 = .ok (.iload_n 1, 1) := by decide +kernel
theorem dX12_tries_2 : decode cX12_tries 2 = .ok (.iload_n 2, 1) := by decide +kernel
theorem dX12_tries_3 : decode cX12_tries 3 = .ok (.invokevirtual 260, 3) := by decide +kernel
theorem dX12_tries_6 : decode cX12_tries 6 = .ok (.istore 4, 2) := by decide +kernel
theorem dX12_tries_8 : decode cX12_tries 8 = .ok (.iload 4, 2) := by decide +kernel
theorem dX12_tries_10 : decode cX12_tries 10 = .ok (.iconst (-1), 1) := by decide +kernel
theorem dX12_tries_11 : decode cX12_tries 11 = .ok (.if_icmp .eq 15, 3) := by decide +kernel
theorem dX12_tries_14 : decode cX12_tries 14 = .ok (.aload_n 0, 1) := by decide +kernel
theorem dX12_tries_15 : decode cX12_tries 15 = .ok (.getfield 32, 3) := by decide +kernel
theorem dX12_tries_18 : decode cX12_tries 18 = .ok (.iload 4, 2) := by decide +kernel
theorem dX12_tries_20 : decode cX12_tries 20 = .ok (.iaload, 1) := by decide +kernel
theorem dX12_tries_21 : decode cX12_tries 21 = .ok (.ldc 251, 2) := by decide +kernel
theorem dX12_tries_23 : decode cX12_tries 23 = .ok (.if_icmp .ne 5, 3) := by decide +kernel
theorem dX12_tries_26 : decode cX12_tries 26 = .ok (.iconst 0, 1) := by decide +kernel
theorem dX12_tries_27 : decode cX12_tries 27 = .ok (.ireturn, 1) := by decide +kernel
theorem dX12_tries_28 : decode cX12_tries 28 = .ok (.aload_n 0, 1) := by decide +kernel
theorem dX12_tries_29 : decode cX12_tries 29 = .ok (.iload_n 3, 1) := by decide +kernel
theorem dX12_tries_30 : decode cX12_tries 30 = .ok (.aload_n 0, 1) := by decide +kernel
theorem dX12_tries_31 : decode cX12_tries 31 = .ok (.getfield 29, 3) := by decide +kernel
theorem dX12_tries_34 : decode cX12_tries 34 = .ok (.iload 4, 2) := by decide +kernel
theorem dX12_tries_36 : decode cX12_tries 36 = .ok (.iaload, 1) := by decide +kernel
theorem dX12_tries_37 : decode cX12_tries 37 = .ok (.aload_n 0, 1) := by decide +kernel
theorem dX12_tries_38 : decode cX12_tries 38 = .ok (.getfield 226, 3) := by decide +kernel
theorem dX12_tries_41 : decode cX12_tries 41 = .ok (.iadd, 1) := by decide +kernel
theorem dX12_tries_42 : decode cX12_tries 42 = .ok (.aload_n 0, 1) := by decide +kernel
theorem dX12_tries_43 : decode cX12_tries 43 = .ok (.getfield 32, 3) := by decide +kernel
theorem dX12_tries_46 : decode cX12_tries 46 = .ok (.iload 4, 2) := by decide +kernel
theorem dX12_tries_48 : decode cX12_tries 48 = .ok (.iaload, 1) := by decide +kernel
theorem dX12_tries_49 : decode cX12_tries 49 = .ok (.iconst 1, 1) := by decide +kernel
theorem dX12_tries_50 : decode cX12_tries 50 = .ok (.iadd, 1) := by decide +kernel
theorem dX12_tries_51 : decode cX12_tries 51 = .ok (.aload_n 0, 1) := by decide +kernel
theorem dX12_tries_52 : decode cX12_tries 52 = .ok (.getfield 29, 3) := by decide +kernel
theorem dX12_tries_55 : decode cX12_tries 55 = .ok (.iload_n 1, 1) := by decide +kernel
theorem dX12_tries_56 : decode cX12_tries 56 = .ok (.iaload, 1) := by decide +kernel
theorem dX12_tries_57 : decode cX12_tries 57 = .ok (.aload_n 0, 1) := by decide +kernel
theorem dX12_tries_58 : decode cX12_tries 58 = .ok (.getfield 32, 3) := by decide +kernel
theorem dX12_tries_61 : decode cX12_tries 61 = .ok (.iload_n 1, 1) := by decide +kernel
theorem dX12_tries_62 : decode cX12_tries 62 = .ok (.iaload, 1) := by decide +kernel
theorem dX12_tries_63 : decode cX12_tries 63 = .ok (.invokevirtual 263, 3) := by decide +kernel
theorem dX12_tries_66 : decode cX12_tries 66 = .ok (.ifCond .ne 5, 3) := by decide +kernel
theorem dX12_tries_69 : decode cX12_tries 69 = .ok (.iconst 0, 1) := by decide +kernel
theorem dX12_tries_70 : decode cX12_tries 70 = .ok (.ireturn, 1) := by decide +kernel
theorem dX12_tries_71 : decode cX12_tries 71 = .ok (.aload_n 0, 1) := by decide +kernel
theorem dX12_tries_72 : decode cX12_tries 72 = .ok (.getfield 29, 3) := by decide +kernel
theorem dX12_tries_75 : decode cX12_tries 75 = .ok (.iload_n 1, 1) := by decide +kernel
theorem dX12_tries_76 : decode cX12_tries 76 = .ok (.aload_n 0, 1) := by decide +kernel
theorem dX12_tries_77 : decode cX12_tries 77 = .ok (.getfield 29, 3) := by decide +kernel
theorem dX12_tries_80 : decode cX12_tries 80 = .ok (.iload 4, 2) := by decide +kernel
theorem dX12_tries_82 : decode cX12_tries 82 = .ok (.iaload, 1) := by decide +kernel
theorem dX12_tries_83 : decode cX12_tries 83 = .ok (.aload_n 0, 1) := by decide +kernel
theorem dX12_tries_84 : decode cX12_tries 84 = .ok (.getfield 226, 3) := by decide +kernel
theorem dX12_tries_87 : decode cX12_tries 87 = .ok (.iadd, 1) := by decide +kernel
theorem dX12_tries_88 : decode cX12_tries 88 = .ok (.iastore, 1) := by decide +kernel
theorem dX12_tries_89 : decode cX12_tries 89 = .ok (.aload_n 0, 1) := by decide +kernel
theorem dX12_tries_90 : decode cX12_tries 90 = .ok (.getfield 32, 3) := by decide +kernel
theorem dX12_tries_93 : decode cX12_tries 93 = .ok (.iload_n 1, 1) := by decide +kernel
theorem dX12_tries_94 : decode cX12_tries 94 = .ok (.aload_n 0, 1) := by decide +kernel
theorem dX12_tries_95 : decode cX12_tries 95 = .ok (.getfield 32, 3) := by decide +kernel
theorem dX12_tries_98 : decode cX12_tries 98 = .ok (.iload 4, 2) := by decide +kernel
theorem dX12_tries_100 : decode cX12_tries 100 = .ok (.iaload, 1) := by decide +kernel
theorem dX12_tries_101 : decode cX12_tries 101 = .ok (.iconst 1, 1) := by decide +kernel
theorem dX12_tries_102 : decode cX12_tries 102 = .ok (.iadd, 1) := by decide +kernel
theorem dX12_tries_103 : decode cX12_tries 103 = .ok (.iastore, 1) := by decide +kernel
theorem dX12_tries_104 : decode cX12_tries 104 = .ok (.iconst 1, 1) := by decide +kernel
theorem dX12_tries_105 : decode cX12_tries 105 = .ok (.ireturn, 1) := by decide +kernel
theorem dX12_stateNow_0 : decode cX12_stateNow 0 = .ok (.iconst 2, 1) := by decide +kernel
theorem dX12_stateNow_1 : decode cX12_stateNow 1 = .ok (.aload_n 0, 1) := by decide +kernel
theorem dX12_stateNow_2 : decode cX12_stateNow 2 = .ok (.getfield 7, 3) := by decide +kernel
theorem dX12_stateNow_5 : decode cX12_stateNow 5 = .ok (.iconst 4, 1) := by decide +kernel
theorem dX12_stateNow_6 : decode cX12_stateNow 6 = .ok (.iaload, 1) := by decide +kernel
theorem dX12_stateNow_7 : decode cX12_stateNow 7 = .ok (.imul, 1) := by decide +kernel
theorem dX12_stateNow_8 : decode cX12_stateNow 8 = .ok (.aload_n 0, 1) := by decide +kernel
theorem dX12_stateNow_9 : decode cX12_stateNow 9 = .ok (.getfield 7, 3) := by decide +kernel
theorem dX12_stateNow_12 : decode cX12_stateNow 12 = .ok (.iconst 3, 1) := by decide +kernel
theorem dX12_stateNow_13 : decode cX12_stateNow 13 = .ok (.iaload, 1) := by decide +kernel
theorem dX12_stateNow_14 : decode cX12_stateNow 14 = .ok (.iadd, 1) := by decide +kernel
theorem dX12_stateNow_15 : decode cX12_stateNow 15 = .ok (.ireturn, 1) := by decide +kernel
theorem dX12_plan_0 : decode cX12_plan 0 = .ok (.aload_n 0, 1) := by decide +kernel
theorem dX12_plan_1 : decode cX12_plan 1 = .ok (.iload_n 3, 1) := by decide +kernel
theorem dX12_plan_2 : decode cX12_plan 2 = .ok (.iconst 0, 1) := by decide +kernel
theorem dX12_plan_3 : decode cX12_plan 3 = .ok (.iconst 1, 1) := by decide +kernel
theorem dX12_plan_4 : decode cX12_plan 4 = .ok (.invokestatic 62, 3) := by decide +kernel
theorem dX12_plan_7 : decode cX12_plan 7 = .ok (.ifCond .ne 7, 3) := by decide +kernel
theorem dX12_plan_10 : decode cX12_plan 10 = .ok (.iconst 1, 1) := by decide +kernel
theorem dX12_plan_11 : decode cX12_plan 11 = .ok (.goto 4, 3) := by decide +kernel
theorem dX12_plan_14 : decode cX12_plan 14 = .ok (.iconst 0, 1) := by decide +kernel
theorem dX12_plan_15 : decode cX12_plan 15 = .ok (.putfield 59, 3) := by decide +kernel
theorem dX12_plan_18 : decode cX12_plan 18 = .ok (.aload_n 0, 1) := by decide +kernel
theorem dX12_plan_19 : decode cX12_plan 19 = .ok (.getfield 59, 3) := by decide +kernel
theorem dX12_plan_22 : decode cX12_plan 22 = .ok (.ifCond .le 5, 3) := by decide +kernel
theorem dX12_plan_25 : decode cX12_plan 25 = .ok (.iconst 0, 1) := by decide +kernel
theorem dX12_plan_26 : decode cX12_plan 26 = .ok (.ireturn, 1) := by decide +kernel
theorem dX12_plan_27 : decode cX12_plan 27 = .ok (.aload_n 0, 1) := by decide +kernel
theorem dX12_plan_28 : decode cX12_plan 28 = .ok (.iload_n 1, 1) := by decide +kernel
theorem dX12_plan_29 : decode cX12_plan 29 = .ok (.aload_n 0, 1) := by decide +kernel
theorem dX12_plan_30 : decode cX12_plan 30 = .ok (.invokevirtual 208, 3) := by decide +kernel
theorem dX12_plan_33 : decode cX12_plan 33 = .ok (.iand, 1) := by decide +kernel
theorem dX12_plan_34 : decode cX12_plan 34 = .ok (.iload_n 2, 1) := by decide +kernel
theorem dX12_plan_35 : decode cX12_plan 35 = .ok (.invokevirtual 267, 3) := by decide +kernel
theorem dX12_plan_38 : decode cX12_plan 38 = .ok (.aload_n 0, 1) := by decide +kernel
theorem dX12_plan_39 : decode cX12_plan 39 = .ok (.invokevirtual 271, 3) := by decide +kernel
theorem dX12_plan_42 : decode cX12_plan 42 = .ok (.istore 4, 2) := by decide +kernel
theorem dX12_plan_44 : decode cX12_plan 44 = .ok (.aload_n 0, 1) := by decide +kernel
theorem dX12_plan_45 : decode cX12_plan 45 = .ok (.getfield 32, 3) := by decide +kernel
theorem dX12_plan_48 : decode cX12_plan 48 = .ok (.iload 4, 2) := by decide +kernel
theorem dX12_plan_50 : decode cX12_plan 50 = .ok (.iaload, 1) := by decide +kernel
theorem dX12_plan_51 : decode cX12_plan 51 = .ok (.ldc 251, 2) := by decide +kernel
theorem dX12_plan_53 : decode cX12_plan 53 = .ok (.if_icmp .ne 5, 3) := by decide +kernel
theorem dX12_plan_56 : decode cX12_plan 56 = .ok (.iconst (-1), 1) := by decide +kernel
theorem dX12_plan_57 : decode cX12_plan 57 = .ok (.ireturn, 1) := by decide +kernel
theorem dX12_plan_58 : decode cX12_plan 58 = .ok (.iload_n 3, 1) := by decide +kernel
theorem dX12_plan_59 : decode cX12_plan 59 = .ok (.ifCond .ne 13, 3) := by decide +kernel
theorem dX12_plan_62 : decode cX12_plan 62 = .ok (.aload_n 0, 1) := by decide +kernel
theorem dX12_plan_63 : decode cX12_plan 63 = .ok (.getfield 29, 3) := by decide +kernel
theorem dX12_plan_66 : decode cX12_plan 66 = .ok (.iload 4, 2) := by decide +kernel
theorem dX12_plan_68 : decode cX12_plan 68 = .ok (.iaload, 1) := by decide +kernel
theorem dX12_plan_69 : decode cX12_plan 69 = .ok (.goto 10, 3) := by decide +kernel
theorem dX12_plan_72 : decode cX12_plan 72 = .ok (.aload_n 0, 1) := by decide +kernel
theorem dX12_plan_73 : decode cX12_plan 73 = .ok (.getfield 32, 3) := by decide +kernel
theorem dX12_plan_76 : decode cX12_plan 76 = .ok (.iload 4, 2) := by decide +kernel
theorem dX12_plan_78 : decode cX12_plan 78 = .ok (.iaload, 1) := by decide +kernel
theorem dX12_plan_79 : decode cX12_plan 79 = .ok (.ireturn, 1) := by decide +kernel
theorem dX12_moveFrom_0 : decode cX12_moveFrom 0 = .ok (.iconst 0, 1) := by decide +kernel
theorem dX12_moveFrom_1 : decode cX12_moveFrom 1 = .ok (.istore_n 2, 1) := by decide +kernel
theorem dX12_moveFrom_2 : decode cX12_moveFrom 2 = .ok (.iload_n 2, 1) := by decide +kernel
theorem dX12_moveFrom_3 : decode cX12_moveFrom 3 = .ok (.sipush 1024, 3) := by decide +kernel
theorem dX12_moveFrom_6 : decode cX12_moveFrom 6 = .ok (.aload_n 0, 1) := by decide +kernel
theorem dX12_moveFrom_7 : decode cX12_moveFrom 7 = .ok (.getfield 7, 3) := by decide +kernel
theorem dX12_moveFrom_10 : decode cX12_moveFrom 10 = .ok (.iconst 1, 1) := by decide +kernel
theorem dX12_moveFrom_11 : decode cX12_moveFrom 11 = .ok (.iaload, 1) := by decide +kernel
theorem dX12_moveFrom_12 : decode cX12_moveFrom 12 = .ok (.iadd, 1) := by decide +kernel
theorem dX12_moveFrom_13 : decode cX12_moveFrom 13 = .ok (.if_icmp .ge 81, 3) := by decide +kernel
theorem dX12_moveFrom_16 : decode cX12_moveFrom 16 = .ok (.iload_n 2, 1) := by decide +kernel
theorem dX12_moveFrom_17 : decode cX12_moveFrom 17 = .ok (.sipush 1024, 3) := by decide +kernel
theorem dX12_moveFrom_20 : decode cX12_moveFrom 20 = .ok (.if_icmp .ge 17, 3) := by decide +kernel
theorem dX12_moveFrom_23 : decode cX12_moveFrom 23 = .ok (.iload_n 2, 1) := by decide +kernel
theorem dX12_moveFrom_24 : decode cX12_moveFrom 24 = .ok (.aload_n 0, 1) := by decide +kernel
theorem dX12_moveFrom_25 : decode cX12_moveFrom 25 = .ok (.invokevirtual 208, 3) := by decide +kernel
theorem dX12_moveFrom_28 : decode cX12_moveFrom 28 = .ok (.iconst (-1), 1) := by decide +kernel
theorem dX12_moveFrom_29 : decode cX12_moveFrom 29 = .ok (.ixor, 1) := by decide +kernel
theorem dX12_moveFrom_30 : decode cX12_moveFrom 30 = .ok (.iand, 1) := by decide +kernel
theorem dX12_moveFrom_31 : decode cX12_moveFrom 31 = .ok (.ifCond .eq 6, 3) := by decide +kernel
theorem dX12_moveFrom_34 : decode cX12_moveFrom 34 = .ok (.goto 54, 3) := by decide +kernel
theorem dX12_moveFrom_37 : decode cX12_moveFrom 37 = .ok (.aload_n 0, 1) := by decide +kernel
theorem dX12_moveFrom_38 : decode cX12_moveFrom 38 = .ok (.iload_n 1, 1) := by decide +kernel
theorem dX12_moveFrom_39 : decode cX12_moveFrom 39 = .ok (.iload_n 2, 1) := by decide +kernel
theorem dX12_moveFrom_40 : decode cX12_moveFrom 40 = .ok (.invokevirtual 260, 3) := by decide +kernel
theorem dX12_moveFrom_43 : decode cX12_moveFrom 43 = .ok (.istore_n 3, 1) := by decide +kernel
theorem dX12_moveFrom_44 : decode cX12_moveFrom 44 = .ok (.iload_n 3, 1) := by decide +kernel
theorem dX12_moveFrom_45 : decode cX12_moveFrom 45 = .ok (.iconst (-1), 1) := by decide +kernel
theorem dX12_moveFrom_46 : decode cX12_moveFrom 46 = .ok (.if_icmp .eq 42, 3) := by decide +kernel
theorem dX12_moveFrom_49 : decode cX12_moveFrom 49 = .ok (.aload_n 0, 1) := by decide +kernel
theorem dX12_moveFrom_50 : decode cX12_moveFrom 50 = .ok (.getfield 29, 3) := by decide +kernel
theorem dX12_moveFrom_53 : decode cX12_moveFrom 53 = .ok (.iload_n 3, 1) := by decide +kernel
theorem dX12_moveFrom_54 : decode cX12_moveFrom 54 = .ok (.iaload, 1) := by decide +kernel
theorem dX12_moveFrom_55 : decode cX12_moveFrom 55 = .ok (.aload_n 0, 1) := by decide +kernel
theorem dX12_moveFrom_56 : decode cX12_moveFrom 56 = .ok (.getfield 226, 3) := by decide +kernel
theorem dX12_moveFrom_59 : decode cX12_moveFrom 59 = .ok (.iadd, 1) := by decide +kernel
theorem dX12_moveFrom_60 : decode cX12_moveFrom 60 = .ok (.aload_n 0, 1) := by decide +kernel
theorem dX12_moveFrom_61 : decode cX12_moveFrom 61 = .ok (.getfield 29, 3) := by decide +kernel
theorem dX12_moveFrom_64 : decode cX12_moveFrom 64 = .ok (.iload_n 1, 1) := by decide +kernel
theorem dX12_moveFrom_65 : decode cX12_moveFrom 65 = .ok (.iaload, 1) := by decide +kernel
theorem dX12_moveFrom_66 : decode cX12_moveFrom 66 = .ok (.if_icmp .ne 22, 3) := by decide +kernel
theorem dX12_moveFrom_69 : decode cX12_moveFrom 69 = .ok (.aload_n 0, 1) := by decide +kernel
theorem dX12_moveFrom_70 : decode cX12_moveFrom 70 = .ok (.getfield 32, 3) := by decide +kernel
theorem dX12_moveFrom_73 : decode cX12_moveFrom 73 = .ok (.iload_n 3, 1) := by decide +kernel
theorem dX12_moveFrom_74 : decode cX12_moveFrom 74 = .ok (.iaload, 1) := by decide +kernel
theorem dX12_moveFrom_75 : decode cX12_moveFrom 75 = .ok (.iconst 1, 1) := by decide +kernel
theorem dX12_moveFrom_76 : decode cX12_moveFrom 76 = .ok (.iadd, 1) := by decide +kernel
theorem dX12_moveFrom_77 : decode cX12_moveFrom 77 = .ok (.aload_n 0, 1) := by decide +kernel
theorem dX12_moveFrom_78 : decode cX12_moveFrom 78 = .ok (.getfield 32, 3) := by decide +kernel
theorem dX12_moveFrom_81 : decode cX12_moveFrom 81 = .ok (.iload_n 1, 1) := by decide +kernel
theorem dX12_moveFrom_82 : decode cX12_moveFrom 82 = .ok (.iaload, 1) := by decide +kernel
theorem dX12_moveFrom_83 : decode cX12_moveFrom 83 = .ok (.if_icmp .ne 5, 3) := by decide +kernel
theorem dX12_moveFrom_86 : decode cX12_moveFrom 86 = .ok (.iload_n 2, 1) := by decide +kernel
theorem dX12_moveFrom_87 : decode cX12_moveFrom 87 = .ok (.ireturn, 1) := by decide +kernel
theorem dX12_moveFrom_88 : decode cX12_moveFrom 88 = .ok (.iinc 2 1, 3) := by decide +kernel
theorem dX12_moveFrom_91 : decode cX12_moveFrom 91 = .ok (.goto (-89), 3) := by decide +kernel
theorem dX12_moveFrom_94 : decode cX12_moveFrom 94 = .ok (.iconst (-1), 1) := by decide +kernel
theorem dX12_moveFrom_95 : decode cX12_moveFrom 95 = .ok (.ireturn, 1) := by decide +kernel
theorem dX12_row_0 : decode cX12_row 0 = .ok (.aload_n 0, 1) := by decide +kernel
theorem dX12_row_1 : decode cX12_row 1 = .ok (.iconst 0, 1) := by decide +kernel
theorem dX12_row_2 : decode cX12_row 2 = .ok (.putfield 59, 3) := by decide +kernel
theorem dX12_row_5 : decode cX12_row 5 = .ok (.aload_n 0, 1) := by decide +kernel
theorem dX12_row_6 : decode cX12_row 6 = .ok (.iload_n 1, 1) := by decide +kernel
theorem dX12_row_7 : decode cX12_row 7 = .ok (.aload_n 0, 1) := by decide +kernel
theorem dX12_row_8 : decode cX12_row 8 = .ok (.invokevirtual 208, 3) := by decide +kernel
theorem dX12_row_11 : decode cX12_row 11 = .ok (.iand, 1) := by decide +kernel
theorem dX12_row_12 : decode cX12_row 12 = .ok (.iload_n 2, 1) := by decide +kernel
theorem dX12_row_13 : decode cX12_row 13 = .ok (.invokevirtual 267, 3) := by decide +kernel
theorem dX12_row_16 : decode cX12_row 16 = .ok (.aload_n 0, 1) := by decide +kernel
theorem dX12_row_17 : decode cX12_row 17 = .ok (.invokevirtual 271, 3) := by decide +kernel
theorem dX12_row_20 : decode cX12_row 20 = .ok (.istore 4, 2) := by decide +kernel
theorem dX12_row_22 : decode cX12_row 22 = .ok (.aload_n 0, 1) := by decide +kernel
theorem dX12_row_23 : decode cX12_row 23 = .ok (.getfield 32, 3) := by decide +kernel
theorem dX12_row_26 : decode cX12_row 26 = .ok (.iload 4, 2) := by decide +kernel
theorem dX12_row_28 : decode cX12_row 28 = .ok (.iaload, 1) := by decide +kernel
theorem dX12_row_29 : decode cX12_row 29 = .ok (.ldc 251, 2) := by decide +kernel
theorem dX12_row_31 : decode cX12_row 31 = .ok (.if_icmp .eq 20, 3) := by decide +kernel
