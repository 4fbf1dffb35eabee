theorem dX9_goOn_25 : decode cX9_goOn 25 = .ok (.ifCond .eq 7, 3) := by decide +kernel
theorem dX9_goOn_28 : decode cX9_goOn 28 = .ok (.iconst 1, 1) := by decide +kernel
theorem dX9_goOn_29 : decode cX9_goOn 29 = .ok (.goto 4, 3) := by decide +kernel
theorem dX9_goOn_32 : decode cX9_goOn 32 = .ok (.iconst 0, 1) := by decide +kernel
theorem dX9_goOn_33 : decode cX9_goOn 33 = .ok (.ireturn, 1) := by decide +kernel
theorem dX9_isDigit_0 : decode cX9_isDigit 0 = .ok (.iload_n 0, 1) := by decide +kernel
theorem dX9_isDigit_1 : decode cX9_isDigit 1 = .ok (.bipush 48, 2) := by decide +kernel
theorem dX9_isDigit_3 : decode cX9_isDigit 3 = .ok (.if_icmp .lt 13, 3) := by decide +kernel
theorem dX9_isDigit_6 : decode cX9_isDigit 6 = .ok (.iload_n 0, 1) := by decide +kernel
theorem dX9_isDigit_7 : decode cX9_isDigit 7 = .ok (.bipush 57, 2) := by decide +kernel
theorem dX9_isDigit_9 : decode cX9_isDigit 9 = .ok (.if_icmp .gt 7, 3) := by decide +kernel
theorem dX9_isDigit_12 : decode cX9_isDigit 12 = .ok (.iconst 1, 1) := by decide +kernel
theorem dX9_isDigit_13 : decode cX9_isDigit 13 = .ok (.goto 4, 3) := by decide +kernel
theorem dX9_isDigit_16 : decode cX9_isDigit 16 = .ok (.iconst 0, 1) := by decide +kernel
theorem dX9_isDigit_17 : decode cX9_isDigit 17 = .ok (.ireturn, 1) := by decide +kernel
theorem dX9_isLetter_0 : decode cX9_isLetter 0 = .ok (.iload_n 0, 1) := by decide +kernel
theorem dX9_isLetter_1 : decode cX9_isLetter 1 = .ok (.bipush 97, 2) := by decide +kernel
theorem dX9_isLetter_3 : decode cX9_isLetter 3 = .ok (.if_icmp .lt 13, 3) := by decide +kernel
theorem dX9_isLetter_6 : decode cX9_isLetter 6 = .ok (.iload_n 0, 1) := by decide +kernel
theorem dX9_isLetter_7 : decode cX9_isLetter 7 = .ok (.bipush 122, 2) := by decide +kernel
theorem dX9_isLetter_9 : decode cX9_isLetter 9 = .ok (.if_icmp .gt 7, 3) := by decide +kernel
theorem dX9_isLetter_12 : decode cX9_isLetter 12 = .ok (.iconst 1, 1) := by decide +kernel
theorem dX9_isLetter_13 : decode cX9_isLetter 13 = .ok (.goto 4, 3) := by decide +kernel
theorem dX9_isLetter_16 : decode cX9_isLetter 16 = .ok (.iconst 0, 1) := by decide +kernel
theorem dX9_isLetter_17 : decode cX9_isLetter 17 = .ok (.ireturn, 1) := by decide +kernel
theorem dX9_thing_0 : decode cX9_thing 0 = .ok (.aload_n 0, 1) := by decide +kernel
theorem dX9_thing_1 : decode cX9_thing 1 = .ok (.getfield 21, 3) := by decide +kernel
theorem dX9_thing_4 : decode cX9_thing 4 = .ok (.aload_n 0, 1) := by decide +kernel
theorem dX9_thing_5 : decode cX9_thing 5 = .ok (.getfield 34, 3) := by decide +kernel
theorem dX9_thing_8 : decode cX9_thing 8 = .ok (.aaload, 1) := by decide +kernel
theorem dX9_thing_9 : decode cX9_thing 9 = .ok (.areturn, 1) := by decide +kernel
theorem dX9_number_0 : decode cX9_number 0 = .ok (.aload_n 0, 1) := by decide +kernel
theorem dX9_number_1 : decode cX9_number 1 = .ok (.getfield 28, 3) := by decide +kernel
theorem dX9_number_4 : decode cX9_number 4 = .ok (.aload_n 0, 1) := by decide +kernel
theorem dX9_number_5 : decode cX9_number 5 = .ok (.getfield 34, 3) := by decide +kernel
theorem dX9_number_8 : decode cX9_number 8 = .ok (.iaload, 1) := by decide +kernel
theorem dX9_number_9 : decode cX9_number 9 = .ok (.ireturn, 1) := by decide +kernel
theorem dX9_start_0 : decode cX9_start 0 = .ok (.aload_n 0, 1) := by decide +kernel
theorem dX9_start_1 : decode cX9_start 1 = .ok (.getfield 25, 3) := by decide +kernel
theorem dX9_start_4 : decode cX9_start 4 = .ok (.aload_n 0, 1) := by decide +kernel
theorem dX9_start_5 : decode cX9_start 5 = .ok (.getfield 34, 3) := by decide +kernel
theorem dX9_start_8 : decode cX9_start 8 = .ok (.iaload, 1) := by decide +kernel
theorem dX9_start_9 : decode cX9_start 9 = .ok (.ireturn, 1) := by decide +kernel
theorem dX9_next_0 : decode cX9_next 0 = .ok (.aload_n 0, 1) := by decide +kernel
theorem dX9_next_1 : decode cX9_next 1 = .ok (.getfield 34, 3) := by decide +kernel
theorem dX9_next_4 : decode cX9_next 4 = .ok (.aload_n 0, 1) := by decide +kernel
theorem dX9_next_5 : decode cX9_next 5 = .ok (.getfield 31, 3) := by decide +kernel
theorem dX9_next_8 : decode cX9_next 8 = .ok (.if_icmp .ge 13, 3) := by decide +kernel
theorem dX9_next_11 : decode cX9_next 11 = .ok (.aload_n 0, 1) := by decide +kernel
theorem dX9_next_12 : decode cX9_next 12 = .ok (.dup, 1) := by decide +kernel
theorem dX9_next_13 : decode cX9_next 13 = .ok (.getfield 34, 3) := by decide +kernel
theorem dX9_next_16 : decode cX9_next 16 = .ok (.iconst 1, 1) := by decide +kernel
theorem dX9_next_17 : decode cX9_next 17 = .ok (.iadd, 1) := by decide +kernel
theorem dX9_next_18 : decode cX9_next 18 = .ok (.putfield 34, 3) := by decide +kernel
theorem dX9_next_21 : decode cX9_next 21 = .ok (.return_, 1) := by decide +kernel
theorem dX9_take_0 : decode cX9_take 0 = .ok (.aload_n 0, 1) := by decide +kernel
theorem dX9_take_1 : decode cX9_take 1 = .ok (.getfield 21, 3) := by decide +kernel
theorem dX9_take_4 : decode cX9_take 4 = .ok (.aload_n 0, 1) := by decide +kernel
theorem dX9_take_5 : decode cX9_take 5 = .ok (.getfield 34, 3) := by decide +kernel
theorem dX9_take_8 : decode cX9_take 8 = .ok (.aaload, 1) := by decide +kernel
theorem dX9_take_9 : decode cX9_take 9 = .ok (.aload_n 1, 1) := by decide +kernel
theorem dX9_take_10 : decode cX9_take 10 = .ok (.if_acmp .eq 5, 3) := by decide +kernel
theorem dX9_take_13 : decode cX9_take 13 = .ok (.iconst 0, 1) := by decide +kernel
theorem dX9_take_14 : decode cX9_take 14 = .ok (.ireturn, 1) := by decide +kernel
theorem dX9_take_15 : decode cX9_take 15 = .ok (.aload_n 0, 1) := by decide +kernel
theorem dX9_take_16 : decode cX9_take 16 = .ok (.getfield 34, 3) := by decide +kernel
theorem dX9_take_19 : decode cX9_take 19 = .ok (.aload_n 0, 1) := by decide +kernel
theorem dX9_take_20 : decode cX9_take 20 = .ok (.getfield 31, 3) := by decide +kernel
theorem dX9_take_23 : decode cX9_take 23 = .ok (.if_icmp .ge 13, 3) := by decide +kernel
theorem dX9_take_26 : decode cX9_take 26 = .ok (.aload_n 0, 1) := by decide +kernel
theorem dX9_take_27 : decode cX9_take 27 = .ok (.dup, 1) := by decide +kernel
theorem dX9_take_28 : decode cX9_take 28 = .ok (.getfield 34, 3) := by decide +kernel
theorem dX9_take_31 : decode cX9_take 31 = .ok (.iconst 1, 1) := by decide +kernel
theorem dX9_take_32 : decode cX9_take 32 = .ok (.iadd, 1) := by decide +kernel
theorem dX9_take_33 : decode cX9_take 33 = .ok (.putfield 34, 3) := by decide +kernel
theorem dX9_take_36 : decode cX9_take 36 = .ok (.iconst 1, 1) := by decide +kernel
theorem dX9_take_37 : decode cX9_take 37 = .ok (.ireturn, 1) := by decide +kernel
theorem dX11_init_0 : decode cX11_init 0 = .ok (.aload_n 0, 1) := by decide +kernel
theorem dX11_init_1 : decode cX11_init 1 = .ok (.invokespecial 3, 3) := by decide +kernel
theorem dX11_init_4 : decode cX11_init 4 = .ok (.aload_n 0, 1) := by decide +kernel
theorem dX11_init_5 : decode cX11_init 5 = .ok (.new 9, 3) := by decide +kernel
theorem dX11_init_8 : decode cX11_init 8 = .ok (.dup, 1) := by decide +kernel
theorem dX11_init_9 : decode cX11_init 9 = .ok (.invokespecial 11, 3) := by decide +kernel
theorem dX11_init_12 : decode cX11_init 12 = .ok (.putfield 12, 3) := by decide +kernel
theorem dX11_init_15 : decode cX11_init 15 = .ok (.aload_n 0, 1) := by decide +kernel
theorem dX11_init_16 : decode cX11_init 16 = .ok (.new 16, 3) := by decide +kernel
theorem dX11_init_19 : decode cX11_init 19 = .ok (.dup, 1) := by decide +kernel
theorem dX11_init_20 : decode cX11_init 20 = .ok (.invokespecial 18, 3) := by decide +kernel
theorem dX11_init_23 : decode cX11_init 23 = .ok (.putfield 19, 3) := by decide +kernel
theorem dX11_init_26 : decode cX11_init 26 = .ok (.aload_n 0, 1) := by decide +kernel
theorem dX11_init_27 : decode cX11_init 27 = .ok (.new 16, 3) := by decide +kernel
theorem dX11_init_30 : decode cX11_init 30 = .ok (.dup, 1) := by decide +kernel
theorem dX11_init_31 : decode cX11_init 31 = .ok (.invokespecial 18, 3) := by decide +kernel
theorem dX11_init_34 : decode cX11_init 34 = .ok (.putfield 23, 3) := by decide +kernel
theorem dX11_init_37 : decode cX11_init 37 = .ok (.aload_n 0, 1) := by decide +kernel
theorem dX11_init_38 : decode cX11_init 38 = .ok (.new 16, 3) := by decide +kernel
theorem dX11_init_41 : decode cX11_init 41 = .ok (.dup, 1) := by decide +kernel
theorem dX11_init_42 : decode cX11_init 42 = .ok (.invokespecial 18, 3) := by decide +kernel
theorem dX11_init_45 : decode cX11_init 45 = .ok (.putfield 26, 3) := by decide +kernel
theorem dX11_init_48 : decode cX11_init 48 = .ok (.aload_n 0, 1) := by decide +kernel
theorem dX11_init_49 : decode cX11_init 49 = .ok (.new 29, 3) := by decide +kernel
theorem dX11_init_52 : decode cX11_init 52 = .ok (.dup, 1) := by decide +kernel
theorem dX11_init_53 : decode cX11_init 53 = .ok (.invokespecial 31, 3) := by decide +kernel
theorem dX11_init_56 : decode cX11_init 56 = .ok (.putfield 32, 3) := by decide +kernel
theorem dX11_init_59 : decode cX11_init 59 = .ok (.aload_n 0, 1) := by decide +kernel
theorem dX11_init_60 : decode cX11_init 60 = .ok (.new 29, 3) := by decide +kernel
theorem dX11_init_63 : decode cX11_init 63 = .ok (.dup, 1) := by decide +kernel
theorem dX11_init_64 : decode cX11_init 64 = .ok (.invokespecial 31, 3) := by decide +kernel
theorem dX11_init_67 : decode cX11_init 67 = .ok (.putfield 36, 3) := by decide +kernel
theorem dX11_init_70 : decode cX11_init 70 = .ok (.aload_n 0, 1) := by decide +kernel
theorem dX11_init_71 : decode cX11_init 71 = .ok (.new 39, 3) := by decide +kernel
theorem dX11_init_74 : decode cX11_init 74 = .ok (.dup, 1) := by decide +kernel
theorem dX11_init_75 : decode cX11_init 75 = .ok (.invokespecial 41, 3) := by decide +kernel
theorem dX11_init_78 : decode cX11_init 78 = .ok (.putfield 42, 3) := by decide +kernel
theorem dX11_init_81 : decode cX11_init 81 = .ok (.aload_n 0, 1) := by decide +kernel
theorem dX11_init_82 : decode cX11_init 82 = .ok (.new 39, 3) := by decide +kernel
theorem dX11_init_85 : decode cX11_init 85 = .ok (.dup, 1) := by decide +kernel
theorem dX11_init_86 : decode cX11_init 86 = .ok (.invokespecial 41, 3) := by decide +kernel
theorem dX11_init_89 : decode cX11_init 89 = .ok (.putfield 46, 3) := by decide +kernel
theorem dX11_init_92 : decode cX11_init 92 = .ok (.aload_n 0, 1) := by decide +kernel
theorem dX11_init_93 : decode cX11_init 93 = .ok (.new 39, 3) := by decide +kernel
theorem dX11_init_96 : decode cX11_init 96 = .ok (.dup, 1) := by decide +kernel
theorem dX11_init_97 : decode cX11_init 97 = .ok (.invokespecial 41, 3) := by decide +kernel
theorem dX11_init_100 : decode cX11_init 100 = .ok (.putfield 49, 3) := by decide +kernel
theorem dX11_init_103 : decode cX11_init 103 = .ok (.aload_n 0, 1) := by decide +kernel
theorem dX11_init_104 : decode cX11_init 104 = .ok (.new 52, 3) := by decide +kernel
theorem dX11_init_107 : decode cX11_init 107 = .ok (.dup, 1) := by decide +kernel
theorem dX11_init_108 : decode cX11_init 108 = .ok (.aload_n 0, 1) := by decide +kernel
theorem dX11_init_109 : decode cX11_init 109 = .ok (.getfield 12, 3) := by decide +kernel
theorem dX11_init_112 : decode cX11_init 112 = .ok (.aload_n 0, 1) := by decide +kernel
theorem dX11_init_113 : decode cX11_init 113 = .ok (.getfield 23, 3) := by decide +kernel
theorem dX11_init_116 : decode cX11_init 116 = .ok (.invokespecial 54, 3) := by decide +kernel
theorem dX11_init_119 : decode cX11_init 119 = .ok (.putfield 57, 3) := by decide +kernel
theorem dX11_init_122 : decode cX11_init 122 = .ok (.aload_n 0, 1) := by decide +kernel
theorem dX11_init_123 : decode cX11_init 123 = .ok (.new 61, 3) := by decide +kernel
theorem dX11_init_126 : decode cX11_init 126 = .ok (.dup, 1) := by decide +kernel
theorem dX11_init_127 : decode cX11_init 127 = .ok (.aload_n 0, 1) := by decide +kernel
theorem dX11_init_128 : decode cX11_init 128 = .ok (.getfield 12, 3) := by decide +kernel
theorem dX11_init_131 : decode cX11_init 131 = .ok (.aload_n 0, 1) := by decide +kernel
theorem dX11_init_132 : decode cX11_init 132 = .ok (.getfield 46, 3) := by decide +kernel
theorem dX11_init_135 : decode cX11_init 135 = .ok (.invokespecial 63, 3) := by decide +kernel
theorem dX11_init_138 : decode cX11_init 138 = .ok (.putfield 66, 3) := by decide +kernel
theorem dX11_init_141 : decode cX11_init 141 = .ok (.aload_n 0, 1) := by decide +kernel
theorem dX11_init_142 : decode cX11_init 142 = .ok (.new 70, 3) := by decide +kernel
theorem dX11_init_145 : decode cX11_init 145 = .ok (.dup, 1) := by decide +kernel
theorem dX11_init_146 : decode cX11_init 146 = .ok (.aload_n 0, 1) := by decide +kernel
theorem dX11_init_147 : decode cX11_init 147 = .ok (.getfield 19, 3) := by decide +kernel
theorem dX11_init_150 : decode cX11_init 150 = .ok (.aload_n 0, 1) := by decide +kernel
theorem dX11_init_151 : decode cX11_init 151 = .ok (.getfield 32, 3) := by decide +kernel
theorem dX11_init_154 : decode cX11_init 154 = .ok (.invokespecial 72, 3) := by decide +kernel
theorem dX11_init_157 : decode cX11_init 157 = .ok (.putfield 75, 3) := by decide +kernel
theorem dX11_init_160 : decode cX11_init 160 = .ok (.aload_n 0, 1) := by decide +kernel
theorem dX11_init_161 : decode cX11_init 161 = .ok (.new 79, 3) := by decide +kernel
theorem dX11_init_164 : decode cX11_init 164 = .ok (.dup, 1) := by decide +kernel
theorem dX11_init_165 : decode cX11_init 165 = .ok (.aload_n 0, 1) := by decide +kernel
theorem dX11_init_166 : decode cX11_init 166 = .ok (.getfield 75, 3) := by decide +kernel
theorem dX11_init_169 : decode cX11_init 169 = .ok (.invokespecial 81, 3) := by decide +kernel
theorem dX11_init_172 : decode cX11_init 172 = .ok (.putfield 84, 3) := by decide +kernel
theorem dX11_init_175 : decode cX11_init 175 = .ok (.aload_n 0, 1) := by decide +kernel
theorem dX11_init_176 : decode cX11_init 176 = .ok (.new 88, 3) := by decide +kernel
theorem dX11_init_179 : decode cX11_init 179 = .ok (.dup, 1) := by decide +kernel
theorem dX11_init_180 : decode cX11_init 180 = .ok (.aload_n 0, 1) := by decide +kernel
theorem dX11_init_181 : decode cX11_init 181 = .ok (.getfield 75, 3) := by decide +kernel
theorem dX11_init_184 : decode cX11_init 184 = .ok (.invokespecial 90, 3) := by decide +kernel
theorem dX11_init_187 : decode cX11_init 187 = .ok (.putfield 91, 3) := by decide +kernel
theorem dX11_init_190 : decode cX11_init 190 = .ok (.aload_n 0, 1) := by decide +kernel
theorem dX11_init_191 : decode cX11_init 191 = .ok (.new 95, 3) := by decide +kernel
theorem dX11_init_194 : decode cX11_init 194 = .ok (.dup, 1) := by decide +kernel
theorem dX11_init_195 : decode cX11_init 195 = .ok (.aload_n 0, 1) := by decide +kernel
theorem dX11_init_196 : decode cX11_init 196 = .ok (.getfield 75, 3) := by decide +kernel
theorem dX11_init_199 : decode cX11_init 199 = .ok (.aload_n 0, 1) := by decide +kernel
theorem dX11_init_200 : decode cX11_init 200 = .ok (.getfield 42, 3) := by decide +kernel
theorem dX11_init_203 : decode cX11_init 203 = .ok (.invokespecial 97, 3) := by decide +kernel
theorem dX11_init_206 : decode cX11_init 206 = .ok (.putfield 100, 3) := by decide +kernel
theorem dX11_init_209 : decode cX11_init 209 = .ok (.aload_n 0, 1) := by decide +kernel
theorem dX11_init_210 : decode cX11_init 210 = .ok (.iconst 0, 1) := by decide +kernel
theorem dX11_init_211 : decode cX11_init 211 = .ok (.putfield 104, 3) := by decide +kernel
theorem dX11_init_214 : decode cX11_init 214 = .ok (.aload_n 0, 1) := by decide +kernel
theorem dX11_init_215 : decode cX11_init 215 = .ok (.iconst (-1), 1) := by decide +kernel
theorem dX11_init_216 : decode cX11_init 216 = .ok (.putfield 108, 3) := by decide +kernel
theorem dX11_init_219 : decode cX11_init 219 = .ok (.return_, 1) := by decide +kernel
theorem dX11_feed_0 : decode cX11_feed 0 = .ok (.aload_n 0, 1) := by decide +kernel
theorem dX11_feed_1 : decode cX11_feed 1 = .ok (.getfield 12, 3) := by decide +kernel
theorem dX11_feed_4 : decode cX11_feed 4 = .ok (.getfield 112, 3) := by decide +kernel
theorem dX11_feed_7 : decode cX11_feed 7 = .ok (.bipush 20, 2) := by decide +kernel
theorem dX11_feed_9 : decode cX11_feed 9 = .ok (.iadd, 1) := by decide +kernel
theorem dX11_feed_10 : decode cX11_feed 10 = .ok (.sipush 400, 3) := by decide +kernel
theorem dX11_feed_13 : decode cX11_feed 13 = .ok (.if_icmp .le 5, 3) := by decide +kernel
theorem dX11_feed_16 : decode cX11_feed 16 = .ok (.iconst (-1), 1) := by decide +kernel
theorem dX11_feed_17 : decode cX11_feed 17 = .ok (.ireturn, 1) := by decide +kernel
theorem dX11_feed_18 : decode cX11_feed 18 = .ok (.aload_n 0, 1) := by decide +kernel
theorem dX11_feed_19 : decode cX11_feed 19 = .ok (.getfield 12, 3) := by decide +kernel
theorem dX11_feed_22 : decode cX11_feed 22 = .ok (.iload_n 1, 1) := by decide +kernel
theorem dX11_feed_23 : decode cX11_feed 23 = .ok (.invokevirtual 115, 3) := by decide +kernel
theorem dX11_feed_26 : decode cX11_feed 26 = .ok (.aload_n 0, 1) := by decide +kernel
theorem dX11_feed_27 : decode cX11_feed 27 = .ok (.getfield 12, 3) := by decide +kernel
theorem dX11_feed_30 : decode cX11_feed 30 = .ok (.iload_n 2, 1) := by decide +kernel
theorem dX11_feed_31 : decode cX11_feed 31 = .ok (.invokevirtual 115, 3) := by decide +kernel
theorem dX11_feed_34 : decode cX11_feed 34 = .ok (.aload_n 0, 1) := by decide +kernel
theorem dX11_feed_35 : decode cX11_feed 35 = .ok (.getfield 12, 3) := by decide +kernel
theorem dX11_feed_38 : decode cX11_feed 38 = .ok (.iload_n 3, 1) := by decide +kernel
theorem dX11_feed_39 : decode cX11_feed 39 = .ok (.invokevirtual 115, 3) := by decide +kernel
theorem dX11_feed_42 : decode cX11_feed 42 = .ok (.aload_n 0, 1) := by decide +kernel
theorem dX11_feed_43 : decode cX11_feed 43 = .ok (.getfield 12, 3) := by decide +kernel
theorem dX11_feed_46 : decode cX11_feed 46 = .ok (.iload 4, 2) := by decide +kernel
theorem dX11_feed_48 : decode cX11_feed 48 = .ok (.invokevirtual 115, 3) := by decide +kernel
theorem dX11_feed_51 : decode cX11_feed 51 = .ok (.aload_n 0, 1) := by decide +kernel
theorem dX11_feed_52 : decode cX11_feed 52 = .ok (.getfield 12, 3) := by decide +kernel
theorem dX11_feed_55 : decode cX11_feed 55 = .ok (.iload 5, 2) := by decide +kernel
theorem dX11_feed_57 : decode cX11_feed 57 = .ok (.invokevirtual 115, 3) := by decide +kernel
theorem dX11_feed_60 : decode cX11_feed 60 = .ok (.aload_n 0, 1) := by decide +kernel
theorem dX11_feed_61 : decode cX11_feed 61 = .ok (.getfield 12, 3) := by decide +kernel
theorem dX11_feed_64 : decode cX11_feed 64 = .ok (.getfield 112, 3) := by decide +kernel
theorem dX11_feed_67 : decode cX11_feed 67 = .ok (.ireturn, 1) := by decide +kernel
theorem dX11_end_0 : decode cX11_end 0 = .ok (.iload_n 1, 1) := by decide +kernel
theorem dX11_end_1 : decode cX11_end 1 = .ok (.ifCond .lt 14, 3) := by decide +kernel
theorem dX11_end_4 : decode cX11_end 4 = .ok (.iload_n 1, 1) := by decide +kernel
theorem dX11_end_5 : decode cX11_end 5 = .ok (.aload_n 0, 1) := by decide +kernel
theorem dX11_end_6 : decode cX11_end 6 = .ok (.getfield 12, 3) := by decide +kernel
theorem dX11_end_9 : decode cX11_end 9 = .ok (.getfield 112, 3) := by decide +kernel
theorem dX11_end_12 : decode cX11_end 12 = .ok (.if_icmp .le 5, 3) := by decide +kernel
theorem dX11_end_15 : decode cX11_end 15 = .ok (.iconst 0, 1) := by decide +kernel
theorem dX11_end_16 : decode cX11_end 16 = .ok (.ireturn, 1) := by decide +kernel
theorem dX11_end_17 : decode cX11_end 17 = .ok (.aload_n 0, 1) := by decide +kernel
theorem dX11_end_18 : decode cX11_end 18 = .ok (.getfield 12, 3) := by decide +kernel
theorem dX11_end_21 : decode cX11_end 21 = .ok (.iload_n 1, 1) := by decide +kernel
theorem dX11_end_22 : decode cX11_end 22 = .ok (.putfield 112, 3) := by decide +kernel
theorem dX11_end_25 : decode cX11_end 25 = .ok (.iconst 1, 1) := by decide +kernel
theorem dX11_end_26 : decode cX11_end 26 = .ok (.ireturn, 1) := by decide +kernel
theorem dX11_river_0 : decode cX11_river 0 = .ok (.aload_n 0, 1) := by decide +kernel
theorem dX11_river_1 : decode cX11_river 1 = .ok (.getfield 23, 3) := by decide +kernel
theorem dX11_river_4 : decode cX11_river 4 = .ok (.aload_n 0, 1) := by decide +kernel
theorem dX11_river_5 : decode cX11_river 5 = .ok (.getfield 19, 3) := by decide +kernel
theorem dX11_river_8 : decode cX11_river 8 = .ok (.invokevirtual 119, 3) := by decide +kernel
theorem dX11_river_11 : decode cX11_river 11 = .ok (.aload_n 0, 1) := by decide +kernel
theorem dX11_river_12 : decode cX11_river 12 = .ok (.getfield 12, 3) := by decide +kernel
theorem dX11_river_15 : decode cX11_river 15 = .ok (.invokevirtual 123, 3) := by decide +kernel
theorem dX11_river_18 : decode cX11_river 18 = .ok (.aload_n 0, 1) := by decide +kernel
theorem dX11_river_19 : decode cX11_river 19 = .ok (.getfield 57, 3) := by decide +kernel
theorem dX11_river_22 : decode cX11_river 22 = .ok (.invokevirtual 126, 3) := by decide +kernel
theorem dX11_river_25 : decode cX11_river 25 = .ok (.istore_n 1, 1) := by decide +kernel
theorem dX11_river_26 : decode cX11_river 26 = .ok (.aload_n 0, 1) := by decide +kernel
theorem dX11_river_27 : decode cX11_river 27 = .ok (.iload_n 1, 1) := by decide +kernel
theorem dX11_river_28 : decode cX11_river 28 = .ok (.invokevirtual 130, 3) := by decide +kernel
theorem dX11_river_31 : decode cX11_river 31 = .ok (.iload_n 1, 1) := by decide +kernel
theorem dX11_river_32 : decode cX11_river 32 = .ok (.ifCond .ne 13, 3) := by decide +kernel
theorem dX11_river_35 : decode cX11_river 35 = .ok (.new 134, 3) := by decide +kernel
theorem dX11_river_38 : decode cX11_river 38 = .ok (.dup, 1) := by decide +kernel
theorem dX11_river_39 : decode cX11_river 39 = .ok (.ldc 136, 2) := by decide +kernel
theorem dX11_river_41 : decode cX11_river 41 = .ok (.invokespecial 138, 3) := by decide +kernel
theorem dX11_river_44 : decode cX11_river 44 = .ok (.athrow, 1) := by decide +kernel
theorem dX11_river_45 : decode cX11_river 45 = .ok (.aload_n 0, 1) := by decide +kernel
theorem dX11_river_46 : decode cX11_river 46 = .ok (.getfield 19, 3) := by decide +kernel
theorem dX11_river_49 : decode cX11_river 49 = .ok (.getfield 141, 3) := by decide +kernel
theorem dX11_river_52 : decode cX11_river 52 = .ok (.bipush 10, 2) := by decide +kernel
theorem dX11_river_54 : decode cX11_river 54 = .ok (.if_icmp .lt 13, 3) := by decide +kernel
theorem dX11_river_57 : decode cX11_river 57 = .ok (.new 144, 3) := by decide +kernel
theorem dX11_river_60 : decode cX11_river 60 = .ok (.dup, 1) := by decide +kernel
theorem dX11_river_61 : decode cX11_river 61 = .ok (.ldc 146, 2) := by decide +kernel
theorem dX11_river_63 : decode cX11_river 63 = .ok (.invokespecial 148, 3) := by decide +kernel
theorem dX11_river_66 : decode cX11_river 66 = .ok (.athrow, 1) := by decide +kernel
theorem dX11_river_67 : decode cX11_river 67 = .ok (.aload_n 0, 1) := by decide +kernel
theorem dX11_river_68 : decode cX11_river 68 = .ok (.getfield 19, 3) := by decide +kernel
theorem dX11_river_71 : decode cX11_river 71 = .ok (.aload_n 0, 1) := by decide +kernel
theorem dX11_river_72 : decode cX11_river 72 = .ok (.getfield 23, 3) := by decide +kernel
theorem dX11_river_75 : decode cX11_river 75 = .ok (.invokevirtual 119, 3) := by decide +kernel
theorem dX11_river_78 : decode cX11_river 78 = .ok (.aload_n 0, 1) := by decide +kernel
theorem dX11_river_79 : decode cX11_river 79 = .ok (.getfield 19, 3) := by decide +kernel
theorem dX11_river_82 : decode cX11_river 82 = .ok (.dup, 1) := by decide +kernel
theorem dX11_river_83 : decode cX11_river 83 = .ok (.getfield 141, 3) := by decide +kernel
theorem dX11_river_86 : decode cX11_river 86 = .ok (.iconst 1, 1) := by decide +kernel
theorem dX11_river_87 : decode cX11_river 87 = .ok (.iadd, 1) := by decide +kernel
theorem dX11_river_88 : decode cX11_river 88 = .ok (.putfield 141, 3) := by decide +kernel
theorem dX11_river_91 : decode cX11_river 91 = .ok (.aload_n 0, 1) := by decide +kernel
theorem dX11_river_92 : decode cX11_river 92 = .ok (.getfield 19, 3) := by decide +kernel
theorem dX11_river_95 : decode cX11_river 95 = .ok (.getfield 141, 3) := by decide +kernel
theorem dX11_river_98 : decode cX11_river 98 = .ok (.ireturn, 1) := by decide +kernel
theorem dX11_rule_0 : decode cX11_rule 0 = .ok (.aload_n 0, 1) := by decide +kernel
theorem dX11_rule_1 : decode cX11_rule 1 = .ok (.getfield 12, 3) := by decide +kernel
theorem dX11_rule_4 : decode cX11_rule 4 = .ok (.invokevirtual 123, 3) := by decide +kernel
theorem dX11_rule_7 : decode cX11_rule 7 = .ok (.aload_n 0, 1) := by decide +kernel
theorem dX11_rule_8 : decode cX11_rule 8 = .ok (.getfield 66, 3) := by decide +kernel
theorem dX11_rule_11 : decode cX11_rule 11 = .ok (.invokevirtual 149, 3) := by decide +kernel
theorem dX11_rule_14 : decode cX11_rule 14 = .ok (.istore_n 1, 1) := by decide +kernel
theorem dX11_rule_15 : decode cX11_rule 15 = .ok (.aload_n 0, 1) := by decide +kernel
theorem dX11_rule_16 : decode cX11_rule 16 = .ok (.iload_n 1, 1) := by decide +kernel
theorem dX11_rule_17 : decode cX11_rule 17 = .ok (.invokevirtual 130, 3) := by decide +kernel
theorem dX11_rule_20 : decode cX11_rule 20 = .ok (.iload_n 1, 1) := by decide +kernel
theorem dX11_rule_21 : decode cX11_rule 21 = .ok (.ifCond .ne 13, 3) := by decide +kernel
theorem dX11_rule_24 : decode cX11_rule 24 = .ok (.new 134, 3) := by decide +kernel
theorem dX11_rule_27 : decode cX11_rule 27 = .ok (.dup, 1) := by decide +kernel
theorem dX11_rule_28 : decode cX11_rule 28 = .ok (.ldc 150, 2) := by decide +kernel
theorem dX11_rule_30 : decode cX11_rule 30 = .ok (.invokespecial 138, 3) := by decide +kernel
theorem dX11_rule_33 : decode cX11_rule 33 = .ok (.athrow, 1) := by decide +kernel
theorem dX11_rule_34 : decode cX11_rule 34 = .ok (.aload_n 0, 1) := by decide +kernel
theorem dX11_rule_35 : decode cX11_rule 35 = .ok (.getfield 42, 3) := by decide +kernel
theorem dX11_rule_38 : decode cX11_rule 38 = .ok (.aload_n 0, 1) := by decide +kernel
theorem dX11_rule_39 : decode cX11_rule 39 = .ok (.getfield 46, 3) := by decide +kernel
theorem dX11_rule_42 : decode cX11_rule 42 = .ok (.invokevirtual 152, 3) := by decide +kernel
theorem dX11_rule_45 : decode cX11_rule 45 = .ok (.aload_n 0, 1) := by decide +kernel
theorem dX11_rule_46 : decode cX11_rule 46 = .ok (.getfield 42, 3) := by decide +kernel
theorem dX11_rule_49 : decode cX11_rule 49 = .ok (.getfield 155, 3) := by decide +kernel
theorem dX11_rule_52 : decode cX11_rule 52 = .ok (.ireturn, 1) := by decide +kernel
theorem dX11_fault_0 : decode cX11_fault 0 = .ok (.aload_n 0, 1) := by decide +kernel
theorem dX11_fault_1 : decode cX11_fault 1 = .ok (.getfield 108, 3) := by decide +kernel
theorem dX11_fault_4 : decode cX11_fault 4 = .ok (.ireturn, 1) := by decide +kernel
theorem dX11_look_0 : decode cX11_look 0 = .ok (.aload_n 0, 1) := by decide +kernel
theorem dX11_look_1 : decode cX11_look 1 = .ok (.getfield 19, 3) := by decide +kernel
theorem dX11_look_4 : decode cX11_look 4 = .ok (.iload_n 1, 1) := by decide +kernel
theorem dX11_look_5 : decode cX11_look 5 = .ok (.invokevirtual 158, 3) := by decide +kernel
theorem dX11_look_8 : decode cX11_look 8 = .ok (.ifCond .ne 13, 3) := by decide +kernel
theorem dX11_look_11 : decode cX11_look 11 = .ok (.new 162, 3) := by decide +kernel
theorem dX11_look_14 : decode cX11_look 14 = .ok (.dup, 1) := by decide +kernel
theorem dX11_look_15 : decode cX11_look 15 = .ok (.ldc 164, 2) := by decide +kernel
theorem dX11_look_17 : decode cX11_look 17 = .ok (.invokespecial 166, 3) := by decide +kernel
theorem dX11_look_20 : decode cX11_look 20 = .ok (.athrow, 1) := by decide +kernel
theorem dX11_look_21 : decode cX11_look 21 = .ok (.iload_n 2, 1) := by decide +kernel
theorem dX11_look_22 : decode cX11_look 22 = .ok (.tableswitch 132 0 7 #[46, 56, 66, 76, 88, 98, 111, 123], 46) := by decide +kernel
theorem dX11_look_68 : decode cX11_look 68 = .ok (.aload_n 0, 1) := by decide +kernel
theorem dX11_look_69 : decode cX11_look 69 = .ok (.getfield 19, 3) := by decide +kernel
theorem dX11_look_72 : decode cX11_look 72 = .ok (.getfield 167, 3) := by decide +kernel
theorem dX11_look_75 : decode cX11_look 75 = .ok (.iload_n 1, 1) := by decide +kernel
theorem dX11_look_76 : decode cX11_look 76 = .ok (.iaload, 1) := by decide +kernel
theorem dX11_look_77 : decode cX11_look 77 = .ok (.ireturn, 1) := by decide +kernel
theorem dX11_look_78 : decode cX11_look 78 = .ok (.aload_n 0, 1) := by decide +kernel
theorem dX11_look_79 : decode cX11_look 79 = .ok (.getfield 19, 3) := by decide +kernel
theorem dX11_look_82 : decode cX11_look 82 = .ok (.getfield 171, 3) := by decide +kernel
theorem dX11_look_85 : decode cX11_look 85 = .ok (.iload_n 1, 1) := by decide +kernel
theorem dX11_look_86 : decode cX11_look 86 = .ok (.iaload, 1) := by decide +kernel
theorem dX11_look_87 : decode cX11_look 87 = .ok (.ireturn, 1) := by decide +kernel
theorem dX11_look_88 : decode cX11_look 88 = .ok (.aload_n 0, 1) := by decide +kernel
theorem dX11_look_89 : decode cX11_look 89 = .ok (.getfield 19, 3) := by decide +kernel
theorem dX11_look_92 : decode cX11_look 92 = .ok (.getfield 174, 3) := by decide +kernel
theorem dX11_look_95 : decode cX11_look 95 = .ok (.iload_n 1, 1) := by decide +kernel
theorem dX11_look_96 : decode cX11_look 96 = .ok (.iaload, 1) := by decide +kernel
theorem dX11_look_97 : decode cX11_look 97 = .ok (.ireturn, 1) := by decide +kernel
theorem dX11_look_98 : decode cX11_look 98 = .ok (.aload_n 0, 1) := by decide +kernel
theorem dX11_look_99 : decode cX11_look 99 = .ok (.getfield 19, 3) := by decide +kernel
theorem dX11_look_102 : decode cX11_look 102 = .ok (.getfield 177, 3) := by decide +kernel
theorem dX11_look_105 : decode cX11_look 105 = .ok (.iload_n 1, 1) := by decide +kernel
theorem dX11_look_106 : decode cX11_look 106 = .ok (.ishr, 1) := by decide +kernel
theorem dX11_look_107 : decode cX11_look 107 = .ok (.iconst 1, 1) := by decide +kernel
theorem dX11_look_108 : decode cX11_look 108 = .ok (.iand, 1) := by decide +kernel
theorem dX11_look_109 : decode cX11_look 109 = .ok (.ireturn, 1) := by decide +kernel
theorem dX11_look_110 : decode cX11_look 110 = .ok (.aload_n 0, 1) := by decide +kernel
theorem dX11_look_111 : decode cX11_look 111 = .ok (.getfield 32, 3) := by decide +kernel
theorem dX11_look_114 : decode cX11_look 114 = .ok (.getfield 180, 3) := by decide +kernel
theorem dX11_look_117 : decode cX11_look 117 = .ok (.iload_n 1, 1) := by decide +kernel
theorem dX11_look_118 : decode cX11_look 118 = .ok (.iaload, 1) := by decide +kernel
theorem dX11_look_119 : decode cX11_look 119 = .ok (.ireturn, 1) := by decide +kernel
theorem dX11_look_120 : decode cX11_look 120 = .ok (.aload_n 0, 1) := by decide +kernel
theorem dX11_look_121 : decode cX11_look 121 = .ok (.getfield 32, 3) := by decide +kernel
theorem dX11_look_124 : decode cX11_look 124 = .ok (.iload_n 1, 1) := by decide +kernel
theorem dX11_look_125 : decode cX11_look 125 = .ok (.aload_n 0, 1) := by decide +kernel
theorem dX11_look_126 : decode cX11_look 126 = .ok (.getfield 19, 3) := by decide +kernel
theorem dX11_look_129 : decode cX11_look 129 = .ok (.invokevirtual 183, 3) := by decide +kernel
theorem dX11_look_132 : decode cX11_look 132 = .ok (.ireturn, 1) := by decide +kernel
theorem dX11_look_133 : decode cX11_look 133 = .ok (.aload_n 0, 1) := by decide +kernel
theorem dX11_look_134 : decode cX11_look 134 = .ok (.getfield 32, 3) := by decide +kernel
theorem dX11_look_137 : decode cX11_look 137 = .ok (.getfield 187, 3) := by decide +kernel
theorem dX11_look_140 : decode cX11_look 140 = .ok (.iload_n 1, 1) := by decide +kernel
theorem dX11_look_141 : decode cX11_look 141 = .ok (.ishr, 1) := by decide +kernel
theorem dX11_look_142 : decode cX11_look 142 = .ok (.iconst 1, 1) := by decide +kernel
theorem dX11_look_143 : decode cX11_look 143 = .ok (.iand, 1) := by decide +kernel
theorem dX11_look_144 : decode cX11_look 144 = .ok (.ireturn, 1) := by decide +kernel
theorem dX11_look_145 : decode cX11_look 145 = .ok (.aload_n 0, 1) := by decide +kernel
theorem dX11_look_146 : decode cX11_look 146 = .ok (.getfield 32, 3) := by decide +kernel
theorem dX11_look_149 : decode cX11_look 149 = .ok (.iload_n 1, 1) := by decide +kernel
theorem dX11_look_150 : decode cX11_look 150 = .ok (.invokevirtual 190, 3) := by decide +kernel
theorem dX11_look_153 : decode cX11_look 153 = .ok (.ireturn, 1) := by decide +kernel
theorem dX11_look_154 : decode cX11_look 154 = .ok (.new 194, 3) := by decide +kernel
theorem dX11_look_157 : decode cX11_look 157 = .ok (.dup, 1) := by decide +kernel
theorem dX11_look_158 : decode cX11_look 158 = .ok (.ldc 196, 2) := by decide +kernel
theorem dX11_look_160 : decode cX11_look 160 = .ok (.invokespecial 198, 3) := by decide +kernel
theorem dX11_look_163 : decode cX11_look 163 = .ok (.athrow, 1) := by decide +kernel
theorem dX11_need_0 : decode cX11_need 0 = .ok (.aload_n 0, 1) := by decide +kernel
theorem dX11_need_1 : decode cX11_need 1 = .ok (.getfield 75, 3) := by decide +kernel
theorem dX11_need_4 : decode cX11_need 4 = .ok (.invokevirtual 199, 3) := by decide +kernel
theorem dX11_need_7 : decode cX11_need 7 = .ok (.aload_n 0, 1) := by decide +kernel
theorem dX11_need_8 : decode cX11_need 8 = .ok (.getfield 75, 3) := by decide +kernel
theorem dX11_need_11 : decode cX11_need 11 = .ok (.aload_n 0, 1) := by decide +kernel
theorem dX11_need_12 : decode cX11_need 12 = .ok (.getfield 75, 3) := by decide +kernel
theorem dX11_need_15 : decode cX11_need 15 = .ok (.getfield 202, 3) := by decide +kernel
theorem dX11_need_18 : decode cX11_need 18 = .ok (.iload_n 1, 1) := by decide +kernel
theorem dX11_need_19 : decode cX11_need 19 = .ok (.aload_n 0, 1) := by decide +kernel
theorem dX11_need_20 : decode cX11_need 20 = .ok (.getfield 75, 3) := by decide +kernel
theorem dX11_need_23 : decode cX11_need 23 = .ok (.getfield 205, 3) := by decide +kernel
theorem dX11_need_26 : decode cX11_need 26 = .ok (.iand, 1) := by decide +kernel
theorem dX11_need_27 : decode cX11_need 27 = .ok (.iaload, 1) := by decide +kernel
theorem dX11_need_28 : decode cX11_need 28 = .ok (.invokevirtual 208, 3) := by decide +kernel
theorem dX11_need_31 : decode cX11_need 31 = .ok (.ireturn, 1) := by decide +kernel
theorem dX11_cross_0 : decode cX11_cross 0 = .ok (.aload_n 0, 1) := by decide +kernel
theorem dX11_cross_1 : decode cX11_cross 1 = .ok (.getfield 75, 3) := by decide +kernel
theorem dX11_cross_4 : decode cX11_cross 4 = .ok (.invokevirtual 199, 3) := by decide +kernel
theorem dX11_cross_7 : decode cX11_cross 7 = .ok (.aload_n 0, 1) := by decide +kernel
theorem dX11_cross_8 : decode cX11_cross 8 = .ok (.getfield 75, 3) := by decide +kernel
theorem dX11_cross_11 : decode cX11_cross 11 = .ok (.aload_n 0, 1) := by decide +kernel
theorem dX11_cross_12 : decode cX11_cross 12 = .ok (.getfield 32, 3) := by decide +kernel
theorem dX11_cross_15 : decode cX11_cross 15 = .ok (.invokevirtual 211, 3) := by decide +kernel
theorem dX11_cross_18 : decode cX11_cross 18 = .ok (.iload_n 1, 1) := by decide +kernel
theorem dX11_cross_19 : decode cX11_cross 19 = .ok (.iload_n 2, 1) := by decide +kernel
theorem dX11_cross_20 : decode cX11_cross 20 = .ok (.invokevirtual 215, 3) := by decide +kernel
theorem dX11_cross_23 : decode cX11_cross 23 = .ok (.istore_n 3, 1) := by decide +kernel
theorem dX11_cross_24 : decode cX11_cross 24 = .ok (.iload_n 3, 1) := by decide +kernel
theorem dX11_cross_25 : decode cX11_cross 25 = .ok (.iconst (-1), 1) := by decide +kernel
theorem dX11_cross_26 : decode cX11_cross 26 = .ok (.if_icmp .ne 13, 3) := by decide +kernel
theorem dX11_cross_29 : decode cX11_cross 29 = .ok (.new 219, 3) := by decide +kernel
theorem dX11_cross_32 : decode cX11_cross 32 = .ok (.dup, 1) := by decide +kernel
theorem dX11_cross_33 : decode cX11_cross 33 = .ok (.ldc 221, 2) := by decide +kernel
theorem dX11_cross_35 : decode cX11_cross 35 = .ok (.invokespecial 223, 3) := by decide +kernel
theorem dX11_cross_38 : decode cX11_cross 38 = .ok (.athrow, 1) := by decide +kernel
theorem dX11_cross_39 : decode cX11_cross 39 = .ok (.aload_n 0, 1) := by decide +kernel
theorem dX11_cross_40 : decode cX11_cross 40 = .ok (.getfield 32, 3) := by decide +kernel
theorem dX11_cross_43 : decode cX11_cross 43 = .ok (.iload_n 1, 1) := by decide +kernel
theorem dX11_cross_44 : decode cX11_cross 44 = .ok (.iload_n 2, 1) := by decide +kernel
theorem dX11_cross_45 : decode cX11_cross 45 = .ok (.aload_n 0, 1) := by decide +kernel
theorem dX11_cross_46 : decode cX11_cross 46 = .ok (.getfield 19, 3) := by decide +kernel
theorem dX11_cross_49 : decode cX11_cross 49 = .ok (.invokevirtual 224, 3) := by decide +kernel
theorem dX11_cross_52 : decode cX11_cross 52 = .ok (.invokevirtual 227, 3) := by decide +kernel
theorem dX11_cross_55 : decode cX11_cross 55 = .ok (.aload_n 0, 1) := by decide +kernel
theorem dX11_cross_56 : decode cX11_cross 56 = .ok (.getfield 32, 3) := by decide +kernel
theorem dX11_cross_59 : decode cX11_cross 59 = .ok (.iload_n 3, 1) := by decide +kernel
theorem dX11_cross_60 : decode cX11_cross 60 = .ok (.invokevirtual 231, 3) := by decide +kernel
theorem dX11_cross_63 : decode cX11_cross 63 = .ok (.iload_n 3, 1) := by decide +kernel
theorem dX11_cross_64 : decode cX11_cross 64 = .ok (.ireturn, 1) := by decide +kernel
theorem dX11_swim_0 : decode cX11_swim 0 = .ok (.aload_n 0, 1) := by decide +kernel
theorem dX11_swim_1 : decode cX11_swim 1 = .ok (.getfield 19, 3) := by decide +kernel
theorem dX11_swim_4 : decode cX11_swim 4 = .ok (.iload_n 1, 1) := by decide +kernel
theorem dX11_swim_5 : decode cX11_swim 5 = .ok (.invokevirtual 158, 3) := by decide +kernel
theorem dX11_swim_8 : decode cX11_swim 8 = .ok (.ifCond .ne 13, 3) := by decide +kernel
theorem dX11_swim_11 : decode cX11_swim 11 = .ok (.new 162, 3) := by decide +kernel
theorem dX11_swim_14 : decode cX11_swim 14 = .ok (.dup, 1) := by decide +kernel
theorem dX11_swim_15 : decode cX11_swim 15 = .ok (.ldc 164, 2) := by decide +kernel
theorem dX11_swim_17 : decode cX11_swim 17 = .ok (.invokespecial 166, 3) := by decide +kernel
theorem dX11_swim_20 : decode cX11_swim 20 = .ok (.athrow, 1) := by decide +kernel
theorem dX11_swim_21 : decode cX11_swim 21 = .ok (.aload_n 0, 1) := by decide +kernel
theorem dX11_swim_22 : decode cX11_swim 22 = .ok (.getfield 75, 3) := by decide +kernel
theorem dX11_swim_25 : decode cX11_swim 25 = .ok (.invokevirtual 199, 3) := by decide +kernel
theorem dX11_swim_28 : decode cX11_swim 28 = .ok (.aload_n 0, 1) := by decide +kernel
theorem dX11_swim_29 : decode cX11_swim 29 = .ok (.getfield 75, 3) := by decide +kernel
theorem dX11_swim_32 : decode cX11_swim 32 = .ok (.aload_n 0, 1) := by decide +kernel
theorem dX11_swim_33 : decode cX11_swim 33 = .ok (.getfield 32, 3) := by decide +kernel
theorem dX11_swim_36 : decode cX11_swim 36 = .ok (.invokevirtual 211, 3) := by decide +kernel
theorem dX11_swim_39 : decode cX11_swim 39 = .ok (.iload_n 1, 1) := by decide +kernel
theorem dX11_swim_40 : decode cX11_swim 40 = .ok (.invokevirtual 234, 3) := by decide +kernel
theorem dX11_swim_43 : decode cX11_swim 43 = .ok (.istore_n 2, 1) := by decide +kernel
theorem dX11_swim_44 : decode cX11_swim 44 = .ok (.iload_n 2, 1) := by decide +kernel
theorem dX11_swim_45 : decode cX11_swim 45 = .ok (.iconst (-1), 1) := by decide +kernel
theorem dX11_swim_46 : decode cX11_swim 46 = .ok (.if_icmp .ne 13, 3) := by decide +kernel
theorem dX11_swim_49 : decode cX11_swim 49 = .ok (.new 219, 3) := by decide +kernel
theorem dX11_swim_52 : decode cX11_swim 52 = .ok (.dup, 1) := by decide +kernel
theorem dX11_swim_53 : decode cX11_swim 53 = .ok (.ldc 238, 2) := by decide +kernel
theorem dX11_swim_55 : decode cX11_swim 55 = .ok (.invokespecial 223, 3) := by decide +kernel
theorem dX11_swim_58 : decode cX11_swim 58 = .ok (.athrow, 1) := by decide +kernel
theorem dX11_swim_59 : decode cX11_swim 59 = .ok (.aload_n 0, 1) := by decide +kernel
theorem dX11_swim_60 : decode cX11_swim 60 = .ok (.getfield 32, 3) := by decide +kernel
theorem dX11_swim_63 : decode cX11_swim 63 = .ok (.iload_n 1, 1) := by decide +kernel
theorem dX11_swim_64 : decode cX11_swim 64 = .ok (.invokevirtual 240, 3) := by decide +kernel
theorem dX11_swim_67 : decode cX11_swim 67 = .ok (.aload_n 0, 1) := by decide +kernel
theorem dX11_swim_68 : decode cX11_swim 68 = .ok (.getfield 32, 3) := by decide +kernel
theorem dX11_swim_71 : decode cX11_swim 71 = .ok (.iload_n 2, 1) := by decide +kernel
theorem dX11_swim_72 : decode cX11_swim 72 = .ok (.invokevirtual 231, 3) := by decide +kernel
theorem dX11_swim_75 : decode cX11_swim 75 = .ok (.iload_n 2, 1) := by decide +kernel
theorem dX11_swim_76 : decode cX11_swim 76 = .ok (.ireturn, 1) := by decide +kernel
theorem dX11_rest_0 : decode cX11_rest 0 = .ok (.iload_n 1, 1) := by decide +kernel
theorem dX11_rest_1 : decode cX11_rest 1 = .ok (.iconst 1, 1) := by decide +kernel
theorem dX11_rest_2 : decode cX11_rest 2 = .ok (.if_icmp .lt 10, 3) := by decide +kernel
theorem dX11_rest_5 : decode cX11_rest 5 = .ok (.iload_n 1, 1) := by decide +kernel
theorem dX11_rest_6 : decode cX11_rest 6 = .ok (.sipush 600, 3) := by decide +kernel
theorem dX11_rest_9 : decode cX11_rest 9 = .ok (.if_icmp .le 13, 3) := by decide +kernel
theorem dX11_rest_12 : decode cX11_rest 12 = .ok (.new 134, 3) := by decide +kernel
theorem dX11_rest_15 : decode cX11_rest 15 = .ok (.dup, 1) := by decide +kernel
theorem dX11_rest_16 : decode cX11_rest 16 = .ok (.ldc 243, 2) := by decide +kernel
theorem dX11_rest_18 : decode cX11_rest 18 = .ok (.invokespecial 138, 3) := by decide +kernel
theorem dX11_rest_21 : decode cX11_rest 21 = .ok (.athrow, 1) := by decide +kernel
theorem dX11_rest_22 : decode cX11_rest 22 = .ok (.aload_n 0, 1) := by decide +kernel
theorem dX11_rest_23 : decode cX11_rest 23 = .ok (.getfield 32, 3) := by decide +kernel
theorem dX11_rest_26 : decode cX11_rest 26 = .ok (.iload_n 1, 1) := by decide +kernel
theorem dX11_rest_27 : decode cX11_rest 27 = .ok (.invokevirtual 231, 3) := by decide +kernel
theorem dX11_rest_30 : decode cX11_rest 30 = .ok (.aload_n 0, 1) := by decide +kernel
theorem dX11_rest_31 : decode cX11_rest 31 = .ok (.getfield 32, 3) := by decide +kernel
theorem dX11_rest_34 : decode cX11_rest 34 = .ok (.getfield 245, 3) := by decide +kernel
theorem dX11_rest_37 : decode cX11_rest 37 = .ok (.ireturn, 1) := by decide +kernel
theorem dX11_may_0 : decode cX11_may 0 = .ok (.aload_n 0, 1) := by decide +kernel
theorem dX11_may_1 : decode cX11_may 1 = .ok (.getfield 19, 3) := by decide +kernel
theorem dX11_may_4 : decode cX11_may 4 = .ok (.iload_n 1, 1) := by decide +kernel
theorem dX11_may_5 : decode cX11_may 5 = .ok (.aload_n 0, 1) := by decide +kernel
theorem dX11_may_6 : decode cX11_may 6 = .ok (.getfield 19, 3) := by decide +kernel
theorem dX11_may_9 : decode cX11_may 9 = .ok (.invokevirtual 248, 3) := by decide +kernel
theorem dX11_may_12 : decode cX11_may 12 = .ok (.iand, 1) := by decide +kernel
theorem dX11_may_13 : decode cX11_may 13 = .ok (.invokevirtual 250, 3) := by decide +kernel
theorem dX11_may_16 : decode cX11_may 16 = .ok (.ireturn, 1) := by decide +kernel
theorem dX11_owed_0 : decode cX11_owed 0 = .ok (.aload_n 0, 1) := by decide +kernel
theorem dX11_owed_1 : decode cX11_owed 1 = .ok (.getfield 19, 3) := by decide +kernel
theorem dX11_owed_4 : decode cX11_owed 4 = .ok (.iload_n 1, 1) := by decide +kernel
theorem dX11_owed_5 : decode cX11_owed 5 = .ok (.invokevirtual 158, 3) := by decide +kernel
theorem dX11_owed_8 : decode cX11_owed 8 = .ok (.ifCond .eq 14, 3) := by decide +kernel
theorem dX11_owed_11 : decode cX11_owed 11 = .ok (.aload_n 0, 1) := by decide +kernel
theorem dX11_owed_12 : decode cX11_owed 12 = .ok (.getfield 19, 3) := by decide +kernel
theorem dX11_owed_15 : decode cX11_owed 15 = .ok (.iload_n 2, 1) := by decide +kernel
theorem dX11_owed_16 : decode cX11_owed 16 = .ok (.invokevirtual 158, 3) := by decide +kernel
theorem dX11_owed_19 : decode cX11_owed 19 = .ok (.ifCond .ne 13, 3) := by decide +kernel
theorem dX11_owed_22 : decode cX11_owed 22 = .ok (.new 162, 3) := by decide +kernel
theorem dX11_owed_25 : decode cX11_owed 25 = .ok (.dup, 1) := by decide +kernel
theorem dX11_owed_26 : decode cX11_owed 26 = .ok (.ldc 164, 2) := by decide +kernel
theorem dX11_owed_28 : decode cX11_owed 28 = .ok (.invokespecial 166, 3) := by decide +kernel
theorem dX11_owed_31 : decode cX11_owed 31 = .ok (.athrow, 1) := by decide +kernel
theorem dX11_owed_32 : decode cX11_owed 32 = .ok (.aload_n 0, 1) := by decide +kernel
theorem dX11_owed_33 : decode cX11_owed 33 = .ok (.getfield 32, 3) := by decide +kernel
theorem dX11_owed_36 : decode cX11_owed 36 = .ok (.getfield 253, 3) := by decide +kernel
theorem dX11_owed_39 : decode cX11_owed 39 = .ok (.iload_n 1, 1) := by decide +kernel
theorem dX11_owed_40 : decode cX11_owed 40 = .ok (.aaload, 1) := by decide +kernel
theorem dX11_owed_41 : decode cX11_owed 41 = .ok (.iload_n 2, 1) := by decide +kernel
theorem dX11_owed_42 : decode cX11_owed 42 = .ok (.iaload, 1) := by decide +kernel
theorem dX11_owed_43 : decode cX11_owed 43 = .ok (.ireturn, 1) := by decide +kernel
theorem dX11_clear_0 : decode cX11_clear 0 = .ok (.iload_n 1, 1) := by decide +kernel
theorem dX11_clear_1 : decode cX11_clear 1 = .ok (.iconst (-1), 1) := by decide +kernel
theorem dX11_clear_2 : decode cX11_clear 2 = .ok (.if_icmp .ge 14, 3) := by decide +kernel
theorem dX11_clear_5 : decode cX11_clear 5 = .ok (.new 134, 3) := by decide +kernel
theorem dX11_clear_8 : decode cX11_clear 8 = .ok (.dup, 1) := by decide +kernel
theorem dX11_clear_9 : decode cX11_clear 9 = .ok (.ldc_w 257, 3) := by decide +kernel
theorem dX11_clear_12 : decode cX11_clear 12 = .ok (.invokespecial 138, 3) := by decide +kernel
theorem dX11_clear_15 : decode cX11_clear 15 = .ok (.athrow, 1) := by decide +kernel
theorem dX11_clear_16 : decode cX11_clear 16 = .ok (.aload_n 0, 1) := by decide +kernel
theorem dX11_clear_17 : decode cX11_clear 17 = .ok (.getfield 32, 3) := by decide +kernel
theorem dX11_clear_20 : decode cX11_clear 20 = .ok (.iload_n 1, 1) := by decide +kernel
theorem dX11_clear_21 : decode cX11_clear 21 = .ok (.invokevirtual 259, 3) := by decide +kernel
theorem dX11_clear_24 : decode cX11_clear 24 = .ok (.ireturn, 1) := by decide +kernel
theorem dX11_plan_0 : decode cX11_plan 0 = .ok (.iload_n 3, 1) := by decide +kernel
theorem dX11_plan_1 : decode cX11_plan 1 = .ok (.ifCond .eq 18, 3) := by decide +kernel
theorem dX11_plan_4 : decode cX11_plan 4 = .ok (.iload_n 3, 1) := by decide +kernel
theorem dX11_plan_5 : decode cX11_plan 5 = .ok (.iconst 1, 1) := by decide +kernel
theorem dX11_plan_6 : decode cX11_plan 6 = .ok (.if_icmp .eq 13, 3) := by decide +kernel
theorem dX11_plan_9 : decode cX11_plan 9 = .ok (.new 194, 3) := by decide +kernel
theorem dX11_plan_12 : decode cX11_plan 12 = .ok (.dup, 1) := by decide +kernel
theorem dX11_plan_13 : decode cX11_plan 13 = .ok (.ldc 196, 2) := by decide +kernel
theorem dX11_plan_15 : decode cX11_plan 15 = .ok (.invokespecial 198, 3) := by decide +kernel
theorem dX11_plan_18 : decode cX11_plan 18 = .ok (.athrow, 1) := by decide +kernel
theorem dX11_plan_19 : decode cX11_plan 19 = .ok (.aload_n 0, 1) := by decide +kernel
theorem dX11_plan_20 : decode cX11_plan 20 = .ok (.iload_n 1, 1) := by decide +kernel
theorem dX11_plan_21 : decode cX11_plan 21 = .ok (.iload_n 2, 1) := by decide +kernel
theorem dX11_plan_22 : decode cX11_plan 22 = .ok (.invokevirtual 262, 3) := by decide +kernel
theorem dX11_plan_25 : decode cX11_plan 25 = .ok (.ifCond .ne 5, 3) := by decide +kernel
theorem dX11_plan_28 : decode cX11_plan 28 = .ok (.iconst (-1), 1) := by decide +kernel
theorem dX11_plan_29 : decode cX11_plan 29 = .ok (.ireturn, 1) := by decide +kernel
theorem dX11_plan_30 : decode cX11_plan 30 = .ok (.iload_n 3, 1) := by decide +kernel
theorem dX11_plan_31 : decode cX11_plan 31 = .ok (.ifCond .ne 13, 3) := by decide +kernel
theorem dX11_plan_34 : decode cX11_plan 34 = .ok (.aload_n 0, 1) := by decide +kernel
theorem dX11_plan_35 : decode cX11_plan 35 = .ok (.getfield 84, 3) := by decide +kernel
theorem dX11_plan_38 : decode cX11_plan 38 = .ok (.invokevirtual 266, 3) := by decide +kernel
theorem dX11_plan_41 : decode cX11_plan 41 = .ok (.goto 10, 3) := by decide +kernel
theorem dX11_plan_44 : decode cX11_plan 44 = .ok (.aload_n 0, 1) := by decide +kernel
theorem dX11_plan_45 : decode cX11_plan 45 = .ok (.getfield 84, 3) := by decide +kernel
theorem dX11_plan_48 : decode cX11_plan 48 = .ok (.invokevirtual 269, 3) := by decide +kernel
theorem dX11_plan_51 : decode cX11_plan 51 = .ok (.ireturn, 1) := by decide +kernel
theorem dX11_row_0 : decode cX11_row 0 = .ok (.aload_n 0, 1) := by decide +kernel
theorem dX11_row_1 : decode cX11_row 1 = .ok (.iload_n 1, 1) := by decide +kernel
theorem dX11_row_2 : decode cX11_row 2 = .ok (.iload_n 2, 1) := by decide +kernel
theorem dX11_row_3 : decode cX11_row 3 = .ok (.invokevirtual 262, 3) := by decide +kernel
theorem dX11_row_6 : decode cX11_row 6 = .ok (.ifCond .ne 5, 3) := by decide +kernel
theorem dX11_row_9 : decode cX11_row 9 = .ok (.iconst (-1), 1) := by decide +kernel
theorem dX11_row_10 : decode cX11_row 10 = .ok (.ireturn, 1) := by decide +kernel
theorem dX11_row_11 : decode cX11_row 11 = .ok (.aload_n 0, 1) := by decide +kernel
theorem dX11_row_12 : decode cX11_row 12 = .ok (.getfield 84, 3) := by decide +kernel
theorem dX11_row_15 : decode cX11_row 15 = .ok (.iload_n 3, 1) := by decide +kernel
theorem dX11_row_16 : decode cX11_row 16 = .ok (.invokevirtual 272, 3) := by decide +kernel
theorem dX11_row_19 : decode cX11_row 19 = .ok (.ireturn, 1) := by decide +kernel
theorem dX11_left_0 : decode cX11_left 0 = .ok (.aload_n 0, 1) := by decide +kernel
theorem dX11_left_1 : decode cX11_left 1 = .ok (.getfield 75, 3) := by decide +kernel
theorem dX11_left_4 : decode cX11_left 4 = .ok (.invokevirtual 199, 3) := by decide +kernel
theorem dX11_left_7 : decode cX11_left 7 = .ok (.aload_n 0, 1) := by decide +kernel
theorem dX11_left_8 : decode cX11_left 8 = .ok (.getfield 84, 3) := by decide +kernel
theorem dX11_left_11 : decode cX11_left 11 = .ok (.aload_n 0, 1) := by decide +kernel
theorem dX11_left_12 : decode cX11_left 12 = .ok (.getfield 32, 3) := by decide +kernel
theorem dX11_left_15 : decode cX11_left 15 = .ok (.invokevirtual 211, 3) := by decide +kernel
theorem dX11_left_18 : decode cX11_left 18 = .ok (.invokevirtual 275, 3) := by decide +kernel
theorem dX11_left_21 : decode cX11_left 21 = .ok (.ireturn, 1) := by decide +kernel
theorem dX11_lost_0 : decode cX11_lost 0 = .ok (.aload_n 0, 1) := by decide +kernel
theorem dX11_lost_1 : decode cX11_lost 1 = .ok (.getfield 91, 3) := by decide +kernel
theorem dX11_lost_4 : decode cX11_lost 4 = .ok (.aload_n 0, 1) := by decide +kernel
theorem dX11_lost_5 : decode cX11_lost 5 = .ok (.getfield 12, 3) := by decide +kernel
theorem dX11_lost_8 : decode cX11_lost 8 = .ok (.invokevirtual 278, 3) := by decide +kernel
theorem dX11_lost_11 : decode cX11_lost 11 = .ok (.istore_n 2, 1) := by decide +kernel
theorem dX11_lost_12 : decode cX11_lost 12 = .ok (.aload_n 0, 1) := by decide +kernel
theorem dX11_lost_13 : decode cX11_lost 13 = .ok (.getfield 12, 3) := by decide +kernel
theorem dX11_lost_16 : decode cX11_lost 16 = .ok (.iconst 0, 1) := by decide +kernel
theorem dX11_lost_17 : decode cX11_lost 17 = .ok (.putfield 112, 3) := by decide +kernel
theorem dX11_lost_20 : decode cX11_lost 20 = .ok (.iload_n 2, 1) := by decide +kernel
theorem dX11_lost_21 : decode cX11_lost 21 = .ok (.ifCond .eq 8, 3) := by decide +kernel
theorem dX11_lost_24 : decode cX11_lost 24 = .ok (.iload_n 1, 1) := by decide +kernel
theorem dX11_lost_25 : decode cX11_lost 25 = .ok (.iconst (-1), 1) := by decide +kernel
theorem dX11_lost_26 : decode cX11_lost 26 = .ok (.if_icmp .ge 14, 3) := by decide +kernel
theorem dX11_lost_29 : decode cX11_lost 29 = .ok (.new 134, 3) := by decide +kernel
theorem dX11_lost_32 : decode cX11_lost 32 = .ok (.dup, 1) := by decide +kernel
theorem dX11_lost_33 : decode cX11_lost 33 = .ok (.ldc_w 282, 3) := by decide +kernel
theorem dX11_lost_36 : decode cX11_lost 36 = .ok (.invokespecial 138, 3) := by decide +kernel
theorem dX11_lost_39 : decode cX11_lost 39 = .ok (.athrow, 1) := by decide +kernel
theorem dX11_lost_40 : decode cX11_lost 40 = .ok (.aload_n 0, 1) := by decide +kernel
theorem dX11_lost_41 : decode cX11_lost 41 = .ok (.getfield 75, 3) := by decide +kernel
theorem dX11_lost_44 : decode cX11_lost 44 = .ok (.invokevirtual 199, 3) := by decide +kernel
theorem dX11_lost_47 : decode cX11_lost 47 = .ok (.iload_n 1, 1) := by decide +kernel
theorem dX11_lost_48 : decode cX11_lost 48 = .ok (.iconst (-1), 1) := by decide +kernel
theorem dX11_lost_49 : decode cX11_lost 49 = .ok (.if_icmp .ne 20, 3) := by decide +kernel
theorem dX11_lost_52 : decode cX11_lost 52 = .ok (.aload_n 0, 1) := by decide +kernel
theorem dX11_lost_53 : decode cX11_lost 53 = .ok (.getfield 91, 3) := by decide +kernel
theorem dX11_lost_56 : decode cX11_lost 56 = .ok (.aload_n 0, 1) := by decide +kernel
theorem dX11_lost_57 : decode cX11_lost 57 = .ok (.getfield 32, 3) := by decide +kernel
theorem dX11_lost_60 : decode cX11_lost 60 = .ok (.invokevirtual 211, 3) := by decide +kernel
theorem dX11_lost_63 : decode cX11_lost 63 = .ok (.invokevirtual 284, 3) := by decide +kernel
theorem dX11_lost_66 : decode cX11_lost 66 = .ok (.goto 18, 3) := by decide +kernel
theorem dX11_lost_69 : decode cX11_lost 69 = .ok (.aload_n 0, 1) := by decide +kernel
theorem dX11_lost_70 : decode cX11_lost 70 = .ok (.getfield 91, 3) := by decide +kernel
theorem dX11_lost_73 : decode cX11_lost 73 = .ok (.aload_n 0, 1) := by decide +kernel
theorem dX11_lost_74 : decode cX11_lost 74 = .ok (.getfield 32, 3) := by decide +kernel
theorem dX11_lost_77 : decode cX11_lost 77 = .ok (.invokevirtual 211, 3) := by decide +kernel
theorem dX11_lost_80 : decode cX11_lost 80 = .ok (.iload_n 1, 1) := by decide +kernel
theorem dX11_lost_81 : decode cX11_lost 81 = .ok (.invokevirtual 287, 3) := by decide +kernel
theorem dX11_lost_84 : decode cX11_lost 84 = .ok (.ireturn, 1) := by decide +kernel
theorem dX11_fair_0 : decode cX11_fair 0 = .ok (.iload_n 2, 1) := by decide +kernel
theorem dX11_fair_1 : decode cX11_fair 1 = .ok (.ifCond .lt 33, 3) := by decide +kernel
theorem dX11_fair_4 : decode cX11_fair 4 = .ok (.iload_n 2, 1) := by decide +kernel
theorem dX11_fair_5 : decode cX11_fair 5 = .ok (.sipush 600, 3) := by decide +kernel
theorem dX11_fair_8 : decode cX11_fair 8 = .ok (.if_icmp .gt 26, 3) := by decide +kernel
theorem dX11_fair_11 : decode cX11_fair 11 = .ok (.iload_n 3, 1) := by decide +kernel
theorem dX11_fair_12 : decode cX11_fair 12 = .ok (.ifCond .lt 22, 3) := by decide +kernel
theorem dX11_fair_15 : decode cX11_fair 15 = .ok (.iload_n 3, 1) := by decide +kernel
theorem dX11_fair_16 : decode cX11_fair 16 = .ok (.bipush 100, 2) := by decide +kernel
theorem dX11_fair_18 : decode cX11_fair 18 = .ok (.if_icmp .gt 16, 3) := by decide +kernel
theorem dX11_fair_21 : decode cX11_fair 21 = .ok (.iload 4, 2) := by decide +kernel
theorem dX11_fair_23 : decode cX11_fair 23 = .ok (.iconst 1, 1) := by decide +kernel
theorem dX11_fair_24 : decode cX11_fair 24 = .ok (.if_icmp .lt 10, 3) := by decide +kernel
theorem dX11_fair_27 : decode cX11_fair 27 = .ok (.iload 4, 2) := by decide +kernel
theorem dX11_fair_29 : decode cX11_fair 29 = .ok (.bipush 99, 2) := by decide +kernel
theorem dX11_fair_31 : decode cX11_fair 31 = .ok (.if_icmp .le 14, 3) := by decide +kernel
theorem dX11_fair_34 : decode cX11_fair 34 = .ok (.new 134, 3) := by decide +kernel
theorem dX11_fair_37 : decode cX11_fair 37 = .ok (.dup, 1) := by decide +kernel
theorem dX11_fair_38 : decode cX11_fair 38 = .ok (.ldc_w 290, 3) := by decide +kernel
theorem dX11_fair_41 : decode cX11_fair 41 = .ok (.invokespecial 138, 3) := by decide +kernel
theorem dX11_fair_44 : decode cX11_fair 44 = .ok (.athrow, 1) := by decide +kernel
theorem dX11_fair_45 : decode cX11_fair 45 = .ok (.iload 5, 2) := by decide +kernel
theorem dX11_fair_47 : decode cX11_fair 47 = .ok (.ifCond .lt 10, 3) := by decide +kernel
theorem dX11_fair_50 : decode cX11_fair 50 = .ok (.iload 5, 2) := by decide +kernel
theorem dX11_fair_52 : decode cX11_fair 52 = .ok (.bipush 6, 2) := by decide +kernel
theorem dX11_fair_54 : decode cX11_fair 54 = .ok (.if_icmp .lt 13, 3) := by decide +kernel
theorem dX11_fair_57 : decode cX11_fair 57 = .ok (.new 194, 3) := by decide +kernel
theorem dX11_fair_60 : decode cX11_fair 60 = .ok (.dup, 1) := by decide +kernel
theorem dX11_fair_61 : decode cX11_fair 61 = .ok (.ldc 196, 2) := by decide +kernel
theorem dX11_fair_63 : decode cX11_fair 63 = .ok (.invokespecial 198, 3) := by decide +kernel
theorem dX11_fair_66 : decode cX11_fair 66 = .ok (.athrow, 1) := by decide +kernel
theorem dX11_fair_67 : decode cX11_fair 67 = .ok (.aload_n 0, 1) := by decide +kernel
theorem dX11_fair_68 : decode cX11_fair 68 = .ok (.getfield 75, 3) := by decide +kernel
theorem dX11_fair_71 : decode cX11_fair 71 = .ok (.invokevirtual 199, 3) := by decide +kernel
theorem dX11_fair_74 : decode cX11_fair 74 = .ok (.aload_n 0, 1) := by decide +kernel
theorem dX11_fair_75 : decode cX11_fair 75 = .ok (.getfield 100, 3) := by decide +kernel
theorem dX11_fair_78 : decode cX11_fair 78 = .ok (.iload_n 1, 1) := by decide +kernel
theorem dX11_fair_79 : decode cX11_fair 79 = .ok (.iload_n 2, 1) := by decide +kernel
theorem dX11_fair_80 : decode cX11_fair 80 = .ok (.iload_n 3, 1) := by decide +kernel
theorem dX11_fair_81 : decode cX11_fair 81 = .ok (.iload 4, 2) := by decide +kernel
theorem dX11_fair_83 : decode cX11_fair 83 = .ok (.invokevirtual 292, 3) := by decide +kernel
theorem dX11_fair_86 : decode cX11_fair 86 = .ok (.aload_n 0, 1) := by decide +kernel
theorem dX11_fair_87 : decode cX11_fair 87 = .ok (.getfield 100, 3) := by decide +kernel
theorem dX11_fair_90 : decode cX11_fair 90 = .ok (.iload 5, 2) := by decide +kernel
theorem dX11_fair_92 : decode cX11_fair 92 = .ok (.invokevirtual 296, 3) := by decide +kernel
theorem dX11_fair_95 : decode cX11_fair 95 = .ok (.ireturn, 1) := by decide +kernel
theorem dX11_image_0 : decode cX11_image 0 = .ok (.aload_n 0, 1) := by decide +kernel
theorem dX11_image_1 : decode cX11_image 1 = .ok (.getfield 26, 3) := by decide +kernel
theorem dX11_image_4 : decode cX11_image 4 = .ok (.aload_n 0, 1) := by decide +kernel
theorem dX11_image_5 : decode cX11_image 5 = .ok (.getfield 19, 3) := by decide +kernel
theorem dX11_image_8 : decode cX11_image 8 = .ok (.invokevirtual 119, 3) := by decide +kernel
theorem dX11_image_11 : decode cX11_image 11 = .ok (.aload_n 0, 1) := by decide +kernel
theorem dX11_image_12 : decode cX11_image 12 = .ok (.getfield 36, 3) := by decide +kernel
theorem dX11_image_15 : decode cX11_image 15 = .ok (.aload_n 0, 1) := by decide +kernel
theorem dX11_image_16 : decode cX11_image 16 = .ok (.getfield 32, 3) := by decide +kernel
theorem dX11_image_19 : decode cX11_image 19 = .ok (.invokevirtual 299, 3) := by decide +kernel
theorem dX11_image_22 : decode cX11_image 22 = .ok (.aload_n 0, 1) := by decide +kernel
theorem dX11_image_23 : decode cX11_image 23 = .ok (.getfield 49, 3) := by decide +kernel
theorem dX11_image_26 : decode cX11_image 26 = .ok (.aload_n 0, 1) := by decide +kernel
theorem dX11_image_27 : decode cX11_image 27 = .ok (.getfield 42, 3) := by decide +kernel
theorem dX11_image_30 : decode cX11_image 30 = .ok (.invokevirtual 152, 3) := by decide +kernel
theorem dX11_image_33 : decode cX11_image 33 = .ok (.aload_n 0, 1) := by decide +kernel
theorem dX11_image_34 : decode cX11_image 34 = .ok (.iconst 1, 1) := by decide +kernel
theorem dX11_image_35 : decode cX11_image 35 = .ok (.putfield 104, 3) := by decide +kernel
theorem dX11_image_38 : decode cX11_image 38 = .ok (.return_, 1) := by decide +kernel
theorem dX11_back_0 : decode cX11_back 0 = .ok (.aload_n 0, 1) := by decide +kernel
theorem dX11_back_1 : decode cX11_back 1 = .ok (.getfield 104, 3) := by decide +kernel
theorem dX11_back_4 : decode cX11_back 4 = .ok (.ifCond .ne 5, 3) := by decide +kernel
theorem dX11_back_7 : decode cX11_back 7 = .ok (.iconst 0, 1) := by decide +kernel
theorem dX11_back_8 : decode cX11_back 8 = .ok (.ireturn, 1) := by decide +kernel
theorem dX11_back_9 : decode cX11_back 9 = .ok (.aload_n 0, 1) := by decide +kernel
theorem dX11_back_10 : decode cX11_back 10 = .ok (.getfield 19, 3) := by decide +kernel
theorem dX11_back_13 : decode cX11_back 13 = .ok (.aload_n 0, 1) := by decide +kernel
theorem dX11_back_14 : decode cX11_back 14 = .ok (.getfield 26, 3) := by decide +kernel
theorem dX11_back_17 : decode cX11_back 17 = .ok (.invokevirtual 119, 3) := by decide +kernel
theorem dX11_back_20 : decode cX11_back 20 = .ok (.aload_n 0, 1) := by decide +kernel
theorem dX11_back_21 : decode cX11_back 21 = .ok (.getfield 32, 3) := by decide +kernel
theorem dX11_back_24 : decode cX11_back 24 = .ok (.aload_n 0, 1) := by decide +kernel
theorem dX11_back_25 : decode cX11_back 25 = .ok (.getfield 36, 3) := by decide +kernel
theorem dX11_back_28 : decode cX11_back 28 = .ok (.invokevirtual 299, 3) := by decide +kernel
theorem dX11_back_31 : decode cX11_back 31 = .ok (.aload_n 0, 1) := by decide +kernel
theorem dX11_back_32 : decode cX11_back 32 = .ok (.getfield 42, 3) := by decide +kernel
theorem dX11_back_35 : decode cX11_back 35 = .ok (.aload_n 0, 1) := by decide +kernel
theorem dX11_back_36 : decode cX11_back 36 = .ok (.getfield 49, 3) := by decide +kernel
theorem dX11_back_39 : decode cX11_back 39 = .ok (.invokevirtual 152, 3) := by decide +kernel
theorem dX11_back_42 : decode cX11_back 42 = .ok (.iconst 1, 1) := by decide +kernel
theorem dX11_back_43 : decode cX11_back 43 = .ok (.ireturn, 1) := by decide +kernel
theorem dX11_count_0 : decode cX11_count 0 = .ok (.iload_n 1, 1) := by decide +kernel
theorem dX11_count_1 : decode cX11_count 1 = .ok (.tableswitch 167 0 11 #[63, 71, 79, 87, 95, 103, 119, 127, 135, 143, 151, 159], 63) := by decide +kernel
theorem dX11_count_64 : decode cX11_count 64 = .ok (.aload_n 0, 1) := by decide +kernel
theorem dX11_count_65 : decode cX11_count 65 = .ok (.getfield 19, 3) := by decide +kernel
theorem dX11_count_68 : decode cX11_count 68 = .ok (.getfield 302, 3) := by decide +kernel
theorem dX11_count_71 : decode cX11_count 71 = .ok (.ireturn, 1) := by decide +kernel
theorem dX11_count_72 : decode cX11_count 72 = .ok (.aload_n 0, 1) := by decide +kernel
theorem dX11_count_73 : decode cX11_count 73 = .ok (.getfield 19, 3) := by decide +kernel
theorem dX11_count_76 : decode cX11_count 76 = .ok (.getfield 141, 3) := by decide +kernel
theorem dX11_count_79 : decode cX11_count 79 = .ok (.ireturn, 1) := by decide +kernel
theorem dX11_count_80 : decode cX11_count 80 = .ok (.aload_n 0, 1) := by decide +kernel
theorem dX11_count_81 : decode cX11_count 81 = .ok (.getfield 32, 3) := by decide +kernel
theorem dX11_count_84 : decode cX11_count 84 = .ok (.getfield 245, 3) := by decide +kernel
theorem dX11_count_87 : decode cX11_count 87 = .ok (.ireturn, 1) := by decide +kernel
theorem dX11_count_88 : decode cX11_count 88 = .ok (.aload_n 0, 1) := by decide +kernel
theorem dX11_count_89 : decode cX11_count 89 = .ok (.getfield 32, 3) := by decide +kernel
theorem dX11_count_92 : decode cX11_count 92 = .ok (.getfield 305, 3) := by decide +kernel
theorem dX11_count_95 : decode cX11_count 95 = .ok (.ireturn, 1) := by decide +kernel
theorem dX11_count_96 : decode cX11_count 96 = .ok (.aload_n 0, 1) := by decide +kernel
theorem dX11_count_97 : decode cX11_count 97 = .ok (.getfield 32, 3) := by decide +kernel
theorem dX11_count_100 : decode cX11_count 100 = .ok (.getfield 187, 3) := by decide +kernel
theorem dX11_count_103 : decode cX11_count 103 = .ok (.ireturn, 1) := by decide +kernel
theorem dX11_count_104 : decode cX11_count 104 = .ok (.aload_n 0, 1) := by decide +kernel
theorem dX11_count_105 : decode cX11_count 105 = .ok (.getfield 19, 3) := by decide +kernel
theorem dX11_count_108 : decode cX11_count 108 = .ok (.getfield 308, 3) := by decide +kernel
theorem dX11_count_111 : decode cX11_count 111 = .ok (.aload_n 0, 1) := by decide +kernel
theorem dX11_count_112 : decode cX11_count 112 = .ok (.getfield 32, 3) := by decide +kernel
theorem dX11_count_115 : decode cX11_count 115 = .ok (.invokevirtual 311, 3) := by decide +kernel
theorem dX11_count_118 : decode cX11_count 118 = .ok (.iaload, 1) := by decide +kernel
theorem dX11_count_119 : decode cX11_count 119 = .ok (.ireturn, 1) := by decide +kernel
theorem dX11_count_120 : decode cX11_count 120 = .ok (.aload_n 0, 1) := by decide +kernel
theorem dX11_count_121 : decode cX11_count 121 = .ok (.getfield 19, 3) := by decide +kernel
theorem dX11_count_124 : decode cX11_count 124 = .ok (.getfield 314, 3) := by decide +kernel
theorem dX11_count_127 : decode cX11_count 127 = .ok (.ireturn, 1) := by decide +kernel
theorem dX11_count_128 : decode cX11_count 128 = .ok (.aload_n 0, 1) := by decide +kernel
theorem dX11_count_129 : decode cX11_count 129 = .ok (.getfield 19, 3) := by decide +kernel
theorem dX11_count_132 : decode cX11_count 132 = .ok (.getfield 317, 3) := by decide +kernel
theorem dX11_count_135 : decode cX11_count 135 = .ok (.ireturn, 1) := by decide +kernel
theorem dX11_count_136 : decode cX11_count 136 = .ok (.aload_n 0, 1) := by decide +kernel
theorem dX11_count_137 : decode cX11_count 137 = .ok (.getfield 19, 3) := by decide +kernel
theorem dX11_count_140 : decode cX11_count 140 = .ok (.getfield 320, 3) := by decide +kernel
theorem dX11_count_143 : decode cX11_count 143 = .ok (.ireturn, 1) := by decide +kernel
theorem dX11_count_144 : decode cX11_count 144 = .ok (.aload_n 0, 1) := by decide +kernel
theorem dX11_count_145 : decode cX11_count 145 = .ok (.getfield 42, 3) := by decide +kernel
theorem dX11_count_148 : decode cX11_count 148 = .ok (.getfield 155, 3) := by decide +kernel
theorem dX11_count_151 : decode cX11_count 151 = .ok (.ireturn, 1) := by decide +kernel
theorem dX11_count_152 : decode cX11_count 152 = .ok (.aload_n 0, 1) := by decide +kernel
theorem dX11_count_153 : decode cX11_count 153 = .ok (.getfield 32, 3) := by decide +kernel
theorem dX11_count_156 : decode cX11_count 156 = .ok (.getfield 323, 3) := by decide +kernel
theorem dX11_count_159 : decode cX11_count 159 = .ok (.ireturn, 1) := by decide +kernel
theorem dX11_count_160 : decode cX11_count 160 = .ok (.aload_n 0, 1) := by decide +kernel
theorem dX11_count_161 : decode cX11_count 161 = .ok (.getfield 32, 3) := by decide +kernel
theorem dX11_count_164 : decode cX11_count 164 = .ok (.getfield 326, 3) := by decide +kernel
theorem dX11_count_167 : decode cX11_count 167 = .ok (.ireturn, 1) := by decide +kernel
theorem dX11_count_168 : decode cX11_count 168 = .ok (.iconst (-1), 1) := by decide +kernel
theorem dX11_count_169 : decode cX11_count 169 = .ok (.ireturn, 1) := by decide +kernel
theorem dX11_endReading_0 : decode cX11_endReading 0 = .ok (.aload_n 0, 1) := by decide +kernel
theorem dX11_endReading_1 : decode cX11_endReading 1 = .ok (.iload_n 1, 1) := by decide +kernel
theorem dX11_endReading_2 : decode cX11_endReading 2 = .ok (.ifCond .eq 7, 3) := by decide +kernel
theorem dX11_endReading_5 : decode cX11_endReading 5 = .ok (.iconst (-1), 1) := by decide +kernel
theorem dX11_endReading_6 : decode cX11_endReading 6 = .ok (.goto 10, 3) := by decide +kernel
theorem dX11_endReading_9 : decode cX11_endReading 9 = .ok (.aload_n 0, 1) := by decide +kernel
theorem dX11_endReading_10 : decode cX11_endReading 10 = .ok (.getfield 12, 3) := by decide +kernel
theorem dX11_endReading_13 : decode cX11_endReading 13 = .ok (.invokevirtual 329, 3) := by decide +kernel
theorem dX11_endReading_16 : decode cX11_endReading 16 = .ok (.putfield 108, 3) := by decide +kernel
theorem dX11_endReading_19 : decode cX11_endReading 19 = .ok (.aload_n 0, 1) := by decide +kernel
theorem dX11_endReading_20 : decode cX11_endReading 20 = .ok (.getfield 12, 3) := by decide +kernel
theorem dX11_endReading_23 : decode cX11_endReading 23 = .ok (.iconst 0, 1) := by decide +kernel
theorem dX11_endReading_24 : decode cX11_endReading 24 = .ok (.putfield 112, 3) := by decide +kernel
theorem dX11_endReading_27 : decode cX11_endReading 27 = .ok (.return_, 1) := by decide +kernel
theorem dX11_findPlan_0 : decode cX11_findPlan 0 = .ok (.aload_n 0, 1) := by decide +kernel
theorem dX11_findPlan_1 : decode cX11_findPlan 1 = .ok (.getfield 75, 3) := by decide +kernel
theorem dX11_findPlan_4 : decode cX11_findPlan 4 = .ok (.invokevirtual 199, 3) := by decide +kernel
theorem dX11_findPlan_7 : decode cX11_findPlan 7 = .ok (.aload_n 0, 1) := by decide +kernel
theorem dX11_findPlan_8 : decode cX11_findPlan 8 = .ok (.getfield 84, 3) := by decide +kernel
theorem dX11_findPlan_11 : decode cX11_findPlan 11 = .ok (.aload_n 0, 1) := by decide +kernel
theorem dX11_findPlan_12 : decode cX11_findPlan 12 = .ok (.getfield 32, 3) := by decide +kernel
theorem dX11_findPlan_15 : decode cX11_findPlan 15 = .ok (.invokevirtual 211, 3) := by decide +kernel
theorem dX11_findPlan_18 : decode cX11_findPlan 18 = .ok (.iload_n 1, 1) := by decide +kernel
theorem dX11_findPlan_19 : decode cX11_findPlan 19 = .ok (.aload_n 0, 1) := by decide +kernel
theorem dX11_findPlan_20 : decode cX11_findPlan 20 = .ok (.getfield 75, 3) := by decide +kernel
theorem dX11_findPlan_23 : decode cX11_findPlan 23 = .ok (.getfield 205, 3) := by decide +kernel
theorem dX11_findPlan_26 : decode cX11_findPlan 26 = .ok (.iand, 1) := by decide +kernel
theorem dX11_findPlan_27 : decode cX11_findPlan 27 = .ok (.iload_n 2, 1) := by decide +kernel
theorem dX11_findPlan_28 : decode cX11_findPlan 28 = .ok (.invokevirtual 332, 3) := by decide +kernel
theorem dX11_findPlan_31 : decode cX11_findPlan 31 = .ok (.ireturn, 1) := by decide +kernel
theorem dX12_init_0 : decode cX12_init 0 = .ok (.aload_n 0, 1) := by decide +kernel
theorem dX12_init_1 : decode cX12_init 1 = .ok (.invokespecial 1, 3) := by decide +kernel
theorem dX12_init_4 : decode cX12_init 4 = .ok (.aload_n 0, 1) := by decide +kernel
theorem dX12_init_5 : decode cX12_init 5 = .ok (.sipush 648, 3) := by decide +kernel
theorem dX12_init_8 : decode cX12_init 8 = .ok (.newarray .int, 2) := by decide +kernel
theorem dX12_init_10 : decode cX12_init 10 = .ok (.putfield 7, 3) := by decide +kernel
theorem dX12_init_13 : decode cX12_init 13 = .ok (.aload_n 0, 1) := by decide +kernel
theorem dX12_init_14 : decode cX12_init 14 = .ok (.sipush 648, 3) := by decide +kernel
theorem dX12_init_17 : decode cX12_init 17 = .ok (.newarray .int, 2) := by decide +kernel
theorem dX12_init_19 : decode cX12_init 19 = .ok (.putfield 13, 3) := by decide +kernel
theorem dX12_init_22 : decode cX12_init 22 = .ok (.aload_n 0, 1) := by decide +kernel
theorem dX12_init_23 : decode cX12_init 23 = .ok (.sipush 248, 3) := by decide +kernel
theorem dX12_init_26 : decode cX12_init 26 = .ok (.newarray .int, 2) := by decide +kernel
theorem dX12_init_28 : decode cX12_init 28 = .ok (.putfield 16, 3) := by decide +kernel
theorem dX12_init_31 : decode cX12_init 31 = .ok (.aload_n 0, 1) := by decide +kernel
theorem dX12_init_32 : decode cX12_init 32 = .ok (.sipush 400, 3) := by decide +kernel
theorem dX12_init_35 : decode cX12_init 35 = .ok (.newarray .int, 2) := by decide +kernel
theorem dX12_init_37 : decode cX12_init 37 = .ok (.putfield 19, 3) := by decide +kernel
theorem dX12_init_40 : decode cX12_init 40 = .ok (.aload_n 0, 1) := by decide +kernel
theorem dX12_init_41 : decode cX12_init 41 = .ok (.iconst (-1), 1) := by decide +kernel
theorem dX12_init_42 : decode cX12_init 42 = .ok (.putfield 22, 3) := by decide +kernel
theorem dX12_init_45 : decode cX12_init 45 = .ok (.aload_n 0, 1) := by decide +kernel
theorem dX12_init_46 : decode cX12_init 46 = .ok (.iconst 4, 1) := by decide +kernel
theorem dX12_init_47 : decode cX12_init 47 = .ok (.newarray .int, 2) := by decide +kernel
theorem dX12_init_49 : decode cX12_init 49 = .ok (.putfield 26, 3) := by decide +kernel
theorem dX12_init_52 : decode cX12_init 52 = .ok (.aload_n 0, 1) := by decide +kernel
theorem dX12_init_53 : decode cX12_init 53 = .ok (.sipush 2048, 3) := by decide +kernel
theorem dX12_init_56 : decode cX12_init 56 = .ok (.newarray .int, 2) := by decide +kernel
theorem dX12_init_58 : decode cX12_init 58 = .ok (.putfield 29, 3) := by decide +kernel
theorem dX12_init_61 : decode cX12_init 61 = .ok (.aload_n 0, 1) := by decide +kernel
theorem dX12_init_62 : decode cX12_init 62 = .ok (.sipush 2048, 3) := by decide +kernel
theorem dX12_init_65 : decode cX12_init 65 = .ok (.newarray .int, 2) := by decide +kernel
theorem dX12_init_67 : decode cX12_init 67 = .ok (.putfield 32, 3) := by decide +kernel
theorem dX12_init_70 : decode cX12_init 70 = .ok (.aload_n 0, 1) := by decide +kernel
theorem dX12_init_71 : decode cX12_init 71 = .ok (.sipush 2048, 3) := by decide +kernel
theorem dX12_init_74 : decode cX12_init 74 = .ok (.newarray .int, 2) := by decide +kernel
theorem dX12_init_76 : decode cX12_init 76 = .ok (.putfield 35, 3) := by decide +kernel
theorem dX12_init_79 : decode cX12_init 79 = .ok (.aload_n 0, 1) := by decide +kernel
theorem dX12_init_80 : decode cX12_init 80 = .ok (.bipush 6, 2) := by decide +kernel
theorem dX12_init_82 : decode cX12_init 82 = .ok (.newarray .int, 2) := by decide +kernel
theorem dX12_init_84 : decode cX12_init 84 = .ok (.putfield 38, 3) := by decide +kernel
theorem dX12_init_87 : decode cX12_init 87 = .ok (.aload_n 0, 1) := by decide +kernel
theorem dX12_init_88 : decode cX12_init 88 = .ok (.bipush 6, 2) := by decide +kernel
theorem dX12_init_90 : decode cX12_init 90 = .ok (.newarray .int, 2) := by decide +kernel
theorem dX12_init_92 : decode cX12_init 92 = .ok (.putfield 41, 3) := by decide +kernel
theorem dX12_init_95 : decode cX12_init 95 = .ok (.aload_n 0, 1) := by decide +kernel
theorem dX12_init_96 : decode cX12_init 96 = .ok (.bipush 6, 2) := by decide +kernel
theorem dX12_init_98 : decode cX12_init 98 = .ok (.newarray .int, 2) := by decide +kernel
theorem dX12_init_100 : decode cX12_init 100 = .ok (.putfield 44, 3) := by decide +kernel
theorem dX12_init_103 : decode cX12_init 103 = .ok (.aload_n 0, 1) := by decide +kernel
theorem dX12_init_104 : decode cX12_init 104 = .ok (.bipush 10, 2) := by decide +kernel
theorem dX12_init_106 : decode cX12_init 106 = .ok (.newarray .int, 2) := by decide +kernel
theorem dX12_init_108 : decode cX12_init 108 = .ok (.putfield 47, 3) := by decide +kernel
theorem dX12_init_111 : decode cX12_init 111 = .ok (.aload_n 0, 1) := by decide +kernel
theorem dX12_init_112 : decode cX12_init 112 = .ok (.bipush 41, 2) := by decide +kernel
theorem dX12_init_114 : decode cX12_init 114 = .ok (.newarray .int, 2) := by decide +kernel
theorem dX12_init_116 : decode cX12_init 116 = .ok (.putfield 50, 3) := by decide +kernel
theorem dX12_init_119 : decode cX12_init 119 = .ok (.aload_n 0, 1) := by decide +kernel
theorem dX12_init_120 : decode cX12_init 120 = .ok (.bipush 41, 2) := by decide +kernel
theorem dX12_init_122 : decode cX12_init 122 = .ok (.newarray .int, 2) := by decide +kernel
theorem dX12_init_124 : decode cX12_init 124 = .ok (.putfield 53, 3) := by decide +kernel
theorem dX12_init_127 : decode cX12_init 127 = .ok (.aload_n 0, 1) := by decide +kernel
theorem dX12_init_128 : decode cX12_init 128 = .ok (.bipush 41, 2) := by decide +kernel
theorem dX12_init_130 : decode cX12_init 130 = .ok (.newarray .int, 2) := by decide +kernel
theorem dX12_init_132 : decode cX12_init 132 = .ok (.putfield 56, 3) := by decide +kernel
theorem dX12_init_135 : decode cX12_init 135 = .ok (.aload_n 0, 1) := by decide +kernel
theorem dX12_init_136 : decode cX12_init 136 = .ok (.getfield 7, 3) := by decide +kernel
theorem dX12_init_139 : decode cX12_init 139 = .ok (.iconst 5, 1) := by decide +kernel
theorem dX12_init_140 : decode cX12_init 140 = .ok (.sipush 200, 3) := by decide +kernel
theorem dX12_init_143 : decode cX12_init 143 = .ok (.iastore, 1) := by decide +kernel
theorem dX12_init_144 : decode cX12_init 144 = .ok (.aload_n 0, 1) := by decide +kernel
theorem dX12_init_145 : decode cX12_init 145 = .ok (.getfield 7, 3) := by decide +kernel
theorem dX12_init_148 : decode cX12_init 148 = .ok (.bipush 6, 2) := by decide +kernel
theorem dX12_init_150 : decode cX12_init 150 = .ok (.bipush 20, 2) := by decide +kernel
theorem dX12_init_152 : decode cX12_init 152 = .ok (.iastore, 1) := by decide +kernel
theorem dX12_init_153 : decode cX12_init 153 = .ok (.aload_n 0, 1) := by decide +kernel
theorem dX12_init_154 : decode cX12_init 154 = .ok (.getfield 7, 3) := by decide +kernel
theorem dX12_init_157 : decode cX12_init 157 = .ok (.bipush 7, 2) := by decide +kernel
theorem dX12_init_159 : decode cX12_init 159 = .ok (.bipush 10, 2) := by decide +kernel
theorem dX12_init_161 : decode cX12_init 161 = .ok (.iastore, 1) := by decide +kernel
theorem dX12_init_162 : decode cX12_init 162 = .ok (.aload_n 0, 1) := by decide +kernel
theorem dX12_init_163 : decode cX12_init 163 = .ok (.getfield 7, 3) := by decide +kernel
theorem dX12_init_166 : decode cX12_init 166 = .ok (.bipush 8, 2) := by decide +kernel
theorem dX12_init_168 : decode cX12_init 168 = .ok (.iconst (-1), 1) := by decide +kernel
theorem dX12_init_169 : decode cX12_init 169 = .ok (.iastore, 1) := by decide +kernel
theorem dX12_init_170 : decode cX12_init 170 = .ok (.iconst 0, 1) := by decide +kernel
theorem dX12_init_171 : decode cX12_init 171 = .ok (.istore_n 1, 1) := by decide +kernel
theorem dX12_init_172 : decode cX12_init 172 = .ok (.iload_n 1, 1) := by decide +kernel
theorem dX12_init_173 : decode cX12_init 173 = .ok (.bipush 24, 2) := by decide +kernel
theorem dX12_init_175 : decode cX12_init 175 = .ok (.if_icmp .ge 19, 3) := by decide +kernel
theorem dX12_init_178 : decode cX12_init 178 = .ok (.aload_n 0, 1) := by decide +kernel
theorem dX12_init_179 : decode cX12_init 179 = .ok (.getfield 7, 3) := by decide +kernel
theorem dX12_init_182 : decode cX12_init 182 = .ok (.bipush 14, 2) := by decide +kernel
theorem dX12_init_184 : decode cX12_init 184 = .ok (.iload_n 1, 1) := by decide +kernel
theorem dX12_init_185 : decode cX12_init 185 = .ok (.iadd, 1) := by decide +kernel
theorem dX12_init_186 : decode cX12_init 186 = .ok (.iconst 2, 1) := by decide +kernel
theorem dX12_init_187 : decode cX12_init 187 = .ok (.iastore, 1) := by decide +kernel
theorem dX12_init_188 : decode cX12_init 188 = .ok (.iinc 1 1, 3) := by decide +kernel
theorem dX12_init_191 : decode cX12_init 191 = .ok (.goto (-19), 3) := by decide +kernel
theorem dX12_init_194 : decode cX12_init 194 = .ok (.return_, 1) := by decide +kernel
theorem dX12_thrown_0 : decode cX12_thrown 0 = .ok (.aload_n 0, 1) := by decide +kernel
theorem dX12_thrown_1 : decode cX12_thrown 1 = .ok (.getfield 59, 3) := by decide +kernel
theorem dX12_thrown_4 : decode cX12_thrown 4 = .ok (.ireturn, 1) := by decide +kernel
theorem dX12_isIn_0 : decode cX12_isIn 0 = .ok (.iload_n 0, 1) := by decide +kernel
theorem dX12_isIn_1 : decode cX12_isIn 1 = .ok (.iload_n 1, 1) := by decide +kernel
theorem dX12_isIn_2 : decode cX12_isIn 2 = .ok (.if_icmp .lt 12, 3) := by decide +kernel
theorem dX12_isIn_5 : decode cX12_isIn 5 = .ok (.iload_n 0, 1) := by decide +kernel
theorem dX12_isIn_6 : decode cX12_isIn 6 = .ok (.iload_n 2, 1) := by decide +kernel
theorem dX12_isIn_7 : decode cX12_isIn 7 = .ok (.if_icmp .gt 7, 3) := by decide +kernel
theorem dX12_isIn_10 : decode cX12_isIn 10 = .ok (.iconst 1, 1) := by decide +kernel
theorem dX12_isIn_11 : decode cX12_isIn 11 = .ok (.goto 4, 3) := by decide +kernel
theorem dX12_isIn_14 : decode cX12_isIn 14 = .ok (.iconst 0, 1) := by decide +kernel
theorem dX12_isIn_15 : decode cX12_isIn 15 = .ok (.ireturn, 1) := by decide +kernel
theorem dX12_isOf_0 : decode cX12_isOf 0 = .ok (.iload_n 0, 1) := by decide +kernel
theorem dX12_isOf_1 : decode cX12_isOf 1 = .ok (.iload_n 1, 1) := by decide +kernel
theorem dX12_isOf_2 : decode cX12_isOf 2 = .ok (.ishr, 1) := by decide +kernel
theorem dX12_isOf_3 : decode cX12_isOf 3 = .ok (.iconst 1, 1) := by decide +kernel
theorem dX12_isOf_4 : decode cX12_isOf 4 = .ok (.iand, 1) := by decide +kernel
theorem dX12_isOf_5 : decode cX12_isOf 5 = .ok (.iconst 1, 1) := by decide +kernel
theorem dX12_isOf_6 : decode cX12_isOf 6 = .ok (.if_icmp .ne 7, 3) := by decide +kernel
theorem dX12_isOf_9 : decode cX12_isOf 9 = .ok (.iconst 1, 1) := by decide +kernel
theorem dX12_isOf_10 : decode cX12_isOf 10 = .ok (.goto 4, 3) := by decide +kernel
theorem dX12_isOf_13 : decode cX12_isOf 13 = .ok (.iconst 0, 1) := by decide +kernel
theorem dX12_isOf_14 : decode cX12_isOf 14 = .ok (.ireturn, 1) := by decide +kernel
theorem dX12_of_0 : decode cX12_of 0 = .ok (.aload_n 0, 1) := by decide +kernel
theorem dX12_of_1 : decode cX12_of 1 = .ok (.getfield 7, 3) := by decide +kernel
theorem dX12_of_4 : decode cX12_of 4 = .ok (.bipush 38, 2) := by decide +kernel
theorem dX12_of_6 : decode cX12_of 6 = .ok (.iconst 5, 1) := by decide +kernel
theorem dX12_of_7 : decode cX12_of 7 = .ok (.iload_n 1, 1) := by decide +kernel
theorem dX12_of_8 : decode cX12_of 8 = .ok (.imul, 1) := by decide +kernel
theorem dX12_of_9 : decode cX12_of 9 = .ok (.iadd, 1) := by decide +kernel
theorem dX12_of_10 : decode cX12_of 10 = .ok (.iload_n 2, 1) := by decide +kernel
theorem dX12_of_11 : decode cX12_of 11 = .ok (.iadd, 1) := by decide +kernel
theorem dX12_of_12 : decode cX12_of 12 = .ok (.iaload, 1) := by decide +kernel
theorem dX12_of_13 : decode cX12_of 13 = .ok (.ireturn, 1) := by decide +kernel
theorem dX12_isBeing_0 : decode cX12_isBeing 0 = .ok (.iload_n 1, 1) := by decide +kernel
theorem dX12_isBeing_1 : decode cX12_isBeing 1 = .ok (.iconst 0, 1) := by decide +kernel
theorem dX12_isBeing_2 : decode cX12_isBeing 2 = .ok (.aload_n 0, 1) := by decide +kernel
theorem dX12_isBeing_3 : decode cX12_isBeing 3 = .ok (.getfield 7, 3) := by decide +kernel
theorem dX12_isBeing_6 : decode cX12_isBeing 6 = .ok (.iconst 1, 1) := by decide +kernel
theorem dX12_isBeing_7 : decode cX12_isBeing 7 = .ok (.iaload, 1) := by decide +kernel
theorem dX12_isBeing_8 : decode cX12_isBeing 8 = .ok (.iconst 1, 1) := by decide +kernel
theorem dX12_isBeing_9 : decode cX12_isBeing 9 = .ok (.isub, 1) := by decide +kernel
theorem dX12_isBeing_10 : decode cX12_isBeing 10 = .ok (.invokestatic 62, 3) := by decide +kernel
theorem dX12_isBeing_13 : decode cX12_isBeing 13 = .ok (.ireturn, 1) := by decide +kernel
theorem dX12_everybody_0 : decode cX12_everybody 0 = .ok (.iconst 1, 1) := by decide +kernel
theorem dX12_everybody_1 : decode cX12_everybody 1 = .ok (.aload_n 0, 1) := by decide +kernel
theorem dX12_everybody_2 : decode cX12_everybody 2 = .ok (.getfield 7, 3) := by decide +kernel
theorem dX12_everybody_5 : decode cX12_everybody 5 = .ok (.iconst 1, 1) := by decide +kernel
theorem dX12_everybody_6 : decode cX12_everybody 6 = .ok (.iaload, 1) := by decide +kernel
theorem dX12_everybody_7 : decode cX12_everybody 7 = .ok (.ishl, 1) := by decide +kernel
theorem dX12_everybody_8 : decode cX12_everybody 8 = .ok (.iconst 1, 1) := by decide +kernel
theorem dX12_everybody_9 : decode cX12_everybody 9 = .ok (.isub, 1) := by decide +kernel
theorem dX12_everybody_10 : decode cX12_everybody 10 = .ok (.ireturn, 1) := by decide +kernel
theorem dX12_forceOf_0 : decode cX12_forceOf 0 = .ok (.aload_n 0, 1) := by decide +kernel
theorem dX12_forceOf_1 : decode cX12_forceOf 1 = .ok (.iload_n 1, 1) := by decide +kernel
theorem dX12_forceOf_2 : decode cX12_forceOf 2 = .ok (.iconst 1, 1) := by decide +kernel
theorem dX12_forceOf_3 : decode cX12_forceOf 3 = .ok (.invokevirtual 66, 3) := by decide +kernel
theorem dX12_forceOf_6 : decode cX12_forceOf 6 = .ok (.aload_n 0, 1) := by decide +kernel
theorem dX12_forceOf_7 : decode cX12_forceOf 7 = .ok (.iload_n 1, 1) := by decide +kernel
theorem dX12_forceOf_8 : decode cX12_forceOf 8 = .ok (.iconst 4, 1) := by decide +kernel
theorem dX12_forceOf_9 : decode cX12_forceOf 9 = .ok (.invokevirtual 66, 3) := by decide +kernel
theorem dX12_forceOf_12 : decode cX12_forceOf 12 = .ok (.isub, 1) := by decide +kernel
theorem dX12_forceOf_13 : decode cX12_forceOf 13 = .ok (.istore_n 2, 1) := by decide +kernel
theorem dX12_forceOf_14 : decode cX12_forceOf 14 = .ok (.iload_n 2, 1) := by decide +kernel
theorem dX12_forceOf_15 : decode cX12_forceOf 15 = .ok (.ifCond .ge 7, 3) := by decide +kernel
theorem dX12_forceOf_18 : decode cX12_forceOf 18 = .ok (.iconst 0, 1) := by decide +kernel
theorem dX12_forceOf_19 : decode cX12_forceOf 19 = .ok (.goto 4, 3) := by decide +kernel
theorem dX12_forceOf_22 : decode cX12_forceOf 22 = .ok (.iload_n 2, 1) := by decide +kernel
theorem dX12_forceOf_23 : decode cX12_forceOf 23 = .ok (.ireturn, 1) := by decide +kernel
theorem dX12_forceOfAll_0 : decode cX12_forceOfAll 0 = .ok (.iconst 0, 1) := by decide +kernel
theorem dX12_forceOfAll_1 : decode cX12_forceOfAll 1 = .ok (.istore_n 2, 1) := by decide +kernel
theorem dX12_forceOfAll_2 : decode cX12_forceOfAll 2 = .ok (.iconst 0, 1) := by decide +kernel
theorem dX12_forceOfAll_3 : decode cX12_forceOfAll 3 = .ok (.istore_n 3, 1) := by decide +kernel
theorem dX12_forceOfAll_4 : decode cX12_forceOfAll 4 = .ok (.iload_n 3, 1) := by decide +kernel
theorem dX12_forceOfAll_5 : decode cX12_forceOfAll 5 = .ok (.aload_n 0, 1) := by decide +kernel
theorem dX12_forceOfAll_6 : decode cX12_forceOfAll 6 = .ok (.getfield 7, 3) := by decide +kernel
theorem dX12_forceOfAll_9 : decode cX12_forceOfAll 9 = .ok (.iconst 1, 1) := by decide +kernel
theorem dX12_forceOfAll_10 : decode cX12_forceOfAll 10 = .ok (.iaload, 1) := by decide +kernel
theorem dX12_forceOfAll_11 : decode cX12_forceOfAll 11 = .ok (.if_icmp .ge 29, 3) := by decide +kernel
theorem dX12_forceOfAll_14 : decode cX12_forceOfAll 14 = .ok (.iload_n 2, 1) := by decide +kernel
theorem dX12_forceOfAll_15 : decode cX12_forceOfAll 15 = .ok (.iload_n 1, 1) := by decide +kernel
theorem dX12_forceOfAll_16 : decode cX12_forceOfAll 16 = .ok (.iload_n 3, 1) := by decide +kernel
theorem dX12_forceOfAll_17 : decode cX12_forceOfAll 17 = .ok (.invokestatic 70, 3) := by decide +kernel
theorem dX12_forceOfAll_20 : decode cX12_forceOfAll 20 = .ok (.ifCond .eq 11, 3) := by decide +kernel
theorem dX12_forceOfAll_23 : decode cX12_forceOfAll 23 = .ok (.aload_n 0, 1) := by decide +kernel
theorem dX12_forceOfAll_24 : decode cX12_forceOfAll 24 = .ok (.iload_n 3, 1) := by decide +kernel
theorem dX12_forceOfAll_25 : decode cX12_forceOfAll 25 = .ok (.invokevirtual 74, 3) := by decide +kernel
theorem dX12_forceOfAll_28 : decode cX12_forceOfAll 28 = .ok (.goto 4, 3) := by decide +kernel
theorem dX12_forceOfAll_31 : decode cX12_forceOfAll 31 = .ok (.iconst 0, 1) := by decide +kernel
theorem dX12_forceOfAll_32 : decode cX12_forceOfAll 32 = .ok (.iadd, 1) := by decide +kernel
theorem dX12_forceOfAll_33 : decode cX12_forceOfAll 33 = .ok (.istore_n 2, 1) := by decide +kernel
theorem dX12_forceOfAll_34 : decode cX12_forceOfAll 34 = .ok (.iinc 3 1, 3) := by decide +kernel
theorem dX12_forceOfAll_37 : decode cX12_forceOfAll 37 = .ok (.goto (-33), 3) := by decide +kernel
theorem dX12_forceOfAll_40 : decode cX12_forceOfAll 40 = .ok (.iload_n 2, 1) := by decide +kernel
theorem dX12_forceOfAll_41 : decode cX12_forceOfAll 41 = .ok (.ireturn, 1) := by decide +kernel
theorem dX12_weightOf_0 : decode cX12_weightOf 0 = .ok (.aload_n 0, 1) := by decide +kernel
theorem dX12_weightOf_1 : decode cX12_weightOf 1 = .ok (.getfield 7, 3) := by decide +kernel
theorem dX12_weightOf_4 : decode cX12_weightOf 4 = .ok (.bipush 6, 2) := by decide +kernel
theorem dX12_weightOf_6 : decode cX12_weightOf 6 = .ok (.iaload, 1) := by decide +kernel
theorem dX12_weightOf_7 : decode cX12_weightOf 7 = .ok (.istore_n 2, 1) := by decide +kernel
theorem dX12_weightOf_8 : decode cX12_weightOf 8 = .ok (.iconst 0, 1) := by decide +kernel
theorem dX12_weightOf_9 : decode cX12_weightOf 9 = .ok (.istore_n 3, 1) := by decide +kernel
theorem dX12_weightOf_10 : decode cX12_weightOf 10 = .ok (.iload_n 3, 1) := by decide +kernel
theorem dX12_weightOf_11 : decode cX12_weightOf 11 = .ok (.aload_n 0, 1) := by decide +kernel
theorem dX12_weightOf_12 : decode cX12_weightOf 12 = .ok (.getfield 7, 3) := by decide +kernel
theorem dX12_weightOf_15 : decode cX12_weightOf 15 = .ok (.iconst 1, 1) := by decide +kernel
theorem dX12_weightOf_16 : decode cX12_weightOf 16 = .ok (.iaload, 1) := by decide +kernel
theorem dX12_weightOf_17 : decode cX12_weightOf 17 = .ok (.if_icmp .ge 30, 3) := by decide +kernel
theorem dX12_weightOf_20 : decode cX12_weightOf 20 = .ok (.iload_n 2, 1) := by decide +kernel
theorem dX12_weightOf_21 : decode cX12_weightOf 21 = .ok (.iload_n 1, 1) := by decide +kernel
theorem dX12_weightOf_22 : decode cX12_weightOf 22 = .ok (.iload_n 3, 1) := by decide +kernel
theorem dX12_weightOf_23 : decode cX12_weightOf 23 = .ok (.invokestatic 70, 3) := by decide +kernel
theorem dX12_weightOf_26 : decode cX12_weightOf 26 = .ok (.ifCond .eq 12, 3) := by decide +kernel
theorem dX12_weightOf_29 : decode cX12_weightOf 29 = .ok (.aload_n 0, 1) := by decide +kernel
theorem dX12_weightOf_30 : decode cX12_weightOf 30 = .ok (.iload_n 3, 1) := by decide +kernel
theorem dX12_weightOf_31 : decode cX12_weightOf 31 = .ok (.iconst 2, 1) := by decide +kernel
theorem dX12_weightOf_32 : decode cX12_weightOf 32 = .ok (.invokevirtual 66, 3) := by decide +kernel
theorem dX12_weightOf_35 : decode cX12_weightOf 35 = .ok (.goto 4, 3) := by decide +kernel
theorem dX12_weightOf_38 : decode cX12_weightOf 38 = .ok (.iconst 0, 1) := by decide +kernel
theorem dX12_weightOf_39 : decode cX12_weightOf 39 = .ok (.iadd, 1) := by decide +kernel
theorem dX12_weightOf_40 : decode cX12_weightOf 40 = .ok (.istore_n 2, 1) := by decide +kernel
theorem dX12_weightOf_41 : decode cX12_weightOf 41 = .ok (.iinc 3 1, 3) := by decide +kernel
theorem dX12_weightOf_44 : decode cX12_weightOf 44 = .ok (.goto (-34), 3) := by decide +kernel
theorem dX12_weightOf_47 : decode cX12_weightOf 47 = .ok (.iload_n 2, 1) := by decide +kernel
theorem dX12_weightOf_48 : decode cX12_weightOf 48 = .ok (.ireturn, 1) := by decide +kernel
theorem dX12_stream_0 : decode cX12_stream 0 = .ok (.aload_n 0, 1) := by decide +kernel
theorem dX12_stream_1 : decode cX12_stream 1 = .ok (.getfield 7, 3) := by decide +kernel
theorem dX12_stream_4 : decode cX12_stream 4 = .ok (.bipush 14, 2) := by decide +kernel
theorem dX12_stream_6 : decode cX12_stream 6 = .ok (.aload_n 0, 1) := by decide +kernel
theorem dX12_stream_7 : decode cX12_stream 7 = .ok (.getfield 7, 3) := by decide +kernel
theorem dX12_stream_10 : decode cX12_stream 10 = .ok (.iconst 2, 1) := by decide +kernel
theorem dX12_stream_11 : decode cX12_stream 11 = .ok (.iaload, 1) := by decide +kernel
theorem dX12_stream_12 : decode cX12_stream 12 = .ok (.bipush 60, 2) := by decide +kernel
theorem dX12_stream_14 : decode cX12_stream 14 = .ok (.idiv, 1) := by decide +kernel
theorem dX12_stream_15 : decode cX12_stream 15 = .ok (.bipush 24, 2) := by decide +kernel
theorem dX12_stream_17 : decode cX12_stream 17 = .ok (.irem, 1) := by decide +kernel
theorem dX12_stream_18 : decode cX12_stream 18 = .ok (.iadd, 1) := by decide +kernel
theorem dX12_stream_19 : decode cX12_stream 19 = .ok (.iaload, 1) := by decide +kernel
theorem dX12_stream_20 : decode cX12_stream 20 = .ok (.ireturn, 1) := by decide +kernel
theorem dX12_needOf_0 : decode cX12_needOf 0 = .ok (.aload_n 0, 1) := by decide +kernel
theorem dX12_needOf_1 : decode cX12_needOf 1 = .ok (.invokevirtual 78, 3) := by decide +kernel
theorem dX12_needOf_4 : decode cX12_needOf 4 = .ok (.iload_n 1, 1) := by decide +kernel
theorem dX12_needOf_5 : decode cX12_needOf 5 = .ok (.bipush 19, 2) := by decide +kernel
theorem dX12_needOf_7 : decode cX12_needOf 7 = .ok (.iadd, 1) := by decide +kernel
theorem dX12_needOf_8 : decode cX12_needOf 8 = .ok (.bipush 20, 2) := by decide +kernel
theorem dX12_needOf_10 : decode cX12_needOf 10 = .ok (.idiv, 1) := by decide +kernel
theorem dX12_needOf_11 : decode cX12_needOf 11 = .ok (.iadd, 1) := by decide +kernel
theorem dX12_needOf_12 : decode cX12_needOf 12 = .ok (.ireturn, 1) := by decide +kernel
theorem dX12_minutesBy_0 : decode cX12_minutesBy 0 = .ok (.aload_n 0, 1) := by decide +kernel
theorem dX12_minutesBy_1 : decode cX12_minutesBy 1 = .ok (.getfield 7, 3) := by decide +kernel
theorem dX12_minutesBy_4 : decode cX12_minutesBy 4 = .ok (.bipush 7, 2) := by decide +kernel
theorem dX12_minutesBy_6 : decode cX12_minutesBy 6 = .ok (.iaload, 1) := by decide +kernel
theorem dX12_minutesBy_7 : decode cX12_minutesBy 7 = .ok (.iload_n 1, 1) := by decide +kernel
theorem dX12_minutesBy_8 : decode cX12_minutesBy 8 = .ok (.imul, 1) := by decide +kernel
theorem dX12_minutesBy_9 : decode cX12_minutesBy 9 = .ok (.iload_n 2, 1) := by decide +kernel
theorem dX12_minutesBy_10 : decode cX12_minutesBy 10 = .ok (.iadd, 1) := by decide +kernel
theorem dX12_minutesBy_11 : decode cX12_minutesBy 11 = .ok (.iconst 1, 1) := by decide +kernel
theorem dX12_minutesBy_12 : decode cX12_minutesBy 12 = .ok (.isub, 1) := by decide +kernel
theorem dX12_minutesBy_13 : decode cX12_minutesBy 13 = .ok (.iload_n 2, 1) := by decide +kernel
theorem dX12_minutesBy_14 : decode cX12_minutesBy 14 = .ok (.idiv, 1) := by decide +kernel
theorem dX12_minutesBy_15 : decode cX12_minutesBy 15 = .ok (.istore_n 3, 1) := by decide +kernel
theorem dX12_minutesBy_16 : decode cX12_minutesBy 16 = .ok (.iload_n 3, 1) := by decide +kernel
theorem dX12_minutesBy_17 : decode cX12_minutesBy 17 = .ok (.iconst 1, 1) := by decide +kernel
theorem dX12_minutesBy_18 : decode cX12_minutesBy 18 = .ok (.if_icmp .ge 7, 3) := by decide +kernel
theorem dX12_minutesBy_21 : decode cX12_minutesBy 21 = .ok (.iconst 1, 1) := by decide +kernel
theorem dX12_minutesBy_22 : decode cX12_minutesBy 22 = .ok (.goto 4, 3) := by decide +kernel
theorem dX12_minutesBy_25 : decode cX12_minutesBy 25 = .ok (.iload_n 3, 1) := by decide +kernel
theorem dX12_minutesBy_26 : decode cX12_minutesBy 26 = .ok (.ireturn, 1) := by decide +kernel
theorem dX12_feed_0 : decode cX12_feed 0 = .ok (.aload_n 0, 1) := by decide +kernel
theorem dX12_feed_1 : decode cX12_feed 1 = .ok (.iconst 0, 1) := by decide +kernel
theorem dX12_feed_2 : decode cX12_feed 2 = .ok (.putfield 59, 3) := by decide +kernel
theorem dX12_feed_5 : decode cX12_feed 5 = .ok (.aload_n 0, 1) := by decide +kernel
theorem dX12_feed_6 : decode cX12_feed 6 = .ok (.getfield 82, 3) := by decide +kernel
theorem dX12_feed_9 : decode cX12_feed 9 = .ok (.bipush 20, 2) := by decide +kernel
theorem dX12_feed_11 : decode cX12_feed 11 = .ok (.iadd, 1) := by decide +kernel
theorem dX12_feed_12 : decode cX12_feed 12 = .ok (.sipush 400, 3) := by decide +kernel
theorem dX12_feed_15 : decode cX12_feed 15 = .ok (.if_icmp .le 5, 3) := by decide +kernel
theorem dX12_feed_18 : decode cX12_feed 18 = .ok (.iconst (-1), 1) := by decide +kernel
theorem dX12_feed_19 : decode cX12_feed 19 = .ok (.ireturn, 1) := by decide +kernel
theorem dX12_feed_20 : decode cX12_feed 20 = .ok (.iconst 0, 1) := by decide +kernel
theorem dX12_feed_21 : decode cX12_feed 21 = .ok (.istore 6, 2) := by decide +kernel
theorem dX12_feed_23 : decode cX12_feed 23 = .ok (.iload 6, 2) := by decide +kernel
theorem dX12_feed_25 : decode cX12_feed 25 = .ok (.bipush 20, 2) := by decide +kernel
theorem dX12_feed_27 : decode cX12_feed 27 = .ok (.if_icmp .ge 93, 3) := by decide +kernel
theorem dX12_feed_30 : decode cX12_feed 30 = .ok (.iload 6, 2) := by decide +kernel
theorem dX12_feed_32 : decode cX12_feed 32 = .ok (.iconst 4, 1) := by decide +kernel
theorem dX12_feed_33 : decode cX12_feed 33 = .ok (.if_icmp .ge 7, 3) := by decide +kernel
theorem dX12_feed_36 : decode cX12_feed 36 = .ok (.iload_n 1, 1) := by decide +kernel
theorem dX12_feed_37 : decode cX12_feed 37 = .ok (.goto 39, 3) := by decide +kernel
theorem dX12_feed_40 : decode cX12_feed 40 = .ok (.iload 6, 2) := by decide +kernel
theorem dX12_feed_42 : decode cX12_feed 42 = .ok (.bipush 8, 2) := by decide +kernel
theorem dX12_feed_44 : decode cX12_feed 44 = .ok (.if_icmp .ge 7, 3) := by decide +kernel
theorem dX12_feed_47 : decode cX12_feed 47 = .ok (.iload_n 2, 1) := by decide +kernel
theorem dX12_feed_48 : decode cX12_feed 48 = .ok (.goto 28, 3) := by decide +kernel
theorem dX12_feed_51 : decode cX12_feed 51 = .ok (.iload 6, 2) := by decide +kernel
theorem dX12_feed_53 : decode cX12_feed 53 = .ok (.bipush 12, 2) := by decide +kernel
theorem dX12_feed_55 : decode cX12_feed 55 = .ok (.if_icmp .ge 7, 3) := by decide +kernel
theorem dX12_feed_58 : decode cX12_feed 58 = .ok (.iload_n 3, 1) := by decide +kernel
theorem dX12_feed_59 : decode cX12_feed 59 = .ok (.goto 17, 3) := by decide +kernel
theorem dX12_feed_62 : decode cX12_feed 62 = .ok (.iload 6, 2) := by decide +kernel
theorem dX12_feed_64 : decode cX12_feed 64 = .ok (.bipush 16, 2) := by decide +kernel
theorem dX12_feed_66 : decode cX12_feed 66 = .ok (.if_icmp .ge 8, 3) := by decide +kernel
theorem dX12_feed_69 : decode cX12_feed 69 = .ok (.iload 4, 2) := by decide +kernel
theorem dX12_feed_71 : decode cX12_feed 71 = .ok (.goto 5, 3) := by decide +kernel
theorem dX12_feed_74 : decode cX12_feed 74 = .ok (.iload 5, 2) := by decide +kernel
theorem dX12_feed_76 : decode cX12_feed 76 = .ok (.istore 7, 2) := by decide +kernel
theorem dX12_feed_78 : decode cX12_feed 78 = .ok (.aload_n 0, 1) := by decide +kernel
theorem dX12_feed_79 : decode cX12_feed 79 = .ok (.getfield 19, 3) := by decide +kernel
theorem dX12_feed_82 : decode cX12_feed 82 = .ok (.aload_n 0, 1) := by decide +kernel
theorem dX12_feed_83 : decode cX12_feed 83 = .ok (.getfield 82, 3) := by decide +kernel
theorem dX12_feed_86 : decode cX12_feed 86 = .ok (.iload 7, 2) := by decide +kernel
theorem dX12_feed_88 : decode cX12_feed 88 = .ok (.bipush 24, 2) := by decide +kernel
theorem dX12_feed_90 : decode cX12_feed 90 = .ok (.bipush 8, 2) := by decide +kernel
theorem dX12_feed_92 : decode cX12_feed 92 = .ok (.iload 6, 2) := by decide +kernel
theorem dX12_feed_94 : decode cX12_feed 94 = .ok (.iconst 4, 1) := by decide +kernel
theorem dX12_feed_95 : decode cX12_feed 95 = .ok (.irem, 1) := by decide +kernel
theorem dX12_feed_96 : decode cX12_feed 96 = .ok (.imul, 1) := by decide +kernel
theorem dX12_feed_97 : decode cX12_feed 97 = .ok (.isub, 1) := by decide +kernel
theorem dX12_feed_98 : decode cX12_feed 98 = .ok (.iushr, 1) := by decide +kernel
theorem dX12_feed_99 : decode cX12_feed 99 = .ok (.sipush 255, 3) := by decide +kernel
theorem dX12_feed_102 : decode cX12_feed 102 = .ok (.iand, 1) := by decide +kernel
theorem dX12_feed_103 : decode cX12_feed 103 = .ok (.iastore, 1) := by decide +kernel
theorem dX12_feed_104 : decode cX12_feed 104 = .ok (.aload_n 0, 1) := by decide +kernel
theorem dX12_feed_105 : decode cX12_feed 105 = .ok (.dup, 1) := by decide +kernel
theorem dX12_feed_106 : decode cX12_feed 106 = .ok (.getfield 82, 3) := by decide +kernel
theorem dX12_feed_109 : decode cX12_feed 109 = .ok (.iconst 1, 1) := by decide +kernel
theorem dX12_feed_110 : decode cX12_feed 110 = .ok (.iadd, 1) := by decide +kernel
theorem dX12_feed_111 : decode cX12_feed 111 = .ok (.putfield 82, 3) := by decide +kernel
theorem dX12_feed_114 : decode cX12_feed 114 = .ok (.iinc 6 1, 3) := by decide +kernel
theorem dX12_feed_117 : decode cX12_feed 117 = .ok (.goto (-94), 3) := by decide +kernel
theorem dX12_feed_120 : decode cX12_feed 120 = .ok (.aload_n 0, 1) := by decide +kernel
theorem dX12_feed_121 : decode cX12_feed 121 = .ok (.getfield 82, 3) := by decide +kernel
theorem dX12_feed_124 : decode cX12_feed 124 = .ok (.ireturn, 1) := by decide +kernel
theorem dX12_end_0 : decode cX12_end 0 = .ok (.aload_n 0, 1) := by decide +kernel
theorem dX12_end_1 : decode cX12_end 1 = .ok (.iconst 0, 1) := by decide +kernel
theorem dX12_end_2 : decode cX12_end 2 = .ok (.putfield 59, 3) := by decide +kernel
theorem dX12_end_5 : decode cX12_end 5 = .ok (.iload_n 1, 1) := by decide +kernel
theorem dX12_end_6 : decode cX12_end 6 = .ok (.iconst 0, 1) := by decide +kernel
theorem dX12_end_7 : decode cX12_end 7 = .ok (.aload_n 0, 1) := by decide +kernel
theorem dX12_end_8 : decode cX12_end 8 = .ok (.getfield 82, 3) := by decide +kernel
theorem dX12_end_11 : decode cX12_end 11 = .ok (.invokestatic 62, 3) := by decide +kernel
theorem dX12_end_14 : decode cX12_end 14 = .ok (.ifCond .ne 5, 3) := by decide +kernel
theorem dX12_end_17 : decode cX12_end 17 = .ok (.iconst 0, 1) := by decide +kernel
theorem dX12_end_18 : decode cX12_end 18 = .ok (.ireturn, 1) := by decide +kernel
theorem dX12_end_19 : decode cX12_end 19 = .ok (.aload_n 0, 1) := by decide +kernel
theorem dX12_end_20 : decode cX12_end 20 = .ok (.iload_n 1, 1) := by decide +kernel
theorem dX12_end_21 : decode cX12_end 21 = .ok (.putfield 82, 3) := by decide +kernel
theorem dX12_end_24 : decode cX12_end 24 = .ok (.iconst 1, 1) := by decide +kernel
theorem dX12_end_25 : decode cX12_end 25 = .ok (.ireturn, 1) := by decide +kernel
theorem dX12_letter_0 : decode cX12_letter 0 = .ok (.aload_n 0, 1) := by decide +kernel
theorem dX12_letter_1 : decode cX12_letter 1 = .ok (.getfield 85, 3) := by decide +kernel
theorem dX12_letter_4 : decode cX12_letter 4 = .ok (.iconst (-1), 1) := by decide +kernel
theorem dX12_letter_5 : decode cX12_letter 5 = .ok (.if_icmp .ne 12, 3) := by decide +kernel
theorem dX12_letter_8 : decode cX12_letter 8 = .ok (.aload_n 0, 1) := by decide +kernel
theorem dX12_letter_9 : decode cX12_letter 9 = .ok (.getfield 19, 3) := by decide +kernel
theorem dX12_letter_12 : decode cX12_letter 12 = .ok (.iload_n 1, 1) := by decide +kernel
theorem dX12_letter_13 : decode cX12_letter 13 = .ok (.iaload, 1) := by decide +kernel
theorem dX12_letter_14 : decode cX12_letter 14 = .ok (.goto 14, 3) := by decide +kernel
theorem dX12_letter_17 : decode cX12_letter 17 = .ok (.aload_n 0, 1) := by decide +kernel
theorem dX12_letter_18 : decode cX12_letter 18 = .ok (.getfield 7, 3) := by decide +kernel
theorem dX12_letter_21 : decode cX12_letter 21 = .ok (.aload_n 0, 1) := by decide +kernel
theorem dX12_letter_22 : decode cX12_letter 22 = .ok (.getfield 85, 3) := by decide +kernel
theorem dX12_letter_25 : decode cX12_letter 25 = .ok (.iload_n 1, 1) := by decide +kernel
theorem dX12_letter_26 : decode cX12_letter 26 = .ok (.iadd, 1) := by decide +kernel
theorem dX12_letter_27 : decode cX12_letter 27 = .ok (.iaload, 1) := by decide +kernel
theorem dX12_letter_28 : decode cX12_letter 28 = .ok (.ireturn, 1) := by decide +kernel
theorem dX12_skip_0 : decode cX12_skip 0 = .ok (.aload_n 0, 1) := by decide +kernel
theorem dX12_skip_1 : decode cX12_skip 1 = .ok (.getfield 88, 3) := by decide +kernel
theorem dX12_skip_4 : decode cX12_skip 4 = .ok (.aload_n 0, 1) := by decide +kernel
theorem dX12_skip_5 : decode cX12_skip 5 = .ok (.getfield 91, 3) := by decide +kernel
theorem dX12_skip_8 : decode cX12_skip 8 = .ok (.if_icmp .ge 29, 3) := by decide +kernel
theorem dX12_skip_11 : decode cX12_skip 11 = .ok (.aload_n 0, 1) := by decide +kernel
theorem dX12_skip_12 : decode cX12_skip 12 = .ok (.aload_n 0, 1) := by decide +kernel
theorem dX12_skip_13 : decode cX12_skip 13 = .ok (.getfield 88, 3) := by decide +kernel
theorem dX12_skip_16 : decode cX12_skip 16 = .ok (.invokevirtual 94, 3) := by decide +kernel
theorem dX12_skip_19 : decode cX12_skip 19 = .ok (.bipush 32, 2) := by decide +kernel
theorem dX12_skip_21 : decode cX12_skip 21 = .ok (.if_icmp .ne 16, 3) := by decide +kernel
theorem dX12_skip_24 : decode cX12_skip 24 = .ok (.aload_n 0, 1) := by decide +kernel
theorem dX12_skip_25 : decode cX12_skip 25 = .ok (.dup, 1) := by decide +kernel
theorem dX12_skip_26 : decode cX12_skip 26 = .ok (.getfield 88, 3) := by decide +kernel
theorem dX12_skip_29 : decode cX12_skip 29 = .ok (.iconst 1, 1) := by decide +kernel
theorem dX12_skip_30 : decode cX12_skip 30 = .ok (.iadd, 1) := by decide +kernel
theorem dX12_skip_31 : decode cX12_skip 31 = .ok (.putfield 88, 3) := by decide +kernel
theorem dX12_skip_34 : decode cX12_skip 34 = .ok (.goto (-34), 3) := by decide +kernel
theorem dX12_skip_37 : decode cX12_skip 37 = .ok (.return_, 1) := by decide +kernel
theorem dX12_isSign_0 : decode cX12_isSign 0 = .ok (.aload_n 0, 1) := by decide +kernel
theorem dX12_isSign_1 : decode cX12_isSign 1 = .ok (.invokevirtual 97, 3) := by decide +kernel
theorem dX12_isSign_4 : decode cX12_isSign 4 = .ok (.aload_n 0, 1) := by decide +kernel
theorem dX12_isSign_5 : decode cX12_isSign 5 = .ok (.getfield 88, 3) := by decide +kernel
theorem dX12_isSign_8 : decode cX12_isSign 8 = .ok (.aload_n 0, 1) := by decide +kernel
theorem dX12_isSign_9 : decode cX12_isSign 9 = .ok (.getfield 91, 3) := by decide +kernel
theorem dX12_isSign_12 : decode cX12_isSign 12 = .ok (.if_icmp .ge 19, 3) := by decide +kernel
theorem dX12_isSign_15 : decode cX12_isSign 15 = .ok (.aload_n 0, 1) := by decide +kernel
theorem dX12_isSign_16 : decode cX12_isSign 16 = .ok (.aload_n 0, 1) := by decide +kernel
theorem dX12_isSign_17 : decode cX12_isSign 17 = .ok (.getfield 88, 3) := by decide +kernel
theorem dX12_isSign_20 : decode cX12_isSign 20 = .ok (.invokevirtual 94, 3) := by decide +kernel
theorem dX12_isSign_23 : decode cX12_isSign 23 = .ok (.iload_n 1, 1) := by decide +kernel
theorem dX12_isSign_24 : decode cX12_isSign 24 = .ok (.if_icmp .ne 7, 3) := by decide +kernel
theorem dX12_isSign_27 : decode cX12_isSign 27 = .ok (.iconst 1, 1) := by decide +kernel
theorem dX12_isSign_28 : decode cX12_isSign 28 = .ok (.goto 4, 3) := by decide +kernel
theorem dX12_isSign_31 : decode cX12_isSign 31 = .ok (.iconst 0, 1) := by decide +kernel
theorem dX12_isSign_32 : decode cX12_isSign 32 = .ok (.ireturn, 1) := by decide +kernel
theorem dX12_has_0 : decode cX12_has 0 = .ok (.aload_n 0, 1) := by decide +kernel
theorem dX12_has_1 : decode cX12_has 1 = .ok (.invokevirtual 97, 3) := by decide +kernel
theorem dX12_has_4 : decode cX12_has 4 = .ok (.aload_n 0, 1) := by decide +kernel
theorem dX12_has_5 : decode cX12_has 5 = .ok (.getfield 88, 3) := by decide +kernel
theorem dX12_has_8 : decode cX12_has 8 = .ok (.istore_n 2, 1) := by decide +kernel
theorem dX12_has_9 : decode cX12_has 9 = .ok (.iload_n 2, 1) := by decide +kernel
