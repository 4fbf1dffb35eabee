theorem dX6_readLine_65 : decode cX6_readLine 65 = .ok (.ireturn, 1) := by decide +kernel
theorem dX6_kindOf_0 : decode cX6_kindOf 0 = .ok (.aload_n 0, 1) := by decide +kernel
theorem dX6_kindOf_1 : decode cX6_kindOf 1 = .ok (.getstatic 71, 3) := by decide +kernel
theorem dX6_kindOf_4 : decode cX6_kindOf 4 = .ok (.if_acmp .ne 5, 3) := by decide +kernel
theorem dX6_kindOf_7 : decode cX6_kindOf 7 = .ok (.iconst 0, 1) := by decide +kernel
theorem dX6_kindOf_8 : decode cX6_kindOf 8 = .ok (.ireturn, 1) := by decide +kernel
theorem dX6_kindOf_9 : decode cX6_kindOf 9 = .ok (.aload_n 0, 1) := by decide +kernel
theorem dX6_kindOf_10 : decode cX6_kindOf 10 = .ok (.getstatic 76, 3) := by decide +kernel
theorem dX6_kindOf_13 : decode cX6_kindOf 13 = .ok (.if_acmp .ne 5, 3) := by decide +kernel
theorem dX6_kindOf_16 : decode cX6_kindOf 16 = .ok (.iconst 1, 1) := by decide +kernel
theorem dX6_kindOf_17 : decode cX6_kindOf 17 = .ok (.ireturn, 1) := by decide +kernel
theorem dX6_kindOf_18 : decode cX6_kindOf 18 = .ok (.aload_n 0, 1) := by decide +kernel
theorem dX6_kindOf_19 : decode cX6_kindOf 19 = .ok (.getstatic 79, 3) := by decide +kernel
theorem dX6_kindOf_22 : decode cX6_kindOf 22 = .ok (.if_acmp .ne 5, 3) := by decide +kernel
theorem dX6_kindOf_25 : decode cX6_kindOf 25 = .ok (.iconst 2, 1) := by decide +kernel
theorem dX6_kindOf_26 : decode cX6_kindOf 26 = .ok (.ireturn, 1) := by decide +kernel
theorem dX6_kindOf_27 : decode cX6_kindOf 27 = .ok (.aload_n 0, 1) := by decide +kernel
theorem dX6_kindOf_28 : decode cX6_kindOf 28 = .ok (.getstatic 82, 3) := by decide +kernel
theorem dX6_kindOf_31 : decode cX6_kindOf 31 = .ok (.if_acmp .ne 7, 3) := by decide +kernel
theorem dX6_kindOf_34 : decode cX6_kindOf 34 = .ok (.iconst 3, 1) := by decide +kernel
theorem dX6_kindOf_35 : decode cX6_kindOf 35 = .ok (.goto 4, 3) := by decide +kernel
theorem dX6_kindOf_38 : decode cX6_kindOf 38 = .ok (.iconst (-1), 1) := by decide +kernel
theorem dX6_kindOf_39 : decode cX6_kindOf 39 = .ok (.ireturn, 1) := by decide +kernel
theorem dX6_readBeing_0 : decode cX6_readBeing 0 = .ok (.aload_n 0, 1) := by decide +kernel
theorem dX6_readBeing_1 : decode cX6_readBeing 1 = .ok (.getfield 15, 3) := by decide +kernel
theorem dX6_readBeing_4 : decode cX6_readBeing 4 = .ok (.getfield 85, 3) := by decide +kernel
theorem dX6_readBeing_7 : decode cX6_readBeing 7 = .ok (.bipush 10, 2) := by decide +kernel
theorem dX6_readBeing_9 : decode cX6_readBeing 9 = .ok (.if_icmp .lt 5, 3) := by decide +kernel
theorem dX6_readBeing_12 : decode cX6_readBeing 12 = .ok (.iconst 0, 1) := by decide +kernel
theorem dX6_readBeing_13 : decode cX6_readBeing 13 = .ok (.ireturn, 1) := by decide +kernel
theorem dX6_readBeing_14 : decode cX6_readBeing 14 = .ok (.aload_n 0, 1) := by decide +kernel
theorem dX6_readBeing_15 : decode cX6_readBeing 15 = .ok (.getfield 9, 3) := by decide +kernel
theorem dX6_readBeing_18 : decode cX6_readBeing 18 = .ok (.invokevirtual 89, 3) := by decide +kernel
theorem dX6_readBeing_21 : decode cX6_readBeing 21 = .ok (.iload_n 1, 1) := by decide +kernel
theorem dX6_readBeing_22 : decode cX6_readBeing 22 = .ok (.ifCond .eq 8, 3) := by decide +kernel
theorem dX6_readBeing_25 : decode cX6_readBeing 25 = .ok (.iload_n 1, 1) := by decide +kernel
theorem dX6_readBeing_26 : decode cX6_readBeing 26 = .ok (.iconst 1, 1) := by decide +kernel
theorem dX6_readBeing_27 : decode cX6_readBeing 27 = .ok (.if_icmp .ne 7, 3) := by decide +kernel
theorem dX6_readBeing_30 : decode cX6_readBeing 30 = .ok (.iconst 1, 1) := by decide +kernel
theorem dX6_readBeing_31 : decode cX6_readBeing 31 = .ok (.goto 4, 3) := by decide +kernel
theorem dX6_readBeing_34 : decode cX6_readBeing 34 = .ok (.iconst 0, 1) := by decide +kernel
theorem dX6_readBeing_35 : decode cX6_readBeing 35 = .ok (.istore_n 2, 1) := by decide +kernel
theorem dX6_readBeing_36 : decode cX6_readBeing 36 = .ok (.iload_n 2, 1) := by decide +kernel
theorem dX6_readBeing_37 : decode cX6_readBeing 37 = .ok (.ifCond .eq 13, 3) := by decide +kernel
theorem dX6_readBeing_40 : decode cX6_readBeing 40 = .ok (.aload_n 0, 1) := by decide +kernel
theorem dX6_readBeing_41 : decode cX6_readBeing 41 = .ok (.iconst 0, 1) := by decide +kernel
theorem dX6_readBeing_42 : decode cX6_readBeing 42 = .ok (.bipush 9, 2) := by decide +kernel
theorem dX6_readBeing_44 : decode cX6_readBeing 44 = .ok (.invokevirtual 92, 3) := by decide +kernel
theorem dX6_readBeing_47 : decode cX6_readBeing 47 = .ok (.goto 4, 3) := by decide +kernel
theorem dX6_readBeing_50 : decode cX6_readBeing 50 = .ok (.iconst 0, 1) := by decide +kernel
theorem dX6_readBeing_51 : decode cX6_readBeing 51 = .ok (.istore_n 3, 1) := by decide +kernel
theorem dX6_readBeing_52 : decode cX6_readBeing 52 = .ok (.iload_n 3, 1) := by decide +kernel
theorem dX6_readBeing_53 : decode cX6_readBeing 53 = .ok (.iconst (-1), 1) := by decide +kernel
theorem dX6_readBeing_54 : decode cX6_readBeing 54 = .ok (.if_icmp .ne 5, 3) := by decide +kernel
theorem dX6_readBeing_57 : decode cX6_readBeing 57 = .ok (.iconst 0, 1) := by decide +kernel
theorem dX6_readBeing_58 : decode cX6_readBeing 58 = .ok (.ireturn, 1) := by decide +kernel
theorem dX6_readBeing_59 : decode cX6_readBeing 59 = .ok (.aload_n 0, 1) := by decide +kernel
theorem dX6_readBeing_60 : decode cX6_readBeing 60 = .ok (.iconst 1, 1) := by decide +kernel
theorem dX6_readBeing_61 : decode cX6_readBeing 61 = .ok (.bipush 99, 2) := by decide +kernel
theorem dX6_readBeing_63 : decode cX6_readBeing 63 = .ok (.invokevirtual 92, 3) := by decide +kernel
theorem dX6_readBeing_66 : decode cX6_readBeing 66 = .ok (.istore 4, 2) := by decide +kernel
theorem dX6_readBeing_68 : decode cX6_readBeing 68 = .ok (.iload 4, 2) := by decide +kernel
theorem dX6_readBeing_70 : decode cX6_readBeing 70 = .ok (.iconst (-1), 1) := by decide +kernel
theorem dX6_readBeing_71 : decode cX6_readBeing 71 = .ok (.if_icmp .ne 5, 3) := by decide +kernel
theorem dX6_readBeing_74 : decode cX6_readBeing 74 = .ok (.iconst 0, 1) := by decide +kernel
theorem dX6_readBeing_75 : decode cX6_readBeing 75 = .ok (.ireturn, 1) := by decide +kernel
theorem dX6_readBeing_76 : decode cX6_readBeing 76 = .ok (.iload_n 2, 1) := by decide +kernel
theorem dX6_readBeing_77 : decode cX6_readBeing 77 = .ok (.ifCond .eq 20, 3) := by decide +kernel
theorem dX6_readBeing_80 : decode cX6_readBeing 80 = .ok (.aload_n 0, 1) := by decide +kernel
theorem dX6_readBeing_81 : decode cX6_readBeing 81 = .ok (.getfield 9, 3) := by decide +kernel
theorem dX6_readBeing_84 : decode cX6_readBeing 84 = .ok (.getstatic 96, 3) := by decide +kernel
theorem dX6_readBeing_87 : decode cX6_readBeing 87 = .ok (.invokevirtual 38, 3) := by decide +kernel
theorem dX6_readBeing_90 : decode cX6_readBeing 90 = .ok (.ifCond .eq 7, 3) := by decide +kernel
theorem dX6_readBeing_93 : decode cX6_readBeing 93 = .ok (.iconst 1, 1) := by decide +kernel
theorem dX6_readBeing_94 : decode cX6_readBeing 94 = .ok (.goto 4, 3) := by decide +kernel
theorem dX6_readBeing_97 : decode cX6_readBeing 97 = .ok (.iconst 0, 1) := by decide +kernel
theorem dX6_readBeing_98 : decode cX6_readBeing 98 = .ok (.istore 5, 2) := by decide +kernel
theorem dX6_readBeing_100 : decode cX6_readBeing 100 = .ok (.aload_n 0, 1) := by decide +kernel
theorem dX6_readBeing_101 : decode cX6_readBeing 101 = .ok (.getfield 15, 3) := by decide +kernel
theorem dX6_readBeing_104 : decode cX6_readBeing 104 = .ok (.iload_n 1, 1) := by decide +kernel
theorem dX6_readBeing_105 : decode cX6_readBeing 105 = .ok (.iload_n 3, 1) := by decide +kernel
theorem dX6_readBeing_106 : decode cX6_readBeing 106 = .ok (.iload 4, 2) := by decide +kernel
theorem dX6_readBeing_108 : decode cX6_readBeing 108 = .ok (.iload 5, 2) := by decide +kernel
theorem dX6_readBeing_110 : decode cX6_readBeing 110 = .ok (.invokevirtual 99, 3) := by decide +kernel
theorem dX6_readBeing_113 : decode cX6_readBeing 113 = .ok (.ireturn, 1) := by decide +kernel
theorem dX6_readApart_0 : decode cX6_readApart 0 = .ok (.aload_n 0, 1) := by decide +kernel
theorem dX6_readApart_1 : decode cX6_readApart 1 = .ok (.getfield 15, 3) := by decide +kernel
theorem dX6_readApart_4 : decode cX6_readApart 4 = .ok (.getfield 103, 3) := by decide +kernel
theorem dX6_readApart_7 : decode cX6_readApart 7 = .ok (.bipush 12, 2) := by decide +kernel
theorem dX6_readApart_9 : decode cX6_readApart 9 = .ok (.if_icmp .lt 5, 3) := by decide +kernel
theorem dX6_readApart_12 : decode cX6_readApart 12 = .ok (.iconst 0, 1) := by decide +kernel
theorem dX6_readApart_13 : decode cX6_readApart 13 = .ok (.ireturn, 1) := by decide +kernel
theorem dX6_readApart_14 : decode cX6_readApart 14 = .ok (.aload_n 0, 1) := by decide +kernel
theorem dX6_readApart_15 : decode cX6_readApart 15 = .ok (.getfield 9, 3) := by decide +kernel
theorem dX6_readApart_18 : decode cX6_readApart 18 = .ok (.invokevirtual 89, 3) := by decide +kernel
theorem dX6_readApart_21 : decode cX6_readApart 21 = .ok (.aload_n 0, 1) := by decide +kernel
theorem dX6_readApart_22 : decode cX6_readApart 22 = .ok (.iconst 0, 1) := by decide +kernel
theorem dX6_readApart_23 : decode cX6_readApart 23 = .ok (.invokevirtual 106, 3) := by decide +kernel
theorem dX6_readApart_26 : decode cX6_readApart 26 = .ok (.istore_n 1, 1) := by decide +kernel
theorem dX6_readApart_27 : decode cX6_readApart 27 = .ok (.iload_n 1, 1) := by decide +kernel
theorem dX6_readApart_28 : decode cX6_readApart 28 = .ok (.iconst (-1), 1) := by decide +kernel
theorem dX6_readApart_29 : decode cX6_readApart 29 = .ok (.if_icmp .ne 5, 3) := by decide +kernel
theorem dX6_readApart_32 : decode cX6_readApart 32 = .ok (.iconst 0, 1) := by decide +kernel
theorem dX6_readApart_33 : decode cX6_readApart 33 = .ok (.ireturn, 1) := by decide +kernel
theorem dX6_readApart_34 : decode cX6_readApart 34 = .ok (.aload_n 0, 1) := by decide +kernel
theorem dX6_readApart_35 : decode cX6_readApart 35 = .ok (.iconst 1, 1) := by decide +kernel
theorem dX6_readApart_36 : decode cX6_readApart 36 = .ok (.iload_n 1, 1) := by decide +kernel
theorem dX6_readApart_37 : decode cX6_readApart 37 = .ok (.ishl, 1) := by decide +kernel
theorem dX6_readApart_38 : decode cX6_readApart 38 = .ok (.invokevirtual 106, 3) := by decide +kernel
theorem dX6_readApart_41 : decode cX6_readApart 41 = .ok (.istore_n 2, 1) := by decide +kernel
theorem dX6_readApart_42 : decode cX6_readApart 42 = .ok (.iload_n 2, 1) := by decide +kernel
theorem dX6_readApart_43 : decode cX6_readApart 43 = .ok (.iconst (-1), 1) := by decide +kernel
theorem dX6_readApart_44 : decode cX6_readApart 44 = .ok (.if_icmp .ne 5, 3) := by decide +kernel
theorem dX6_readApart_47 : decode cX6_readApart 47 = .ok (.iconst 0, 1) := by decide +kernel
theorem dX6_readApart_48 : decode cX6_readApart 48 = .ok (.ireturn, 1) := by decide +kernel
theorem dX6_readApart_49 : decode cX6_readApart 49 = .ok (.iconst 1, 1) := by decide +kernel
theorem dX6_readApart_50 : decode cX6_readApart 50 = .ok (.iload_n 1, 1) := by decide +kernel
theorem dX6_readApart_51 : decode cX6_readApart 51 = .ok (.ishl, 1) := by decide +kernel
theorem dX6_readApart_52 : decode cX6_readApart 52 = .ok (.iconst 1, 1) := by decide +kernel
theorem dX6_readApart_53 : decode cX6_readApart 53 = .ok (.iload_n 2, 1) := by decide +kernel
theorem dX6_readApart_54 : decode cX6_readApart 54 = .ok (.ishl, 1) := by decide +kernel
theorem dX6_readApart_55 : decode cX6_readApart 55 = .ok (.ior, 1) := by decide +kernel
theorem dX6_readApart_56 : decode cX6_readApart 56 = .ok (.istore_n 3, 1) := by decide +kernel
theorem dX6_readApart_57 : decode cX6_readApart 57 = .ok (.aload_n 0, 1) := by decide +kernel
theorem dX6_readApart_58 : decode cX6_readApart 58 = .ok (.getfield 9, 3) := by decide +kernel
theorem dX6_readApart_61 : decode cX6_readApart 61 = .ok (.getstatic 110, 3) := by decide +kernel
theorem dX6_readApart_64 : decode cX6_readApart 64 = .ok (.invokevirtual 38, 3) := by decide +kernel
theorem dX6_readApart_67 : decode cX6_readApart 67 = .ok (.ifCond .ne 13, 3) := by decide +kernel
theorem dX6_readApart_70 : decode cX6_readApart 70 = .ok (.aload_n 0, 1) := by decide +kernel
theorem dX6_readApart_71 : decode cX6_readApart 71 = .ok (.getfield 15, 3) := by decide +kernel
theorem dX6_readApart_74 : decode cX6_readApart 74 = .ok (.iload_n 3, 1) := by decide +kernel
theorem dX6_readApart_75 : decode cX6_readApart 75 = .ok (.iconst 0, 1) := by decide +kernel
theorem dX6_readApart_76 : decode cX6_readApart 76 = .ok (.invokevirtual 113, 3) := by decide +kernel
theorem dX6_readApart_79 : decode cX6_readApart 79 = .ok (.ireturn, 1) := by decide +kernel
theorem dX6_readApart_80 : decode cX6_readApart 80 = .ok (.aload_n 0, 1) := by decide +kernel
theorem dX6_readApart_81 : decode cX6_readApart 81 = .ok (.iload_n 3, 1) := by decide +kernel
theorem dX6_readApart_82 : decode cX6_readApart 82 = .ok (.invokevirtual 106, 3) := by decide +kernel
theorem dX6_readApart_85 : decode cX6_readApart 85 = .ok (.istore 4, 2) := by decide +kernel
theorem dX6_readApart_87 : decode cX6_readApart 87 = .ok (.iload 4, 2) := by decide +kernel
theorem dX6_readApart_89 : decode cX6_readApart 89 = .ok (.iconst (-1), 1) := by decide +kernel
theorem dX6_readApart_90 : decode cX6_readApart 90 = .ok (.if_icmp .eq 22, 3) := by decide +kernel
theorem dX6_readApart_93 : decode cX6_readApart 93 = .ok (.aload_n 0, 1) := by decide +kernel
theorem dX6_readApart_94 : decode cX6_readApart 94 = .ok (.getfield 15, 3) := by decide +kernel
theorem dX6_readApart_97 : decode cX6_readApart 97 = .ok (.iload_n 3, 1) := by decide +kernel
theorem dX6_readApart_98 : decode cX6_readApart 98 = .ok (.iconst 1, 1) := by decide +kernel
theorem dX6_readApart_99 : decode cX6_readApart 99 = .ok (.iload 4, 2) := by decide +kernel
theorem dX6_readApart_101 : decode cX6_readApart 101 = .ok (.ishl, 1) := by decide +kernel
theorem dX6_readApart_102 : decode cX6_readApart 102 = .ok (.invokevirtual 113, 3) := by decide +kernel
theorem dX6_readApart_105 : decode cX6_readApart 105 = .ok (.ifCond .eq 7, 3) := by decide +kernel
theorem dX6_readApart_108 : decode cX6_readApart 108 = .ok (.iconst 1, 1) := by decide +kernel
theorem dX6_readApart_109 : decode cX6_readApart 109 = .ok (.goto 4, 3) := by decide +kernel
theorem dX6_readApart_112 : decode cX6_readApart 112 = .ok (.iconst 0, 1) := by decide +kernel
theorem dX6_readApart_113 : decode cX6_readApart 113 = .ok (.ireturn, 1) := by decide +kernel
theorem dX6_readWith_0 : decode cX6_readWith 0 = .ok (.aload_n 0, 1) := by decide +kernel
theorem dX6_readWith_1 : decode cX6_readWith 1 = .ok (.getfield 15, 3) := by decide +kernel
theorem dX6_readWith_4 : decode cX6_readWith 4 = .ok (.getfield 117, 3) := by decide +kernel
theorem dX6_readWith_7 : decode cX6_readWith 7 = .ok (.bipush 12, 2) := by decide +kernel
theorem dX6_readWith_9 : decode cX6_readWith 9 = .ok (.if_icmp .lt 5, 3) := by decide +kernel
theorem dX6_readWith_12 : decode cX6_readWith 12 = .ok (.iconst 0, 1) := by decide +kernel
theorem dX6_readWith_13 : decode cX6_readWith 13 = .ok (.ireturn, 1) := by decide +kernel
theorem dX6_readWith_14 : decode cX6_readWith 14 = .ok (.aload_n 0, 1) := by decide +kernel
theorem dX6_readWith_15 : decode cX6_readWith 15 = .ok (.getfield 9, 3) := by decide +kernel
theorem dX6_readWith_18 : decode cX6_readWith 18 = .ok (.invokevirtual 89, 3) := by decide +kernel
theorem dX6_readWith_21 : decode cX6_readWith 21 = .ok (.aload_n 0, 1) := by decide +kernel
theorem dX6_readWith_22 : decode cX6_readWith 22 = .ok (.iconst 0, 1) := by decide +kernel
theorem dX6_readWith_23 : decode cX6_readWith 23 = .ok (.invokevirtual 106, 3) := by decide +kernel
theorem dX6_readWith_26 : decode cX6_readWith 26 = .ok (.istore_n 1, 1) := by decide +kernel
theorem dX6_readWith_27 : decode cX6_readWith 27 = .ok (.iload_n 1, 1) := by decide +kernel
theorem dX6_readWith_28 : decode cX6_readWith 28 = .ok (.iconst (-1), 1) := by decide +kernel
theorem dX6_readWith_29 : decode cX6_readWith 29 = .ok (.if_icmp .ne 5, 3) := by decide +kernel
theorem dX6_readWith_32 : decode cX6_readWith 32 = .ok (.iconst 0, 1) := by decide +kernel
theorem dX6_readWith_33 : decode cX6_readWith 33 = .ok (.ireturn, 1) := by decide +kernel
theorem dX6_readWith_34 : decode cX6_readWith 34 = .ok (.aload_n 0, 1) := by decide +kernel
theorem dX6_readWith_35 : decode cX6_readWith 35 = .ok (.iconst 1, 1) := by decide +kernel
theorem dX6_readWith_36 : decode cX6_readWith 36 = .ok (.iload_n 1, 1) := by decide +kernel
theorem dX6_readWith_37 : decode cX6_readWith 37 = .ok (.ishl, 1) := by decide +kernel
theorem dX6_readWith_38 : decode cX6_readWith 38 = .ok (.invokevirtual 106, 3) := by decide +kernel
theorem dX6_readWith_41 : decode cX6_readWith 41 = .ok (.istore_n 2, 1) := by decide +kernel
theorem dX6_readWith_42 : decode cX6_readWith 42 = .ok (.iload_n 2, 1) := by decide +kernel
theorem dX6_readWith_43 : decode cX6_readWith 43 = .ok (.iconst (-1), 1) := by decide +kernel
theorem dX6_readWith_44 : decode cX6_readWith 44 = .ok (.if_icmp .eq 19, 3) := by decide +kernel
theorem dX6_readWith_47 : decode cX6_readWith 47 = .ok (.aload_n 0, 1) := by decide +kernel
theorem dX6_readWith_48 : decode cX6_readWith 48 = .ok (.getfield 15, 3) := by decide +kernel
theorem dX6_readWith_51 : decode cX6_readWith 51 = .ok (.iload_n 1, 1) := by decide +kernel
theorem dX6_readWith_52 : decode cX6_readWith 52 = .ok (.iload_n 2, 1) := by decide +kernel
theorem dX6_readWith_53 : decode cX6_readWith 53 = .ok (.invokevirtual 120, 3) := by decide +kernel
theorem dX6_readWith_56 : decode cX6_readWith 56 = .ok (.ifCond .eq 7, 3) := by decide +kernel
theorem dX6_readWith_59 : decode cX6_readWith 59 = .ok (.iconst 1, 1) := by decide +kernel
theorem dX6_readWith_60 : decode cX6_readWith 60 = .ok (.goto 4, 3) := by decide +kernel
theorem dX6_readWith_63 : decode cX6_readWith 63 = .ok (.iconst 0, 1) := by decide +kernel
theorem dX6_readWith_64 : decode cX6_readWith 64 = .ok (.ireturn, 1) := by decide +kernel
theorem dX6_readStream_0 : decode cX6_readStream 0 = .ok (.aload_n 0, 1) := by decide +kernel
theorem dX6_readStream_1 : decode cX6_readStream 1 = .ok (.getfield 9, 3) := by decide +kernel
theorem dX6_readStream_4 : decode cX6_readStream 4 = .ok (.invokevirtual 89, 3) := by decide +kernel
theorem dX6_readStream_7 : decode cX6_readStream 7 = .ok (.aload_n 0, 1) := by decide +kernel
theorem dX6_readStream_8 : decode cX6_readStream 8 = .ok (.iconst 0, 1) := by decide +kernel
theorem dX6_readStream_9 : decode cX6_readStream 9 = .ok (.bipush 23, 2) := by decide +kernel
theorem dX6_readStream_11 : decode cX6_readStream 11 = .ok (.invokevirtual 92, 3) := by decide +kernel
theorem dX6_readStream_14 : decode cX6_readStream 14 = .ok (.istore_n 1, 1) := by decide +kernel
theorem dX6_readStream_15 : decode cX6_readStream 15 = .ok (.iload_n 1, 1) := by decide +kernel
theorem dX6_readStream_16 : decode cX6_readStream 16 = .ok (.iconst (-1), 1) := by decide +kernel
theorem dX6_readStream_17 : decode cX6_readStream 17 = .ok (.if_icmp .ne 5, 3) := by decide +kernel
theorem dX6_readStream_20 : decode cX6_readStream 20 = .ok (.iconst 0, 1) := by decide +kernel
theorem dX6_readStream_21 : decode cX6_readStream 21 = .ok (.ireturn, 1) := by decide +kernel
theorem dX6_readStream_22 : decode cX6_readStream 22 = .ok (.aload_n 0, 1) := by decide +kernel
theorem dX6_readStream_23 : decode cX6_readStream 23 = .ok (.iconst 0, 1) := by decide +kernel
theorem dX6_readStream_24 : decode cX6_readStream 24 = .ok (.bipush 9, 2) := by decide +kernel
theorem dX6_readStream_26 : decode cX6_readStream 26 = .ok (.invokevirtual 92, 3) := by decide +kernel
theorem dX6_readStream_29 : decode cX6_readStream 29 = .ok (.istore_n 2, 1) := by decide +kernel
theorem dX6_readStream_30 : decode cX6_readStream 30 = .ok (.iload_n 2, 1) := by decide +kernel
theorem dX6_readStream_31 : decode cX6_readStream 31 = .ok (.iconst (-1), 1) := by decide +kernel
theorem dX6_readStream_32 : decode cX6_readStream 32 = .ok (.if_icmp .ne 5, 3) := by decide +kernel
theorem dX6_readStream_35 : decode cX6_readStream 35 = .ok (.iconst 0, 1) := by decide +kernel
theorem dX6_readStream_36 : decode cX6_readStream 36 = .ok (.ireturn, 1) := by decide +kernel
theorem dX6_readStream_37 : decode cX6_readStream 37 = .ok (.aload_n 0, 1) := by decide +kernel
theorem dX6_readStream_38 : decode cX6_readStream 38 = .ok (.getfield 15, 3) := by decide +kernel
theorem dX6_readStream_41 : decode cX6_readStream 41 = .ok (.iload_n 1, 1) := by decide +kernel
theorem dX6_readStream_42 : decode cX6_readStream 42 = .ok (.iload_n 2, 1) := by decide +kernel
theorem dX6_readStream_43 : decode cX6_readStream 43 = .ok (.invokevirtual 123, 3) := by decide +kernel
theorem dX6_readStream_46 : decode cX6_readStream 46 = .ok (.iconst 1, 1) := by decide +kernel
theorem dX6_readStream_47 : decode cX6_readStream 47 = .ok (.ireturn, 1) := by decide +kernel
theorem dX6_readMeasure_0 : decode cX6_readMeasure 0 = .ok (.aload_n 1, 1) := by decide +kernel
theorem dX6_readMeasure_1 : decode cX6_readMeasure 1 = .ok (.getstatic 127, 3) := by decide +kernel
theorem dX6_readMeasure_4 : decode cX6_readMeasure 4 = .ok (.if_acmp .ne 7, 3) := by decide +kernel
theorem dX6_readMeasure_7 : decode cX6_readMeasure 7 = .ok (.iconst 1, 1) := by decide +kernel
theorem dX6_readMeasure_8 : decode cX6_readMeasure 8 = .ok (.goto 4, 3) := by decide +kernel
theorem dX6_readMeasure_11 : decode cX6_readMeasure 11 = .ok (.iconst 0, 1) := by decide +kernel
theorem dX6_readMeasure_12 : decode cX6_readMeasure 12 = .ok (.istore_n 2, 1) := by decide +kernel
theorem dX6_readMeasure_13 : decode cX6_readMeasure 13 = .ok (.aload_n 1, 1) := by decide +kernel
theorem dX6_readMeasure_14 : decode cX6_readMeasure 14 = .ok (.getstatic 130, 3) := by decide +kernel
theorem dX6_readMeasure_17 : decode cX6_readMeasure 17 = .ok (.if_acmp .ne 7, 3) := by decide +kernel
theorem dX6_readMeasure_20 : decode cX6_readMeasure 20 = .ok (.iconst 1, 1) := by decide +kernel
theorem dX6_readMeasure_21 : decode cX6_readMeasure 21 = .ok (.goto 4, 3) := by decide +kernel
theorem dX6_readMeasure_24 : decode cX6_readMeasure 24 = .ok (.iconst 0, 1) := by decide +kernel
theorem dX6_readMeasure_25 : decode cX6_readMeasure 25 = .ok (.istore_n 3, 1) := by decide +kernel
theorem dX6_readMeasure_26 : decode cX6_readMeasure 26 = .ok (.iload_n 2, 1) := by decide +kernel
theorem dX6_readMeasure_27 : decode cX6_readMeasure 27 = .ok (.ifCond .ne 16, 3) := by decide +kernel
theorem dX6_readMeasure_30 : decode cX6_readMeasure 30 = .ok (.iload_n 3, 1) := by decide +kernel
theorem dX6_readMeasure_31 : decode cX6_readMeasure 31 = .ok (.ifCond .ne 12, 3) := by decide +kernel
theorem dX6_readMeasure_34 : decode cX6_readMeasure 34 = .ok (.aload_n 1, 1) := by decide +kernel
theorem dX6_readMeasure_35 : decode cX6_readMeasure 35 = .ok (.getstatic 133, 3) := by decide +kernel
theorem dX6_readMeasure_38 : decode cX6_readMeasure 38 = .ok (.if_acmp .eq 5, 3) := by decide +kernel
theorem dX6_readMeasure_41 : decode cX6_readMeasure 41 = .ok (.iconst 0, 1) := by decide +kernel
theorem dX6_readMeasure_42 : decode cX6_readMeasure 42 = .ok (.ireturn, 1) := by decide +kernel
theorem dX6_readMeasure_43 : decode cX6_readMeasure 43 = .ok (.aload_n 0, 1) := by decide +kernel
theorem dX6_readMeasure_44 : decode cX6_readMeasure 44 = .ok (.getfield 9, 3) := by decide +kernel
theorem dX6_readMeasure_47 : decode cX6_readMeasure 47 = .ok (.invokevirtual 89, 3) := by decide +kernel
theorem dX6_readMeasure_50 : decode cX6_readMeasure 50 = .ok (.iload_n 2, 1) := by decide +kernel
theorem dX6_readMeasure_51 : decode cX6_readMeasure 51 = .ok (.ifCond .eq 14, 3) := by decide +kernel
theorem dX6_readMeasure_54 : decode cX6_readMeasure 54 = .ok (.aload_n 0, 1) := by decide +kernel
theorem dX6_readMeasure_55 : decode cX6_readMeasure 55 = .ok (.iconst 1, 1) := by decide +kernel
theorem dX6_readMeasure_56 : decode cX6_readMeasure 56 = .ok (.sipush 999, 3) := by decide +kernel
theorem dX6_readMeasure_59 : decode cX6_readMeasure 59 = .ok (.invokevirtual 92, 3) := by decide +kernel
theorem dX6_readMeasure_62 : decode cX6_readMeasure 62 = .ok (.goto 24, 3) := by decide +kernel
theorem dX6_readMeasure_65 : decode cX6_readMeasure 65 = .ok (.iload_n 3, 1) := by decide +kernel
theorem dX6_readMeasure_66 : decode cX6_readMeasure 66 = .ok (.ifCond .eq 13, 3) := by decide +kernel
theorem dX6_readMeasure_69 : decode cX6_readMeasure 69 = .ok (.aload_n 0, 1) := by decide +kernel
theorem dX6_readMeasure_70 : decode cX6_readMeasure 70 = .ok (.iconst 0, 1) := by decide +kernel
theorem dX6_readMeasure_71 : decode cX6_readMeasure 71 = .ok (.bipush 99, 2) := by decide +kernel
theorem dX6_readMeasure_73 : decode cX6_readMeasure 73 = .ok (.invokevirtual 92, 3) := by decide +kernel
theorem dX6_readMeasure_76 : decode cX6_readMeasure 76 = .ok (.goto 10, 3) := by decide +kernel
theorem dX6_readMeasure_79 : decode cX6_readMeasure 79 = .ok (.aload_n 0, 1) := by decide +kernel
theorem dX6_readMeasure_80 : decode cX6_readMeasure 80 = .ok (.iconst 1, 1) := by decide +kernel
theorem dX6_readMeasure_81 : decode cX6_readMeasure 81 = .ok (.bipush 60, 2) := by decide +kernel
theorem dX6_readMeasure_83 : decode cX6_readMeasure 83 = .ok (.invokevirtual 92, 3) := by decide +kernel
theorem dX6_readMeasure_86 : decode cX6_readMeasure 86 = .ok (.istore 4, 2) := by decide +kernel
theorem dX6_readMeasure_88 : decode cX6_readMeasure 88 = .ok (.iload 4, 2) := by decide +kernel
theorem dX6_readMeasure_90 : decode cX6_readMeasure 90 = .ok (.iconst (-1), 1) := by decide +kernel
theorem dX6_readMeasure_91 : decode cX6_readMeasure 91 = .ok (.if_icmp .ne 5, 3) := by decide +kernel
theorem dX6_readMeasure_94 : decode cX6_readMeasure 94 = .ok (.iconst 0, 1) := by decide +kernel
theorem dX6_readMeasure_95 : decode cX6_readMeasure 95 = .ok (.ireturn, 1) := by decide +kernel
theorem dX6_readMeasure_96 : decode cX6_readMeasure 96 = .ok (.iload_n 2, 1) := by decide +kernel
theorem dX6_readMeasure_97 : decode cX6_readMeasure 97 = .ok (.ifCond .eq 15, 3) := by decide +kernel
theorem dX6_readMeasure_100 : decode cX6_readMeasure 100 = .ok (.aload_n 0, 1) := by decide +kernel
theorem dX6_readMeasure_101 : decode cX6_readMeasure 101 = .ok (.getfield 15, 3) := by decide +kernel
theorem dX6_readMeasure_104 : decode cX6_readMeasure 104 = .ok (.iload 4, 2) := by decide +kernel
theorem dX6_readMeasure_106 : decode cX6_readMeasure 106 = .ok (.putfield 136, 3) := by decide +kernel
theorem dX6_readMeasure_109 : decode cX6_readMeasure 109 = .ok (.goto 28, 3) := by decide +kernel
theorem dX6_readMeasure_112 : decode cX6_readMeasure 112 = .ok (.iload_n 3, 1) := by decide +kernel
theorem dX6_readMeasure_113 : decode cX6_readMeasure 113 = .ok (.ifCond .eq 15, 3) := by decide +kernel
theorem dX6_readMeasure_116 : decode cX6_readMeasure 116 = .ok (.aload_n 0, 1) := by decide +kernel
theorem dX6_readMeasure_117 : decode cX6_readMeasure 117 = .ok (.getfield 15, 3) := by decide +kernel
theorem dX6_readMeasure_120 : decode cX6_readMeasure 120 = .ok (.iload 4, 2) := by decide +kernel
theorem dX6_readMeasure_122 : decode cX6_readMeasure 122 = .ok (.putfield 139, 3) := by decide +kernel
theorem dX6_readMeasure_125 : decode cX6_readMeasure 125 = .ok (.goto 12, 3) := by decide +kernel
theorem dX6_readMeasure_128 : decode cX6_readMeasure 128 = .ok (.aload_n 0, 1) := by decide +kernel
theorem dX6_readMeasure_129 : decode cX6_readMeasure 129 = .ok (.getfield 15, 3) := by decide +kernel
theorem dX6_readMeasure_132 : decode cX6_readMeasure 132 = .ok (.iload 4, 2) := by decide +kernel
theorem dX6_readMeasure_134 : decode cX6_readMeasure 134 = .ok (.putfield 142, 3) := by decide +kernel
theorem dX6_readMeasure_137 : decode cX6_readMeasure 137 = .ok (.iconst 1, 1) := by decide +kernel
theorem dX6_readMeasure_138 : decode cX6_readMeasure 138 = .ok (.ireturn, 1) := by decide +kernel
theorem dX6_readOther_0 : decode cX6_readOther 0 = .ok (.aload_n 0, 1) := by decide +kernel
theorem dX6_readOther_1 : decode cX6_readOther 1 = .ok (.getfield 9, 3) := by decide +kernel
theorem dX6_readOther_4 : decode cX6_readOther 4 = .ok (.invokevirtual 19, 3) := by decide +kernel
theorem dX6_readOther_7 : decode cX6_readOther 7 = .ok (.getstatic 145, 3) := by decide +kernel
theorem dX6_readOther_10 : decode cX6_readOther 10 = .ok (.if_acmp .ne 42, 3) := by decide +kernel
theorem dX6_readOther_13 : decode cX6_readOther 13 = .ok (.aload_n 0, 1) := by decide +kernel
theorem dX6_readOther_14 : decode cX6_readOther 14 = .ok (.getfield 15, 3) := by decide +kernel
theorem dX6_readOther_17 : decode cX6_readOther 17 = .ok (.aload_n 0, 1) := by decide +kernel
theorem dX6_readOther_18 : decode cX6_readOther 18 = .ok (.getfield 9, 3) := by decide +kernel
theorem dX6_readOther_21 : decode cX6_readOther 21 = .ok (.invokevirtual 148, 3) := by decide +kernel
theorem dX6_readOther_24 : decode cX6_readOther 24 = .ok (.invokevirtual 152, 3) := by decide +kernel
theorem dX6_readOther_27 : decode cX6_readOther 27 = .ok (.ifCond .eq 25, 3) := by decide +kernel
theorem dX6_readOther_30 : decode cX6_readOther 30 = .ok (.iload_n 1, 1) := by decide +kernel
theorem dX6_readOther_31 : decode cX6_readOther 31 = .ok (.aload_n 0, 1) := by decide +kernel
theorem dX6_readOther_32 : decode cX6_readOther 32 = .ok (.getfield 9, 3) := by decide +kernel
theorem dX6_readOther_35 : decode cX6_readOther 35 = .ok (.invokevirtual 148, 3) := by decide +kernel
theorem dX6_readOther_38 : decode cX6_readOther 38 = .ok (.ishr, 1) := by decide +kernel
theorem dX6_readOther_39 : decode cX6_readOther 39 = .ok (.iconst 1, 1) := by decide +kernel
theorem dX6_readOther_40 : decode cX6_readOther 40 = .ok (.iand, 1) := by decide +kernel
theorem dX6_readOther_41 : decode cX6_readOther 41 = .ok (.ifCond .ne 11, 3) := by decide +kernel
theorem dX6_readOther_44 : decode cX6_readOther 44 = .ok (.aload_n 0, 1) := by decide +kernel
theorem dX6_readOther_45 : decode cX6_readOther 45 = .ok (.iconst 0, 1) := by decide +kernel
theorem dX6_readOther_46 : decode cX6_readOther 46 = .ok (.bipush 9, 2) := by decide +kernel
theorem dX6_readOther_48 : decode cX6_readOther 48 = .ok (.invokevirtual 92, 3) := by decide +kernel
theorem dX6_readOther_51 : decode cX6_readOther 51 = .ok (.ireturn, 1) := by decide +kernel
theorem dX6_readOther_52 : decode cX6_readOther 52 = .ok (.iconst (-1), 1) := by decide +kernel
theorem dX6_readOther_53 : decode cX6_readOther 53 = .ok (.ireturn, 1) := by decide +kernel
theorem dX6_readNumber_0 : decode cX6_readNumber 0 = .ok (.aload_n 0, 1) := by decide +kernel
theorem dX6_readNumber_1 : decode cX6_readNumber 1 = .ok (.getfield 9, 3) := by decide +kernel
theorem dX6_readNumber_4 : decode cX6_readNumber 4 = .ok (.invokevirtual 148, 3) := by decide +kernel
theorem dX6_readNumber_7 : decode cX6_readNumber 7 = .ok (.istore_n 3, 1) := by decide +kernel
theorem dX6_readNumber_8 : decode cX6_readNumber 8 = .ok (.aload_n 0, 1) := by decide +kernel
theorem dX6_readNumber_9 : decode cX6_readNumber 9 = .ok (.getfield 9, 3) := by decide +kernel
theorem dX6_readNumber_12 : decode cX6_readNumber 12 = .ok (.invokevirtual 19, 3) := by decide +kernel
theorem dX6_readNumber_15 : decode cX6_readNumber 15 = .ok (.getstatic 145, 3) := by decide +kernel
theorem dX6_readNumber_18 : decode cX6_readNumber 18 = .ok (.if_acmp .ne 13, 3) := by decide +kernel
theorem dX6_readNumber_21 : decode cX6_readNumber 21 = .ok (.iload_n 3, 1) := by decide +kernel
theorem dX6_readNumber_22 : decode cX6_readNumber 22 = .ok (.iload_n 1, 1) := by decide +kernel
theorem dX6_readNumber_23 : decode cX6_readNumber 23 = .ok (.if_icmp .lt 8, 3) := by decide +kernel
theorem dX6_readNumber_26 : decode cX6_readNumber 26 = .ok (.iload_n 3, 1) := by decide +kernel
theorem dX6_readNumber_27 : decode cX6_readNumber 27 = .ok (.iload_n 2, 1) := by decide +kernel
theorem dX6_readNumber_28 : decode cX6_readNumber 28 = .ok (.if_icmp .le 5, 3) := by decide +kernel
theorem dX6_readNumber_31 : decode cX6_readNumber 31 = .ok (.iconst (-1), 1) := by decide +kernel
theorem dX6_readNumber_32 : decode cX6_readNumber 32 = .ok (.ireturn, 1) := by decide +kernel
theorem dX6_readNumber_33 : decode cX6_readNumber 33 = .ok (.aload_n 0, 1) := by decide +kernel
theorem dX6_readNumber_34 : decode cX6_readNumber 34 = .ok (.getfield 9, 3) := by decide +kernel
theorem dX6_readNumber_37 : decode cX6_readNumber 37 = .ok (.invokevirtual 89, 3) := by decide +kernel
theorem dX6_readNumber_40 : decode cX6_readNumber 40 = .ok (.iload_n 3, 1) := by decide +kernel
theorem dX6_readNumber_41 : decode cX6_readNumber 41 = .ok (.ireturn, 1) := by decide +kernel
theorem dX7_init_0 : decode cX7_init 0 = .ok (.aload_n 0, 1) := by decide +kernel
theorem dX7_init_1 : decode cX7_init 1 = .ok (.invokespecial 3, 3) := by decide +kernel
theorem dX7_init_4 : decode cX7_init 4 = .ok (.aload_n 0, 1) := by decide +kernel
theorem dX7_init_5 : decode cX7_init 5 = .ok (.iconst (-1), 1) := by decide +kernel
theorem dX7_init_6 : decode cX7_init 6 = .ok (.putfield 9, 3) := by decide +kernel
theorem dX7_init_9 : decode cX7_init 9 = .ok (.aload_n 0, 1) := by decide +kernel
theorem dX7_init_10 : decode cX7_init 10 = .ok (.bipush 12, 2) := by decide +kernel
theorem dX7_init_12 : decode cX7_init 12 = .ok (.newarray .int, 2) := by decide +kernel
theorem dX7_init_14 : decode cX7_init 14 = .ok (.putfield 15, 3) := by decide +kernel
theorem dX7_init_17 : decode cX7_init 17 = .ok (.aload_n 0, 1) := by decide +kernel
theorem dX7_init_18 : decode cX7_init 18 = .ok (.bipush 12, 2) := by decide +kernel
theorem dX7_init_20 : decode cX7_init 20 = .ok (.newarray .int, 2) := by decide +kernel
theorem dX7_init_22 : decode cX7_init 22 = .ok (.putfield 19, 3) := by decide +kernel
theorem dX7_init_25 : decode cX7_init 25 = .ok (.aload_n 0, 1) := by decide +kernel
theorem dX7_init_26 : decode cX7_init 26 = .ok (.sipush 400, 3) := by decide +kernel
theorem dX7_init_29 : decode cX7_init 29 = .ok (.newarray .int, 2) := by decide +kernel
theorem dX7_init_31 : decode cX7_init 31 = .ok (.putfield 22, 3) := by decide +kernel
theorem dX7_init_34 : decode cX7_init 34 = .ok (.aload_n 0, 1) := by decide +kernel
theorem dX7_init_35 : decode cX7_init 35 = .ok (.iconst 0, 1) := by decide +kernel
theorem dX7_init_36 : decode cX7_init 36 = .ok (.putfield 25, 3) := by decide +kernel
theorem dX7_init_39 : decode cX7_init 39 = .ok (.aload_n 0, 1) := by decide +kernel
theorem dX7_init_40 : decode cX7_init 40 = .ok (.bipush 40, 2) := by decide +kernel
theorem dX7_init_42 : decode cX7_init 42 = .ok (.newarray .int, 2) := by decide +kernel
theorem dX7_init_44 : decode cX7_init 44 = .ok (.putfield 28, 3) := by decide +kernel
theorem dX7_init_47 : decode cX7_init 47 = .ok (.aload_n 0, 1) := by decide +kernel
theorem dX7_init_48 : decode cX7_init 48 = .ok (.iconst 0, 1) := by decide +kernel
theorem dX7_init_49 : decode cX7_init 49 = .ok (.putfield 31, 3) := by decide +kernel
theorem dX7_init_52 : decode cX7_init 52 = .ok (.aload_n 0, 1) := by decide +kernel
theorem dX7_init_53 : decode cX7_init 53 = .ok (.iconst 0, 1) := by decide +kernel
theorem dX7_init_54 : decode cX7_init 54 = .ok (.putfield 34, 3) := by decide +kernel
theorem dX7_init_57 : decode cX7_init 57 = .ok (.aload_n 0, 1) := by decide +kernel
theorem dX7_init_58 : decode cX7_init 58 = .ok (.iconst 0, 1) := by decide +kernel
theorem dX7_init_59 : decode cX7_init 59 = .ok (.putfield 37, 3) := by decide +kernel
theorem dX7_init_62 : decode cX7_init 62 = .ok (.aload_n 0, 1) := by decide +kernel
theorem dX7_init_63 : decode cX7_init 63 = .ok (.iconst 0, 1) := by decide +kernel
theorem dX7_init_64 : decode cX7_init 64 = .ok (.putfield 40, 3) := by decide +kernel
theorem dX7_init_67 : decode cX7_init 67 = .ok (.return_, 1) := by decide +kernel
theorem dX7_copyFrom_0 : decode cX7_copyFrom 0 = .ok (.aload_n 0, 1) := by decide +kernel
theorem dX7_copyFrom_1 : decode cX7_copyFrom 1 = .ok (.aload_n 1, 1) := by decide +kernel
theorem dX7_copyFrom_2 : decode cX7_copyFrom 2 = .ok (.getfield 9, 3) := by decide +kernel
theorem dX7_copyFrom_5 : decode cX7_copyFrom 5 = .ok (.putfield 9, 3) := by decide +kernel
theorem dX7_copyFrom_8 : decode cX7_copyFrom 8 = .ok (.aload_n 0, 1) := by decide +kernel
theorem dX7_copyFrom_9 : decode cX7_copyFrom 9 = .ok (.aload_n 1, 1) := by decide +kernel
theorem dX7_copyFrom_10 : decode cX7_copyFrom 10 = .ok (.getfield 25, 3) := by decide +kernel
theorem dX7_copyFrom_13 : decode cX7_copyFrom 13 = .ok (.putfield 25, 3) := by decide +kernel
theorem dX7_copyFrom_16 : decode cX7_copyFrom 16 = .ok (.aload_n 1, 1) := by decide +kernel
theorem dX7_copyFrom_17 : decode cX7_copyFrom 17 = .ok (.getfield 15, 3) := by decide +kernel
theorem dX7_copyFrom_20 : decode cX7_copyFrom 20 = .ok (.iconst 0, 1) := by decide +kernel
theorem dX7_copyFrom_21 : decode cX7_copyFrom 21 = .ok (.aload_n 0, 1) := by decide +kernel
theorem dX7_copyFrom_22 : decode cX7_copyFrom 22 = .ok (.getfield 15, 3) := by decide +kernel
theorem dX7_copyFrom_25 : decode cX7_copyFrom 25 = .ok (.iconst 0, 1) := by decide +kernel
theorem dX7_copyFrom_26 : decode cX7_copyFrom 26 = .ok (.bipush 12, 2) := by decide +kernel
theorem dX7_copyFrom_28 : decode cX7_copyFrom 28 = .ok (.invokestatic 43, 3) := by decide +kernel
theorem dX7_copyFrom_31 : decode cX7_copyFrom 31 = .ok (.aload_n 1, 1) := by decide +kernel
theorem dX7_copyFrom_32 : decode cX7_copyFrom 32 = .ok (.getfield 19, 3) := by decide +kernel
theorem dX7_copyFrom_35 : decode cX7_copyFrom 35 = .ok (.iconst 0, 1) := by decide +kernel
theorem dX7_copyFrom_36 : decode cX7_copyFrom 36 = .ok (.aload_n 0, 1) := by decide +kernel
theorem dX7_copyFrom_37 : decode cX7_copyFrom 37 = .ok (.getfield 19, 3) := by decide +kernel
theorem dX7_copyFrom_40 : decode cX7_copyFrom 40 = .ok (.iconst 0, 1) := by decide +kernel
theorem dX7_copyFrom_41 : decode cX7_copyFrom 41 = .ok (.bipush 12, 2) := by decide +kernel
theorem dX7_copyFrom_43 : decode cX7_copyFrom 43 = .ok (.invokestatic 43, 3) := by decide +kernel
theorem dX7_copyFrom_46 : decode cX7_copyFrom 46 = .ok (.aload_n 1, 1) := by decide +kernel
theorem dX7_copyFrom_47 : decode cX7_copyFrom 47 = .ok (.getfield 22, 3) := by decide +kernel
theorem dX7_copyFrom_50 : decode cX7_copyFrom 50 = .ok (.iconst 0, 1) := by decide +kernel
theorem dX7_copyFrom_51 : decode cX7_copyFrom 51 = .ok (.aload_n 0, 1) := by decide +kernel
theorem dX7_copyFrom_52 : decode cX7_copyFrom 52 = .ok (.getfield 22, 3) := by decide +kernel
theorem dX7_copyFrom_55 : decode cX7_copyFrom 55 = .ok (.iconst 0, 1) := by decide +kernel
theorem dX7_copyFrom_56 : decode cX7_copyFrom 56 = .ok (.sipush 400, 3) := by decide +kernel
theorem dX7_copyFrom_59 : decode cX7_copyFrom 59 = .ok (.invokestatic 43, 3) := by decide +kernel
theorem dX7_copyFrom_62 : decode cX7_copyFrom 62 = .ok (.return_, 1) := by decide +kernel
theorem dX7_begin_0 : decode cX7_begin 0 = .ok (.aload_n 0, 1) := by decide +kernel
theorem dX7_begin_1 : decode cX7_begin 1 = .ok (.iconst 0, 1) := by decide +kernel
theorem dX7_begin_2 : decode cX7_begin 2 = .ok (.putfield 9, 3) := by decide +kernel
theorem dX7_begin_5 : decode cX7_begin 5 = .ok (.aload_n 0, 1) := by decide +kernel
theorem dX7_begin_6 : decode cX7_begin 6 = .ok (.iconst 0, 1) := by decide +kernel
theorem dX7_begin_7 : decode cX7_begin 7 = .ok (.putfield 25, 3) := by decide +kernel
theorem dX7_begin_10 : decode cX7_begin 10 = .ok (.return_, 1) := by decide +kernel
theorem dX7_putStep_0 : decode cX7_putStep 0 = .ok (.aload_n 0, 1) := by decide +kernel
theorem dX7_putStep_1 : decode cX7_putStep 1 = .ok (.getfield 25, 3) := by decide +kernel
theorem dX7_putStep_4 : decode cX7_putStep 4 = .ok (.sipush 400, 3) := by decide +kernel
theorem dX7_putStep_7 : decode cX7_putStep 7 = .ok (.if_icmp .ge 23, 3) := by decide +kernel
theorem dX7_putStep_10 : decode cX7_putStep 10 = .ok (.aload_n 0, 1) := by decide +kernel
theorem dX7_putStep_11 : decode cX7_putStep 11 = .ok (.getfield 22, 3) := by decide +kernel
theorem dX7_putStep_14 : decode cX7_putStep 14 = .ok (.aload_n 0, 1) := by decide +kernel
theorem dX7_putStep_15 : decode cX7_putStep 15 = .ok (.getfield 25, 3) := by decide +kernel
theorem dX7_putStep_18 : decode cX7_putStep 18 = .ok (.iload_n 1, 1) := by decide +kernel
theorem dX7_putStep_19 : decode cX7_putStep 19 = .ok (.iastore, 1) := by decide +kernel
theorem dX7_putStep_20 : decode cX7_putStep 20 = .ok (.aload_n 0, 1) := by decide +kernel
theorem dX7_putStep_21 : decode cX7_putStep 21 = .ok (.dup, 1) := by decide +kernel
theorem dX7_putStep_22 : decode cX7_putStep 22 = .ok (.getfield 25, 3) := by decide +kernel
theorem dX7_putStep_25 : decode cX7_putStep 25 = .ok (.iconst 1, 1) := by decide +kernel
theorem dX7_putStep_26 : decode cX7_putStep 26 = .ok (.iadd, 1) := by decide +kernel
theorem dX7_putStep_27 : decode cX7_putStep 27 = .ok (.putfield 25, 3) := by decide +kernel
theorem dX7_putStep_30 : decode cX7_putStep 30 = .ok (.return_, 1) := by decide +kernel
theorem dX7_endLine_0 : decode cX7_endLine 0 = .ok (.aload_n 0, 1) := by decide +kernel
theorem dX7_endLine_1 : decode cX7_endLine 1 = .ok (.getfield 9, 3) := by decide +kernel
theorem dX7_endLine_4 : decode cX7_endLine 4 = .ok (.ifCond .lt 45, 3) := by decide +kernel
theorem dX7_endLine_7 : decode cX7_endLine 7 = .ok (.aload_n 0, 1) := by decide +kernel
theorem dX7_endLine_8 : decode cX7_endLine 8 = .ok (.getfield 9, 3) := by decide +kernel
theorem dX7_endLine_11 : decode cX7_endLine 11 = .ok (.bipush 12, 2) := by decide +kernel
theorem dX7_endLine_13 : decode cX7_endLine 13 = .ok (.if_icmp .ge 36, 3) := by decide +kernel
theorem dX7_endLine_16 : decode cX7_endLine 16 = .ok (.aload_n 0, 1) := by decide +kernel
theorem dX7_endLine_17 : decode cX7_endLine 17 = .ok (.getfield 15, 3) := by decide +kernel
theorem dX7_endLine_20 : decode cX7_endLine 20 = .ok (.aload_n 0, 1) := by decide +kernel
theorem dX7_endLine_21 : decode cX7_endLine 21 = .ok (.getfield 9, 3) := by decide +kernel
theorem dX7_endLine_24 : decode cX7_endLine 24 = .ok (.iload_n 1, 1) := by decide +kernel
theorem dX7_endLine_25 : decode cX7_endLine 25 = .ok (.iastore, 1) := by decide +kernel
theorem dX7_endLine_26 : decode cX7_endLine 26 = .ok (.aload_n 0, 1) := by decide +kernel
theorem dX7_endLine_27 : decode cX7_endLine 27 = .ok (.getfield 19, 3) := by decide +kernel
theorem dX7_endLine_30 : decode cX7_endLine 30 = .ok (.aload_n 0, 1) := by decide +kernel
theorem dX7_endLine_31 : decode cX7_endLine 31 = .ok (.getfield 9, 3) := by decide +kernel
theorem dX7_endLine_34 : decode cX7_endLine 34 = .ok (.aload_n 0, 1) := by decide +kernel
theorem dX7_endLine_35 : decode cX7_endLine 35 = .ok (.getfield 25, 3) := by decide +kernel
theorem dX7_endLine_38 : decode cX7_endLine 38 = .ok (.iastore, 1) := by decide +kernel
theorem dX7_endLine_39 : decode cX7_endLine 39 = .ok (.aload_n 0, 1) := by decide +kernel
theorem dX7_endLine_40 : decode cX7_endLine 40 = .ok (.dup, 1) := by decide +kernel
theorem dX7_endLine_41 : decode cX7_endLine 41 = .ok (.getfield 9, 3) := by decide +kernel
theorem dX7_endLine_44 : decode cX7_endLine 44 = .ok (.iconst 1, 1) := by decide +kernel
theorem dX7_endLine_45 : decode cX7_endLine 45 = .ok (.iadd, 1) := by decide +kernel
theorem dX7_endLine_46 : decode cX7_endLine 46 = .ok (.putfield 9, 3) := by decide +kernel
theorem dX7_endLine_49 : decode cX7_endLine 49 = .ok (.return_, 1) := by decide +kernel
theorem dX7_setHour_0 : decode cX7_setHour 0 = .ok (.aload_n 0, 1) := by decide +kernel
theorem dX7_setHour_1 : decode cX7_setHour 1 = .ok (.iload_n 1, 1) := by decide +kernel
theorem dX7_setHour_2 : decode cX7_setHour 2 = .ok (.putfield 37, 3) := by decide +kernel
theorem dX7_setHour_5 : decode cX7_setHour 5 = .ok (.aload_n 0, 1) := by decide +kernel
theorem dX7_setHour_6 : decode cX7_setHour 6 = .ok (.iload_n 2, 1) := by decide +kernel
theorem dX7_setHour_7 : decode cX7_setHour 7 = .ok (.putfield 40, 3) := by decide +kernel
theorem dX7_setHour_10 : decode cX7_setHour 10 = .ok (.return_, 1) := by decide +kernel
theorem dX7_numberOf_0 : decode cX7_numberOf 0 = .ok (.aload_n 0, 1) := by decide +kernel
theorem dX7_numberOf_1 : decode cX7_numberOf 1 = .ok (.iload_n 1, 1) := by decide +kernel
theorem dX7_numberOf_2 : decode cX7_numberOf 2 = .ok (.putfield 31, 3) := by decide +kernel
theorem dX7_numberOf_5 : decode cX7_numberOf 5 = .ok (.aload_n 0, 1) := by decide +kernel
theorem dX7_numberOf_6 : decode cX7_numberOf 6 = .ok (.iload_n 2, 1) := by decide +kernel
theorem dX7_numberOf_7 : decode cX7_numberOf 7 = .ok (.putfield 34, 3) := by decide +kernel
theorem dX7_numberOf_10 : decode cX7_numberOf 10 = .ok (.iconst 0, 1) := by decide +kernel
theorem dX7_numberOf_11 : decode cX7_numberOf 11 = .ok (.istore_n 3, 1) := by decide +kernel
theorem dX7_numberOf_12 : decode cX7_numberOf 12 = .ok (.iconst 0, 1) := by decide +kernel
theorem dX7_numberOf_13 : decode cX7_numberOf 13 = .ok (.istore 4, 2) := by decide +kernel
theorem dX7_numberOf_15 : decode cX7_numberOf 15 = .ok (.iload 4, 2) := by decide +kernel
theorem dX7_numberOf_17 : decode cX7_numberOf 17 = .ok (.aload_n 0, 1) := by decide +kernel
theorem dX7_numberOf_18 : decode cX7_numberOf 18 = .ok (.getfield 9, 3) := by decide +kernel
theorem dX7_numberOf_21 : decode cX7_numberOf 21 = .ok (.if_icmp .ge 40, 3) := by decide +kernel
theorem dX7_numberOf_24 : decode cX7_numberOf 24 = .ok (.aload_n 0, 1) := by decide +kernel
theorem dX7_numberOf_25 : decode cX7_numberOf 25 = .ok (.iload_n 3, 1) := by decide +kernel
theorem dX7_numberOf_26 : decode cX7_numberOf 26 = .ok (.aload_n 0, 1) := by decide +kernel
theorem dX7_numberOf_27 : decode cX7_numberOf 27 = .ok (.getfield 19, 3) := by decide +kernel
theorem dX7_numberOf_30 : decode cX7_numberOf 30 = .ok (.iload 4, 2) := by decide +kernel
theorem dX7_numberOf_32 : decode cX7_numberOf 32 = .ok (.iaload, 1) := by decide +kernel
theorem dX7_numberOf_33 : decode cX7_numberOf 33 = .ok (.invokevirtual 49, 3) := by decide +kernel
theorem dX7_numberOf_36 : decode cX7_numberOf 36 = .ok (.ifCond .eq 11, 3) := by decide +kernel
theorem dX7_numberOf_39 : decode cX7_numberOf 39 = .ok (.aload_n 0, 1) := by decide +kernel
theorem dX7_numberOf_40 : decode cX7_numberOf 40 = .ok (.getfield 15, 3) := by decide +kernel
theorem dX7_numberOf_43 : decode cX7_numberOf 43 = .ok (.iload 4, 2) := by decide +kernel
theorem dX7_numberOf_45 : decode cX7_numberOf 45 = .ok (.iaload, 1) := by decide +kernel
theorem dX7_numberOf_46 : decode cX7_numberOf 46 = .ok (.ireturn, 1) := by decide +kernel
theorem dX7_numberOf_47 : decode cX7_numberOf 47 = .ok (.aload_n 0, 1) := by decide +kernel
theorem dX7_numberOf_48 : decode cX7_numberOf 48 = .ok (.getfield 19, 3) := by decide +kernel
theorem dX7_numberOf_51 : decode cX7_numberOf 51 = .ok (.iload 4, 2) := by decide +kernel
theorem dX7_numberOf_53 : decode cX7_numberOf 53 = .ok (.iaload, 1) := by decide +kernel
theorem dX7_numberOf_54 : decode cX7_numberOf 54 = .ok (.istore_n 3, 1) := by decide +kernel
theorem dX7_numberOf_55 : decode cX7_numberOf 55 = .ok (.iinc 4 1, 3) := by decide +kernel
theorem dX7_numberOf_58 : decode cX7_numberOf 58 = .ok (.goto (-43), 3) := by decide +kernel
theorem dX7_numberOf_61 : decode cX7_numberOf 61 = .ok (.iconst 0, 1) := by decide +kernel
theorem dX7_numberOf_62 : decode cX7_numberOf 62 = .ok (.ireturn, 1) := by decide +kernel
theorem dX7_holds_0 : decode cX7_holds 0 = .ok (.iconst 0, 1) := by decide +kernel
theorem dX7_holds_1 : decode cX7_holds 1 = .ok (.istore_n 3, 1) := by decide +kernel
theorem dX7_holds_2 : decode cX7_holds 2 = .ok (.iload_n 1, 1) := by decide +kernel
theorem dX7_holds_3 : decode cX7_holds 3 = .ok (.istore 4, 2) := by decide +kernel
theorem dX7_holds_5 : decode cX7_holds 5 = .ok (.iload 4, 2) := by decide +kernel
theorem dX7_holds_7 : decode cX7_holds 7 = .ok (.iload_n 2, 1) := by decide +kernel
theorem dX7_holds_8 : decode cX7_holds 8 = .ok (.if_icmp .ge 22, 3) := by decide +kernel
theorem dX7_holds_11 : decode cX7_holds 11 = .ok (.aload_n 0, 1) := by decide +kernel
theorem dX7_holds_12 : decode cX7_holds 12 = .ok (.aload_n 0, 1) := by decide +kernel
theorem dX7_holds_13 : decode cX7_holds 13 = .ok (.getfield 22, 3) := by decide +kernel
theorem dX7_holds_16 : decode cX7_holds 16 = .ok (.iload 4, 2) := by decide +kernel
theorem dX7_holds_18 : decode cX7_holds 18 = .ok (.iaload, 1) := by decide +kernel
theorem dX7_holds_19 : decode cX7_holds 19 = .ok (.iload_n 3, 1) := by decide +kernel
theorem dX7_holds_20 : decode cX7_holds 20 = .ok (.invokevirtual 53, 3) := by decide +kernel
theorem dX7_holds_23 : decode cX7_holds 23 = .ok (.istore_n 3, 1) := by decide +kernel
theorem dX7_holds_24 : decode cX7_holds 24 = .ok (.iinc 4 1, 3) := by decide +kernel
theorem dX7_holds_27 : decode cX7_holds 27 = .ok (.goto (-22), 3) := by decide +kernel
theorem dX7_holds_30 : decode cX7_holds 30 = .ok (.iload_n 3, 1) := by decide +kernel
theorem dX7_holds_31 : decode cX7_holds 31 = .ok (.ifCond .eq 12, 3) := by decide +kernel
theorem dX7_holds_34 : decode cX7_holds 34 = .ok (.aload_n 0, 1) := by decide +kernel
theorem dX7_holds_35 : decode cX7_holds 35 = .ok (.getfield 28, 3) := by decide +kernel
theorem dX7_holds_38 : decode cX7_holds 38 = .ok (.iconst 0, 1) := by decide +kernel
theorem dX7_holds_39 : decode cX7_holds 39 = .ok (.iaload, 1) := by decide +kernel
theorem dX7_holds_40 : decode cX7_holds 40 = .ok (.ifCond .eq 7, 3) := by decide +kernel
theorem dX7_holds_43 : decode cX7_holds 43 = .ok (.iconst 1, 1) := by decide +kernel
theorem dX7_holds_44 : decode cX7_holds 44 = .ok (.goto 4, 3) := by decide +kernel
theorem dX7_holds_47 : decode cX7_holds 47 = .ok (.iconst 0, 1) := by decide +kernel
theorem dX7_holds_48 : decode cX7_holds 48 = .ok (.ireturn, 1) := by decide +kernel
theorem dX7_doStep_0 : decode cX7_doStep 0 = .ok (.iload_n 1, 1) := by decide +kernel
theorem dX7_doStep_1 : decode cX7_doStep 1 = .ok (.bipush (-5), 2) := by decide +kernel
theorem dX7_doStep_3 : decode cX7_doStep 3 = .ok (.if_icmp .le 26, 3) := by decide +kernel
theorem dX7_doStep_6 : decode cX7_doStep 6 = .ok (.iload_n 2, 1) := by decide +kernel
theorem dX7_doStep_7 : decode cX7_doStep 7 = .ok (.bipush 40, 2) := by decide +kernel
theorem dX7_doStep_9 : decode cX7_doStep 9 = .ok (.if_icmp .lt 5, 3) := by decide +kernel
theorem dX7_doStep_12 : decode cX7_doStep 12 = .ok (.iload_n 2, 1) := by decide +kernel
theorem dX7_doStep_13 : decode cX7_doStep 13 = .ok (.ireturn, 1) := by decide +kernel
theorem dX7_doStep_14 : decode cX7_doStep 14 = .ok (.aload_n 0, 1) := by decide +kernel
theorem dX7_doStep_15 : decode cX7_doStep 15 = .ok (.getfield 28, 3) := by decide +kernel
theorem dX7_doStep_18 : decode cX7_doStep 18 = .ok (.iload_n 2, 1) := by decide +kernel
theorem dX7_doStep_19 : decode cX7_doStep 19 = .ok (.aload_n 0, 1) := by decide +kernel
theorem dX7_doStep_20 : decode cX7_doStep 20 = .ok (.iload_n 1, 1) := by decide +kernel
theorem dX7_doStep_21 : decode cX7_doStep 21 = .ok (.invokevirtual 57, 3) := by decide +kernel
theorem dX7_doStep_24 : decode cX7_doStep 24 = .ok (.iastore, 1) := by decide +kernel
theorem dX7_doStep_25 : decode cX7_doStep 25 = .ok (.iload_n 2, 1) := by decide +kernel
theorem dX7_doStep_26 : decode cX7_doStep 26 = .ok (.iconst 1, 1) := by decide +kernel
theorem dX7_doStep_27 : decode cX7_doStep 27 = .ok (.iadd, 1) := by decide +kernel
theorem dX7_doStep_28 : decode cX7_doStep 28 = .ok (.ireturn, 1) := by decide +kernel
theorem dX7_doStep_29 : decode cX7_doStep 29 = .ok (.iload_n 1, 1) := by decide +kernel
theorem dX7_doStep_30 : decode cX7_doStep 30 = .ok (.bipush (-5), 2) := by decide +kernel
theorem dX7_doStep_32 : decode cX7_doStep 32 = .ok (.if_icmp .ne 26, 3) := by decide +kernel
theorem dX7_doStep_35 : decode cX7_doStep 35 = .ok (.iload_n 2, 1) := by decide +kernel
theorem dX7_doStep_36 : decode cX7_doStep 36 = .ok (.iconst 1, 1) := by decide +kernel
theorem dX7_doStep_37 : decode cX7_doStep 37 = .ok (.if_icmp .lt 21, 3) := by decide +kernel
theorem dX7_doStep_40 : decode cX7_doStep 40 = .ok (.aload_n 0, 1) := by decide +kernel
theorem dX7_doStep_41 : decode cX7_doStep 41 = .ok (.getfield 28, 3) := by decide +kernel
theorem dX7_doStep_44 : decode cX7_doStep 44 = .ok (.iload_n 2, 1) := by decide +kernel
theorem dX7_doStep_45 : decode cX7_doStep 45 = .ok (.iconst 1, 1) := by decide +kernel
theorem dX7_doStep_46 : decode cX7_doStep 46 = .ok (.isub, 1) := by decide +kernel
theorem dX7_doStep_47 : decode cX7_doStep 47 = .ok (.iconst 1, 1) := by decide +kernel
theorem dX7_doStep_48 : decode cX7_doStep 48 = .ok (.aload_n 0, 1) := by decide +kernel
theorem dX7_doStep_49 : decode cX7_doStep 49 = .ok (.getfield 28, 3) := by decide +kernel
theorem dX7_doStep_52 : decode cX7_doStep 52 = .ok (.iload_n 2, 1) := by decide +kernel
theorem dX7_doStep_53 : decode cX7_doStep 53 = .ok (.iconst 1, 1) := by decide +kernel
theorem dX7_doStep_54 : decode cX7_doStep 54 = .ok (.isub, 1) := by decide +kernel
theorem dX7_doStep_55 : decode cX7_doStep 55 = .ok (.iaload, 1) := by decide +kernel
theorem dX7_doStep_56 : decode cX7_doStep 56 = .ok (.isub, 1) := by decide +kernel
theorem dX7_doStep_57 : decode cX7_doStep 57 = .ok (.iastore, 1) := by decide +kernel
theorem dX7_doStep_58 : decode cX7_doStep 58 = .ok (.iload_n 1, 1) := by decide +kernel
theorem dX7_doStep_59 : decode cX7_doStep 59 = .ok (.bipush (-5), 2) := by decide +kernel
theorem dX7_doStep_61 : decode cX7_doStep 61 = .ok (.if_icmp .eq 8, 3) := by decide +kernel
theorem dX7_doStep_64 : decode cX7_doStep 64 = .ok (.iload_n 2, 1) := by decide +kernel
theorem dX7_doStep_65 : decode cX7_doStep 65 = .ok (.iconst 2, 1) := by decide +kernel
theorem dX7_doStep_66 : decode cX7_doStep 66 = .ok (.if_icmp .ge 5, 3) := by decide +kernel
theorem dX7_doStep_69 : decode cX7_doStep 69 = .ok (.iload_n 2, 1) := by decide +kernel
theorem dX7_doStep_70 : decode cX7_doStep 70 = .ok (.ireturn, 1) := by decide +kernel
theorem dX7_doStep_71 : decode cX7_doStep 71 = .ok (.aload_n 0, 1) := by decide +kernel
theorem dX7_doStep_72 : decode cX7_doStep 72 = .ok (.getfield 28, 3) := by decide +kernel
theorem dX7_doStep_75 : decode cX7_doStep 75 = .ok (.iload_n 2, 1) := by decide +kernel
theorem dX7_doStep_76 : decode cX7_doStep 76 = .ok (.iconst 2, 1) := by decide +kernel
theorem dX7_doStep_77 : decode cX7_doStep 77 = .ok (.isub, 1) := by decide +kernel
theorem dX7_doStep_78 : decode cX7_doStep 78 = .ok (.iload_n 1, 1) := by decide +kernel
theorem dX7_doStep_79 : decode cX7_doStep 79 = .ok (.aload_n 0, 1) := by decide +kernel
theorem dX7_doStep_80 : decode cX7_doStep 80 = .ok (.getfield 28, 3) := by decide +kernel
theorem dX7_doStep_83 : decode cX7_doStep 83 = .ok (.iload_n 2, 1) := by decide +kernel
theorem dX7_doStep_84 : decode cX7_doStep 84 = .ok (.iconst 2, 1) := by decide +kernel
theorem dX7_doStep_85 : decode cX7_doStep 85 = .ok (.isub, 1) := by decide +kernel
theorem dX7_doStep_86 : decode cX7_doStep 86 = .ok (.iaload, 1) := by decide +kernel
theorem dX7_doStep_87 : decode cX7_doStep 87 = .ok (.aload_n 0, 1) := by decide +kernel
theorem dX7_doStep_88 : decode cX7_doStep 88 = .ok (.getfield 28, 3) := by decide +kernel
theorem dX7_doStep_91 : decode cX7_doStep 91 = .ok (.iload_n 2, 1) := by decide +kernel
theorem dX7_doStep_92 : decode cX7_doStep 92 = .ok (.iconst 1, 1) := by decide +kernel
theorem dX7_doStep_93 : decode cX7_doStep 93 = .ok (.isub, 1) := by decide +kernel
theorem dX7_doStep_94 : decode cX7_doStep 94 = .ok (.iaload, 1) := by decide +kernel
theorem dX7_doStep_95 : decode cX7_doStep 95 = .ok (.invokestatic 61, 3) := by decide +kernel
theorem dX7_doStep_98 : decode cX7_doStep 98 = .ok (.iastore, 1) := by decide +kernel
theorem dX7_doStep_99 : decode cX7_doStep 99 = .ok (.iload_n 2, 1) := by decide +kernel
theorem dX7_doStep_100 : decode cX7_doStep 100 = .ok (.iconst 1, 1) := by decide +kernel
theorem dX7_doStep_101 : decode cX7_doStep 101 = .ok (.isub, 1) := by decide +kernel
theorem dX7_doStep_102 : decode cX7_doStep 102 = .ok (.ireturn, 1) := by decide +kernel
theorem dX7_partOf_0 : decode cX7_partOf 0 = .ok (.iload_n 1, 1) := by decide +kernel
theorem dX7_partOf_1 : decode cX7_partOf 1 = .ok (.tableswitch 51 (-4) (-1) #[46, 41, 36, 31], 31) := by decide +kernel
theorem dX7_partOf_32 : decode cX7_partOf 32 = .ok (.aload_n 0, 1) := by decide +kernel
theorem dX7_partOf_33 : decode cX7_partOf 33 = .ok (.getfield 31, 3) := by decide +kernel
theorem dX7_partOf_36 : decode cX7_partOf 36 = .ok (.ireturn, 1) := by decide +kernel
theorem dX7_partOf_37 : decode cX7_partOf 37 = .ok (.aload_n 0, 1) := by decide +kernel
theorem dX7_partOf_38 : decode cX7_partOf 38 = .ok (.getfield 34, 3) := by decide +kernel
theorem dX7_partOf_41 : decode cX7_partOf 41 = .ok (.ireturn, 1) := by decide +kernel
theorem dX7_partOf_42 : decode cX7_partOf 42 = .ok (.aload_n 0, 1) := by decide +kernel
theorem dX7_partOf_43 : decode cX7_partOf 43 = .ok (.getfield 37, 3) := by decide +kernel
theorem dX7_partOf_46 : decode cX7_partOf 46 = .ok (.ireturn, 1) := by decide +kernel
theorem dX7_partOf_47 : decode cX7_partOf 47 = .ok (.aload_n 0, 1) := by decide +kernel
theorem dX7_partOf_48 : decode cX7_partOf 48 = .ok (.getfield 40, 3) := by decide +kernel
theorem dX7_partOf_51 : decode cX7_partOf 51 = .ok (.ireturn, 1) := by decide +kernel
theorem dX7_partOf_52 : decode cX7_partOf 52 = .ok (.iload_n 1, 1) := by decide +kernel
theorem dX7_partOf_53 : decode cX7_partOf 53 = .ok (.ireturn, 1) := by decide +kernel
theorem dX7_join_0 : decode cX7_join 0 = .ok (.iload_n 0, 1) := by decide +kernel
theorem dX7_join_1 : decode cX7_join 1 = .ok (.tableswitch 61 (-9) (-6) #[57, 46, 35, 31], 31) := by decide +kernel
theorem dX7_join_32 : decode cX7_join 32 = .ok (.iload_n 1, 1) := by decide +kernel
theorem dX7_join_33 : decode cX7_join 33 = .ok (.iload_n 2, 1) := by decide +kernel
theorem dX7_join_34 : decode cX7_join 34 = .ok (.iadd, 1) := by decide +kernel
theorem dX7_join_35 : decode cX7_join 35 = .ok (.ireturn, 1) := by decide +kernel
theorem dX7_join_36 : decode cX7_join 36 = .ok (.iload_n 1, 1) := by decide +kernel
theorem dX7_join_37 : decode cX7_join 37 = .ok (.iload_n 2, 1) := by decide +kernel
theorem dX7_join_38 : decode cX7_join 38 = .ok (.if_icmp .ge 7, 3) := by decide +kernel
theorem dX7_join_41 : decode cX7_join 41 = .ok (.iconst 1, 1) := by decide +kernel
theorem dX7_join_42 : decode cX7_join 42 = .ok (.goto 4, 3) := by decide +kernel
theorem dX7_join_45 : decode cX7_join 45 = .ok (.iconst 0, 1) := by decide +kernel
theorem dX7_join_46 : decode cX7_join 46 = .ok (.ireturn, 1) := by decide +kernel
theorem dX7_join_47 : decode cX7_join 47 = .ok (.iload_n 1, 1) := by decide +kernel
theorem dX7_join_48 : decode cX7_join 48 = .ok (.iload_n 2, 1) := by decide +kernel
theorem dX7_join_49 : decode cX7_join 49 = .ok (.if_icmp .le 7, 3) := by decide +kernel
theorem dX7_join_52 : decode cX7_join 52 = .ok (.iconst 1, 1) := by decide +kernel
theorem dX7_join_53 : decode cX7_join 53 = .ok (.goto 4, 3) := by decide +kernel
theorem dX7_join_56 : decode cX7_join 56 = .ok (.iconst 0, 1) := by decide +kernel
theorem dX7_join_57 : decode cX7_join 57 = .ok (.ireturn, 1) := by decide +kernel
theorem dX7_join_58 : decode cX7_join 58 = .ok (.iload_n 1, 1) := by decide +kernel
theorem dX7_join_59 : decode cX7_join 59 = .ok (.iload_n 2, 1) := by decide +kernel
theorem dX7_join_60 : decode cX7_join 60 = .ok (.iand, 1) := by decide +kernel
theorem dX7_join_61 : decode cX7_join 61 = .ok (.ireturn, 1) := by decide +kernel
theorem dX7_join_62 : decode cX7_join 62 = .ok (.iload_n 1, 1) := by decide +kernel
theorem dX7_join_63 : decode cX7_join 63 = .ok (.iload_n 2, 1) := by decide +kernel
theorem dX7_join_64 : decode cX7_join 64 = .ok (.ior, 1) := by decide +kernel
theorem dX7_join_65 : decode cX7_join 65 = .ok (.ireturn, 1) := by decide +kernel
theorem dX8_init_0 : decode cX8_init 0 = .ok (.aload_n 0, 1) := by decide +kernel
theorem dX8_init_1 : decode cX8_init 1 = .ok (.invokespecial 3, 3) := by decide +kernel
theorem dX8_init_4 : decode cX8_init 4 = .ok (.aload_n 0, 1) := by decide +kernel
theorem dX8_init_5 : decode cX8_init 5 = .ok (.aload_n 1, 1) := by decide +kernel
theorem dX8_init_6 : decode cX8_init 6 = .ok (.putfield 9, 3) := by decide +kernel
theorem dX8_init_9 : decode cX8_init 9 = .ok (.aload_n 0, 1) := by decide +kernel
theorem dX8_init_10 : decode cX8_init 10 = .ok (.aload_n 2, 1) := by decide +kernel
theorem dX8_init_11 : decode cX8_init 11 = .ok (.putfield 15, 3) := by decide +kernel
theorem dX8_init_14 : decode cX8_init 14 = .ok (.return_, 1) := by decide +kernel
theorem dX8_readText_0 : decode cX8_readText 0 = .ok (.aload_n 0, 1) := by decide +kernel
theorem dX8_readText_1 : decode cX8_readText 1 = .ok (.getfield 15, 3) := by decide +kernel
theorem dX8_readText_4 : decode cX8_readText 4 = .ok (.invokevirtual 19, 3) := by decide +kernel
theorem dX8_readText_7 : decode cX8_readText 7 = .ok (.aload_n 0, 1) := by decide +kernel
theorem dX8_readText_8 : decode cX8_readText 8 = .ok (.getfield 9, 3) := by decide +kernel
theorem dX8_readText_11 : decode cX8_readText 11 = .ok (.invokevirtual 24, 3) := by decide +kernel
theorem dX8_readText_14 : decode cX8_readText 14 = .ok (.getstatic 30, 3) := by decide +kernel
theorem dX8_readText_17 : decode cX8_readText 17 = .ok (.if_acmp .ne 5, 3) := by decide +kernel
theorem dX8_readText_20 : decode cX8_readText 20 = .ok (.iconst 1, 1) := by decide +kernel
theorem dX8_readText_21 : decode cX8_readText 21 = .ok (.ireturn, 1) := by decide +kernel
theorem dX8_readText_22 : decode cX8_readText 22 = .ok (.iconst 0, 1) := by decide +kernel
theorem dX8_readText_23 : decode cX8_readText 23 = .ok (.istore_n 1, 1) := by decide +kernel
theorem dX8_readText_24 : decode cX8_readText 24 = .ok (.iload_n 1, 1) := by decide +kernel
theorem dX8_readText_25 : decode cX8_readText 25 = .ok (.bipush 12, 2) := by decide +kernel
theorem dX8_readText_27 : decode cX8_readText 27 = .ok (.if_icmp .ge 48, 3) := by decide +kernel
theorem dX8_readText_30 : decode cX8_readText 30 = .ok (.aload_n 0, 1) := by decide +kernel
theorem dX8_readText_31 : decode cX8_readText 31 = .ok (.invokevirtual 36, 3) := by decide +kernel
theorem dX8_readText_34 : decode cX8_readText 34 = .ok (.ifCond .ne 5, 3) := by decide +kernel
theorem dX8_readText_37 : decode cX8_readText 37 = .ok (.iconst 0, 1) := by decide +kernel
theorem dX8_readText_38 : decode cX8_readText 38 = .ok (.ireturn, 1) := by decide +kernel
theorem dX8_readText_39 : decode cX8_readText 39 = .ok (.aload_n 0, 1) := by decide +kernel
theorem dX8_readText_40 : decode cX8_readText 40 = .ok (.getfield 9, 3) := by decide +kernel
theorem dX8_readText_43 : decode cX8_readText 43 = .ok (.invokevirtual 24, 3) := by decide +kernel
theorem dX8_readText_46 : decode cX8_readText 46 = .ok (.getstatic 30, 3) := by decide +kernel
theorem dX8_readText_49 : decode cX8_readText 49 = .ok (.if_acmp .ne 5, 3) := by decide +kernel
theorem dX8_readText_52 : decode cX8_readText 52 = .ok (.iconst 1, 1) := by decide +kernel
theorem dX8_readText_53 : decode cX8_readText 53 = .ok (.ireturn, 1) := by decide +kernel
theorem dX8_readText_54 : decode cX8_readText 54 = .ok (.aload_n 0, 1) := by decide +kernel
theorem dX8_readText_55 : decode cX8_readText 55 = .ok (.getfield 9, 3) := by decide +kernel
theorem dX8_readText_58 : decode cX8_readText 58 = .ok (.getstatic 40, 3) := by decide +kernel
theorem dX8_readText_61 : decode cX8_readText 61 = .ok (.invokevirtual 43, 3) := by decide +kernel
theorem dX8_readText_64 : decode cX8_readText 64 = .ok (.ifCond .ne 5, 3) := by decide +kernel
theorem dX8_readText_67 : decode cX8_readText 67 = .ok (.iconst 0, 1) := by decide +kernel
theorem dX8_readText_68 : decode cX8_readText 68 = .ok (.ireturn, 1) := by decide +kernel
theorem dX8_readText_69 : decode cX8_readText 69 = .ok (.iinc 1 1, 3) := by decide +kernel
theorem dX8_readText_72 : decode cX8_readText 72 = .ok (.goto (-48), 3) := by decide +kernel
theorem dX8_readText_75 : decode cX8_readText 75 = .ok (.iconst 0, 1) := by decide +kernel
theorem dX8_readText_76 : decode cX8_readText 76 = .ok (.ireturn, 1) := by decide +kernel
theorem dX8_readLine_0 : decode cX8_readLine 0 = .ok (.aload_n 0, 1) := by decide +kernel
theorem dX8_readLine_1 : decode cX8_readLine 1 = .ok (.getfield 9, 3) := by decide +kernel
theorem dX8_readLine_4 : decode cX8_readLine 4 = .ok (.invokevirtual 47, 3) := by decide +kernel
theorem dX8_readLine_7 : decode cX8_readLine 7 = .ok (.istore_n 1, 1) := by decide +kernel
theorem dX8_readLine_8 : decode cX8_readLine 8 = .ok (.aload_n 0, 1) := by decide +kernel
theorem dX8_readLine_9 : decode cX8_readLine 9 = .ok (.getfield 9, 3) := by decide +kernel
theorem dX8_readLine_12 : decode cX8_readLine 12 = .ok (.getstatic 51, 3) := by decide +kernel
theorem dX8_readLine_15 : decode cX8_readLine 15 = .ok (.invokevirtual 43, 3) := by decide +kernel
theorem dX8_readLine_18 : decode cX8_readLine 18 = .ok (.ifCond .ne 5, 3) := by decide +kernel
theorem dX8_readLine_21 : decode cX8_readLine 21 = .ok (.iconst 0, 1) := by decide +kernel
theorem dX8_readLine_22 : decode cX8_readLine 22 = .ok (.ireturn, 1) := by decide +kernel
theorem dX8_readLine_23 : decode cX8_readLine 23 = .ok (.aload_n 0, 1) := by decide +kernel
theorem dX8_readLine_24 : decode cX8_readLine 24 = .ok (.getfield 9, 3) := by decide +kernel
theorem dX8_readLine_27 : decode cX8_readLine 27 = .ok (.getstatic 54, 3) := by decide +kernel
theorem dX8_readLine_30 : decode cX8_readLine 30 = .ok (.invokevirtual 43, 3) := by decide +kernel
theorem dX8_readLine_33 : decode cX8_readLine 33 = .ok (.ifCond .eq 13, 3) := by decide +kernel
theorem dX8_readLine_36 : decode cX8_readLine 36 = .ok (.aload_n 0, 1) := by decide +kernel
theorem dX8_readLine_37 : decode cX8_readLine 37 = .ok (.iconst 0, 1) := by decide +kernel
theorem dX8_readLine_38 : decode cX8_readLine 38 = .ok (.invokevirtual 57, 3) := by decide +kernel
theorem dX8_readLine_41 : decode cX8_readLine 41 = .ok (.ifCond .ne 5, 3) := by decide +kernel
theorem dX8_readLine_44 : decode cX8_readLine 44 = .ok (.iconst 0, 1) := by decide +kernel
theorem dX8_readLine_45 : decode cX8_readLine 45 = .ok (.ireturn, 1) := by decide +kernel
theorem dX8_readLine_46 : decode cX8_readLine 46 = .ok (.aload_n 0, 1) := by decide +kernel
theorem dX8_readLine_47 : decode cX8_readLine 47 = .ok (.getfield 15, 3) := by decide +kernel
theorem dX8_readLine_50 : decode cX8_readLine 50 = .ok (.iload_n 1, 1) := by decide +kernel
theorem dX8_readLine_51 : decode cX8_readLine 51 = .ok (.invokevirtual 61, 3) := by decide +kernel
theorem dX8_readLine_54 : decode cX8_readLine 54 = .ok (.iconst 1, 1) := by decide +kernel
theorem dX8_readLine_55 : decode cX8_readLine 55 = .ok (.ireturn, 1) := by decide +kernel
theorem dX8_readAny_0 : decode cX8_readAny 0 = .ok (.iconst 0, 1) := by decide +kernel
theorem dX8_readAny_1 : decode cX8_readAny 1 = .ok (.istore_n 2, 1) := by decide +kernel
theorem dX8_readAny_2 : decode cX8_readAny 2 = .ok (.iload_n 2, 1) := by decide +kernel
theorem dX8_readAny_3 : decode cX8_readAny 3 = .ok (.sipush 400, 3) := by decide +kernel
theorem dX8_readAny_6 : decode cX8_readAny 6 = .ok (.if_icmp .ge 47, 3) := by decide +kernel
theorem dX8_readAny_9 : decode cX8_readAny 9 = .ok (.aload_n 0, 1) := by decide +kernel
theorem dX8_readAny_10 : decode cX8_readAny 10 = .ok (.iload_n 1, 1) := by decide +kernel
theorem dX8_readAny_11 : decode cX8_readAny 11 = .ok (.invokevirtual 65, 3) := by decide +kernel
theorem dX8_readAny_14 : decode cX8_readAny 14 = .ok (.ifCond .ne 5, 3) := by decide +kernel
theorem dX8_readAny_17 : decode cX8_readAny 17 = .ok (.iconst 0, 1) := by decide +kernel
theorem dX8_readAny_18 : decode cX8_readAny 18 = .ok (.ireturn, 1) := by decide +kernel
theorem dX8_readAny_19 : decode cX8_readAny 19 = .ok (.iload_n 2, 1) := by decide +kernel
theorem dX8_readAny_20 : decode cX8_readAny 20 = .ok (.ifCond .le 12, 3) := by decide +kernel
theorem dX8_readAny_23 : decode cX8_readAny 23 = .ok (.aload_n 0, 1) := by decide +kernel
theorem dX8_readAny_24 : decode cX8_readAny 24 = .ok (.getfield 15, 3) := by decide +kernel
theorem dX8_readAny_27 : decode cX8_readAny 27 = .ok (.bipush (-10), 2) := by decide +kernel
theorem dX8_readAny_29 : decode cX8_readAny 29 = .ok (.invokevirtual 68, 3) := by decide +kernel
theorem dX8_readAny_32 : decode cX8_readAny 32 = .ok (.aload_n 0, 1) := by decide +kernel
theorem dX8_readAny_33 : decode cX8_readAny 33 = .ok (.getfield 9, 3) := by decide +kernel
theorem dX8_readAny_36 : decode cX8_readAny 36 = .ok (.getstatic 71, 3) := by decide +kernel
theorem dX8_readAny_39 : decode cX8_readAny 39 = .ok (.invokevirtual 43, 3) := by decide +kernel
theorem dX8_readAny_42 : decode cX8_readAny 42 = .ok (.ifCond .ne 5, 3) := by decide +kernel
theorem dX8_readAny_45 : decode cX8_readAny 45 = .ok (.iconst 1, 1) := by decide +kernel
theorem dX8_readAny_46 : decode cX8_readAny 46 = .ok (.ireturn, 1) := by decide +kernel
theorem dX8_readAny_47 : decode cX8_readAny 47 = .ok (.iinc 2 1, 3) := by decide +kernel
theorem dX8_readAny_50 : decode cX8_readAny 50 = .ok (.goto (-48), 3) := by decide +kernel
theorem dX8_readAny_53 : decode cX8_readAny 53 = .ok (.iconst 0, 1) := by decide +kernel
theorem dX8_readAny_54 : decode cX8_readAny 54 = .ok (.ireturn, 1) := by decide +kernel
theorem dX8_readAll_0 : decode cX8_readAll 0 = .ok (.iconst 0, 1) := by decide +kernel
theorem dX8_readAll_1 : decode cX8_readAll 1 = .ok (.istore_n 2, 1) := by decide +kernel
theorem dX8_readAll_2 : decode cX8_readAll 2 = .ok (.iload_n 2, 1) := by decide +kernel
theorem dX8_readAll_3 : decode cX8_readAll 3 = .ok (.sipush 400, 3) := by decide +kernel
theorem dX8_readAll_6 : decode cX8_readAll 6 = .ok (.if_icmp .ge 47, 3) := by decide +kernel
theorem dX8_readAll_9 : decode cX8_readAll 9 = .ok (.aload_n 0, 1) := by decide +kernel
theorem dX8_readAll_10 : decode cX8_readAll 10 = .ok (.iload_n 1, 1) := by decide +kernel
theorem dX8_readAll_11 : decode cX8_readAll 11 = .ok (.invokevirtual 74, 3) := by decide +kernel
theorem dX8_readAll_14 : decode cX8_readAll 14 = .ok (.ifCond .ne 5, 3) := by decide +kernel
theorem dX8_readAll_17 : decode cX8_readAll 17 = .ok (.iconst 0, 1) := by decide +kernel
theorem dX8_readAll_18 : decode cX8_readAll 18 = .ok (.ireturn, 1) := by decide +kernel
theorem dX8_readAll_19 : decode cX8_readAll 19 = .ok (.iload_n 2, 1) := by decide +kernel
theorem dX8_readAll_20 : decode cX8_readAll 20 = .ok (.ifCond .le 12, 3) := by decide +kernel
theorem dX8_readAll_23 : decode cX8_readAll 23 = .ok (.aload_n 0, 1) := by decide +kernel
theorem dX8_readAll_24 : decode cX8_readAll 24 = .ok (.getfield 15, 3) := by decide +kernel
theorem dX8_readAll_27 : decode cX8_readAll 27 = .ok (.bipush (-9), 2) := by decide +kernel
theorem dX8_readAll_29 : decode cX8_readAll 29 = .ok (.invokevirtual 68, 3) := by decide +kernel
theorem dX8_readAll_32 : decode cX8_readAll 32 = .ok (.aload_n 0, 1) := by decide +kernel
theorem dX8_readAll_33 : decode cX8_readAll 33 = .ok (.getfield 9, 3) := by decide +kernel
theorem dX8_readAll_36 : decode cX8_readAll 36 = .ok (.getstatic 77, 3) := by decide +kernel
theorem dX8_readAll_39 : decode cX8_readAll 39 = .ok (.invokevirtual 43, 3) := by decide +kernel
theorem dX8_readAll_42 : decode cX8_readAll 42 = .ok (.ifCond .ne 5, 3) := by decide +kernel
theorem dX8_readAll_45 : decode cX8_readAll 45 = .ok (.iconst 1, 1) := by decide +kernel
theorem dX8_readAll_46 : decode cX8_readAll 46 = .ok (.ireturn, 1) := by decide +kernel
theorem dX8_readAll_47 : decode cX8_readAll 47 = .ok (.iinc 2 1, 3) := by decide +kernel
theorem dX8_readAll_50 : decode cX8_readAll 50 = .ok (.goto (-48), 3) := by decide +kernel
theorem dX8_readAll_53 : decode cX8_readAll 53 = .ok (.iconst 0, 1) := by decide +kernel
theorem dX8_readAll_54 : decode cX8_readAll 54 = .ok (.ireturn, 1) := by decide +kernel
theorem dX8_readAtom_0 : decode cX8_readAtom 0 = .ok (.aload_n 0, 1) := by decide +kernel
theorem dX8_readAtom_1 : decode cX8_readAtom 1 = .ok (.getfield 9, 3) := by decide +kernel
theorem dX8_readAtom_4 : decode cX8_readAtom 4 = .ok (.invokevirtual 24, 3) := by decide +kernel
theorem dX8_readAtom_7 : decode cX8_readAtom 7 = .ok (.astore_n 2, 1) := by decide +kernel
theorem dX8_readAtom_8 : decode cX8_readAtom 8 = .ok (.aload_n 2, 1) := by decide +kernel
theorem dX8_readAtom_9 : decode cX8_readAtom 9 = .ok (.getstatic 80, 3) := by decide +kernel
theorem dX8_readAtom_12 : decode cX8_readAtom 12 = .ok (.if_acmp .eq 10, 3) := by decide +kernel
theorem dX8_readAtom_15 : decode cX8_readAtom 15 = .ok (.aload_n 2, 1) := by decide +kernel
theorem dX8_readAtom_16 : decode cX8_readAtom 16 = .ok (.getstatic 83, 3) := by decide +kernel
theorem dX8_readAtom_19 : decode cX8_readAtom 19 = .ok (.if_acmp .ne 11, 3) := by decide +kernel
theorem dX8_readAtom_22 : decode cX8_readAtom 22 = .ok (.iload_n 1, 1) := by decide +kernel
theorem dX8_readAtom_23 : decode cX8_readAtom 23 = .ok (.bipush 6, 2) := by decide +kernel
theorem dX8_readAtom_25 : decode cX8_readAtom 25 = .ok (.if_icmp .lt 5, 3) := by decide +kernel
theorem dX8_readAtom_28 : decode cX8_readAtom 28 = .ok (.iconst 0, 1) := by decide +kernel
theorem dX8_readAtom_29 : decode cX8_readAtom 29 = .ok (.ireturn, 1) := by decide +kernel
theorem dX8_readAtom_30 : decode cX8_readAtom 30 = .ok (.aload_n 0, 1) := by decide +kernel
theorem dX8_readAtom_31 : decode cX8_readAtom 31 = .ok (.getfield 9, 3) := by decide +kernel
theorem dX8_readAtom_34 : decode cX8_readAtom 34 = .ok (.getstatic 83, 3) := by decide +kernel
theorem dX8_readAtom_37 : decode cX8_readAtom 37 = .ok (.invokevirtual 43, 3) := by decide +kernel
theorem dX8_readAtom_40 : decode cX8_readAtom 40 = .ok (.ifCond .eq 32, 3) := by decide +kernel
theorem dX8_readAtom_43 : decode cX8_readAtom 43 = .ok (.aload_n 0, 1) := by decide +kernel
theorem dX8_readAtom_44 : decode cX8_readAtom 44 = .ok (.iload_n 1, 1) := by decide +kernel
theorem dX8_readAtom_45 : decode cX8_readAtom 45 = .ok (.iconst 1, 1) := by decide +kernel
theorem dX8_readAtom_46 : decode cX8_readAtom 46 = .ok (.iadd, 1) := by decide +kernel
theorem dX8_readAtom_47 : decode cX8_readAtom 47 = .ok (.invokevirtual 57, 3) := by decide +kernel
theorem dX8_readAtom_50 : decode cX8_readAtom 50 = .ok (.ifCond .eq 20, 3) := by decide +kernel
theorem dX8_readAtom_53 : decode cX8_readAtom 53 = .ok (.aload_n 0, 1) := by decide +kernel
theorem dX8_readAtom_54 : decode cX8_readAtom 54 = .ok (.getfield 9, 3) := by decide +kernel
theorem dX8_readAtom_57 : decode cX8_readAtom 57 = .ok (.getstatic 86, 3) := by decide +kernel
theorem dX8_readAtom_60 : decode cX8_readAtom 60 = .ok (.invokevirtual 43, 3) := by decide +kernel
theorem dX8_readAtom_63 : decode cX8_readAtom 63 = .ok (.ifCond .eq 7, 3) := by decide +kernel
theorem dX8_readAtom_66 : decode cX8_readAtom 66 = .ok (.iconst 1, 1) := by decide +kernel
theorem dX8_readAtom_67 : decode cX8_readAtom 67 = .ok (.goto 4, 3) := by decide +kernel
theorem dX8_readAtom_70 : decode cX8_readAtom 70 = .ok (.iconst 0, 1) := by decide +kernel
theorem dX8_readAtom_71 : decode cX8_readAtom 71 = .ok (.ireturn, 1) := by decide +kernel
theorem dX8_readAtom_72 : decode cX8_readAtom 72 = .ok (.aload_n 0, 1) := by decide +kernel
theorem dX8_readAtom_73 : decode cX8_readAtom 73 = .ok (.getfield 9, 3) := by decide +kernel
theorem dX8_readAtom_76 : decode cX8_readAtom 76 = .ok (.getstatic 80, 3) := by decide +kernel
theorem dX8_readAtom_79 : decode cX8_readAtom 79 = .ok (.invokevirtual 43, 3) := by decide +kernel
theorem dX8_readAtom_82 : decode cX8_readAtom 82 = .ok (.ifCond .eq 22, 3) := by decide +kernel
theorem dX8_readAtom_85 : decode cX8_readAtom 85 = .ok (.aload_n 0, 1) := by decide +kernel
theorem dX8_readAtom_86 : decode cX8_readAtom 86 = .ok (.iload_n 1, 1) := by decide +kernel
theorem dX8_readAtom_87 : decode cX8_readAtom 87 = .ok (.iconst 1, 1) := by decide +kernel
theorem dX8_readAtom_88 : decode cX8_readAtom 88 = .ok (.iadd, 1) := by decide +kernel
theorem dX8_readAtom_89 : decode cX8_readAtom 89 = .ok (.invokevirtual 74, 3) := by decide +kernel
theorem dX8_readAtom_92 : decode cX8_readAtom 92 = .ok (.istore_n 3, 1) := by decide +kernel
theorem dX8_readAtom_93 : decode cX8_readAtom 93 = .ok (.aload_n 0, 1) := by decide +kernel
theorem dX8_readAtom_94 : decode cX8_readAtom 94 = .ok (.getfield 15, 3) := by decide +kernel
theorem dX8_readAtom_97 : decode cX8_readAtom 97 = .ok (.bipush (-5), 2) := by decide +kernel
theorem dX8_readAtom_99 : decode cX8_readAtom 99 = .ok (.invokevirtual 68, 3) := by decide +kernel
theorem dX8_readAtom_102 : decode cX8_readAtom 102 = .ok (.iload_n 3, 1) := by decide +kernel
theorem dX8_readAtom_103 : decode cX8_readAtom 103 = .ok (.ireturn, 1) := by decide +kernel
theorem dX8_readAtom_104 : decode cX8_readAtom 104 = .ok (.aload_n 0, 1) := by decide +kernel
theorem dX8_readAtom_105 : decode cX8_readAtom 105 = .ok (.invokevirtual 89, 3) := by decide +kernel
theorem dX8_readAtom_108 : decode cX8_readAtom 108 = .ok (.ifCond .ne 5, 3) := by decide +kernel
theorem dX8_readAtom_111 : decode cX8_readAtom 111 = .ok (.iconst 0, 1) := by decide +kernel
theorem dX8_readAtom_112 : decode cX8_readAtom 112 = .ok (.ireturn, 1) := by decide +kernel
theorem dX8_readAtom_113 : decode cX8_readAtom 113 = .ok (.aload_n 0, 1) := by decide +kernel
theorem dX8_readAtom_114 : decode cX8_readAtom 114 = .ok (.getfield 9, 3) := by decide +kernel
theorem dX8_readAtom_117 : decode cX8_readAtom 117 = .ok (.invokevirtual 24, 3) := by decide +kernel
theorem dX8_readAtom_120 : decode cX8_readAtom 120 = .ok (.astore_n 3, 1) := by decide +kernel
theorem dX8_readAtom_121 : decode cX8_readAtom 121 = .ok (.aload_n 3, 1) := by decide +kernel
theorem dX8_readAtom_122 : decode cX8_readAtom 122 = .ok (.getstatic 92, 3) := by decide +kernel
theorem dX8_readAtom_125 : decode cX8_readAtom 125 = .ok (.if_acmp .eq 12, 3) := by decide +kernel
theorem dX8_readAtom_128 : decode cX8_readAtom 128 = .ok (.aload_n 3, 1) := by decide +kernel
theorem dX8_readAtom_129 : decode cX8_readAtom 129 = .ok (.getstatic 95, 3) := by decide +kernel
theorem dX8_readAtom_132 : decode cX8_readAtom 132 = .ok (.if_acmp .eq 5, 3) := by decide +kernel
theorem dX8_readAtom_135 : decode cX8_readAtom 135 = .ok (.iconst 0, 1) := by decide +kernel
theorem dX8_readAtom_136 : decode cX8_readAtom 136 = .ok (.ireturn, 1) := by decide +kernel
theorem dX8_readAtom_137 : decode cX8_readAtom 137 = .ok (.aload_n 0, 1) := by decide +kernel
theorem dX8_readAtom_138 : decode cX8_readAtom 138 = .ok (.getfield 9, 3) := by decide +kernel
theorem dX8_readAtom_141 : decode cX8_readAtom 141 = .ok (.invokevirtual 98, 3) := by decide +kernel
theorem dX8_readAtom_144 : decode cX8_readAtom 144 = .ok (.aload_n 0, 1) := by decide +kernel
theorem dX8_readAtom_145 : decode cX8_readAtom 145 = .ok (.invokevirtual 89, 3) := by decide +kernel
theorem dX8_readAtom_148 : decode cX8_readAtom 148 = .ok (.ifCond .ne 5, 3) := by decide +kernel
theorem dX8_readAtom_151 : decode cX8_readAtom 151 = .ok (.iconst 0, 1) := by decide +kernel
theorem dX8_readAtom_152 : decode cX8_readAtom 152 = .ok (.ireturn, 1) := by decide +kernel
theorem dX8_readAtom_153 : decode cX8_readAtom 153 = .ok (.aload_n 0, 1) := by decide +kernel
theorem dX8_readAtom_154 : decode cX8_readAtom 154 = .ok (.getfield 15, 3) := by decide +kernel
theorem dX8_readAtom_157 : decode cX8_readAtom 157 = .ok (.aload_n 3, 1) := by decide +kernel
theorem dX8_readAtom_158 : decode cX8_readAtom 158 = .ok (.getstatic 92, 3) := by decide +kernel
theorem dX8_readAtom_161 : decode cX8_readAtom 161 = .ok (.if_acmp .ne 8, 3) := by decide +kernel
theorem dX8_readAtom_164 : decode cX8_readAtom 164 = .ok (.bipush (-7), 2) := by decide +kernel
theorem dX8_readAtom_166 : decode cX8_readAtom 166 = .ok (.goto 5, 3) := by decide +kernel
theorem dX8_readAtom_169 : decode cX8_readAtom 169 = .ok (.bipush (-8), 2) := by decide +kernel
theorem dX8_readAtom_171 : decode cX8_readAtom 171 = .ok (.invokevirtual 68, 3) := by decide +kernel
theorem dX8_readAtom_174 : decode cX8_readAtom 174 = .ok (.iconst 1, 1) := by decide +kernel
theorem dX8_readAtom_175 : decode cX8_readAtom 175 = .ok (.ireturn, 1) := by decide +kernel
theorem dX8_readSum_0 : decode cX8_readSum 0 = .ok (.iconst 0, 1) := by decide +kernel
theorem dX8_readSum_1 : decode cX8_readSum 1 = .ok (.istore_n 1, 1) := by decide +kernel
theorem dX8_readSum_2 : decode cX8_readSum 2 = .ok (.iload_n 1, 1) := by decide +kernel
theorem dX8_readSum_3 : decode cX8_readSum 3 = .ok (.sipush 400, 3) := by decide +kernel
theorem dX8_readSum_6 : decode cX8_readSum 6 = .ok (.if_icmp .ge 78, 3) := by decide +kernel
theorem dX8_readSum_9 : decode cX8_readSum 9 = .ok (.aload_n 0, 1) := by decide +kernel
theorem dX8_readSum_10 : decode cX8_readSum 10 = .ok (.getfield 9, 3) := by decide +kernel
theorem dX8_readSum_13 : decode cX8_readSum 13 = .ok (.invokevirtual 24, 3) := by decide +kernel
theorem dX8_readSum_16 : decode cX8_readSum 16 = .ok (.aload_n 0, 1) := by decide +kernel
theorem dX8_readSum_17 : decode cX8_readSum 17 = .ok (.getfield 9, 3) := by decide +kernel
theorem dX8_readSum_20 : decode cX8_readSum 20 = .ok (.invokevirtual 47, 3) := by decide +kernel
theorem dX8_readSum_23 : decode cX8_readSum 23 = .ok (.invokestatic 101, 3) := by decide +kernel
theorem dX8_readSum_26 : decode cX8_readSum 26 = .ok (.istore_n 2, 1) := by decide +kernel
theorem dX8_readSum_27 : decode cX8_readSum 27 = .ok (.iload_n 2, 1) := by decide +kernel
theorem dX8_readSum_28 : decode cX8_readSum 28 = .ok (.bipush (-100), 2) := by decide +kernel
theorem dX8_readSum_30 : decode cX8_readSum 30 = .ok (.if_icmp .ne 5, 3) := by decide +kernel
theorem dX8_readSum_33 : decode cX8_readSum 33 = .ok (.iconst 0, 1) := by decide +kernel
theorem dX8_readSum_34 : decode cX8_readSum 34 = .ok (.ireturn, 1) := by decide +kernel
theorem dX8_readSum_35 : decode cX8_readSum 35 = .ok (.aload_n 0, 1) := by decide +kernel
theorem dX8_readSum_36 : decode cX8_readSum 36 = .ok (.getfield 9, 3) := by decide +kernel
theorem dX8_readSum_39 : decode cX8_readSum 39 = .ok (.invokevirtual 98, 3) := by decide +kernel
theorem dX8_readSum_42 : decode cX8_readSum 42 = .ok (.aload_n 0, 1) := by decide +kernel
theorem dX8_readSum_43 : decode cX8_readSum 43 = .ok (.getfield 15, 3) := by decide +kernel
theorem dX8_readSum_46 : decode cX8_readSum 46 = .ok (.iload_n 2, 1) := by decide +kernel
theorem dX8_readSum_47 : decode cX8_readSum 47 = .ok (.invokevirtual 68, 3) := by decide +kernel
theorem dX8_readSum_50 : decode cX8_readSum 50 = .ok (.iload_n 1, 1) := by decide +kernel
theorem dX8_readSum_51 : decode cX8_readSum 51 = .ok (.ifCond .le 12, 3) := by decide +kernel
theorem dX8_readSum_54 : decode cX8_readSum 54 = .ok (.aload_n 0, 1) := by decide +kernel
theorem dX8_readSum_55 : decode cX8_readSum 55 = .ok (.getfield 15, 3) := by decide +kernel
theorem dX8_readSum_58 : decode cX8_readSum 58 = .ok (.bipush (-6), 2) := by decide +kernel
theorem dX8_readSum_60 : decode cX8_readSum 60 = .ok (.invokevirtual 68, 3) := by decide +kernel
theorem dX8_readSum_63 : decode cX8_readSum 63 = .ok (.aload_n 0, 1) := by decide +kernel
theorem dX8_readSum_64 : decode cX8_readSum 64 = .ok (.getfield 9, 3) := by decide +kernel
theorem dX8_readSum_67 : decode cX8_readSum 67 = .ok (.getstatic 105, 3) := by decide +kernel
theorem dX8_readSum_70 : decode cX8_readSum 70 = .ok (.invokevirtual 43, 3) := by decide +kernel
theorem dX8_readSum_73 : decode cX8_readSum 73 = .ok (.ifCond .ne 5, 3) := by decide +kernel
theorem dX8_readSum_76 : decode cX8_readSum 76 = .ok (.iconst 1, 1) := by decide +kernel
theorem dX8_readSum_77 : decode cX8_readSum 77 = .ok (.ireturn, 1) := by decide +kernel
theorem dX8_readSum_78 : decode cX8_readSum 78 = .ok (.iinc 1 1, 3) := by decide +kernel
theorem dX8_readSum_81 : decode cX8_readSum 81 = .ok (.goto (-79), 3) := by decide +kernel
theorem dX8_readSum_84 : decode cX8_readSum 84 = .ok (.iconst 0, 1) := by decide +kernel
theorem dX8_readSum_85 : decode cX8_readSum 85 = .ok (.ireturn, 1) := by decide +kernel
theorem dX8_partOf_0 : decode cX8_partOf 0 = .ok (.aload_n 0, 1) := by decide +kernel
theorem dX8_partOf_1 : decode cX8_partOf 1 = .ok (.getstatic 51, 3) := by decide +kernel
theorem dX8_partOf_4 : decode cX8_partOf 4 = .ok (.if_acmp .ne 5, 3) := by decide +kernel
theorem dX8_partOf_7 : decode cX8_partOf 7 = .ok (.iload_n 1, 1) := by decide +kernel
theorem dX8_partOf_8 : decode cX8_partOf 8 = .ok (.ireturn, 1) := by decide +kernel
theorem dX8_partOf_9 : decode cX8_partOf 9 = .ok (.aload_n 0, 1) := by decide +kernel
theorem dX8_partOf_10 : decode cX8_partOf 10 = .ok (.getstatic 108, 3) := by decide +kernel
theorem dX8_partOf_13 : decode cX8_partOf 13 = .ok (.if_acmp .ne 5, 3) := by decide +kernel
theorem dX8_partOf_16 : decode cX8_partOf 16 = .ok (.iconst (-1), 1) := by decide +kernel
theorem dX8_partOf_17 : decode cX8_partOf 17 = .ok (.ireturn, 1) := by decide +kernel
theorem dX8_partOf_18 : decode cX8_partOf 18 = .ok (.aload_n 0, 1) := by decide +kernel
theorem dX8_partOf_19 : decode cX8_partOf 19 = .ok (.getstatic 111, 3) := by decide +kernel
theorem dX8_partOf_22 : decode cX8_partOf 22 = .ok (.if_acmp .ne 6, 3) := by decide +kernel
theorem dX8_partOf_25 : decode cX8_partOf 25 = .ok (.bipush (-2), 2) := by decide +kernel
theorem dX8_partOf_27 : decode cX8_partOf 27 = .ok (.ireturn, 1) := by decide +kernel
theorem dX8_partOf_28 : decode cX8_partOf 28 = .ok (.aload_n 0, 1) := by decide +kernel
theorem dX8_partOf_29 : decode cX8_partOf 29 = .ok (.getstatic 114, 3) := by decide +kernel
theorem dX8_partOf_32 : decode cX8_partOf 32 = .ok (.if_acmp .ne 6, 3) := by decide +kernel
theorem dX8_partOf_35 : decode cX8_partOf 35 = .ok (.bipush (-3), 2) := by decide +kernel
theorem dX8_partOf_37 : decode cX8_partOf 37 = .ok (.ireturn, 1) := by decide +kernel
theorem dX8_partOf_38 : decode cX8_partOf 38 = .ok (.aload_n 0, 1) := by decide +kernel
theorem dX8_partOf_39 : decode cX8_partOf 39 = .ok (.getstatic 117, 3) := by decide +kernel
theorem dX8_partOf_42 : decode cX8_partOf 42 = .ok (.if_acmp .ne 8, 3) := by decide +kernel
theorem dX8_partOf_45 : decode cX8_partOf 45 = .ok (.bipush (-4), 2) := by decide +kernel
theorem dX8_partOf_47 : decode cX8_partOf 47 = .ok (.goto 5, 3) := by decide +kernel
theorem dX8_partOf_50 : decode cX8_partOf 50 = .ok (.bipush (-100), 2) := by decide +kernel
theorem dX8_partOf_52 : decode cX8_partOf 52 = .ok (.ireturn, 1) := by decide +kernel
theorem dX9_init_0 : decode cX9_init 0 = .ok (.aload_n 0, 1) := by decide +kernel
theorem dX9_init_1 : decode cX9_init 1 = .ok (.invokespecial 3, 3) := by decide +kernel
theorem dX9_init_4 : decode cX9_init 4 = .ok (.aload_n 0, 1) := by decide +kernel
theorem dX9_init_5 : decode cX9_init 5 = .ok (.sipush 400, 3) := by decide +kernel
theorem dX9_init_8 : decode cX9_init 8 = .ok (.newarray .int, 2) := by decide +kernel
theorem dX9_init_10 : decode cX9_init 10 = .ok (.putfield 9, 3) := by decide +kernel
theorem dX9_init_13 : decode cX9_init 13 = .ok (.aload_n 0, 1) := by decide +kernel
theorem dX9_init_14 : decode cX9_init 14 = .ok (.iconst 0, 1) := by decide +kernel
theorem dX9_init_15 : decode cX9_init 15 = .ok (.putfield 15, 3) := by decide +kernel
theorem dX9_init_18 : decode cX9_init 18 = .ok (.aload_n 0, 1) := by decide +kernel
theorem dX9_init_19 : decode cX9_init 19 = .ok (.sipush 401, 3) := by decide +kernel
theorem dX9_init_22 : decode cX9_init 22 = .ok (.anewarray 19, 3) := by decide +kernel
theorem dX9_init_25 : decode cX9_init 25 = .ok (.putfield 21, 3) := by decide +kernel
theorem dX9_init_28 : decode cX9_init 28 = .ok (.aload_n 0, 1) := by decide +kernel
theorem dX9_init_29 : decode cX9_init 29 = .ok (.sipush 401, 3) := by decide +kernel
theorem dX9_init_32 : decode cX9_init 32 = .ok (.newarray .int, 2) := by decide +kernel
theorem dX9_init_34 : decode cX9_init 34 = .ok (.putfield 25, 3) := by decide +kernel
theorem dX9_init_37 : decode cX9_init 37 = .ok (.aload_n 0, 1) := by decide +kernel
theorem dX9_init_38 : decode cX9_init 38 = .ok (.sipush 401, 3) := by decide +kernel
theorem dX9_init_41 : decode cX9_init 41 = .ok (.newarray .int, 2) := by decide +kernel
theorem dX9_init_43 : decode cX9_init 43 = .ok (.putfield 28, 3) := by decide +kernel
theorem dX9_init_46 : decode cX9_init 46 = .ok (.aload_n 0, 1) := by decide +kernel
theorem dX9_init_47 : decode cX9_init 47 = .ok (.iconst 0, 1) := by decide +kernel
theorem dX9_init_48 : decode cX9_init 48 = .ok (.putfield 31, 3) := by decide +kernel
theorem dX9_init_51 : decode cX9_init 51 = .ok (.aload_n 0, 1) := by decide +kernel
theorem dX9_init_52 : decode cX9_init 52 = .ok (.iconst 0, 1) := by decide +kernel
theorem dX9_init_53 : decode cX9_init 53 = .ok (.putfield 34, 3) := by decide +kernel
theorem dX9_init_56 : decode cX9_init 56 = .ok (.return_, 1) := by decide +kernel
theorem dX9_append_0 : decode cX9_append 0 = .ok (.bipush 24, 2) := by decide +kernel
theorem dX9_append_2 : decode cX9_append 2 = .ok (.istore_n 2, 1) := by decide +kernel
theorem dX9_append_3 : decode cX9_append 3 = .ok (.iload_n 2, 1) := by decide +kernel
theorem dX9_append_4 : decode cX9_append 4 = .ok (.ifCond .lt 45, 3) := by decide +kernel
theorem dX9_append_7 : decode cX9_append 7 = .ok (.aload_n 0, 1) := by decide +kernel
theorem dX9_append_8 : decode cX9_append 8 = .ok (.getfield 15, 3) := by decide +kernel
theorem dX9_append_11 : decode cX9_append 11 = .ok (.sipush 400, 3) := by decide +kernel
theorem dX9_append_14 : decode cX9_append 14 = .ok (.if_icmp .ge 35, 3) := by decide +kernel
theorem dX9_append_17 : decode cX9_append 17 = .ok (.aload_n 0, 1) := by decide +kernel
theorem dX9_append_18 : decode cX9_append 18 = .ok (.getfield 9, 3) := by decide +kernel
theorem dX9_append_21 : decode cX9_append 21 = .ok (.aload_n 0, 1) := by decide +kernel
theorem dX9_append_22 : decode cX9_append 22 = .ok (.getfield 15, 3) := by decide +kernel
theorem dX9_append_25 : decode cX9_append 25 = .ok (.iload_n 1, 1) := by decide +kernel
theorem dX9_append_26 : decode cX9_append 26 = .ok (.iload_n 2, 1) := by decide +kernel
theorem dX9_append_27 : decode cX9_append 27 = .ok (.ishr, 1) := by decide +kernel
theorem dX9_append_28 : decode cX9_append 28 = .ok (.sipush 255, 3) := by decide +kernel
theorem dX9_append_31 : decode cX9_append 31 = .ok (.iand, 1) := by decide +kernel
theorem dX9_append_32 : decode cX9_append 32 = .ok (.iastore, 1) := by decide +kernel
theorem dX9_append_33 : decode cX9_append 33 = .ok (.aload_n 0, 1) := by decide +kernel
theorem dX9_append_34 : decode cX9_append 34 = .ok (.dup, 1) := by decide +kernel
theorem dX9_append_35 : decode cX9_append 35 = .ok (.getfield 15, 3) := by decide +kernel
theorem dX9_append_38 : decode cX9_append 38 = .ok (.iconst 1, 1) := by decide +kernel
theorem dX9_append_39 : decode cX9_append 39 = .ok (.iadd, 1) := by decide +kernel
theorem dX9_append_40 : decode cX9_append 40 = .ok (.putfield 15, 3) := by decide +kernel
theorem dX9_append_43 : decode cX9_append 43 = .ok (.iinc 2 (-8), 3) := by decide +kernel
theorem dX9_append_46 : decode cX9_append 46 = .ok (.goto (-43), 3) := by decide +kernel
theorem dX9_append_49 : decode cX9_append 49 = .ok (.return_, 1) := by decide +kernel
theorem dX9_split_0 : decode cX9_split 0 = .ok (.aload_n 0, 1) := by decide +kernel
theorem dX9_split_1 : decode cX9_split 1 = .ok (.iconst 0, 1) := by decide +kernel
theorem dX9_split_2 : decode cX9_split 2 = .ok (.putfield 31, 3) := by decide +kernel
theorem dX9_split_5 : decode cX9_split 5 = .ok (.aload_n 0, 1) := by decide +kernel
theorem dX9_split_6 : decode cX9_split 6 = .ok (.iconst 0, 1) := by decide +kernel
theorem dX9_split_7 : decode cX9_split 7 = .ok (.putfield 34, 3) := by decide +kernel
theorem dX9_split_10 : decode cX9_split 10 = .ok (.iconst 0, 1) := by decide +kernel
theorem dX9_split_11 : decode cX9_split 11 = .ok (.istore_n 1, 1) := by decide +kernel
theorem dX9_split_12 : decode cX9_split 12 = .ok (.iload_n 1, 1) := by decide +kernel
theorem dX9_split_13 : decode cX9_split 13 = .ok (.aload_n 0, 1) := by decide +kernel
theorem dX9_split_14 : decode cX9_split 14 = .ok (.getfield 15, 3) := by decide +kernel
theorem dX9_split_17 : decode cX9_split 17 = .ok (.if_icmp .ge 61, 3) := by decide +kernel
theorem dX9_split_20 : decode cX9_split 20 = .ok (.iload_n 1, 1) := by decide +kernel
theorem dX9_split_21 : decode cX9_split 21 = .ok (.iconst 1, 1) := by decide +kernel
theorem dX9_split_22 : decode cX9_split 22 = .ok (.iadd, 1) := by decide +kernel
theorem dX9_split_23 : decode cX9_split 23 = .ok (.istore_n 2, 1) := by decide +kernel
theorem dX9_split_24 : decode cX9_split 24 = .ok (.iload_n 2, 1) := by decide +kernel
theorem dX9_split_25 : decode cX9_split 25 = .ok (.aload_n 0, 1) := by decide +kernel
theorem dX9_split_26 : decode cX9_split 26 = .ok (.getfield 15, 3) := by decide +kernel
theorem dX9_split_29 : decode cX9_split 29 = .ok (.if_icmp .ge 27, 3) := by decide +kernel
theorem dX9_split_32 : decode cX9_split 32 = .ok (.aload_n 0, 1) := by decide +kernel
theorem dX9_split_33 : decode cX9_split 33 = .ok (.getfield 9, 3) := by decide +kernel
theorem dX9_split_36 : decode cX9_split 36 = .ok (.iload_n 1, 1) := by decide +kernel
theorem dX9_split_37 : decode cX9_split 37 = .ok (.iaload, 1) := by decide +kernel
theorem dX9_split_38 : decode cX9_split 38 = .ok (.aload_n 0, 1) := by decide +kernel
theorem dX9_split_39 : decode cX9_split 39 = .ok (.getfield 9, 3) := by decide +kernel
theorem dX9_split_42 : decode cX9_split 42 = .ok (.iload_n 2, 1) := by decide +kernel
theorem dX9_split_43 : decode cX9_split 43 = .ok (.iaload, 1) := by decide +kernel
theorem dX9_split_44 : decode cX9_split 44 = .ok (.invokestatic 37, 3) := by decide +kernel
theorem dX9_split_47 : decode cX9_split 47 = .ok (.ifCond .eq 9, 3) := by decide +kernel
theorem dX9_split_50 : decode cX9_split 50 = .ok (.iinc 2 1, 3) := by decide +kernel
theorem dX9_split_53 : decode cX9_split 53 = .ok (.goto (-29), 3) := by decide +kernel
theorem dX9_split_56 : decode cX9_split 56 = .ok (.aload_n 0, 1) := by decide +kernel
theorem dX9_split_57 : decode cX9_split 57 = .ok (.getfield 9, 3) := by decide +kernel
theorem dX9_split_60 : decode cX9_split 60 = .ok (.iload_n 1, 1) := by decide +kernel
theorem dX9_split_61 : decode cX9_split 61 = .ok (.iaload, 1) := by decide +kernel
theorem dX9_split_62 : decode cX9_split 62 = .ok (.bipush 32, 2) := by decide +kernel
theorem dX9_split_64 : decode cX9_split 64 = .ok (.if_icmp .eq 9, 3) := by decide +kernel
theorem dX9_split_67 : decode cX9_split 67 = .ok (.aload_n 0, 1) := by decide +kernel
theorem dX9_split_68 : decode cX9_split 68 = .ok (.iload_n 1, 1) := by decide +kernel
theorem dX9_split_69 : decode cX9_split 69 = .ok (.iload_n 2, 1) := by decide +kernel
theorem dX9_split_70 : decode cX9_split 70 = .ok (.invokevirtual 41, 3) := by decide +kernel
theorem dX9_split_73 : decode cX9_split 73 = .ok (.iload_n 2, 1) := by decide +kernel
theorem dX9_split_74 : decode cX9_split 74 = .ok (.istore_n 1, 1) := by decide +kernel
theorem dX9_split_75 : decode cX9_split 75 = .ok (.goto (-63), 3) := by decide +kernel
theorem dX9_split_78 : decode cX9_split 78 = .ok (.aload_n 0, 1) := by decide +kernel
theorem dX9_split_79 : decode cX9_split 79 = .ok (.getfield 21, 3) := by decide +kernel
theorem dX9_split_82 : decode cX9_split 82 = .ok (.aload_n 0, 1) := by decide +kernel
theorem dX9_split_83 : decode cX9_split 83 = .ok (.getfield 31, 3) := by decide +kernel
theorem dX9_split_86 : decode cX9_split 86 = .ok (.getstatic 45, 3) := by decide +kernel
theorem dX9_split_89 : decode cX9_split 89 = .ok (.aastore, 1) := by decide +kernel
theorem dX9_split_90 : decode cX9_split 90 = .ok (.aload_n 0, 1) := by decide +kernel
theorem dX9_split_91 : decode cX9_split 91 = .ok (.getfield 25, 3) := by decide +kernel
theorem dX9_split_94 : decode cX9_split 94 = .ok (.aload_n 0, 1) := by decide +kernel
theorem dX9_split_95 : decode cX9_split 95 = .ok (.getfield 31, 3) := by decide +kernel
theorem dX9_split_98 : decode cX9_split 98 = .ok (.aload_n 0, 1) := by decide +kernel
theorem dX9_split_99 : decode cX9_split 99 = .ok (.getfield 15, 3) := by decide +kernel
theorem dX9_split_102 : decode cX9_split 102 = .ok (.iastore, 1) := by decide +kernel
theorem dX9_split_103 : decode cX9_split 103 = .ok (.return_, 1) := by decide +kernel
theorem dX9_putThing_0 : decode cX9_putThing 0 = .ok (.aload_n 0, 1) := by decide +kernel
theorem dX9_putThing_1 : decode cX9_putThing 1 = .ok (.getfield 31, 3) := by decide +kernel
theorem dX9_putThing_4 : decode cX9_putThing 4 = .ok (.sipush 400, 3) := by decide +kernel
theorem dX9_putThing_7 : decode cX9_putThing 7 = .ok (.if_icmp .lt 4, 3) := by decide +kernel
theorem dX9_putThing_10 : decode cX9_putThing 10 = .ok (.return_, 1) := by decide +kernel
theorem dX9_putThing_11 : decode cX9_putThing 11 = .ok (.aload_n 0, 1) := by decide +kernel
theorem dX9_putThing_12 : decode cX9_putThing 12 = .ok (.getfield 25, 3) := by decide +kernel
theorem dX9_putThing_15 : decode cX9_putThing 15 = .ok (.aload_n 0, 1) := by decide +kernel
theorem dX9_putThing_16 : decode cX9_putThing 16 = .ok (.getfield 31, 3) := by decide +kernel
theorem dX9_putThing_19 : decode cX9_putThing 19 = .ok (.iload_n 1, 1) := by decide +kernel
theorem dX9_putThing_20 : decode cX9_putThing 20 = .ok (.iastore, 1) := by decide +kernel
theorem dX9_putThing_21 : decode cX9_putThing 21 = .ok (.aload_n 0, 1) := by decide +kernel
theorem dX9_putThing_22 : decode cX9_putThing 22 = .ok (.getfield 9, 3) := by decide +kernel
theorem dX9_putThing_25 : decode cX9_putThing 25 = .ok (.iload_n 1, 1) := by decide +kernel
theorem dX9_putThing_26 : decode cX9_putThing 26 = .ok (.iaload, 1) := by decide +kernel
theorem dX9_putThing_27 : decode cX9_putThing 27 = .ok (.invokestatic 49, 3) := by decide +kernel
theorem dX9_putThing_30 : decode cX9_putThing 30 = .ok (.ifCond .eq 64, 3) := by decide +kernel
theorem dX9_putThing_33 : decode cX9_putThing 33 = .ok (.iload_n 2, 1) := by decide +kernel
theorem dX9_putThing_34 : decode cX9_putThing 34 = .ok (.iload_n 1, 1) := by decide +kernel
theorem dX9_putThing_35 : decode cX9_putThing 35 = .ok (.isub, 1) := by decide +kernel
theorem dX9_putThing_36 : decode cX9_putThing 36 = .ok (.iconst 3, 1) := by decide +kernel
theorem dX9_putThing_37 : decode cX9_putThing 37 = .ok (.if_icmp .gt 7, 3) := by decide +kernel
theorem dX9_putThing_40 : decode cX9_putThing 40 = .ok (.iconst 1, 1) := by decide +kernel
theorem dX9_putThing_41 : decode cX9_putThing 41 = .ok (.goto 4, 3) := by decide +kernel
theorem dX9_putThing_44 : decode cX9_putThing 44 = .ok (.iconst 0, 1) := by decide +kernel
theorem dX9_putThing_45 : decode cX9_putThing 45 = .ok (.istore_n 3, 1) := by decide +kernel
theorem dX9_putThing_46 : decode cX9_putThing 46 = .ok (.aload_n 0, 1) := by decide +kernel
theorem dX9_putThing_47 : decode cX9_putThing 47 = .ok (.getfield 21, 3) := by decide +kernel
theorem dX9_putThing_50 : decode cX9_putThing 50 = .ok (.aload_n 0, 1) := by decide +kernel
theorem dX9_putThing_51 : decode cX9_putThing 51 = .ok (.getfield 31, 3) := by decide +kernel
theorem dX9_putThing_54 : decode cX9_putThing 54 = .ok (.iload_n 3, 1) := by decide +kernel
theorem dX9_putThing_55 : decode cX9_putThing 55 = .ok (.ifCond .eq 9, 3) := by decide +kernel
theorem dX9_putThing_58 : decode cX9_putThing 58 = .ok (.getstatic 53, 3) := by decide +kernel
theorem dX9_putThing_61 : decode cX9_putThing 61 = .ok (.goto 6, 3) := by decide +kernel
theorem dX9_putThing_64 : decode cX9_putThing 64 = .ok (.getstatic 56, 3) := by decide +kernel
theorem dX9_putThing_67 : decode cX9_putThing 67 = .ok (.aastore, 1) := by decide +kernel
theorem dX9_putThing_68 : decode cX9_putThing 68 = .ok (.aload_n 0, 1) := by decide +kernel
theorem dX9_putThing_69 : decode cX9_putThing 69 = .ok (.getfield 28, 3) := by decide +kernel
theorem dX9_putThing_72 : decode cX9_putThing 72 = .ok (.aload_n 0, 1) := by decide +kernel
theorem dX9_putThing_73 : decode cX9_putThing 73 = .ok (.getfield 31, 3) := by decide +kernel
theorem dX9_putThing_76 : decode cX9_putThing 76 = .ok (.iload_n 3, 1) := by decide +kernel
theorem dX9_putThing_77 : decode cX9_putThing 77 = .ok (.ifCond .eq 12, 3) := by decide +kernel
theorem dX9_putThing_80 : decode cX9_putThing 80 = .ok (.aload_n 0, 1) := by decide +kernel
theorem dX9_putThing_81 : decode cX9_putThing 81 = .ok (.iload_n 1, 1) := by decide +kernel
theorem dX9_putThing_82 : decode cX9_putThing 82 = .ok (.iload_n 2, 1) := by decide +kernel
theorem dX9_putThing_83 : decode cX9_putThing 83 = .ok (.invokevirtual 59, 3) := by decide +kernel
theorem dX9_putThing_86 : decode cX9_putThing 86 = .ok (.goto 4, 3) := by decide +kernel
theorem dX9_putThing_89 : decode cX9_putThing 89 = .ok (.iconst 0, 1) := by decide +kernel
theorem dX9_putThing_90 : decode cX9_putThing 90 = .ok (.iastore, 1) := by decide +kernel
theorem dX9_putThing_91 : decode cX9_putThing 91 = .ok (.goto 18, 3) := by decide +kernel
theorem dX9_putThing_94 : decode cX9_putThing 94 = .ok (.aload_n 0, 1) := by decide +kernel
theorem dX9_putThing_95 : decode cX9_putThing 95 = .ok (.getfield 21, 3) := by decide +kernel
theorem dX9_putThing_98 : decode cX9_putThing 98 = .ok (.aload_n 0, 1) := by decide +kernel
theorem dX9_putThing_99 : decode cX9_putThing 99 = .ok (.getfield 31, 3) := by decide +kernel
theorem dX9_putThing_102 : decode cX9_putThing 102 = .ok (.aload_n 0, 1) := by decide +kernel
theorem dX9_putThing_103 : decode cX9_putThing 103 = .ok (.iload_n 1, 1) := by decide +kernel
theorem dX9_putThing_104 : decode cX9_putThing 104 = .ok (.iload_n 2, 1) := by decide +kernel
theorem dX9_putThing_105 : decode cX9_putThing 105 = .ok (.invokevirtual 63, 3) := by decide +kernel
theorem dX9_putThing_108 : decode cX9_putThing 108 = .ok (.aastore, 1) := by decide +kernel
theorem dX9_putThing_109 : decode cX9_putThing 109 = .ok (.aload_n 0, 1) := by decide +kernel
theorem dX9_putThing_110 : decode cX9_putThing 110 = .ok (.dup, 1) := by decide +kernel
theorem dX9_putThing_111 : decode cX9_putThing 111 = .ok (.getfield 31, 3) := by decide +kernel
theorem dX9_putThing_114 : decode cX9_putThing 114 = .ok (.iconst 1, 1) := by decide +kernel
theorem dX9_putThing_115 : decode cX9_putThing 115 = .ok (.iadd, 1) := by decide +kernel
theorem dX9_putThing_116 : decode cX9_putThing 116 = .ok (.putfield 31, 3) := by decide +kernel
theorem dX9_putThing_119 : decode cX9_putThing 119 = .ok (.return_, 1) := by decide +kernel
theorem dX9_numberOf_0 : decode cX9_numberOf 0 = .ok (.iconst 0, 1) := by decide +kernel
theorem dX9_numberOf_1 : decode cX9_numberOf 1 = .ok (.istore_n 3, 1) := by decide +kernel
theorem dX9_numberOf_2 : decode cX9_numberOf 2 = .ok (.iload_n 1, 1) := by decide +kernel
theorem dX9_numberOf_3 : decode cX9_numberOf 3 = .ok (.istore 4, 2) := by decide +kernel
theorem dX9_numberOf_5 : decode cX9_numberOf 5 = .ok (.iload 4, 2) := by decide +kernel
theorem dX9_numberOf_7 : decode cX9_numberOf 7 = .ok (.iload_n 2, 1) := by decide +kernel
theorem dX9_numberOf_8 : decode cX9_numberOf 8 = .ok (.if_icmp .ge 25, 3) := by decide +kernel
theorem dX9_numberOf_11 : decode cX9_numberOf 11 = .ok (.bipush 10, 2) := by decide +kernel
theorem dX9_numberOf_13 : decode cX9_numberOf 13 = .ok (.iload_n 3, 1) := by decide +kernel
theorem dX9_numberOf_14 : decode cX9_numberOf 14 = .ok (.imul, 1) := by decide +kernel
theorem dX9_numberOf_15 : decode cX9_numberOf 15 = .ok (.aload_n 0, 1) := by decide +kernel
theorem dX9_numberOf_16 : decode cX9_numberOf 16 = .ok (.getfield 9, 3) := by decide +kernel
theorem dX9_numberOf_19 : decode cX9_numberOf 19 = .ok (.iload 4, 2) := by decide +kernel
theorem dX9_numberOf_21 : decode cX9_numberOf 21 = .ok (.iaload, 1) := by decide +kernel
theorem dX9_numberOf_22 : decode cX9_numberOf 22 = .ok (.iadd, 1) := by decide +kernel
theorem dX9_numberOf_23 : decode cX9_numberOf 23 = .ok (.bipush 48, 2) := by decide +kernel
theorem dX9_numberOf_25 : decode cX9_numberOf 25 = .ok (.isub, 1) := by decide +kernel
theorem dX9_numberOf_26 : decode cX9_numberOf 26 = .ok (.istore_n 3, 1) := by decide +kernel
theorem dX9_numberOf_27 : decode cX9_numberOf 27 = .ok (.iinc 4 1, 3) := by decide +kernel
theorem dX9_numberOf_30 : decode cX9_numberOf 30 = .ok (.goto (-25), 3) := by decide +kernel
theorem dX9_numberOf_33 : decode cX9_numberOf 33 = .ok (.iload_n 3, 1) := by decide +kernel
theorem dX9_numberOf_34 : decode cX9_numberOf 34 = .ok (.ireturn, 1) := by decide +kernel
theorem dX9_nameOf_0 : decode cX9_nameOf 0 = .ok (.iconst 0, 1) := by decide +kernel
theorem dX9_nameOf_1 : decode cX9_nameOf 1 = .ok (.istore_n 3, 1) := by decide +kernel
theorem dX9_nameOf_2 : decode cX9_nameOf 2 = .ok (.iload_n 3, 1) := by decide +kernel
theorem dX9_nameOf_3 : decode cX9_nameOf 3 = .ok (.getstatic 67, 3) := by decide +kernel
theorem dX9_nameOf_6 : decode cX9_nameOf 6 = .ok (.arraylength, 1) := by decide +kernel
theorem dX9_nameOf_7 : decode cX9_nameOf 7 = .ok (.if_icmp .ge 32, 3) := by decide +kernel
theorem dX9_nameOf_10 : decode cX9_nameOf 10 = .ok (.aload_n 0, 1) := by decide +kernel
theorem dX9_nameOf_11 : decode cX9_nameOf 11 = .ok (.getstatic 67, 3) := by decide +kernel
theorem dX9_nameOf_14 : decode cX9_nameOf 14 = .ok (.iload_n 3, 1) := by decide +kernel
theorem dX9_nameOf_15 : decode cX9_nameOf 15 = .ok (.aaload, 1) := by decide +kernel
theorem dX9_nameOf_16 : decode cX9_nameOf 16 = .ok (.getfield 70, 3) := by decide +kernel
theorem dX9_nameOf_19 : decode cX9_nameOf 19 = .ok (.iload_n 1, 1) := by decide +kernel
theorem dX9_nameOf_20 : decode cX9_nameOf 20 = .ok (.iload_n 2, 1) := by decide +kernel
theorem dX9_nameOf_21 : decode cX9_nameOf 21 = .ok (.invokevirtual 74, 3) := by decide +kernel
theorem dX9_nameOf_24 : decode cX9_nameOf 24 = .ok (.ifCond .eq 9, 3) := by decide +kernel
theorem dX9_nameOf_27 : decode cX9_nameOf 27 = .ok (.getstatic 67, 3) := by decide +kernel
theorem dX9_nameOf_30 : decode cX9_nameOf 30 = .ok (.iload_n 3, 1) := by decide +kernel
theorem dX9_nameOf_31 : decode cX9_nameOf 31 = .ok (.aaload, 1) := by decide +kernel
theorem dX9_nameOf_32 : decode cX9_nameOf 32 = .ok (.areturn, 1) := by decide +kernel
theorem dX9_nameOf_33 : decode cX9_nameOf 33 = .ok (.iinc 3 1, 3) := by decide +kernel
theorem dX9_nameOf_36 : decode cX9_nameOf 36 = .ok (.goto (-34), 3) := by decide +kernel
theorem dX9_nameOf_39 : decode cX9_nameOf 39 = .ok (.getstatic 56, 3) := by decide +kernel
theorem dX9_nameOf_42 : decode cX9_nameOf 42 = .ok (.areturn, 1) := by decide +kernel
theorem dX9_isText_0 : decode cX9_isText 0 = .ok (.aload_n 1, 1) := by decide +kernel
theorem dX9_isText_1 : decode cX9_isText 1 = .ok (.invokevirtual 78, 3) := by decide +kernel
theorem dX9_isText_4 : decode cX9_isText 4 = .ok (.iload_n 3, 1) := by decide +kernel
theorem dX9_isText_5 : decode cX9_isText 5 = .ok (.iload_n 2, 1) := by decide +kernel
theorem dX9_isText_6 : decode cX9_isText 6 = .ok (.isub, 1) := by decide +kernel
theorem dX9_isText_7 : decode cX9_isText 7 = .ok (.if_icmp .eq 5, 3) := by decide +kernel
theorem dX9_isText_10 : decode cX9_isText 10 = .ok (.iconst 0, 1) := by decide +kernel
theorem dX9_isText_11 : decode cX9_isText 11 = .ok (.ireturn, 1) := by decide +kernel
theorem dX9_isText_12 : decode cX9_isText 12 = .ok (.iload_n 2, 1) := by decide +kernel
theorem dX9_isText_13 : decode cX9_isText 13 = .ok (.istore 4, 2) := by decide +kernel
theorem dX9_isText_15 : decode cX9_isText 15 = .ok (.iload 4, 2) := by decide +kernel
theorem dX9_isText_17 : decode cX9_isText 17 = .ok (.iload_n 3, 1) := by decide +kernel
theorem dX9_isText_18 : decode cX9_isText 18 = .ok (.if_icmp .ge 29, 3) := by decide +kernel
theorem dX9_isText_21 : decode cX9_isText 21 = .ok (.aload_n 1, 1) := by decide +kernel
theorem dX9_isText_22 : decode cX9_isText 22 = .ok (.iload 4, 2) := by decide +kernel
theorem dX9_isText_24 : decode cX9_isText 24 = .ok (.iload_n 2, 1) := by decide +kernel
theorem dX9_isText_25 : decode cX9_isText 25 = .ok (.isub, 1) := by decide +kernel
theorem dX9_isText_26 : decode cX9_isText 26 = .ok (.invokevirtual 84, 3) := by decide +kernel
theorem dX9_isText_29 : decode cX9_isText 29 = .ok (.aload_n 0, 1) := by decide +kernel
theorem dX9_isText_30 : decode cX9_isText 30 = .ok (.getfield 9, 3) := by decide +kernel
theorem dX9_isText_33 : decode cX9_isText 33 = .ok (.iload 4, 2) := by decide +kernel
theorem dX9_isText_35 : decode cX9_isText 35 = .ok (.iaload, 1) := by decide +kernel
theorem dX9_isText_36 : decode cX9_isText 36 = .ok (.if_icmp .eq 5, 3) := by decide +kernel
theorem dX9_isText_39 : decode cX9_isText 39 = .ok (.iconst 0, 1) := by decide +kernel
theorem dX9_isText_40 : decode cX9_isText 40 = .ok (.ireturn, 1) := by decide +kernel
theorem dX9_isText_41 : decode cX9_isText 41 = .ok (.iinc 4 1, 3) := by decide +kernel
theorem dX9_isText_44 : decode cX9_isText 44 = .ok (.goto (-29), 3) := by decide +kernel
theorem dX9_isText_47 : decode cX9_isText 47 = .ok (.iconst 1, 1) := by decide +kernel
theorem dX9_isText_48 : decode cX9_isText 48 = .ok (.ireturn, 1) := by decide +kernel
theorem dX9_goOn_0 : decode cX9_goOn 0 = .ok (.iload_n 0, 1) := by decide +kernel
theorem dX9_goOn_1 : decode cX9_goOn 1 = .ok (.invokestatic 49, 3) := by decide +kernel
theorem dX9_goOn_4 : decode cX9_goOn 4 = .ok (.ifCond .eq 10, 3) := by decide +kernel
theorem dX9_goOn_7 : decode cX9_goOn 7 = .ok (.iload_n 1, 1) := by decide +kernel
theorem dX9_goOn_8 : decode cX9_goOn 8 = .ok (.invokestatic 49, 3) := by decide +kernel
theorem dX9_goOn_11 : decode cX9_goOn 11 = .ok (.ifCond .ne 17, 3) := by decide +kernel
theorem dX9_goOn_14 : decode cX9_goOn 14 = .ok (.iload_n 0, 1) := by decide +kernel
theorem dX9_goOn_15 : decode cX9_goOn 15 = .ok (.invokestatic 88, 3) := by decide +kernel
theorem dX9_goOn_18 : decode cX9_goOn 18 = .ok (.ifCond .eq 14, 3) := by decide +kernel
theorem dX9_goOn_21 : decode cX9_goOn 21 = .ok (.iload_n 1, 1) := by decide +kernel
theorem dX9_goOn_22 : decode cX9_goOn 22 = .ok (.invokestatic 88, 3) := by decide +kernel
