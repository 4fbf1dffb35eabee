theorem dX2_behind_13 : decode cX2_behind 13 = .ok (.isub, 1) := by decide +kernel
theorem dX2_behind_14 : decode cX2_behind 14 = .ok (.ishl, 1) := by decide +kernel
theorem dX2_behind_15 : decode cX2_behind 15 = .ok (.ixor, 1) := by decide +kernel
theorem dX2_behind_16 : decode cX2_behind 16 = .ok (.goto 10, 3) := by decide +kernel
theorem dX2_behind_19 : decode cX2_behind 19 = .ok (.iload_n 1, 1) := by decide +kernel
theorem dX2_behind_20 : decode cX2_behind 20 = .ok (.iload_n 2, 1) := by decide +kernel
theorem dX2_behind_21 : decode cX2_behind 21 = .ok (.iconst 1, 1) := by decide +kernel
theorem dX2_behind_22 : decode cX2_behind 22 = .ok (.ishl, 1) := by decide +kernel
theorem dX2_behind_23 : decode cX2_behind 23 = .ok (.iconst 1, 1) := by decide +kernel
theorem dX2_behind_24 : decode cX2_behind 24 = .ok (.ior, 1) := by decide +kernel
theorem dX2_behind_25 : decode cX2_behind 25 = .ok (.ixor, 1) := by decide +kernel
theorem dX2_behind_26 : decode cX2_behind 26 = .ok (.ireturn, 1) := by decide +kernel
theorem dX2_list_0 : decode cX2_list 0 = .ok (.aload_n 0, 1) := by decide +kernel
theorem dX2_list_1 : decode cX2_list 1 = .ok (.iconst 0, 1) := by decide +kernel
theorem dX2_list_2 : decode cX2_list 2 = .ok (.putfield 38, 3) := by decide +kernel
theorem dX2_list_5 : decode cX2_list 5 = .ok (.aload_n 0, 1) := by decide +kernel
theorem dX2_list_6 : decode cX2_list 6 = .ok (.iload_n 1, 1) := by decide +kernel
theorem dX2_list_7 : decode cX2_list 7 = .ok (.invokevirtual 90, 3) := by decide +kernel
theorem dX2_list_10 : decode cX2_list 10 = .ok (.istore_n 2, 1) := by decide +kernel
theorem dX2_list_11 : decode cX2_list 11 = .ok (.iconst 0, 1) := by decide +kernel
theorem dX2_list_12 : decode cX2_list 12 = .ok (.istore_n 3, 1) := by decide +kernel
theorem dX2_list_13 : decode cX2_list 13 = .ok (.iconst 1, 1) := by decide +kernel
theorem dX2_list_14 : decode cX2_list 14 = .ok (.iload_n 2, 1) := by decide +kernel
theorem dX2_list_15 : decode cX2_list 15 = .ok (.invokestatic 118, 3) := by decide +kernel
theorem dX2_list_18 : decode cX2_list 18 = .ok (.ishl, 1) := by decide +kernel
theorem dX2_list_19 : decode cX2_list 19 = .ok (.istore 4, 2) := by decide +kernel
theorem dX2_list_21 : decode cX2_list 21 = .ok (.iload 4, 2) := by decide +kernel
theorem dX2_list_23 : decode cX2_list 23 = .ok (.ifCond .le 26, 3) := by decide +kernel
theorem dX2_list_26 : decode cX2_list 26 = .ok (.aload_n 0, 1) := by decide +kernel
theorem dX2_list_27 : decode cX2_list 27 = .ok (.iload_n 3, 1) := by decide +kernel
theorem dX2_list_28 : decode cX2_list 28 = .ok (.aload_n 0, 1) := by decide +kernel
theorem dX2_list_29 : decode cX2_list 29 = .ok (.iload_n 1, 1) := by decide +kernel
theorem dX2_list_30 : decode cX2_list 30 = .ok (.iload_n 3, 1) := by decide +kernel
theorem dX2_list_31 : decode cX2_list 31 = .ok (.invokevirtual 123, 3) := by decide +kernel
theorem dX2_list_34 : decode cX2_list 34 = .ok (.invokevirtual 126, 3) := by decide +kernel
theorem dX2_list_37 : decode cX2_list 37 = .ok (.iload_n 3, 1) := by decide +kernel
theorem dX2_list_38 : decode cX2_list 38 = .ok (.iload_n 2, 1) := by decide +kernel
theorem dX2_list_39 : decode cX2_list 39 = .ok (.isub, 1) := by decide +kernel
theorem dX2_list_40 : decode cX2_list 40 = .ok (.iload_n 2, 1) := by decide +kernel
theorem dX2_list_41 : decode cX2_list 41 = .ok (.iand, 1) := by decide +kernel
theorem dX2_list_42 : decode cX2_list 42 = .ok (.istore_n 3, 1) := by decide +kernel
theorem dX2_list_43 : decode cX2_list 43 = .ok (.iinc 4 (-1), 3) := by decide +kernel
theorem dX2_list_46 : decode cX2_list 46 = .ok (.goto (-25), 3) := by decide +kernel
theorem dX2_list_49 : decode cX2_list 49 = .ok (.iconst 0, 1) := by decide +kernel
theorem dX2_list_50 : decode cX2_list 50 = .ok (.istore 4, 2) := by decide +kernel
theorem dX2_list_52 : decode cX2_list 52 = .ok (.iload 4, 2) := by decide +kernel
theorem dX2_list_54 : decode cX2_list 54 = .ok (.aload_n 0, 1) := by decide +kernel
theorem dX2_list_55 : decode cX2_list 55 = .ok (.getfield 41, 3) := by decide +kernel
theorem dX2_list_58 : decode cX2_list 58 = .ok (.getfield 61, 3) := by decide +kernel
theorem dX2_list_61 : decode cX2_list 61 = .ok (.if_icmp .ge 26, 3) := by decide +kernel
theorem dX2_list_64 : decode cX2_list 64 = .ok (.aload_n 0, 1) := by decide +kernel
theorem dX2_list_65 : decode cX2_list 65 = .ok (.sipush 1024, 3) := by decide +kernel
theorem dX2_list_68 : decode cX2_list 68 = .ok (.iload 4, 2) := by decide +kernel
theorem dX2_list_70 : decode cX2_list 70 = .ok (.iadd, 1) := by decide +kernel
theorem dX2_list_71 : decode cX2_list 71 = .ok (.aload_n 0, 1) := by decide +kernel
theorem dX2_list_72 : decode cX2_list 72 = .ok (.iload_n 1, 1) := by decide +kernel
theorem dX2_list_73 : decode cX2_list 73 = .ok (.iload 4, 2) := by decide +kernel
theorem dX2_list_75 : decode cX2_list 75 = .ok (.invokevirtual 129, 3) := by decide +kernel
theorem dX2_list_78 : decode cX2_list 78 = .ok (.invokevirtual 126, 3) := by decide +kernel
theorem dX2_list_81 : decode cX2_list 81 = .ok (.iinc 4 1, 3) := by decide +kernel
theorem dX2_list_84 : decode cX2_list 84 = .ok (.goto (-32), 3) := by decide +kernel
theorem dX2_list_87 : decode cX2_list 87 = .ok (.return_, 1) := by decide +kernel
theorem dX2_putMove_0 : decode cX2_putMove 0 = .ok (.iload_n 2, 1) := by decide +kernel
theorem dX2_putMove_1 : decode cX2_putMove 1 = .ok (.iconst (-1), 1) := by decide +kernel
theorem dX2_putMove_2 : decode cX2_putMove 2 = .ok (.if_icmp .eq 43, 3) := by decide +kernel
theorem dX2_putMove_5 : decode cX2_putMove 5 = .ok (.aload_n 0, 1) := by decide +kernel
theorem dX2_putMove_6 : decode cX2_putMove 6 = .ok (.getfield 38, 3) := by decide +kernel
theorem dX2_putMove_9 : decode cX2_putMove 9 = .ok (.sipush 1034, 3) := by decide +kernel
theorem dX2_putMove_12 : decode cX2_putMove 12 = .ok (.if_icmp .ge 33, 3) := by decide +kernel
theorem dX2_putMove_15 : decode cX2_putMove 15 = .ok (.aload_n 0, 1) := by decide +kernel
theorem dX2_putMove_16 : decode cX2_putMove 16 = .ok (.getfield 32, 3) := by decide +kernel
theorem dX2_putMove_19 : decode cX2_putMove 19 = .ok (.aload_n 0, 1) := by decide +kernel
theorem dX2_putMove_20 : decode cX2_putMove 20 = .ok (.getfield 38, 3) := by decide +kernel
theorem dX2_putMove_23 : decode cX2_putMove 23 = .ok (.iload_n 1, 1) := by decide +kernel
theorem dX2_putMove_24 : decode cX2_putMove 24 = .ok (.iastore, 1) := by decide +kernel
theorem dX2_putMove_25 : decode cX2_putMove 25 = .ok (.aload_n 0, 1) := by decide +kernel
theorem dX2_putMove_26 : decode cX2_putMove 26 = .ok (.getfield 35, 3) := by decide +kernel
theorem dX2_putMove_29 : decode cX2_putMove 29 = .ok (.aload_n 0, 1) := by decide +kernel
theorem dX2_putMove_30 : decode cX2_putMove 30 = .ok (.getfield 38, 3) := by decide +kernel
theorem dX2_putMove_33 : decode cX2_putMove 33 = .ok (.iload_n 2, 1) := by decide +kernel
theorem dX2_putMove_34 : decode cX2_putMove 34 = .ok (.iastore, 1) := by decide +kernel
theorem dX2_putMove_35 : decode cX2_putMove 35 = .ok (.aload_n 0, 1) := by decide +kernel
theorem dX2_putMove_36 : decode cX2_putMove 36 = .ok (.dup, 1) := by decide +kernel
theorem dX2_putMove_37 : decode cX2_putMove 37 = .ok (.getfield 38, 3) := by decide +kernel
theorem dX2_putMove_40 : decode cX2_putMove 40 = .ok (.iconst 1, 1) := by decide +kernel
theorem dX2_putMove_41 : decode cX2_putMove 41 = .ok (.iadd, 1) := by decide +kernel
theorem dX2_putMove_42 : decode cX2_putMove 42 = .ok (.putfield 38, 3) := by decide +kernel
theorem dX2_putMove_45 : decode cX2_putMove 45 = .ok (.return_, 1) := by decide +kernel
theorem dX3_init_0 : decode cX3_init 0 = .ok (.aload_n 0, 1) := by decide +kernel
theorem dX3_init_1 : decode cX3_init 1 = .ok (.invokespecial 3, 3) := by decide +kernel
theorem dX3_init_4 : decode cX3_init 4 = .ok (.aload_n 0, 1) := by decide +kernel
theorem dX3_init_5 : decode cX3_init 5 = .ok (.bipush 6, 2) := by decide +kernel
theorem dX3_init_7 : decode cX3_init 7 = .ok (.newarray .int, 2) := by decide +kernel
theorem dX3_init_9 : decode cX3_init 9 = .ok (.putfield 11, 3) := by decide +kernel
theorem dX3_init_12 : decode cX3_init 12 = .ok (.aload_n 0, 1) := by decide +kernel
theorem dX3_init_13 : decode cX3_init 13 = .ok (.iconst 0, 1) := by decide +kernel
theorem dX3_init_14 : decode cX3_init 14 = .ok (.putfield 15, 3) := by decide +kernel
theorem dX3_init_17 : decode cX3_init 17 = .ok (.aload_n 0, 1) := by decide +kernel
theorem dX3_init_18 : decode cX3_init 18 = .ok (.aload_n 1, 1) := by decide +kernel
theorem dX3_init_19 : decode cX3_init 19 = .ok (.putfield 19, 3) := by decide +kernel
theorem dX3_init_22 : decode cX3_init 22 = .ok (.return_, 1) := by decide +kernel
theorem dX3_take_0 : decode cX3_take 0 = .ok (.aload_n 1, 1) := by decide +kernel
theorem dX3_take_1 : decode cX3_take 1 = .ok (.getfield 23, 3) := by decide +kernel
theorem dX3_take_4 : decode cX3_take 4 = .ok (.iconst 2, 1) := by decide +kernel
theorem dX3_take_5 : decode cX3_take 5 = .ok (.if_icmp .lt 21, 3) := by decide +kernel
theorem dX3_take_8 : decode cX3_take 8 = .ok (.aload_n 1, 1) := by decide +kernel
theorem dX3_take_9 : decode cX3_take 9 = .ok (.getfield 23, 3) := by decide +kernel
theorem dX3_take_12 : decode cX3_take 12 = .ok (.bipush 12, 2) := by decide +kernel
theorem dX3_take_14 : decode cX3_take 14 = .ok (.if_icmp .gt 12, 3) := by decide +kernel
theorem dX3_take_17 : decode cX3_take 17 = .ok (.aload_n 1, 1) := by decide +kernel
theorem dX3_take_18 : decode cX3_take 18 = .ok (.getfield 23, 3) := by decide +kernel
theorem dX3_take_21 : decode cX3_take 21 = .ok (.iconst 2, 1) := by decide +kernel
theorem dX3_take_22 : decode cX3_take 22 = .ok (.irem, 1) := by decide +kernel
theorem dX3_take_23 : decode cX3_take 23 = .ok (.ifCond .eq 5, 3) := by decide +kernel
theorem dX3_take_26 : decode cX3_take 26 = .ok (.iconst 0, 1) := by decide +kernel
theorem dX3_take_27 : decode cX3_take 27 = .ok (.ireturn, 1) := by decide +kernel
theorem dX3_take_28 : decode cX3_take 28 = .ok (.aload_n 0, 1) := by decide +kernel
theorem dX3_take_29 : decode cX3_take 29 = .ok (.aload_n 1, 1) := by decide +kernel
theorem dX3_take_30 : decode cX3_take 30 = .ok (.getfield 23, 3) := by decide +kernel
theorem dX3_take_33 : decode cX3_take 33 = .ok (.iconst 2, 1) := by decide +kernel
theorem dX3_take_34 : decode cX3_take 34 = .ok (.idiv, 1) := by decide +kernel
theorem dX3_take_35 : decode cX3_take 35 = .ok (.putfield 15, 3) := by decide +kernel
theorem dX3_take_38 : decode cX3_take 38 = .ok (.iconst 0, 1) := by decide +kernel
theorem dX3_take_39 : decode cX3_take 39 = .ok (.istore_n 2, 1) := by decide +kernel
theorem dX3_take_40 : decode cX3_take 40 = .ok (.iload_n 2, 1) := by decide +kernel
theorem dX3_take_41 : decode cX3_take 41 = .ok (.aload_n 0, 1) := by decide +kernel
theorem dX3_take_42 : decode cX3_take 42 = .ok (.getfield 15, 3) := by decide +kernel
theorem dX3_take_45 : decode cX3_take 45 = .ok (.if_icmp .ge 72, 3) := by decide +kernel
theorem dX3_take_48 : decode cX3_take 48 = .ok (.aload_n 1, 1) := by decide +kernel
theorem dX3_take_49 : decode cX3_take 49 = .ok (.getfield 26, 3) := by decide +kernel
theorem dX3_take_52 : decode cX3_take 52 = .ok (.iconst 2, 1) := by decide +kernel
theorem dX3_take_53 : decode cX3_take 53 = .ok (.iload_n 2, 1) := by decide +kernel
theorem dX3_take_54 : decode cX3_take 54 = .ok (.imul, 1) := by decide +kernel
theorem dX3_take_55 : decode cX3_take 55 = .ok (.iaload, 1) := by decide +kernel
theorem dX3_take_56 : decode cX3_take 56 = .ok (.bipush 48, 2) := by decide +kernel
theorem dX3_take_58 : decode cX3_take 58 = .ok (.isub, 1) := by decide +kernel
theorem dX3_take_59 : decode cX3_take 59 = .ok (.istore_n 3, 1) := by decide +kernel
theorem dX3_take_60 : decode cX3_take 60 = .ok (.aload_n 1, 1) := by decide +kernel
theorem dX3_take_61 : decode cX3_take 61 = .ok (.getfield 26, 3) := by decide +kernel
theorem dX3_take_64 : decode cX3_take 64 = .ok (.iconst 2, 1) := by decide +kernel
theorem dX3_take_65 : decode cX3_take 65 = .ok (.iload_n 2, 1) := by decide +kernel
theorem dX3_take_66 : decode cX3_take 66 = .ok (.imul, 1) := by decide +kernel
theorem dX3_take_67 : decode cX3_take 67 = .ok (.iconst 1, 1) := by decide +kernel
theorem dX3_take_68 : decode cX3_take 68 = .ok (.iadd, 1) := by decide +kernel
theorem dX3_take_69 : decode cX3_take 69 = .ok (.iaload, 1) := by decide +kernel
theorem dX3_take_70 : decode cX3_take 70 = .ok (.bipush 48, 2) := by decide +kernel
theorem dX3_take_72 : decode cX3_take 72 = .ok (.isub, 1) := by decide +kernel
theorem dX3_take_73 : decode cX3_take 73 = .ok (.istore 4, 2) := by decide +kernel
theorem dX3_take_75 : decode cX3_take 75 = .ok (.iload_n 3, 1) := by decide +kernel
theorem dX3_take_76 : decode cX3_take 76 = .ok (.ifCond .lt 21, 3) := by decide +kernel
theorem dX3_take_79 : decode cX3_take 79 = .ok (.iload_n 3, 1) := by decide +kernel
theorem dX3_take_80 : decode cX3_take 80 = .ok (.bipush 32, 2) := by decide +kernel
theorem dX3_take_82 : decode cX3_take 82 = .ok (.if_icmp .ge 15, 3) := by decide +kernel
theorem dX3_take_85 : decode cX3_take 85 = .ok (.iload 4, 2) := by decide +kernel
theorem dX3_take_87 : decode cX3_take 87 = .ok (.ifCond .lt 10, 3) := by decide +kernel
theorem dX3_take_90 : decode cX3_take 90 = .ok (.iload 4, 2) := by decide +kernel
theorem dX3_take_92 : decode cX3_take 92 = .ok (.bipush 32, 2) := by decide +kernel
theorem dX3_take_94 : decode cX3_take 94 = .ok (.if_icmp .lt 5, 3) := by decide +kernel
theorem dX3_take_97 : decode cX3_take 97 = .ok (.iconst 0, 1) := by decide +kernel
theorem dX3_take_98 : decode cX3_take 98 = .ok (.ireturn, 1) := by decide +kernel
theorem dX3_take_99 : decode cX3_take 99 = .ok (.aload_n 0, 1) := by decide +kernel
theorem dX3_take_100 : decode cX3_take 100 = .ok (.getfield 11, 3) := by decide +kernel
theorem dX3_take_103 : decode cX3_take 103 = .ok (.iload_n 2, 1) := by decide +kernel
theorem dX3_take_104 : decode cX3_take 104 = .ok (.iload 4, 2) := by decide +kernel
theorem dX3_take_106 : decode cX3_take 106 = .ok (.iconst 5, 1) := by decide +kernel
theorem dX3_take_107 : decode cX3_take 107 = .ok (.ishl, 1) := by decide +kernel
theorem dX3_take_108 : decode cX3_take 108 = .ok (.iload_n 3, 1) := by decide +kernel
theorem dX3_take_109 : decode cX3_take 109 = .ok (.ior, 1) := by decide +kernel
theorem dX3_take_110 : decode cX3_take 110 = .ok (.iastore, 1) := by decide +kernel
theorem dX3_take_111 : decode cX3_take 111 = .ok (.iinc 2 1, 3) := by decide +kernel
theorem dX3_take_114 : decode cX3_take 114 = .ok (.goto (-74), 3) := by decide +kernel
theorem dX3_take_117 : decode cX3_take 117 = .ok (.iconst 1, 1) := by decide +kernel
theorem dX3_take_118 : decode cX3_take 118 = .ok (.ireturn, 1) := by decide +kernel
theorem dX3_howMany_0 : decode cX3_howMany 0 = .ok (.aload_n 0, 1) := by decide +kernel
theorem dX3_howMany_1 : decode cX3_howMany 1 = .ok (.iload_n 1, 1) := by decide +kernel
theorem dX3_howMany_2 : decode cX3_howMany 2 = .ok (.iconst 0, 1) := by decide +kernel
theorem dX3_howMany_3 : decode cX3_howMany 3 = .ok (.invokevirtual 29, 3) := by decide +kernel
theorem dX3_howMany_6 : decode cX3_howMany 6 = .ok (.ireturn, 1) := by decide +kernel
theorem dX3_first_0 : decode cX3_first 0 = .ok (.iload_n 1, 1) := by decide +kernel
theorem dX3_first_1 : decode cX3_first 1 = .ok (.istore_n 3, 1) := by decide +kernel
theorem dX3_first_2 : decode cX3_first 2 = .ok (.iconst 0, 1) := by decide +kernel
theorem dX3_first_3 : decode cX3_first 3 = .ok (.istore 4, 2) := by decide +kernel
theorem dX3_first_5 : decode cX3_first 5 = .ok (.iconst 0, 1) := by decide +kernel
theorem dX3_first_6 : decode cX3_first 6 = .ok (.istore 5, 2) := by decide +kernel
theorem dX3_first_8 : decode cX3_first 8 = .ok (.iload 5, 2) := by decide +kernel
theorem dX3_first_10 : decode cX3_first 10 = .ok (.aload_n 0, 1) := by decide +kernel
theorem dX3_first_11 : decode cX3_first 11 = .ok (.getfield 15, 3) := by decide +kernel
theorem dX3_first_14 : decode cX3_first 14 = .ok (.if_icmp .ge 58, 3) := by decide +kernel
theorem dX3_first_17 : decode cX3_first 17 = .ok (.aload_n 0, 1) := by decide +kernel
theorem dX3_first_18 : decode cX3_first 18 = .ok (.iload_n 3, 1) := by decide +kernel
theorem dX3_first_19 : decode cX3_first 19 = .ok (.iload 4, 2) := by decide +kernel
theorem dX3_first_21 : decode cX3_first 21 = .ok (.invokevirtual 33, 3) := by decide +kernel
theorem dX3_first_24 : decode cX3_first 24 = .ok (.istore 6, 2) := by decide +kernel
theorem dX3_first_26 : decode cX3_first 26 = .ok (.iload 5, 2) := by decide +kernel
theorem dX3_first_28 : decode cX3_first 28 = .ok (.iload_n 2, 1) := by decide +kernel
theorem dX3_first_29 : decode cX3_first 29 = .ok (.if_icmp .eq 9, 3) := by decide +kernel
theorem dX3_first_32 : decode cX3_first 32 = .ok (.iload 6, 2) := by decide +kernel
theorem dX3_first_34 : decode cX3_first 34 = .ok (.iconst (-1), 1) := by decide +kernel
theorem dX3_first_35 : decode cX3_first 35 = .ok (.if_icmp .ne 6, 3) := by decide +kernel
theorem dX3_first_38 : decode cX3_first 38 = .ok (.iload 6, 2) := by decide +kernel
theorem dX3_first_40 : decode cX3_first 40 = .ok (.ireturn, 1) := by decide +kernel
theorem dX3_first_41 : decode cX3_first 41 = .ok (.aload_n 0, 1) := by decide +kernel
theorem dX3_first_42 : decode cX3_first 42 = .ok (.getfield 19, 3) := by decide +kernel
theorem dX3_first_45 : decode cX3_first 45 = .ok (.iload_n 3, 1) := by decide +kernel
theorem dX3_first_46 : decode cX3_first 46 = .ok (.aload_n 0, 1) := by decide +kernel
theorem dX3_first_47 : decode cX3_first 47 = .ok (.getfield 11, 3) := by decide +kernel
theorem dX3_first_50 : decode cX3_first 50 = .ok (.iload 6, 2) := by decide +kernel
theorem dX3_first_52 : decode cX3_first 52 = .ok (.iaload, 1) := by decide +kernel
theorem dX3_first_53 : decode cX3_first 53 = .ok (.invokevirtual 36, 3) := by decide +kernel
theorem dX3_first_56 : decode cX3_first 56 = .ok (.istore_n 3, 1) := by decide +kernel
theorem dX3_first_57 : decode cX3_first 57 = .ok (.iload 4, 2) := by decide +kernel
theorem dX3_first_59 : decode cX3_first 59 = .ok (.iconst 1, 1) := by decide +kernel
theorem dX3_first_60 : decode cX3_first 60 = .ok (.iload 6, 2) := by decide +kernel
theorem dX3_first_62 : decode cX3_first 62 = .ok (.ishl, 1) := by decide +kernel
theorem dX3_first_63 : decode cX3_first 63 = .ok (.ior, 1) := by decide +kernel
theorem dX3_first_64 : decode cX3_first 64 = .ok (.istore 4, 2) := by decide +kernel
theorem dX3_first_66 : decode cX3_first 66 = .ok (.iinc 5 1, 3) := by decide +kernel
theorem dX3_first_69 : decode cX3_first 69 = .ok (.goto (-61), 3) := by decide +kernel
theorem dX3_first_72 : decode cX3_first 72 = .ok (.iconst (-1), 1) := by decide +kernel
theorem dX3_first_73 : decode cX3_first 73 = .ok (.ireturn, 1) := by decide +kernel
theorem dX3_firstNext_0 : decode cX3_firstNext 0 = .ok (.iconst 0, 1) := by decide +kernel
theorem dX3_firstNext_1 : decode cX3_firstNext 1 = .ok (.istore_n 3, 1) := by decide +kernel
theorem dX3_firstNext_2 : decode cX3_firstNext 2 = .ok (.iload_n 3, 1) := by decide +kernel
theorem dX3_firstNext_3 : decode cX3_firstNext 3 = .ok (.aload_n 0, 1) := by decide +kernel
theorem dX3_firstNext_4 : decode cX3_firstNext 4 = .ok (.getfield 15, 3) := by decide +kernel
theorem dX3_firstNext_7 : decode cX3_firstNext 7 = .ok (.if_icmp .ge 21, 3) := by decide +kernel
theorem dX3_firstNext_10 : decode cX3_firstNext 10 = .ok (.aload_n 0, 1) := by decide +kernel
theorem dX3_firstNext_11 : decode cX3_firstNext 11 = .ok (.iload_n 1, 1) := by decide +kernel
theorem dX3_firstNext_12 : decode cX3_firstNext 12 = .ok (.iload_n 2, 1) := by decide +kernel
theorem dX3_firstNext_13 : decode cX3_firstNext 13 = .ok (.iload_n 3, 1) := by decide +kernel
theorem dX3_firstNext_14 : decode cX3_firstNext 14 = .ok (.invokevirtual 41, 3) := by decide +kernel
theorem dX3_firstNext_17 : decode cX3_firstNext 17 = .ok (.ifCond .le 5, 3) := by decide +kernel
theorem dX3_firstNext_20 : decode cX3_firstNext 20 = .ok (.iload_n 3, 1) := by decide +kernel
theorem dX3_firstNext_21 : decode cX3_firstNext 21 = .ok (.ireturn, 1) := by decide +kernel
theorem dX3_firstNext_22 : decode cX3_firstNext 22 = .ok (.iinc 3 1, 3) := by decide +kernel
theorem dX3_firstNext_25 : decode cX3_firstNext 25 = .ok (.goto (-23), 3) := by decide +kernel
theorem dX3_firstNext_28 : decode cX3_firstNext 28 = .ok (.iconst (-1), 1) := by decide +kernel
theorem dX3_firstNext_29 : decode cX3_firstNext 29 = .ok (.ireturn, 1) := by decide +kernel
theorem dX3_ordersFrom_0 : decode cX3_ordersFrom 0 = .ok (.iload_n 2, 1) := by decide +kernel
theorem dX3_ordersFrom_1 : decode cX3_ordersFrom 1 = .ok (.iconst 1, 1) := by decide +kernel
theorem dX3_ordersFrom_2 : decode cX3_ordersFrom 2 = .ok (.aload_n 0, 1) := by decide +kernel
theorem dX3_ordersFrom_3 : decode cX3_ordersFrom 3 = .ok (.getfield 15, 3) := by decide +kernel
theorem dX3_ordersFrom_6 : decode cX3_ordersFrom 6 = .ok (.ishl, 1) := by decide +kernel
theorem dX3_ordersFrom_7 : decode cX3_ordersFrom 7 = .ok (.iconst 1, 1) := by decide +kernel
theorem dX3_ordersFrom_8 : decode cX3_ordersFrom 8 = .ok (.isub, 1) := by decide +kernel
theorem dX3_ordersFrom_9 : decode cX3_ordersFrom 9 = .ok (.if_icmp .ne 5, 3) := by decide +kernel
theorem dX3_ordersFrom_12 : decode cX3_ordersFrom 12 = .ok (.iconst 1, 1) := by decide +kernel
theorem dX3_ordersFrom_13 : decode cX3_ordersFrom 13 = .ok (.ireturn, 1) := by decide +kernel
theorem dX3_ordersFrom_14 : decode cX3_ordersFrom 14 = .ok (.iconst 0, 1) := by decide +kernel
theorem dX3_ordersFrom_15 : decode cX3_ordersFrom 15 = .ok (.istore_n 3, 1) := by decide +kernel
theorem dX3_ordersFrom_16 : decode cX3_ordersFrom 16 = .ok (.iconst 0, 1) := by decide +kernel
theorem dX3_ordersFrom_17 : decode cX3_ordersFrom 17 = .ok (.istore 4, 2) := by decide +kernel
theorem dX3_ordersFrom_19 : decode cX3_ordersFrom 19 = .ok (.iload 4, 2) := by decide +kernel
theorem dX3_ordersFrom_21 : decode cX3_ordersFrom 21 = .ok (.aload_n 0, 1) := by decide +kernel
theorem dX3_ordersFrom_22 : decode cX3_ordersFrom 22 = .ok (.getfield 15, 3) := by decide +kernel
theorem dX3_ordersFrom_25 : decode cX3_ordersFrom 25 = .ok (.if_icmp .ge 20, 3) := by decide +kernel
theorem dX3_ordersFrom_28 : decode cX3_ordersFrom 28 = .ok (.iload_n 3, 1) := by decide +kernel
theorem dX3_ordersFrom_29 : decode cX3_ordersFrom 29 = .ok (.aload_n 0, 1) := by decide +kernel
theorem dX3_ordersFrom_30 : decode cX3_ordersFrom 30 = .ok (.iload_n 1, 1) := by decide +kernel
theorem dX3_ordersFrom_31 : decode cX3_ordersFrom 31 = .ok (.iload_n 2, 1) := by decide +kernel
theorem dX3_ordersFrom_32 : decode cX3_ordersFrom 32 = .ok (.iload 4, 2) := by decide +kernel
theorem dX3_ordersFrom_34 : decode cX3_ordersFrom 34 = .ok (.invokevirtual 41, 3) := by decide +kernel
theorem dX3_ordersFrom_37 : decode cX3_ordersFrom 37 = .ok (.iadd, 1) := by decide +kernel
theorem dX3_ordersFrom_38 : decode cX3_ordersFrom 38 = .ok (.istore_n 3, 1) := by decide +kernel
theorem dX3_ordersFrom_39 : decode cX3_ordersFrom 39 = .ok (.iinc 4 1, 3) := by decide +kernel
theorem dX3_ordersFrom_42 : decode cX3_ordersFrom 42 = .ok (.goto (-23), 3) := by decide +kernel
theorem dX3_ordersFrom_45 : decode cX3_ordersFrom 45 = .ok (.iload_n 3, 1) := by decide +kernel
theorem dX3_ordersFrom_46 : decode cX3_ordersFrom 46 = .ok (.ireturn, 1) := by decide +kernel
theorem dX3_ordersThrough_0 : decode cX3_ordersThrough 0 = .ok (.iload_n 2, 1) := by decide +kernel
theorem dX3_ordersThrough_1 : decode cX3_ordersThrough 1 = .ok (.iload_n 3, 1) := by decide +kernel
theorem dX3_ordersThrough_2 : decode cX3_ordersThrough 2 = .ok (.ishr, 1) := by decide +kernel
theorem dX3_ordersThrough_3 : decode cX3_ordersThrough 3 = .ok (.iconst 1, 1) := by decide +kernel
theorem dX3_ordersThrough_4 : decode cX3_ordersThrough 4 = .ok (.iand, 1) := by decide +kernel
theorem dX3_ordersThrough_5 : decode cX3_ordersThrough 5 = .ok (.ifCond .ne 21, 3) := by decide +kernel
theorem dX3_ordersThrough_8 : decode cX3_ordersThrough 8 = .ok (.aload_n 0, 1) := by decide +kernel
theorem dX3_ordersThrough_9 : decode cX3_ordersThrough 9 = .ok (.getfield 19, 3) := by decide +kernel
theorem dX3_ordersThrough_12 : decode cX3_ordersThrough 12 = .ok (.iload_n 1, 1) := by decide +kernel
theorem dX3_ordersThrough_13 : decode cX3_ordersThrough 13 = .ok (.aload_n 0, 1) := by decide +kernel
theorem dX3_ordersThrough_14 : decode cX3_ordersThrough 14 = .ok (.getfield 11, 3) := by decide +kernel
theorem dX3_ordersThrough_17 : decode cX3_ordersThrough 17 = .ok (.iload_n 3, 1) := by decide +kernel
theorem dX3_ordersThrough_18 : decode cX3_ordersThrough 18 = .ok (.iaload, 1) := by decide +kernel
theorem dX3_ordersThrough_19 : decode cX3_ordersThrough 19 = .ok (.invokevirtual 45, 3) := by decide +kernel
theorem dX3_ordersThrough_22 : decode cX3_ordersThrough 22 = .ok (.iconst (-1), 1) := by decide +kernel
theorem dX3_ordersThrough_23 : decode cX3_ordersThrough 23 = .ok (.if_icmp .ne 5, 3) := by decide +kernel
theorem dX3_ordersThrough_26 : decode cX3_ordersThrough 26 = .ok (.iconst 0, 1) := by decide +kernel
theorem dX3_ordersThrough_27 : decode cX3_ordersThrough 27 = .ok (.ireturn, 1) := by decide +kernel
theorem dX3_ordersThrough_28 : decode cX3_ordersThrough 28 = .ok (.aload_n 0, 1) := by decide +kernel
theorem dX3_ordersThrough_29 : decode cX3_ordersThrough 29 = .ok (.aload_n 0, 1) := by decide +kernel
theorem dX3_ordersThrough_30 : decode cX3_ordersThrough 30 = .ok (.getfield 19, 3) := by decide +kernel
theorem dX3_ordersThrough_33 : decode cX3_ordersThrough 33 = .ok (.iload_n 1, 1) := by decide +kernel
theorem dX3_ordersThrough_34 : decode cX3_ordersThrough 34 = .ok (.aload_n 0, 1) := by decide +kernel
theorem dX3_ordersThrough_35 : decode cX3_ordersThrough 35 = .ok (.getfield 11, 3) := by decide +kernel
theorem dX3_ordersThrough_38 : decode cX3_ordersThrough 38 = .ok (.iload_n 3, 1) := by decide +kernel
theorem dX3_ordersThrough_39 : decode cX3_ordersThrough 39 = .ok (.iaload, 1) := by decide +kernel
theorem dX3_ordersThrough_40 : decode cX3_ordersThrough 40 = .ok (.invokevirtual 36, 3) := by decide +kernel
theorem dX3_ordersThrough_43 : decode cX3_ordersThrough 43 = .ok (.iload_n 2, 1) := by decide +kernel
theorem dX3_ordersThrough_44 : decode cX3_ordersThrough 44 = .ok (.iconst 1, 1) := by decide +kernel
theorem dX3_ordersThrough_45 : decode cX3_ordersThrough 45 = .ok (.iload_n 3, 1) := by decide +kernel
theorem dX3_ordersThrough_46 : decode cX3_ordersThrough 46 = .ok (.ishl, 1) := by decide +kernel
theorem dX3_ordersThrough_47 : decode cX3_ordersThrough 47 = .ok (.ior, 1) := by decide +kernel
theorem dX3_ordersThrough_48 : decode cX3_ordersThrough 48 = .ok (.invokevirtual 29, 3) := by decide +kernel
theorem dX3_ordersThrough_51 : decode cX3_ordersThrough 51 = .ok (.ireturn, 1) := by decide +kernel
theorem dX4_init_0 : decode cX4_init 0 = .ok (.aload_n 0, 1) := by decide +kernel
theorem dX4_init_1 : decode cX4_init 1 = .ok (.invokespecial 5, 3) := by decide +kernel
theorem dX4_init_4 : decode cX4_init 4 = .ok (.aload_n 0, 1) := by decide +kernel
theorem dX4_init_5 : decode cX4_init 5 = .ok (.sipush 2048, 3) := by decide +kernel
theorem dX4_init_8 : decode cX4_init 8 = .ok (.newarray .int, 2) := by decide +kernel
theorem dX4_init_10 : decode cX4_init 10 = .ok (.putfield 13, 3) := by decide +kernel
theorem dX4_init_13 : decode cX4_init 13 = .ok (.aload_n 0, 1) := by decide +kernel
theorem dX4_init_14 : decode cX4_init 14 = .ok (.sipush 2048, 3) := by decide +kernel
theorem dX4_init_17 : decode cX4_init 17 = .ok (.newarray .int, 2) := by decide +kernel
theorem dX4_init_19 : decode cX4_init 19 = .ok (.putfield 17, 3) := by decide +kernel
theorem dX4_init_22 : decode cX4_init 22 = .ok (.aload_n 0, 1) := by decide +kernel
theorem dX4_init_23 : decode cX4_init 23 = .ok (.sipush 2048, 3) := by decide +kernel
theorem dX4_init_26 : decode cX4_init 26 = .ok (.newarray .int, 2) := by decide +kernel
theorem dX4_init_28 : decode cX4_init 28 = .ok (.putfield 20, 3) := by decide +kernel
theorem dX4_init_31 : decode cX4_init 31 = .ok (.aload_n 0, 1) := by decide +kernel
theorem dX4_init_32 : decode cX4_init 32 = .ok (.sipush 2048, 3) := by decide +kernel
theorem dX4_init_35 : decode cX4_init 35 = .ok (.newarray .boolean, 2) := by decide +kernel
theorem dX4_init_37 : decode cX4_init 37 = .ok (.putfield 23, 3) := by decide +kernel
theorem dX4_init_40 : decode cX4_init 40 = .ok (.aload_n 0, 1) := by decide +kernel
theorem dX4_init_41 : decode cX4_init 41 = .ok (.iconst 0, 1) := by decide +kernel
theorem dX4_init_42 : decode cX4_init 42 = .ok (.putfield 27, 3) := by decide +kernel
theorem dX4_init_45 : decode cX4_init 45 = .ok (.aload_n 0, 1) := by decide +kernel
theorem dX4_init_46 : decode cX4_init 46 = .ok (.iconst 0, 1) := by decide +kernel
theorem dX4_init_47 : decode cX4_init 47 = .ok (.putfield 31, 3) := by decide +kernel
theorem dX4_init_50 : decode cX4_init 50 = .ok (.aload_n 0, 1) := by decide +kernel
theorem dX4_init_51 : decode cX4_init 51 = .ok (.iconst 0, 1) := by decide +kernel
theorem dX4_init_52 : decode cX4_init 52 = .ok (.putfield 34, 3) := by decide +kernel
theorem dX4_init_55 : decode cX4_init 55 = .ok (.aload_n 0, 1) := by decide +kernel
theorem dX4_init_56 : decode cX4_init 56 = .ok (.iconst 0, 1) := by decide +kernel
theorem dX4_init_57 : decode cX4_init 57 = .ok (.putfield 37, 3) := by decide +kernel
theorem dX4_init_60 : decode cX4_init 60 = .ok (.aload_n 0, 1) := by decide +kernel
theorem dX4_init_61 : decode cX4_init 61 = .ok (.iconst 0, 1) := by decide +kernel
theorem dX4_init_62 : decode cX4_init 62 = .ok (.putfield 40, 3) := by decide +kernel
theorem dX4_init_65 : decode cX4_init 65 = .ok (.aload_n 0, 1) := by decide +kernel
theorem dX4_init_66 : decode cX4_init 66 = .ok (.iconst (-1), 1) := by decide +kernel
theorem dX4_init_67 : decode cX4_init 67 = .ok (.putfield 44, 3) := by decide +kernel
theorem dX4_init_70 : decode cX4_init 70 = .ok (.aload_n 0, 1) := by decide +kernel
theorem dX4_init_71 : decode cX4_init 71 = .ok (.aload_n 1, 1) := by decide +kernel
theorem dX4_init_72 : decode cX4_init 72 = .ok (.putfield 47, 3) := by decide +kernel
theorem dX4_init_75 : decode cX4_init 75 = .ok (.return_, 1) := by decide +kernel
theorem dX4_search_0 : decode cX4_search 0 = .ok (.aload_n 0, 1) := by decide +kernel
theorem dX4_search_1 : decode cX4_search 1 = .ok (.iload_n 1, 1) := by decide +kernel
theorem dX4_search_2 : decode cX4_search 2 = .ok (.putfield 34, 3) := by decide +kernel
theorem dX4_search_5 : decode cX4_search 5 = .ok (.aload_n 0, 1) := by decide +kernel
theorem dX4_search_6 : decode cX4_search 6 = .ok (.iload_n 2, 1) := by decide +kernel
theorem dX4_search_7 : decode cX4_search 7 = .ok (.putfield 37, 3) := by decide +kernel
theorem dX4_search_10 : decode cX4_search 10 = .ok (.aload_n 0, 1) := by decide +kernel
theorem dX4_search_11 : decode cX4_search 11 = .ok (.iload_n 3, 1) := by decide +kernel
theorem dX4_search_12 : decode cX4_search 12 = .ok (.putfield 40, 3) := by decide +kernel
theorem dX4_search_15 : decode cX4_search 15 = .ok (.aload_n 0, 1) := by decide +kernel
theorem dX4_search_16 : decode cX4_search 16 = .ok (.iconst (-1), 1) := by decide +kernel
theorem dX4_search_17 : decode cX4_search 17 = .ok (.putfield 44, 3) := by decide +kernel
theorem dX4_search_20 : decode cX4_search 20 = .ok (.aload_n 0, 1) := by decide +kernel
theorem dX4_search_21 : decode cX4_search 21 = .ok (.iconst 0, 1) := by decide +kernel
theorem dX4_search_22 : decode cX4_search 22 = .ok (.putfield 27, 3) := by decide +kernel
theorem dX4_search_25 : decode cX4_search 25 = .ok (.aload_n 0, 1) := by decide +kernel
theorem dX4_search_26 : decode cX4_search 26 = .ok (.iconst 0, 1) := by decide +kernel
theorem dX4_search_27 : decode cX4_search 27 = .ok (.putfield 31, 3) := by decide +kernel
theorem dX4_search_30 : decode cX4_search 30 = .ok (.aload_n 0, 1) := by decide +kernel
theorem dX4_search_31 : decode cX4_search 31 = .ok (.getfield 13, 3) := by decide +kernel
theorem dX4_search_34 : decode cX4_search 34 = .ok (.ldc 51, 2) := by decide +kernel
theorem dX4_search_36 : decode cX4_search 36 = .ok (.invokestatic 52, 3) := by decide +kernel
theorem dX4_search_39 : decode cX4_search 39 = .ok (.aload_n 0, 1) := by decide +kernel
theorem dX4_search_40 : decode cX4_search 40 = .ok (.aload_n 0, 1) := by decide +kernel
theorem dX4_search_41 : decode cX4_search 41 = .ok (.getfield 34, 3) := by decide +kernel
theorem dX4_search_44 : decode cX4_search 44 = .ok (.iconst 0, 1) := by decide +kernel
theorem dX4_search_45 : decode cX4_search 45 = .ok (.invokevirtual 58, 3) := by decide +kernel
theorem dX4_search_48 : decode cX4_search 48 = .ok (.iconst 0, 1) := by decide +kernel
theorem dX4_search_49 : decode cX4_search 49 = .ok (.istore 4, 2) := by decide +kernel
theorem dX4_search_51 : decode cX4_search 51 = .ok (.iload 4, 2) := by decide +kernel
theorem dX4_search_53 : decode cX4_search 53 = .ok (.sipush 2048, 3) := by decide +kernel
theorem dX4_search_56 : decode cX4_search 56 = .ok (.if_icmp .ge 97, 3) := by decide +kernel
theorem dX4_search_59 : decode cX4_search 59 = .ok (.aload_n 0, 1) := by decide +kernel
theorem dX4_search_60 : decode cX4_search 60 = .ok (.getfield 27, 3) := by decide +kernel
theorem dX4_search_63 : decode cX4_search 63 = .ok (.ifCond .le 90, 3) := by decide +kernel
theorem dX4_search_66 : decode cX4_search 66 = .ok (.aload_n 0, 1) := by decide +kernel
theorem dX4_search_67 : decode cX4_search 67 = .ok (.invokevirtual 62, 3) := by decide +kernel
theorem dX4_search_70 : decode cX4_search 70 = .ok (.istore 5, 2) := by decide +kernel
theorem dX4_search_72 : decode cX4_search 72 = .ok (.aload_n 0, 1) := by decide +kernel
theorem dX4_search_73 : decode cX4_search 73 = .ok (.getfield 44, 3) := by decide +kernel
theorem dX4_search_76 : decode cX4_search 76 = .ok (.iconst (-1), 1) := by decide +kernel
theorem dX4_search_77 : decode cX4_search 77 = .ok (.if_icmp .eq 20, 3) := by decide +kernel
theorem dX4_search_80 : decode cX4_search 80 = .ok (.aload_n 0, 1) := by decide +kernel
theorem dX4_search_81 : decode cX4_search 81 = .ok (.getfield 13, 3) := by decide +kernel
theorem dX4_search_84 : decode cX4_search 84 = .ok (.iload 5, 2) := by decide +kernel
theorem dX4_search_86 : decode cX4_search 86 = .ok (.iaload, 1) := by decide +kernel
theorem dX4_search_87 : decode cX4_search 87 = .ok (.aload_n 0, 1) := by decide +kernel
theorem dX4_search_88 : decode cX4_search 88 = .ok (.getfield 44, 3) := by decide +kernel
theorem dX4_search_91 : decode cX4_search 91 = .ok (.if_icmp .le 6, 3) := by decide +kernel
theorem dX4_search_94 : decode cX4_search 94 = .ok (.goto 59, 3) := by decide +kernel
theorem dX4_search_97 : decode cX4_search 97 = .ok (.aload_n 0, 1) := by decide +kernel
theorem dX4_search_98 : decode cX4_search 98 = .ok (.getfield 20, 3) := by decide +kernel
theorem dX4_search_101 : decode cX4_search 101 = .ok (.aload_n 0, 1) := by decide +kernel
theorem dX4_search_102 : decode cX4_search 102 = .ok (.getfield 31, 3) := by decide +kernel
theorem dX4_search_105 : decode cX4_search 105 = .ok (.iload 5, 2) := by decide +kernel
theorem dX4_search_107 : decode cX4_search 107 = .ok (.iastore, 1) := by decide +kernel
theorem dX4_search_108 : decode cX4_search 108 = .ok (.aload_n 0, 1) := by decide +kernel
theorem dX4_search_109 : decode cX4_search 109 = .ok (.dup, 1) := by decide +kernel
theorem dX4_search_110 : decode cX4_search 110 = .ok (.getfield 31, 3) := by decide +kernel
theorem dX4_search_113 : decode cX4_search 113 = .ok (.iconst 1, 1) := by decide +kernel
theorem dX4_search_114 : decode cX4_search 114 = .ok (.iadd, 1) := by decide +kernel
theorem dX4_search_115 : decode cX4_search 115 = .ok (.putfield 31, 3) := by decide +kernel
theorem dX4_search_118 : decode cX4_search 118 = .ok (.aload_n 0, 1) := by decide +kernel
theorem dX4_search_119 : decode cX4_search 119 = .ok (.iload 5, 2) := by decide +kernel
theorem dX4_search_121 : decode cX4_search 121 = .ok (.invokevirtual 66, 3) := by decide +kernel
theorem dX4_search_124 : decode cX4_search 124 = .ok (.ifCond .eq 17, 3) := by decide +kernel
theorem dX4_search_127 : decode cX4_search 127 = .ok (.aload_n 0, 1) := by decide +kernel
theorem dX4_search_128 : decode cX4_search 128 = .ok (.aload_n 0, 1) := by decide +kernel
theorem dX4_search_129 : decode cX4_search 129 = .ok (.getfield 13, 3) := by decide +kernel
theorem dX4_search_132 : decode cX4_search 132 = .ok (.iload 5, 2) := by decide +kernel
theorem dX4_search_134 : decode cX4_search 134 = .ok (.iaload, 1) := by decide +kernel
theorem dX4_search_135 : decode cX4_search 135 = .ok (.putfield 44, 3) := by decide +kernel
theorem dX4_search_138 : decode cX4_search 138 = .ok (.goto 9, 3) := by decide +kernel
theorem dX4_search_141 : decode cX4_search 141 = .ok (.aload_n 0, 1) := by decide +kernel
theorem dX4_search_142 : decode cX4_search 142 = .ok (.iload 5, 2) := by decide +kernel
theorem dX4_search_144 : decode cX4_search 144 = .ok (.invokevirtual 70, 3) := by decide +kernel
theorem dX4_search_147 : decode cX4_search 147 = .ok (.iinc 4 1, 3) := by decide +kernel
theorem dX4_search_150 : decode cX4_search 150 = .ok (.goto (-99), 3) := by decide +kernel
theorem dX4_search_153 : decode cX4_search 153 = .ok (.aload_n 0, 1) := by decide +kernel
theorem dX4_search_154 : decode cX4_search 154 = .ok (.getfield 44, 3) := by decide +kernel
theorem dX4_search_157 : decode cX4_search 157 = .ok (.iconst (-1), 1) := by decide +kernel
theorem dX4_search_158 : decode cX4_search 158 = .ok (.if_icmp .eq 7, 3) := by decide +kernel
theorem dX4_search_161 : decode cX4_search 161 = .ok (.iconst 1, 1) := by decide +kernel
theorem dX4_search_162 : decode cX4_search 162 = .ok (.goto 4, 3) := by decide +kernel
theorem dX4_search_165 : decode cX4_search 165 = .ok (.iconst 0, 1) := by decide +kernel
theorem dX4_search_166 : decode cX4_search 166 = .ok (.ireturn, 1) := by decide +kernel
theorem dX4_minutes_0 : decode cX4_minutes 0 = .ok (.aload_n 0, 1) := by decide +kernel
theorem dX4_minutes_1 : decode cX4_minutes 1 = .ok (.getfield 40, 3) := by decide +kernel
theorem dX4_minutes_4 : decode cX4_minutes 4 = .ok (.ifCond .eq 13, 3) := by decide +kernel
theorem dX4_minutes_7 : decode cX4_minutes 7 = .ok (.aload_n 0, 1) := by decide +kernel
theorem dX4_minutes_8 : decode cX4_minutes 8 = .ok (.getfield 44, 3) := by decide +kernel
theorem dX4_minutes_11 : decode cX4_minutes 11 = .ok (.ldc 74, 2) := by decide +kernel
theorem dX4_minutes_13 : decode cX4_minutes 13 = .ok (.irem, 1) := by decide +kernel
theorem dX4_minutes_14 : decode cX4_minutes 14 = .ok (.goto 11, 3) := by decide +kernel
theorem dX4_minutes_17 : decode cX4_minutes 17 = .ok (.aload_n 0, 1) := by decide +kernel
theorem dX4_minutes_18 : decode cX4_minutes 18 = .ok (.getfield 44, 3) := by decide +kernel
theorem dX4_minutes_21 : decode cX4_minutes 21 = .ok (.sipush 4096, 3) := by decide +kernel
theorem dX4_minutes_24 : decode cX4_minutes 24 = .ok (.idiv, 1) := by decide +kernel
theorem dX4_minutes_25 : decode cX4_minutes 25 = .ok (.ireturn, 1) := by decide +kernel
theorem dX4_length_0 : decode cX4_length 0 = .ok (.aload_n 0, 1) := by decide +kernel
theorem dX4_length_1 : decode cX4_length 1 = .ok (.getfield 40, 3) := by decide +kernel
theorem dX4_length_4 : decode cX4_length 4 = .ok (.ifCond .eq 13, 3) := by decide +kernel
theorem dX4_length_7 : decode cX4_length 7 = .ok (.aload_n 0, 1) := by decide +kernel
theorem dX4_length_8 : decode cX4_length 8 = .ok (.getfield 44, 3) := by decide +kernel
theorem dX4_length_11 : decode cX4_length 11 = .ok (.ldc 74, 2) := by decide +kernel
theorem dX4_length_13 : decode cX4_length 13 = .ok (.idiv, 1) := by decide +kernel
theorem dX4_length_14 : decode cX4_length 14 = .ok (.goto 11, 3) := by decide +kernel
theorem dX4_length_17 : decode cX4_length 17 = .ok (.aload_n 0, 1) := by decide +kernel
theorem dX4_length_18 : decode cX4_length 18 = .ok (.getfield 44, 3) := by decide +kernel
theorem dX4_length_21 : decode cX4_length 21 = .ok (.sipush 4096, 3) := by decide +kernel
theorem dX4_length_24 : decode cX4_length 24 = .ok (.irem, 1) := by decide +kernel
theorem dX4_length_25 : decode cX4_length 25 = .ok (.ireturn, 1) := by decide +kernel
theorem dX4_step_0 : decode cX4_step 0 = .ok (.aload_n 0, 1) := by decide +kernel
theorem dX4_step_1 : decode cX4_step 1 = .ok (.invokevirtual 75, 3) := by decide +kernel
theorem dX4_step_4 : decode cX4_step 4 = .ok (.aload_n 0, 1) := by decide +kernel
theorem dX4_step_5 : decode cX4_step 5 = .ok (.getfield 34, 3) := by decide +kernel
theorem dX4_step_8 : decode cX4_step 8 = .ok (.istore_n 2, 1) := by decide +kernel
theorem dX4_step_9 : decode cX4_step 9 = .ok (.iconst 0, 1) := by decide +kernel
theorem dX4_step_10 : decode cX4_step 10 = .ok (.istore_n 3, 1) := by decide +kernel
theorem dX4_step_11 : decode cX4_step 11 = .ok (.iload_n 3, 1) := by decide +kernel
theorem dX4_step_12 : decode cX4_step 12 = .ok (.sipush 2048, 3) := by decide +kernel
theorem dX4_step_15 : decode cX4_step 15 = .ok (.if_icmp .ge 49, 3) := by decide +kernel
theorem dX4_step_18 : decode cX4_step 18 = .ok (.aload_n 0, 1) := by decide +kernel
theorem dX4_step_19 : decode cX4_step 19 = .ok (.iload_n 2, 1) := by decide +kernel
theorem dX4_step_20 : decode cX4_step 20 = .ok (.invokevirtual 66, 3) := by decide +kernel
theorem dX4_step_23 : decode cX4_step 23 = .ok (.ifCond .ne 41, 3) := by decide +kernel
theorem dX4_step_26 : decode cX4_step 26 = .ok (.aload_n 0, 1) := by decide +kernel
theorem dX4_step_27 : decode cX4_step 27 = .ok (.iload_n 2, 1) := by decide +kernel
theorem dX4_step_28 : decode cX4_step 28 = .ok (.invokevirtual 78, 3) := by decide +kernel
theorem dX4_step_31 : decode cX4_step 31 = .ok (.istore 4, 2) := by decide +kernel
theorem dX4_step_33 : decode cX4_step 33 = .ok (.iload_n 3, 1) := by decide +kernel
theorem dX4_step_34 : decode cX4_step 34 = .ok (.iload_n 1, 1) := by decide +kernel
theorem dX4_step_35 : decode cX4_step 35 = .ok (.if_icmp .eq 9, 3) := by decide +kernel
theorem dX4_step_38 : decode cX4_step 38 = .ok (.iload 4, 2) := by decide +kernel
theorem dX4_step_40 : decode cX4_step 40 = .ok (.iconst (-1), 1) := by decide +kernel
theorem dX4_step_41 : decode cX4_step 41 = .ok (.if_icmp .ne 6, 3) := by decide +kernel
theorem dX4_step_44 : decode cX4_step 44 = .ok (.iload 4, 2) := by decide +kernel
theorem dX4_step_46 : decode cX4_step 46 = .ok (.ireturn, 1) := by decide +kernel
theorem dX4_step_47 : decode cX4_step 47 = .ok (.aload_n 0, 1) := by decide +kernel
theorem dX4_step_48 : decode cX4_step 48 = .ok (.getfield 47, 3) := by decide +kernel
theorem dX4_step_51 : decode cX4_step 51 = .ok (.iload_n 2, 1) := by decide +kernel
theorem dX4_step_52 : decode cX4_step 52 = .ok (.iload 4, 2) := by decide +kernel
theorem dX4_step_54 : decode cX4_step 54 = .ok (.invokevirtual 82, 3) := by decide +kernel
theorem dX4_step_57 : decode cX4_step 57 = .ok (.istore_n 2, 1) := by decide +kernel
theorem dX4_step_58 : decode cX4_step 58 = .ok (.iinc 3 1, 3) := by decide +kernel
theorem dX4_step_61 : decode cX4_step 61 = .ok (.goto (-50), 3) := by decide +kernel
theorem dX4_step_64 : decode cX4_step 64 = .ok (.iconst (-1), 1) := by decide +kernel
theorem dX4_step_65 : decode cX4_step 65 = .ok (.ireturn, 1) := by decide +kernel
theorem dX4_leastLeft_0 : decode cX4_leastLeft 0 = .ok (.aload_n 0, 1) := by decide +kernel
theorem dX4_leastLeft_1 : decode cX4_leastLeft 1 = .ok (.iload_n 1, 1) := by decide +kernel
theorem dX4_leastLeft_2 : decode cX4_leastLeft 2 = .ok (.sipush 1024, 3) := by decide +kernel
theorem dX4_leastLeft_5 : decode cX4_leastLeft 5 = .ok (.iconst 1, 1) := by decide +kernel
theorem dX4_leastLeft_6 : decode cX4_leastLeft 6 = .ok (.invokevirtual 86, 3) := by decide +kernel
theorem dX4_leastLeft_9 : decode cX4_leastLeft 9 = .ok (.pop, 1) := by decide +kernel
theorem dX4_leastLeft_10 : decode cX4_leastLeft 10 = .ok (.aload_n 0, 1) := by decide +kernel
theorem dX4_leastLeft_11 : decode cX4_leastLeft 11 = .ok (.getfield 47, 3) := by decide +kernel
theorem dX4_leastLeft_14 : decode cX4_leastLeft 14 = .ok (.getfield 90, 3) := by decide +kernel
theorem dX4_leastLeft_17 : decode cX4_leastLeft 17 = .ok (.istore_n 2, 1) := by decide +kernel
theorem dX4_leastLeft_18 : decode cX4_leastLeft 18 = .ok (.iconst 0, 1) := by decide +kernel
theorem dX4_leastLeft_19 : decode cX4_leastLeft 19 = .ok (.istore_n 3, 1) := by decide +kernel
theorem dX4_leastLeft_20 : decode cX4_leastLeft 20 = .ok (.iload_n 3, 1) := by decide +kernel
theorem dX4_leastLeft_21 : decode cX4_leastLeft 21 = .ok (.aload_n 0, 1) := by decide +kernel
theorem dX4_leastLeft_22 : decode cX4_leastLeft 22 = .ok (.getfield 31, 3) := by decide +kernel
theorem dX4_leastLeft_25 : decode cX4_leastLeft 25 = .ok (.if_icmp .ge 62, 3) := by decide +kernel
theorem dX4_leastLeft_28 : decode cX4_leastLeft 28 = .ok (.aload_n 0, 1) := by decide +kernel
theorem dX4_leastLeft_29 : decode cX4_leastLeft 29 = .ok (.getfield 47, 3) := by decide +kernel
theorem dX4_leastLeft_32 : decode cX4_leastLeft 32 = .ok (.getfield 90, 3) := by decide +kernel
theorem dX4_leastLeft_35 : decode cX4_leastLeft 35 = .ok (.aload_n 0, 1) := by decide +kernel
theorem dX4_leastLeft_36 : decode cX4_leastLeft 36 = .ok (.getfield 20, 3) := by decide +kernel
theorem dX4_leastLeft_39 : decode cX4_leastLeft 39 = .ok (.iload_n 3, 1) := by decide +kernel
theorem dX4_leastLeft_40 : decode cX4_leastLeft 40 = .ok (.iaload, 1) := by decide +kernel
theorem dX4_leastLeft_41 : decode cX4_leastLeft 41 = .ok (.iconst 1, 1) := by decide +kernel
theorem dX4_leastLeft_42 : decode cX4_leastLeft 42 = .ok (.ishr, 1) := by decide +kernel
theorem dX4_leastLeft_43 : decode cX4_leastLeft 43 = .ok (.iconst (-1), 1) := by decide +kernel
theorem dX4_leastLeft_44 : decode cX4_leastLeft 44 = .ok (.ixor, 1) := by decide +kernel
theorem dX4_leastLeft_45 : decode cX4_leastLeft 45 = .ok (.iand, 1) := by decide +kernel
theorem dX4_leastLeft_46 : decode cX4_leastLeft 46 = .ok (.istore 4, 2) := by decide +kernel
theorem dX4_leastLeft_48 : decode cX4_leastLeft 48 = .ok (.iload 4, 2) := by decide +kernel
theorem dX4_leastLeft_50 : decode cX4_leastLeft 50 = .ok (.invokestatic 93, 3) := by decide +kernel
theorem dX4_leastLeft_53 : decode cX4_leastLeft 53 = .ok (.iload_n 2, 1) := by decide +kernel
theorem dX4_leastLeft_54 : decode cX4_leastLeft 54 = .ok (.invokestatic 93, 3) := by decide +kernel
theorem dX4_leastLeft_57 : decode cX4_leastLeft 57 = .ok (.invokestatic 98, 3) := by decide +kernel
theorem dX4_leastLeft_60 : decode cX4_leastLeft 60 = .ok (.istore 5, 2) := by decide +kernel
theorem dX4_leastLeft_62 : decode cX4_leastLeft 62 = .ok (.iload 5, 2) := by decide +kernel
theorem dX4_leastLeft_64 : decode cX4_leastLeft 64 = .ok (.ifCond .lt 14, 3) := by decide +kernel
theorem dX4_leastLeft_67 : decode cX4_leastLeft 67 = .ok (.iload 5, 2) := by decide +kernel
theorem dX4_leastLeft_69 : decode cX4_leastLeft 69 = .ok (.ifCond .ne 12, 3) := by decide +kernel
theorem dX4_leastLeft_72 : decode cX4_leastLeft 72 = .ok (.iload 4, 2) := by decide +kernel
theorem dX4_leastLeft_74 : decode cX4_leastLeft 74 = .ok (.iload_n 2, 1) := by decide +kernel
theorem dX4_leastLeft_75 : decode cX4_leastLeft 75 = .ok (.if_icmp .ge 6, 3) := by decide +kernel
theorem dX4_leastLeft_78 : decode cX4_leastLeft 78 = .ok (.iload 4, 2) := by decide +kernel
theorem dX4_leastLeft_80 : decode cX4_leastLeft 80 = .ok (.istore_n 2, 1) := by decide +kernel
theorem dX4_leastLeft_81 : decode cX4_leastLeft 81 = .ok (.iinc 3 1, 3) := by decide +kernel
theorem dX4_leastLeft_84 : decode cX4_leastLeft 84 = .ok (.goto (-64), 3) := by decide +kernel
theorem dX4_leastLeft_87 : decode cX4_leastLeft 87 = .ok (.iload_n 2, 1) := by decide +kernel
theorem dX4_leastLeft_88 : decode cX4_leastLeft 88 = .ok (.ireturn, 1) := by decide +kernel
theorem dX4_isGoal_0 : decode cX4_isGoal 0 = .ok (.iload_n 1, 1) := by decide +kernel
theorem dX4_isGoal_1 : decode cX4_isGoal 1 = .ok (.iconst 1, 1) := by decide +kernel
theorem dX4_isGoal_2 : decode cX4_isGoal 2 = .ok (.ishr, 1) := by decide +kernel
theorem dX4_isGoal_3 : decode cX4_isGoal 3 = .ok (.aload_n 0, 1) := by decide +kernel
theorem dX4_isGoal_4 : decode cX4_isGoal 4 = .ok (.getfield 37, 3) := by decide +kernel
theorem dX4_isGoal_7 : decode cX4_isGoal 7 = .ok (.iand, 1) := by decide +kernel
theorem dX4_isGoal_8 : decode cX4_isGoal 8 = .ok (.aload_n 0, 1) := by decide +kernel
theorem dX4_isGoal_9 : decode cX4_isGoal 9 = .ok (.getfield 37, 3) := by decide +kernel
theorem dX4_isGoal_12 : decode cX4_isGoal 12 = .ok (.if_icmp .ne 7, 3) := by decide +kernel
theorem dX4_isGoal_15 : decode cX4_isGoal 15 = .ok (.iconst 1, 1) := by decide +kernel
theorem dX4_isGoal_16 : decode cX4_isGoal 16 = .ok (.goto 4, 3) := by decide +kernel
theorem dX4_isGoal_19 : decode cX4_isGoal 19 = .ok (.iconst 0, 1) := by decide +kernel
theorem dX4_isGoal_20 : decode cX4_isGoal 20 = .ok (.ireturn, 1) := by decide +kernel
theorem dX4_price_0 : decode cX4_price 0 = .ok (.aload_n 0, 1) := by decide +kernel
theorem dX4_price_1 : decode cX4_price 1 = .ok (.getfield 40, 3) := by decide +kernel
theorem dX4_price_4 : decode cX4_price 4 = .ok (.ifCond .eq 10, 3) := by decide +kernel
theorem dX4_price_7 : decode cX4_price 7 = .ok (.ldc 74, 2) := by decide +kernel
theorem dX4_price_9 : decode cX4_price 9 = .ok (.iload_n 1, 1) := by decide +kernel
theorem dX4_price_10 : decode cX4_price 10 = .ok (.iadd, 1) := by decide +kernel
theorem dX4_price_11 : decode cX4_price 11 = .ok (.goto 10, 3) := by decide +kernel
theorem dX4_price_14 : decode cX4_price 14 = .ok (.sipush 4096, 3) := by decide +kernel
theorem dX4_price_17 : decode cX4_price 17 = .ok (.iload_n 1, 1) := by decide +kernel
theorem dX4_price_18 : decode cX4_price 18 = .ok (.imul, 1) := by decide +kernel
theorem dX4_price_19 : decode cX4_price 19 = .ok (.iconst 1, 1) := by decide +kernel
theorem dX4_price_20 : decode cX4_price 20 = .ok (.iadd, 1) := by decide +kernel
theorem dX4_price_21 : decode cX4_price 21 = .ok (.ireturn, 1) := by decide +kernel
theorem dX4_reach_0 : decode cX4_reach 0 = .ok (.iload_n 2, 1) := by decide +kernel
theorem dX4_reach_1 : decode cX4_reach 1 = .ok (.aload_n 0, 1) := by decide +kernel
theorem dX4_reach_2 : decode cX4_reach 2 = .ok (.getfield 13, 3) := by decide +kernel
theorem dX4_reach_5 : decode cX4_reach 5 = .ok (.iload_n 1, 1) := by decide +kernel
theorem dX4_reach_6 : decode cX4_reach 6 = .ok (.iaload, 1) := by decide +kernel
theorem dX4_reach_7 : decode cX4_reach 7 = .ok (.if_icmp .lt 4, 3) := by decide +kernel
theorem dX4_reach_10 : decode cX4_reach 10 = .ok (.return_, 1) := by decide +kernel
theorem dX4_reach_11 : decode cX4_reach 11 = .ok (.aload_n 0, 1) := by decide +kernel
theorem dX4_reach_12 : decode cX4_reach 12 = .ok (.getfield 13, 3) := by decide +kernel
theorem dX4_reach_15 : decode cX4_reach 15 = .ok (.iload_n 1, 1) := by decide +kernel
theorem dX4_reach_16 : decode cX4_reach 16 = .ok (.iaload, 1) := by decide +kernel
theorem dX4_reach_17 : decode cX4_reach 17 = .ok (.ldc 51, 2) := by decide +kernel
theorem dX4_reach_19 : decode cX4_reach 19 = .ok (.if_icmp .ne 33, 3) := by decide +kernel
theorem dX4_reach_22 : decode cX4_reach 22 = .ok (.aload_n 0, 1) := by decide +kernel
theorem dX4_reach_23 : decode cX4_reach 23 = .ok (.getfield 27, 3) := by decide +kernel
theorem dX4_reach_26 : decode cX4_reach 26 = .ok (.sipush 2048, 3) := by decide +kernel
theorem dX4_reach_29 : decode cX4_reach 29 = .ok (.if_icmp .ge 23, 3) := by decide +kernel
theorem dX4_reach_32 : decode cX4_reach 32 = .ok (.aload_n 0, 1) := by decide +kernel
theorem dX4_reach_33 : decode cX4_reach 33 = .ok (.getfield 17, 3) := by decide +kernel
theorem dX4_reach_36 : decode cX4_reach 36 = .ok (.aload_n 0, 1) := by decide +kernel
theorem dX4_reach_37 : decode cX4_reach 37 = .ok (.getfield 27, 3) := by decide +kernel
theorem dX4_reach_40 : decode cX4_reach 40 = .ok (.iload_n 1, 1) := by decide +kernel
theorem dX4_reach_41 : decode cX4_reach 41 = .ok (.iastore, 1) := by decide +kernel
theorem dX4_reach_42 : decode cX4_reach 42 = .ok (.aload_n 0, 1) := by decide +kernel
theorem dX4_reach_43 : decode cX4_reach 43 = .ok (.dup, 1) := by decide +kernel
theorem dX4_reach_44 : decode cX4_reach 44 = .ok (.getfield 27, 3) := by decide +kernel
theorem dX4_reach_47 : decode cX4_reach 47 = .ok (.iconst 1, 1) := by decide +kernel
theorem dX4_reach_48 : decode cX4_reach 48 = .ok (.iadd, 1) := by decide +kernel
theorem dX4_reach_49 : decode cX4_reach 49 = .ok (.putfield 27, 3) := by decide +kernel
theorem dX4_reach_52 : decode cX4_reach 52 = .ok (.aload_n 0, 1) := by decide +kernel
theorem dX4_reach_53 : decode cX4_reach 53 = .ok (.getfield 13, 3) := by decide +kernel
theorem dX4_reach_56 : decode cX4_reach 56 = .ok (.iload_n 1, 1) := by decide +kernel
theorem dX4_reach_57 : decode cX4_reach 57 = .ok (.iload_n 2, 1) := by decide +kernel
theorem dX4_reach_58 : decode cX4_reach 58 = .ok (.iastore, 1) := by decide +kernel
theorem dX4_reach_59 : decode cX4_reach 59 = .ok (.return_, 1) := by decide +kernel
theorem dX4_takeCheapest_0 : decode cX4_takeCheapest 0 = .ok (.iconst 0, 1) := by decide +kernel
theorem dX4_takeCheapest_1 : decode cX4_takeCheapest 1 = .ok (.istore_n 1, 1) := by decide +kernel
theorem dX4_takeCheapest_2 : decode cX4_takeCheapest 2 = .ok (.iconst 1, 1) := by decide +kernel
theorem dX4_takeCheapest_3 : decode cX4_takeCheapest 3 = .ok (.istore_n 2, 1) := by decide +kernel
theorem dX4_takeCheapest_4 : decode cX4_takeCheapest 4 = .ok (.iload_n 2, 1) := by decide +kernel
theorem dX4_takeCheapest_5 : decode cX4_takeCheapest 5 = .ok (.aload_n 0, 1) := by decide +kernel
theorem dX4_takeCheapest_6 : decode cX4_takeCheapest 6 = .ok (.getfield 27, 3) := by decide +kernel
theorem dX4_takeCheapest_9 : decode cX4_takeCheapest 9 = .ok (.if_icmp .ge 36, 3) := by decide +kernel
theorem dX4_takeCheapest_12 : decode cX4_takeCheapest 12 = .ok (.aload_n 0, 1) := by decide +kernel
theorem dX4_takeCheapest_13 : decode cX4_takeCheapest 13 = .ok (.getfield 13, 3) := by decide +kernel
theorem dX4_takeCheapest_16 : decode cX4_takeCheapest 16 = .ok (.aload_n 0, 1) := by decide +kernel
theorem dX4_takeCheapest_17 : decode cX4_takeCheapest 17 = .ok (.getfield 17, 3) := by decide +kernel
theorem dX4_takeCheapest_20 : decode cX4_takeCheapest 20 = .ok (.iload_n 2, 1) := by decide +kernel
theorem dX4_takeCheapest_21 : decode cX4_takeCheapest 21 = .ok (.iaload, 1) := by decide +kernel
theorem dX4_takeCheapest_22 : decode cX4_takeCheapest 22 = .ok (.iaload, 1) := by decide +kernel
theorem dX4_takeCheapest_23 : decode cX4_takeCheapest 23 = .ok (.aload_n 0, 1) := by decide +kernel
theorem dX4_takeCheapest_24 : decode cX4_takeCheapest 24 = .ok (.getfield 13, 3) := by decide +kernel
theorem dX4_takeCheapest_27 : decode cX4_takeCheapest 27 = .ok (.aload_n 0, 1) := by decide +kernel
theorem dX4_takeCheapest_28 : decode cX4_takeCheapest 28 = .ok (.getfield 17, 3) := by decide +kernel
theorem dX4_takeCheapest_31 : decode cX4_takeCheapest 31 = .ok (.iload_n 1, 1) := by decide +kernel
theorem dX4_takeCheapest_32 : decode cX4_takeCheapest 32 = .ok (.iaload, 1) := by decide +kernel
theorem dX4_takeCheapest_33 : decode cX4_takeCheapest 33 = .ok (.iaload, 1) := by decide +kernel
theorem dX4_takeCheapest_34 : decode cX4_takeCheapest 34 = .ok (.if_icmp .ge 5, 3) := by decide +kernel
theorem dX4_takeCheapest_37 : decode cX4_takeCheapest 37 = .ok (.iload_n 2, 1) := by decide +kernel
theorem dX4_takeCheapest_38 : decode cX4_takeCheapest 38 = .ok (.istore_n 1, 1) := by decide +kernel
theorem dX4_takeCheapest_39 : decode cX4_takeCheapest 39 = .ok (.iinc 2 1, 3) := by decide +kernel
theorem dX4_takeCheapest_42 : decode cX4_takeCheapest 42 = .ok (.goto (-38), 3) := by decide +kernel
theorem dX4_takeCheapest_45 : decode cX4_takeCheapest 45 = .ok (.aload_n 0, 1) := by decide +kernel
theorem dX4_takeCheapest_46 : decode cX4_takeCheapest 46 = .ok (.getfield 17, 3) := by decide +kernel
theorem dX4_takeCheapest_49 : decode cX4_takeCheapest 49 = .ok (.iload_n 1, 1) := by decide +kernel
theorem dX4_takeCheapest_50 : decode cX4_takeCheapest 50 = .ok (.iaload, 1) := by decide +kernel
theorem dX4_takeCheapest_51 : decode cX4_takeCheapest 51 = .ok (.istore_n 2, 1) := by decide +kernel
theorem dX4_takeCheapest_52 : decode cX4_takeCheapest 52 = .ok (.aload_n 0, 1) := by decide +kernel
theorem dX4_takeCheapest_53 : decode cX4_takeCheapest 53 = .ok (.dup, 1) := by decide +kernel
theorem dX4_takeCheapest_54 : decode cX4_takeCheapest 54 = .ok (.getfield 27, 3) := by decide +kernel
theorem dX4_takeCheapest_57 : decode cX4_takeCheapest 57 = .ok (.iconst 1, 1) := by decide +kernel
theorem dX4_takeCheapest_58 : decode cX4_takeCheapest 58 = .ok (.isub, 1) := by decide +kernel
theorem dX4_takeCheapest_59 : decode cX4_takeCheapest 59 = .ok (.putfield 27, 3) := by decide +kernel
theorem dX4_takeCheapest_62 : decode cX4_takeCheapest 62 = .ok (.aload_n 0, 1) := by decide +kernel
theorem dX4_takeCheapest_63 : decode cX4_takeCheapest 63 = .ok (.getfield 17, 3) := by decide +kernel
theorem dX4_takeCheapest_66 : decode cX4_takeCheapest 66 = .ok (.iload_n 1, 1) := by decide +kernel
theorem dX4_takeCheapest_67 : decode cX4_takeCheapest 67 = .ok (.aload_n 0, 1) := by decide +kernel
theorem dX4_takeCheapest_68 : decode cX4_takeCheapest 68 = .ok (.getfield 17, 3) := by decide +kernel
theorem dX4_takeCheapest_71 : decode cX4_takeCheapest 71 = .ok (.aload_n 0, 1) := by decide +kernel
theorem dX4_takeCheapest_72 : decode cX4_takeCheapest 72 = .ok (.getfield 27, 3) := by decide +kernel
theorem dX4_takeCheapest_75 : decode cX4_takeCheapest 75 = .ok (.iaload, 1) := by decide +kernel
theorem dX4_takeCheapest_76 : decode cX4_takeCheapest 76 = .ok (.iastore, 1) := by decide +kernel
theorem dX4_takeCheapest_77 : decode cX4_takeCheapest 77 = .ok (.iload_n 2, 1) := by decide +kernel
theorem dX4_takeCheapest_78 : decode cX4_takeCheapest 78 = .ok (.ireturn, 1) := by decide +kernel
theorem dX4_spread_0 : decode cX4_spread 0 = .ok (.aload_n 0, 1) := by decide +kernel
theorem dX4_spread_1 : decode cX4_spread 1 = .ok (.getfield 47, 3) := by decide +kernel
theorem dX4_spread_4 : decode cX4_spread 4 = .ok (.iload_n 1, 1) := by decide +kernel
theorem dX4_spread_5 : decode cX4_spread 5 = .ok (.invokevirtual 101, 3) := by decide +kernel
theorem dX4_spread_8 : decode cX4_spread 8 = .ok (.iconst 0, 1) := by decide +kernel
theorem dX4_spread_9 : decode cX4_spread 9 = .ok (.istore_n 2, 1) := by decide +kernel
theorem dX4_spread_10 : decode cX4_spread 10 = .ok (.iload_n 2, 1) := by decide +kernel
theorem dX4_spread_11 : decode cX4_spread 11 = .ok (.aload_n 0, 1) := by decide +kernel
theorem dX4_spread_12 : decode cX4_spread 12 = .ok (.getfield 47, 3) := by decide +kernel
theorem dX4_spread_15 : decode cX4_spread 15 = .ok (.getfield 104, 3) := by decide +kernel
theorem dX4_spread_18 : decode cX4_spread 18 = .ok (.if_icmp .ge 52, 3) := by decide +kernel
theorem dX4_spread_21 : decode cX4_spread 21 = .ok (.aload_n 0, 1) := by decide +kernel
theorem dX4_spread_22 : decode cX4_spread 22 = .ok (.getfield 47, 3) := by decide +kernel
theorem dX4_spread_25 : decode cX4_spread 25 = .ok (.iload_n 1, 1) := by decide +kernel
theorem dX4_spread_26 : decode cX4_spread 26 = .ok (.aload_n 0, 1) := by decide +kernel
theorem dX4_spread_27 : decode cX4_spread 27 = .ok (.getfield 47, 3) := by decide +kernel
theorem dX4_spread_30 : decode cX4_spread 30 = .ok (.getfield 107, 3) := by decide +kernel
theorem dX4_spread_33 : decode cX4_spread 33 = .ok (.iload_n 2, 1) := by decide +kernel
theorem dX4_spread_34 : decode cX4_spread 34 = .ok (.iaload, 1) := by decide +kernel
theorem dX4_spread_35 : decode cX4_spread 35 = .ok (.invokevirtual 82, 3) := by decide +kernel
theorem dX4_spread_38 : decode cX4_spread 38 = .ok (.istore_n 3, 1) := by decide +kernel
theorem dX4_spread_39 : decode cX4_spread 39 = .ok (.aload_n 0, 1) := by decide +kernel
theorem dX4_spread_40 : decode cX4_spread 40 = .ok (.iload_n 3, 1) := by decide +kernel
theorem dX4_spread_41 : decode cX4_spread 41 = .ok (.aload_n 0, 1) := by decide +kernel
theorem dX4_spread_42 : decode cX4_spread 42 = .ok (.getfield 13, 3) := by decide +kernel
theorem dX4_spread_45 : decode cX4_spread 45 = .ok (.iload_n 1, 1) := by decide +kernel
theorem dX4_spread_46 : decode cX4_spread 46 = .ok (.iaload, 1) := by decide +kernel
theorem dX4_spread_47 : decode cX4_spread 47 = .ok (.aload_n 0, 1) := by decide +kernel
theorem dX4_spread_48 : decode cX4_spread 48 = .ok (.aload_n 0, 1) := by decide +kernel
theorem dX4_spread_49 : decode cX4_spread 49 = .ok (.getfield 47, 3) := by decide +kernel
theorem dX4_spread_52 : decode cX4_spread 52 = .ok (.getfield 110, 3) := by decide +kernel
theorem dX4_spread_55 : decode cX4_spread 55 = .ok (.iload_n 2, 1) := by decide +kernel
theorem dX4_spread_56 : decode cX4_spread 56 = .ok (.iaload, 1) := by decide +kernel
theorem dX4_spread_57 : decode cX4_spread 57 = .ok (.invokevirtual 113, 3) := by decide +kernel
theorem dX4_spread_60 : decode cX4_spread 60 = .ok (.iadd, 1) := by decide +kernel
theorem dX4_spread_61 : decode cX4_spread 61 = .ok (.invokevirtual 58, 3) := by decide +kernel
theorem dX4_spread_64 : decode cX4_spread 64 = .ok (.iinc 2 1, 3) := by decide +kernel
theorem dX4_spread_67 : decode cX4_spread 67 = .ok (.goto (-57), 3) := by decide +kernel
theorem dX4_spread_70 : decode cX4_spread 70 = .ok (.return_, 1) := by decide +kernel
theorem dX4_markPlans_0 : decode cX4_markPlans 0 = .ok (.iconst 0, 1) := by decide +kernel
theorem dX4_markPlans_1 : decode cX4_markPlans 1 = .ok (.istore_n 1, 1) := by decide +kernel
theorem dX4_markPlans_2 : decode cX4_markPlans 2 = .ok (.iload_n 1, 1) := by decide +kernel
theorem dX4_markPlans_3 : decode cX4_markPlans 3 = .ok (.sipush 2048, 3) := by decide +kernel
theorem dX4_markPlans_6 : decode cX4_markPlans 6 = .ok (.if_icmp .ge 16, 3) := by decide +kernel
theorem dX4_markPlans_9 : decode cX4_markPlans 9 = .ok (.aload_n 0, 1) := by decide +kernel
theorem dX4_markPlans_10 : decode cX4_markPlans 10 = .ok (.getfield 23, 3) := by decide +kernel
theorem dX4_markPlans_13 : decode cX4_markPlans 13 = .ok (.iload_n 1, 1) := by decide +kernel
theorem dX4_markPlans_14 : decode cX4_markPlans 14 = .ok (.iconst 0, 1) := by decide +kernel
theorem dX4_markPlans_15 : decode cX4_markPlans 15 = .ok (.bastore, 1) := by decide +kernel
theorem dX4_markPlans_16 : decode cX4_markPlans 16 = .ok (.iinc 1 1, 3) := by decide +kernel
theorem dX4_markPlans_19 : decode cX4_markPlans 19 = .ok (.goto (-17), 3) := by decide +kernel
theorem dX4_markPlans_22 : decode cX4_markPlans 22 = .ok (.aload_n 0, 1) := by decide +kernel
theorem dX4_markPlans_23 : decode cX4_markPlans 23 = .ok (.getfield 31, 3) := by decide +kernel
theorem dX4_markPlans_26 : decode cX4_markPlans 26 = .ok (.iconst 1, 1) := by decide +kernel
theorem dX4_markPlans_27 : decode cX4_markPlans 27 = .ok (.isub, 1) := by decide +kernel
theorem dX4_markPlans_28 : decode cX4_markPlans 28 = .ok (.istore_n 1, 1) := by decide +kernel
theorem dX4_markPlans_29 : decode cX4_markPlans 29 = .ok (.iload_n 1, 1) := by decide +kernel
theorem dX4_markPlans_30 : decode cX4_markPlans 30 = .ok (.ifCond .lt 44, 3) := by decide +kernel
theorem dX4_markPlans_33 : decode cX4_markPlans 33 = .ok (.aload_n 0, 1) := by decide +kernel
theorem dX4_markPlans_34 : decode cX4_markPlans 34 = .ok (.getfield 20, 3) := by decide +kernel
theorem dX4_markPlans_37 : decode cX4_markPlans 37 = .ok (.iload_n 1, 1) := by decide +kernel
theorem dX4_markPlans_38 : decode cX4_markPlans 38 = .ok (.iaload, 1) := by decide +kernel
theorem dX4_markPlans_39 : decode cX4_markPlans 39 = .ok (.istore_n 2, 1) := by decide +kernel
theorem dX4_markPlans_40 : decode cX4_markPlans 40 = .ok (.aload_n 0, 1) := by decide +kernel
theorem dX4_markPlans_41 : decode cX4_markPlans 41 = .ok (.getfield 23, 3) := by decide +kernel
theorem dX4_markPlans_44 : decode cX4_markPlans 44 = .ok (.iload_n 2, 1) := by decide +kernel
theorem dX4_markPlans_45 : decode cX4_markPlans 45 = .ok (.aload_n 0, 1) := by decide +kernel
theorem dX4_markPlans_46 : decode cX4_markPlans 46 = .ok (.iload_n 2, 1) := by decide +kernel
theorem dX4_markPlans_47 : decode cX4_markPlans 47 = .ok (.invokevirtual 66, 3) := by decide +kernel
theorem dX4_markPlans_50 : decode cX4_markPlans 50 = .ok (.ifCond .ne 12, 3) := by decide +kernel
theorem dX4_markPlans_53 : decode cX4_markPlans 53 = .ok (.aload_n 0, 1) := by decide +kernel
theorem dX4_markPlans_54 : decode cX4_markPlans 54 = .ok (.iload_n 2, 1) := by decide +kernel
theorem dX4_markPlans_55 : decode cX4_markPlans 55 = .ok (.invokevirtual 78, 3) := by decide +kernel
theorem dX4_markPlans_58 : decode cX4_markPlans 58 = .ok (.iconst (-1), 1) := by decide +kernel
theorem dX4_markPlans_59 : decode cX4_markPlans 59 = .ok (.if_icmp .eq 7, 3) := by decide +kernel
theorem dX4_markPlans_62 : decode cX4_markPlans 62 = .ok (.iconst 1, 1) := by decide +kernel
theorem dX4_markPlans_63 : decode cX4_markPlans 63 = .ok (.goto 4, 3) := by decide +kernel
theorem dX4_markPlans_66 : decode cX4_markPlans 66 = .ok (.iconst 0, 1) := by decide +kernel
theorem dX4_markPlans_67 : decode cX4_markPlans 67 = .ok (.bastore, 1) := by decide +kernel
theorem dX4_markPlans_68 : decode cX4_markPlans 68 = .ok (.iinc 1 (-1), 3) := by decide +kernel
theorem dX4_markPlans_71 : decode cX4_markPlans 71 = .ok (.goto (-42), 3) := by decide +kernel
theorem dX4_markPlans_74 : decode cX4_markPlans 74 = .ok (.return_, 1) := by decide +kernel
theorem dX4_firstOnPlan_0 : decode cX4_firstOnPlan 0 = .ok (.aload_n 0, 1) := by decide +kernel
theorem dX4_firstOnPlan_1 : decode cX4_firstOnPlan 1 = .ok (.getfield 47, 3) := by decide +kernel
theorem dX4_firstOnPlan_4 : decode cX4_firstOnPlan 4 = .ok (.iload_n 1, 1) := by decide +kernel
theorem dX4_firstOnPlan_5 : decode cX4_firstOnPlan 5 = .ok (.invokevirtual 101, 3) := by decide +kernel
theorem dX4_firstOnPlan_8 : decode cX4_firstOnPlan 8 = .ok (.iconst 0, 1) := by decide +kernel
theorem dX4_firstOnPlan_9 : decode cX4_firstOnPlan 9 = .ok (.istore_n 2, 1) := by decide +kernel
theorem dX4_firstOnPlan_10 : decode cX4_firstOnPlan 10 = .ok (.iload_n 2, 1) := by decide +kernel
theorem dX4_firstOnPlan_11 : decode cX4_firstOnPlan 11 = .ok (.aload_n 0, 1) := by decide +kernel
theorem dX4_firstOnPlan_12 : decode cX4_firstOnPlan 12 = .ok (.getfield 47, 3) := by decide +kernel
theorem dX4_firstOnPlan_15 : decode cX4_firstOnPlan 15 = .ok (.getfield 104, 3) := by decide +kernel
theorem dX4_firstOnPlan_18 : decode cX4_firstOnPlan 18 = .ok (.if_icmp .ge 75, 3) := by decide +kernel
theorem dX4_firstOnPlan_21 : decode cX4_firstOnPlan 21 = .ok (.aload_n 0, 1) := by decide +kernel
theorem dX4_firstOnPlan_22 : decode cX4_firstOnPlan 22 = .ok (.getfield 47, 3) := by decide +kernel
theorem dX4_firstOnPlan_25 : decode cX4_firstOnPlan 25 = .ok (.iload_n 1, 1) := by decide +kernel
theorem dX4_firstOnPlan_26 : decode cX4_firstOnPlan 26 = .ok (.aload_n 0, 1) := by decide +kernel
theorem dX4_firstOnPlan_27 : decode cX4_firstOnPlan 27 = .ok (.getfield 47, 3) := by decide +kernel
theorem dX4_firstOnPlan_30 : decode cX4_firstOnPlan 30 = .ok (.getfield 107, 3) := by decide +kernel
theorem dX4_firstOnPlan_33 : decode cX4_firstOnPlan 33 = .ok (.iload_n 2, 1) := by decide +kernel
theorem dX4_firstOnPlan_34 : decode cX4_firstOnPlan 34 = .ok (.iaload, 1) := by decide +kernel
theorem dX4_firstOnPlan_35 : decode cX4_firstOnPlan 35 = .ok (.invokevirtual 82, 3) := by decide +kernel
theorem dX4_firstOnPlan_38 : decode cX4_firstOnPlan 38 = .ok (.istore_n 3, 1) := by decide +kernel
theorem dX4_firstOnPlan_39 : decode cX4_firstOnPlan 39 = .ok (.aload_n 0, 1) := by decide +kernel
theorem dX4_firstOnPlan_40 : decode cX4_firstOnPlan 40 = .ok (.getfield 23, 3) := by decide +kernel
theorem dX4_firstOnPlan_43 : decode cX4_firstOnPlan 43 = .ok (.iload_n 3, 1) := by decide +kernel
theorem dX4_firstOnPlan_44 : decode cX4_firstOnPlan 44 = .ok (.baload, 1) := by decide +kernel
theorem dX4_firstOnPlan_45 : decode cX4_firstOnPlan 45 = .ok (.ifCond .eq 42, 3) := by decide +kernel
theorem dX4_firstOnPlan_48 : decode cX4_firstOnPlan 48 = .ok (.aload_n 0, 1) := by decide +kernel
theorem dX4_firstOnPlan_49 : decode cX4_firstOnPlan 49 = .ok (.getfield 13, 3) := by decide +kernel
theorem dX4_firstOnPlan_52 : decode cX4_firstOnPlan 52 = .ok (.iload_n 3, 1) := by decide +kernel
theorem dX4_firstOnPlan_53 : decode cX4_firstOnPlan 53 = .ok (.iaload, 1) := by decide +kernel
theorem dX4_firstOnPlan_54 : decode cX4_firstOnPlan 54 = .ok (.aload_n 0, 1) := by decide +kernel
theorem dX4_firstOnPlan_55 : decode cX4_firstOnPlan 55 = .ok (.getfield 13, 3) := by decide +kernel
theorem dX4_firstOnPlan_58 : decode cX4_firstOnPlan 58 = .ok (.iload_n 1, 1) := by decide +kernel
theorem dX4_firstOnPlan_59 : decode cX4_firstOnPlan 59 = .ok (.iaload, 1) := by decide +kernel
theorem dX4_firstOnPlan_60 : decode cX4_firstOnPlan 60 = .ok (.aload_n 0, 1) := by decide +kernel
theorem dX4_firstOnPlan_61 : decode cX4_firstOnPlan 61 = .ok (.aload_n 0, 1) := by decide +kernel
theorem dX4_firstOnPlan_62 : decode cX4_firstOnPlan 62 = .ok (.getfield 47, 3) := by decide +kernel
theorem dX4_firstOnPlan_65 : decode cX4_firstOnPlan 65 = .ok (.getfield 110, 3) := by decide +kernel
theorem dX4_firstOnPlan_68 : decode cX4_firstOnPlan 68 = .ok (.iload_n 2, 1) := by decide +kernel
theorem dX4_firstOnPlan_69 : decode cX4_firstOnPlan 69 = .ok (.iaload, 1) := by decide +kernel
theorem dX4_firstOnPlan_70 : decode cX4_firstOnPlan 70 = .ok (.invokevirtual 113, 3) := by decide +kernel
theorem dX4_firstOnPlan_73 : decode cX4_firstOnPlan 73 = .ok (.iadd, 1) := by decide +kernel
theorem dX4_firstOnPlan_74 : decode cX4_firstOnPlan 74 = .ok (.if_icmp .ne 13, 3) := by decide +kernel
theorem dX4_firstOnPlan_77 : decode cX4_firstOnPlan 77 = .ok (.aload_n 0, 1) := by decide +kernel
theorem dX4_firstOnPlan_78 : decode cX4_firstOnPlan 78 = .ok (.getfield 47, 3) := by decide +kernel
theorem dX4_firstOnPlan_81 : decode cX4_firstOnPlan 81 = .ok (.getfield 107, 3) := by decide +kernel
theorem dX4_firstOnPlan_84 : decode cX4_firstOnPlan 84 = .ok (.iload_n 2, 1) := by decide +kernel
theorem dX4_firstOnPlan_85 : decode cX4_firstOnPlan 85 = .ok (.iaload, 1) := by decide +kernel
theorem dX4_firstOnPlan_86 : decode cX4_firstOnPlan 86 = .ok (.ireturn, 1) := by decide +kernel
theorem dX4_firstOnPlan_87 : decode cX4_firstOnPlan 87 = .ok (.iinc 2 1, 3) := by decide +kernel
theorem dX4_firstOnPlan_90 : decode cX4_firstOnPlan 90 = .ok (.goto (-80), 3) := by decide +kernel
theorem dX4_firstOnPlan_93 : decode cX4_firstOnPlan 93 = .ok (.iconst (-1), 1) := by decide +kernel
theorem dX4_firstOnPlan_94 : decode cX4_firstOnPlan 94 = .ok (.ireturn, 1) := by decide +kernel
theorem dX5_init_0 : decode cX5_init 0 = .ok (.aload_n 0, 1) := by decide +kernel
theorem dX5_init_1 : decode cX5_init 1 = .ok (.invokespecial 3, 3) := by decide +kernel
theorem dX5_init_4 : decode cX5_init 4 = .ok (.aload_n 0, 1) := by decide +kernel
theorem dX5_init_5 : decode cX5_init 5 = .ok (.iconst 0, 1) := by decide +kernel
theorem dX5_init_6 : decode cX5_init 6 = .ok (.putfield 9, 3) := by decide +kernel
theorem dX5_init_9 : decode cX5_init 9 = .ok (.aload_n 0, 1) := by decide +kernel
theorem dX5_init_10 : decode cX5_init 10 = .ok (.iconst 0, 1) := by decide +kernel
theorem dX5_init_11 : decode cX5_init 11 = .ok (.putfield 15, 3) := by decide +kernel
theorem dX5_init_14 : decode cX5_init 14 = .ok (.aload_n 0, 1) := by decide +kernel
theorem dX5_init_15 : decode cX5_init 15 = .ok (.bipush 10, 2) := by decide +kernel
theorem dX5_init_17 : decode cX5_init 17 = .ok (.newarray .int, 2) := by decide +kernel
theorem dX5_init_19 : decode cX5_init 19 = .ok (.putfield 18, 3) := by decide +kernel
theorem dX5_init_22 : decode cX5_init 22 = .ok (.aload_n 0, 1) := by decide +kernel
theorem dX5_init_23 : decode cX5_init 23 = .ok (.bipush 10, 2) := by decide +kernel
theorem dX5_init_25 : decode cX5_init 25 = .ok (.newarray .int, 2) := by decide +kernel
theorem dX5_init_27 : decode cX5_init 27 = .ok (.putfield 22, 3) := by decide +kernel
theorem dX5_init_30 : decode cX5_init 30 = .ok (.aload_n 0, 1) := by decide +kernel
theorem dX5_init_31 : decode cX5_init 31 = .ok (.bipush 10, 2) := by decide +kernel
theorem dX5_init_33 : decode cX5_init 33 = .ok (.newarray .int, 2) := by decide +kernel
theorem dX5_init_35 : decode cX5_init 35 = .ok (.putfield 25, 3) := by decide +kernel
theorem dX5_init_38 : decode cX5_init 38 = .ok (.aload_n 0, 1) := by decide +kernel
theorem dX5_init_39 : decode cX5_init 39 = .ok (.iconst 0, 1) := by decide +kernel
theorem dX5_init_40 : decode cX5_init 40 = .ok (.putfield 28, 3) := by decide +kernel
theorem dX5_init_43 : decode cX5_init 43 = .ok (.aload_n 0, 1) := by decide +kernel
theorem dX5_init_44 : decode cX5_init 44 = .ok (.sipush 200, 3) := by decide +kernel
theorem dX5_init_47 : decode cX5_init 47 = .ok (.putfield 31, 3) := by decide +kernel
theorem dX5_init_50 : decode cX5_init 50 = .ok (.aload_n 0, 1) := by decide +kernel
theorem dX5_init_51 : decode cX5_init 51 = .ok (.bipush 20, 2) := by decide +kernel
theorem dX5_init_53 : decode cX5_init 53 = .ok (.putfield 34, 3) := by decide +kernel
theorem dX5_init_56 : decode cX5_init 56 = .ok (.aload_n 0, 1) := by decide +kernel
theorem dX5_init_57 : decode cX5_init 57 = .ok (.bipush 10, 2) := by decide +kernel
theorem dX5_init_59 : decode cX5_init 59 = .ok (.putfield 37, 3) := by decide +kernel
theorem dX5_init_62 : decode cX5_init 62 = .ok (.aload_n 0, 1) := by decide +kernel
theorem dX5_init_63 : decode cX5_init 63 = .ok (.bipush 24, 2) := by decide +kernel
theorem dX5_init_65 : decode cX5_init 65 = .ok (.newarray .int, 2) := by decide +kernel
theorem dX5_init_67 : decode cX5_init 67 = .ok (.putfield 40, 3) := by decide +kernel
theorem dX5_init_70 : decode cX5_init 70 = .ok (.aload_n 0, 1) := by decide +kernel
theorem dX5_init_71 : decode cX5_init 71 = .ok (.iconst 0, 1) := by decide +kernel
theorem dX5_init_72 : decode cX5_init 72 = .ok (.putfield 43, 3) := by decide +kernel
theorem dX5_init_75 : decode cX5_init 75 = .ok (.aload_n 0, 1) := by decide +kernel
theorem dX5_init_76 : decode cX5_init 76 = .ok (.bipush 12, 2) := by decide +kernel
theorem dX5_init_78 : decode cX5_init 78 = .ok (.newarray .int, 2) := by decide +kernel
theorem dX5_init_80 : decode cX5_init 80 = .ok (.putfield 46, 3) := by decide +kernel
theorem dX5_init_83 : decode cX5_init 83 = .ok (.aload_n 0, 1) := by decide +kernel
theorem dX5_init_84 : decode cX5_init 84 = .ok (.bipush 12, 2) := by decide +kernel
theorem dX5_init_86 : decode cX5_init 86 = .ok (.newarray .int, 2) := by decide +kernel
theorem dX5_init_88 : decode cX5_init 88 = .ok (.putfield 49, 3) := by decide +kernel
theorem dX5_init_91 : decode cX5_init 91 = .ok (.aload_n 0, 1) := by decide +kernel
theorem dX5_init_92 : decode cX5_init 92 = .ok (.iconst 0, 1) := by decide +kernel
theorem dX5_init_93 : decode cX5_init 93 = .ok (.putfield 52, 3) := by decide +kernel
theorem dX5_init_96 : decode cX5_init 96 = .ok (.aload_n 0, 1) := by decide +kernel
theorem dX5_init_97 : decode cX5_init 97 = .ok (.bipush 10, 2) := by decide +kernel
theorem dX5_init_99 : decode cX5_init 99 = .ok (.newarray .int, 2) := by decide +kernel
theorem dX5_init_101 : decode cX5_init 101 = .ok (.putfield 55, 3) := by decide +kernel
theorem dX5_init_104 : decode cX5_init 104 = .ok (.aload_n 0, 1) := by decide +kernel
theorem dX5_init_105 : decode cX5_init 105 = .ok (.getfield 40, 3) := by decide +kernel
theorem dX5_init_108 : decode cX5_init 108 = .ok (.iconst 2, 1) := by decide +kernel
theorem dX5_init_109 : decode cX5_init 109 = .ok (.invokestatic 58, 3) := by decide +kernel
theorem dX5_init_112 : decode cX5_init 112 = .ok (.return_, 1) := by decide +kernel
theorem dX5_copyFrom_0 : decode cX5_copyFrom 0 = .ok (.aload_n 0, 1) := by decide +kernel
theorem dX5_copyFrom_1 : decode cX5_copyFrom 1 = .ok (.aload_n 1, 1) := by decide +kernel
theorem dX5_copyFrom_2 : decode cX5_copyFrom 2 = .ok (.getfield 9, 3) := by decide +kernel
theorem dX5_copyFrom_5 : decode cX5_copyFrom 5 = .ok (.putfield 9, 3) := by decide +kernel
theorem dX5_copyFrom_8 : decode cX5_copyFrom 8 = .ok (.aload_n 0, 1) := by decide +kernel
theorem dX5_copyFrom_9 : decode cX5_copyFrom 9 = .ok (.aload_n 1, 1) := by decide +kernel
theorem dX5_copyFrom_10 : decode cX5_copyFrom 10 = .ok (.getfield 15, 3) := by decide +kernel
theorem dX5_copyFrom_13 : decode cX5_copyFrom 13 = .ok (.putfield 15, 3) := by decide +kernel
theorem dX5_copyFrom_16 : decode cX5_copyFrom 16 = .ok (.aload_n 1, 1) := by decide +kernel
theorem dX5_copyFrom_17 : decode cX5_copyFrom 17 = .ok (.getfield 18, 3) := by decide +kernel
theorem dX5_copyFrom_20 : decode cX5_copyFrom 20 = .ok (.iconst 0, 1) := by decide +kernel
theorem dX5_copyFrom_21 : decode cX5_copyFrom 21 = .ok (.aload_n 0, 1) := by decide +kernel
theorem dX5_copyFrom_22 : decode cX5_copyFrom 22 = .ok (.getfield 18, 3) := by decide +kernel
theorem dX5_copyFrom_25 : decode cX5_copyFrom 25 = .ok (.iconst 0, 1) := by decide +kernel
theorem dX5_copyFrom_26 : decode cX5_copyFrom 26 = .ok (.bipush 10, 2) := by decide +kernel
theorem dX5_copyFrom_28 : decode cX5_copyFrom 28 = .ok (.invokestatic 64, 3) := by decide +kernel
theorem dX5_copyFrom_31 : decode cX5_copyFrom 31 = .ok (.aload_n 1, 1) := by decide +kernel
theorem dX5_copyFrom_32 : decode cX5_copyFrom 32 = .ok (.getfield 22, 3) := by decide +kernel
theorem dX5_copyFrom_35 : decode cX5_copyFrom 35 = .ok (.iconst 0, 1) := by decide +kernel
theorem dX5_copyFrom_36 : decode cX5_copyFrom 36 = .ok (.aload_n 0, 1) := by decide +kernel
theorem dX5_copyFrom_37 : decode cX5_copyFrom 37 = .ok (.getfield 22, 3) := by decide +kernel
theorem dX5_copyFrom_40 : decode cX5_copyFrom 40 = .ok (.iconst 0, 1) := by decide +kernel
theorem dX5_copyFrom_41 : decode cX5_copyFrom 41 = .ok (.bipush 10, 2) := by decide +kernel
theorem dX5_copyFrom_43 : decode cX5_copyFrom 43 = .ok (.invokestatic 64, 3) := by decide +kernel
theorem dX5_copyFrom_46 : decode cX5_copyFrom 46 = .ok (.aload_n 1, 1) := by decide +kernel
theorem dX5_copyFrom_47 : decode cX5_copyFrom 47 = .ok (.getfield 25, 3) := by decide +kernel
theorem dX5_copyFrom_50 : decode cX5_copyFrom 50 = .ok (.iconst 0, 1) := by decide +kernel
theorem dX5_copyFrom_51 : decode cX5_copyFrom 51 = .ok (.aload_n 0, 1) := by decide +kernel
theorem dX5_copyFrom_52 : decode cX5_copyFrom 52 = .ok (.getfield 25, 3) := by decide +kernel
theorem dX5_copyFrom_55 : decode cX5_copyFrom 55 = .ok (.iconst 0, 1) := by decide +kernel
theorem dX5_copyFrom_56 : decode cX5_copyFrom 56 = .ok (.bipush 10, 2) := by decide +kernel
theorem dX5_copyFrom_58 : decode cX5_copyFrom 58 = .ok (.invokestatic 64, 3) := by decide +kernel
theorem dX5_copyFrom_61 : decode cX5_copyFrom 61 = .ok (.aload_n 0, 1) := by decide +kernel
theorem dX5_copyFrom_62 : decode cX5_copyFrom 62 = .ok (.aload_n 1, 1) := by decide +kernel
theorem dX5_copyFrom_63 : decode cX5_copyFrom 63 = .ok (.getfield 28, 3) := by decide +kernel
theorem dX5_copyFrom_66 : decode cX5_copyFrom 66 = .ok (.putfield 28, 3) := by decide +kernel
theorem dX5_copyFrom_69 : decode cX5_copyFrom 69 = .ok (.aload_n 0, 1) := by decide +kernel
theorem dX5_copyFrom_70 : decode cX5_copyFrom 70 = .ok (.aload_n 1, 1) := by decide +kernel
theorem dX5_copyFrom_71 : decode cX5_copyFrom 71 = .ok (.getfield 31, 3) := by decide +kernel
theorem dX5_copyFrom_74 : decode cX5_copyFrom 74 = .ok (.putfield 31, 3) := by decide +kernel
theorem dX5_copyFrom_77 : decode cX5_copyFrom 77 = .ok (.aload_n 0, 1) := by decide +kernel
theorem dX5_copyFrom_78 : decode cX5_copyFrom 78 = .ok (.aload_n 1, 1) := by decide +kernel
theorem dX5_copyFrom_79 : decode cX5_copyFrom 79 = .ok (.getfield 34, 3) := by decide +kernel
theorem dX5_copyFrom_82 : decode cX5_copyFrom 82 = .ok (.putfield 34, 3) := by decide +kernel
theorem dX5_copyFrom_85 : decode cX5_copyFrom 85 = .ok (.aload_n 0, 1) := by decide +kernel
theorem dX5_copyFrom_86 : decode cX5_copyFrom 86 = .ok (.aload_n 1, 1) := by decide +kernel
theorem dX5_copyFrom_87 : decode cX5_copyFrom 87 = .ok (.getfield 37, 3) := by decide +kernel
theorem dX5_copyFrom_90 : decode cX5_copyFrom 90 = .ok (.putfield 37, 3) := by decide +kernel
theorem dX5_copyFrom_93 : decode cX5_copyFrom 93 = .ok (.aload_n 1, 1) := by decide +kernel
theorem dX5_copyFrom_94 : decode cX5_copyFrom 94 = .ok (.getfield 40, 3) := by decide +kernel
theorem dX5_copyFrom_97 : decode cX5_copyFrom 97 = .ok (.iconst 0, 1) := by decide +kernel
theorem dX5_copyFrom_98 : decode cX5_copyFrom 98 = .ok (.aload_n 0, 1) := by decide +kernel
theorem dX5_copyFrom_99 : decode cX5_copyFrom 99 = .ok (.getfield 40, 3) := by decide +kernel
theorem dX5_copyFrom_102 : decode cX5_copyFrom 102 = .ok (.iconst 0, 1) := by decide +kernel
theorem dX5_copyFrom_103 : decode cX5_copyFrom 103 = .ok (.bipush 24, 2) := by decide +kernel
theorem dX5_copyFrom_105 : decode cX5_copyFrom 105 = .ok (.invokestatic 64, 3) := by decide +kernel
theorem dX5_copyFrom_108 : decode cX5_copyFrom 108 = .ok (.aload_n 0, 1) := by decide +kernel
theorem dX5_copyFrom_109 : decode cX5_copyFrom 109 = .ok (.aload_n 1, 1) := by decide +kernel
theorem dX5_copyFrom_110 : decode cX5_copyFrom 110 = .ok (.getfield 43, 3) := by decide +kernel
theorem dX5_copyFrom_113 : decode cX5_copyFrom 113 = .ok (.putfield 43, 3) := by decide +kernel
theorem dX5_copyFrom_116 : decode cX5_copyFrom 116 = .ok (.aload_n 1, 1) := by decide +kernel
theorem dX5_copyFrom_117 : decode cX5_copyFrom 117 = .ok (.getfield 46, 3) := by decide +kernel
theorem dX5_copyFrom_120 : decode cX5_copyFrom 120 = .ok (.iconst 0, 1) := by decide +kernel
theorem dX5_copyFrom_121 : decode cX5_copyFrom 121 = .ok (.aload_n 0, 1) := by decide +kernel
theorem dX5_copyFrom_122 : decode cX5_copyFrom 122 = .ok (.getfield 46, 3) := by decide +kernel
theorem dX5_copyFrom_125 : decode cX5_copyFrom 125 = .ok (.iconst 0, 1) := by decide +kernel
theorem dX5_copyFrom_126 : decode cX5_copyFrom 126 = .ok (.bipush 12, 2) := by decide +kernel
theorem dX5_copyFrom_128 : decode cX5_copyFrom 128 = .ok (.invokestatic 64, 3) := by decide +kernel
theorem dX5_copyFrom_131 : decode cX5_copyFrom 131 = .ok (.aload_n 1, 1) := by decide +kernel
theorem dX5_copyFrom_132 : decode cX5_copyFrom 132 = .ok (.getfield 49, 3) := by decide +kernel
theorem dX5_copyFrom_135 : decode cX5_copyFrom 135 = .ok (.iconst 0, 1) := by decide +kernel
theorem dX5_copyFrom_136 : decode cX5_copyFrom 136 = .ok (.aload_n 0, 1) := by decide +kernel
theorem dX5_copyFrom_137 : decode cX5_copyFrom 137 = .ok (.getfield 49, 3) := by decide +kernel
theorem dX5_copyFrom_140 : decode cX5_copyFrom 140 = .ok (.iconst 0, 1) := by decide +kernel
theorem dX5_copyFrom_141 : decode cX5_copyFrom 141 = .ok (.bipush 12, 2) := by decide +kernel
theorem dX5_copyFrom_143 : decode cX5_copyFrom 143 = .ok (.invokestatic 64, 3) := by decide +kernel
theorem dX5_copyFrom_146 : decode cX5_copyFrom 146 = .ok (.aload_n 0, 1) := by decide +kernel
theorem dX5_copyFrom_147 : decode cX5_copyFrom 147 = .ok (.aload_n 1, 1) := by decide +kernel
theorem dX5_copyFrom_148 : decode cX5_copyFrom 148 = .ok (.getfield 52, 3) := by decide +kernel
theorem dX5_copyFrom_151 : decode cX5_copyFrom 151 = .ok (.putfield 52, 3) := by decide +kernel
theorem dX5_copyFrom_154 : decode cX5_copyFrom 154 = .ok (.aload_n 1, 1) := by decide +kernel
theorem dX5_copyFrom_155 : decode cX5_copyFrom 155 = .ok (.getfield 55, 3) := by decide +kernel
theorem dX5_copyFrom_158 : decode cX5_copyFrom 158 = .ok (.iconst 0, 1) := by decide +kernel
theorem dX5_copyFrom_159 : decode cX5_copyFrom 159 = .ok (.aload_n 0, 1) := by decide +kernel
theorem dX5_copyFrom_160 : decode cX5_copyFrom 160 = .ok (.getfield 55, 3) := by decide +kernel
theorem dX5_copyFrom_163 : decode cX5_copyFrom 163 = .ok (.iconst 0, 1) := by decide +kernel
theorem dX5_copyFrom_164 : decode cX5_copyFrom 164 = .ok (.bipush 10, 2) := by decide +kernel
theorem dX5_copyFrom_166 : decode cX5_copyFrom 166 = .ok (.invokestatic 64, 3) := by decide +kernel
theorem dX5_copyFrom_169 : decode cX5_copyFrom 169 = .ok (.return_, 1) := by decide +kernel
theorem dX5_hasBeing_0 : decode cX5_hasBeing 0 = .ok (.iload_n 1, 1) := by decide +kernel
theorem dX5_hasBeing_1 : decode cX5_hasBeing 1 = .ok (.ifCond .lt 15, 3) := by decide +kernel
theorem dX5_hasBeing_4 : decode cX5_hasBeing 4 = .ok (.iload_n 1, 1) := by decide +kernel
theorem dX5_hasBeing_5 : decode cX5_hasBeing 5 = .ok (.aload_n 0, 1) := by decide +kernel
theorem dX5_hasBeing_6 : decode cX5_hasBeing 6 = .ok (.getfield 15, 3) := by decide +kernel
theorem dX5_hasBeing_9 : decode cX5_hasBeing 9 = .ok (.if_icmp .ge 7, 3) := by decide +kernel
theorem dX5_hasBeing_12 : decode cX5_hasBeing 12 = .ok (.iconst 1, 1) := by decide +kernel
theorem dX5_hasBeing_13 : decode cX5_hasBeing 13 = .ok (.goto 4, 3) := by decide +kernel
theorem dX5_hasBeing_16 : decode cX5_hasBeing 16 = .ok (.iconst 0, 1) := by decide +kernel
theorem dX5_hasBeing_17 : decode cX5_hasBeing 17 = .ok (.ireturn, 1) := by decide +kernel
theorem dX5_everyone_0 : decode cX5_everyone 0 = .ok (.iconst 1, 1) := by decide +kernel
theorem dX5_everyone_1 : decode cX5_everyone 1 = .ok (.aload_n 0, 1) := by decide +kernel
theorem dX5_everyone_2 : decode cX5_everyone 2 = .ok (.getfield 15, 3) := by decide +kernel
theorem dX5_everyone_5 : decode cX5_everyone 5 = .ok (.ishl, 1) := by decide +kernel
theorem dX5_everyone_6 : decode cX5_everyone 6 = .ok (.iconst 1, 1) := by decide +kernel
theorem dX5_everyone_7 : decode cX5_everyone 7 = .ok (.isub, 1) := by decide +kernel
theorem dX5_everyone_8 : decode cX5_everyone 8 = .ok (.ireturn, 1) := by decide +kernel
theorem dX5_debtors_0 : decode cX5_debtors 0 = .ok (.iconst 0, 1) := by decide +kernel
theorem dX5_debtors_1 : decode cX5_debtors 1 = .ok (.istore_n 1, 1) := by decide +kernel
theorem dX5_debtors_2 : decode cX5_debtors 2 = .ok (.iconst 0, 1) := by decide +kernel
theorem dX5_debtors_3 : decode cX5_debtors 3 = .ok (.istore_n 2, 1) := by decide +kernel
theorem dX5_debtors_4 : decode cX5_debtors 4 = .ok (.iload_n 2, 1) := by decide +kernel
theorem dX5_debtors_5 : decode cX5_debtors 5 = .ok (.aload_n 0, 1) := by decide +kernel
theorem dX5_debtors_6 : decode cX5_debtors 6 = .ok (.getfield 15, 3) := by decide +kernel
theorem dX5_debtors_9 : decode cX5_debtors 9 = .ok (.if_icmp .ge 34, 3) := by decide +kernel
theorem dX5_debtors_12 : decode cX5_debtors 12 = .ok (.aload_n 0, 1) := by decide +kernel
theorem dX5_debtors_13 : decode cX5_debtors 13 = .ok (.getfield 18, 3) := by decide +kernel
theorem dX5_debtors_16 : decode cX5_debtors 16 = .ok (.iload_n 2, 1) := by decide +kernel
theorem dX5_debtors_17 : decode cX5_debtors 17 = .ok (.iaload, 1) := by decide +kernel
theorem dX5_debtors_18 : decode cX5_debtors 18 = .ok (.ifCond .eq 13, 3) := by decide +kernel
theorem dX5_debtors_21 : decode cX5_debtors 21 = .ok (.aload_n 0, 1) := by decide +kernel
theorem dX5_debtors_22 : decode cX5_debtors 22 = .ok (.getfield 18, 3) := by decide +kernel
theorem dX5_debtors_25 : decode cX5_debtors 25 = .ok (.iload_n 2, 1) := by decide +kernel
theorem dX5_debtors_26 : decode cX5_debtors 26 = .ok (.iaload, 1) := by decide +kernel
theorem dX5_debtors_27 : decode cX5_debtors 27 = .ok (.iconst 3, 1) := by decide +kernel
theorem dX5_debtors_28 : decode cX5_debtors 28 = .ok (.if_icmp .ne 9, 3) := by decide +kernel
theorem dX5_debtors_31 : decode cX5_debtors 31 = .ok (.iload_n 1, 1) := by decide +kernel
theorem dX5_debtors_32 : decode cX5_debtors 32 = .ok (.iconst 1, 1) := by decide +kernel
theorem dX5_debtors_33 : decode cX5_debtors 33 = .ok (.iload_n 2, 1) := by decide +kernel
theorem dX5_debtors_34 : decode cX5_debtors 34 = .ok (.ishl, 1) := by decide +kernel
theorem dX5_debtors_35 : decode cX5_debtors 35 = .ok (.ior, 1) := by decide +kernel
theorem dX5_debtors_36 : decode cX5_debtors 36 = .ok (.istore_n 1, 1) := by decide +kernel
theorem dX5_debtors_37 : decode cX5_debtors 37 = .ok (.iinc 2 1, 3) := by decide +kernel
theorem dX5_debtors_40 : decode cX5_debtors 40 = .ok (.goto (-36), 3) := by decide +kernel
theorem dX5_debtors_43 : decode cX5_debtors 43 = .ok (.iload_n 1, 1) := by decide +kernel
theorem dX5_debtors_44 : decode cX5_debtors 44 = .ok (.ireturn, 1) := by decide +kernel
theorem dX5_isPeaceful_0 : decode cX5_isPeaceful 0 = .ok (.iconst 0, 1) := by decide +kernel
theorem dX5_isPeaceful_1 : decode cX5_isPeaceful 1 = .ok (.istore_n 2, 1) := by decide +kernel
theorem dX5_isPeaceful_2 : decode cX5_isPeaceful 2 = .ok (.iload_n 2, 1) := by decide +kernel
theorem dX5_isPeaceful_3 : decode cX5_isPeaceful 3 = .ok (.aload_n 0, 1) := by decide +kernel
theorem dX5_isPeaceful_4 : decode cX5_isPeaceful 4 = .ok (.getfield 43, 3) := by decide +kernel
theorem dX5_isPeaceful_7 : decode cX5_isPeaceful 7 = .ok (.if_icmp .ge 39, 3) := by decide +kernel
theorem dX5_isPeaceful_10 : decode cX5_isPeaceful 10 = .ok (.iload_n 1, 1) := by decide +kernel
theorem dX5_isPeaceful_11 : decode cX5_isPeaceful 11 = .ok (.aload_n 0, 1) := by decide +kernel
theorem dX5_isPeaceful_12 : decode cX5_isPeaceful 12 = .ok (.getfield 46, 3) := by decide +kernel
theorem dX5_isPeaceful_15 : decode cX5_isPeaceful 15 = .ok (.iload_n 2, 1) := by decide +kernel
theorem dX5_isPeaceful_16 : decode cX5_isPeaceful 16 = .ok (.iaload, 1) := by decide +kernel
theorem dX5_isPeaceful_17 : decode cX5_isPeaceful 17 = .ok (.iand, 1) := by decide +kernel
theorem dX5_isPeaceful_18 : decode cX5_isPeaceful 18 = .ok (.aload_n 0, 1) := by decide +kernel
theorem dX5_isPeaceful_19 : decode cX5_isPeaceful 19 = .ok (.getfield 46, 3) := by decide +kernel
theorem dX5_isPeaceful_22 : decode cX5_isPeaceful 22 = .ok (.iload_n 2, 1) := by decide +kernel
theorem dX5_isPeaceful_23 : decode cX5_isPeaceful 23 = .ok (.iaload, 1) := by decide +kernel
theorem dX5_isPeaceful_24 : decode cX5_isPeaceful 24 = .ok (.if_icmp .ne 16, 3) := by decide +kernel
theorem dX5_isPeaceful_27 : decode cX5_isPeaceful 27 = .ok (.iload_n 1, 1) := by decide +kernel
theorem dX5_isPeaceful_28 : decode cX5_isPeaceful 28 = .ok (.aload_n 0, 1) := by decide +kernel
theorem dX5_isPeaceful_29 : decode cX5_isPeaceful 29 = .ok (.getfield 49, 3) := by decide +kernel
theorem dX5_isPeaceful_32 : decode cX5_isPeaceful 32 = .ok (.iload_n 2, 1) := by decide +kernel
theorem dX5_isPeaceful_33 : decode cX5_isPeaceful 33 = .ok (.iaload, 1) := by decide +kernel
theorem dX5_isPeaceful_34 : decode cX5_isPeaceful 34 = .ok (.iand, 1) := by decide +kernel
theorem dX5_isPeaceful_35 : decode cX5_isPeaceful 35 = .ok (.ifCond .ne 5, 3) := by decide +kernel
theorem dX5_isPeaceful_38 : decode cX5_isPeaceful 38 = .ok (.iconst 0, 1) := by decide +kernel
theorem dX5_isPeaceful_39 : decode cX5_isPeaceful 39 = .ok (.ireturn, 1) := by decide +kernel
theorem dX5_isPeaceful_40 : decode cX5_isPeaceful 40 = .ok (.iinc 2 1, 3) := by decide +kernel
theorem dX5_isPeaceful_43 : decode cX5_isPeaceful 43 = .ok (.goto (-41), 3) := by decide +kernel
theorem dX5_isPeaceful_46 : decode cX5_isPeaceful 46 = .ok (.iconst 1, 1) := by decide +kernel
theorem dX5_isPeaceful_47 : decode cX5_isPeaceful 47 = .ok (.ireturn, 1) := by decide +kernel
theorem dX5_addBeing_0 : decode cX5_addBeing 0 = .ok (.aload_n 0, 1) := by decide +kernel
theorem dX5_addBeing_1 : decode cX5_addBeing 1 = .ok (.getfield 15, 3) := by decide +kernel
theorem dX5_addBeing_4 : decode cX5_addBeing 4 = .ok (.bipush 10, 2) := by decide +kernel
theorem dX5_addBeing_6 : decode cX5_addBeing 6 = .ok (.if_icmp .lt 5, 3) := by decide +kernel
theorem dX5_addBeing_9 : decode cX5_addBeing 9 = .ok (.iconst 0, 1) := by decide +kernel
theorem dX5_addBeing_10 : decode cX5_addBeing 10 = .ok (.ireturn, 1) := by decide +kernel
theorem dX5_addBeing_11 : decode cX5_addBeing 11 = .ok (.aload_n 0, 1) := by decide +kernel
theorem dX5_addBeing_12 : decode cX5_addBeing 12 = .ok (.getfield 18, 3) := by decide +kernel
theorem dX5_addBeing_15 : decode cX5_addBeing 15 = .ok (.aload_n 0, 1) := by decide +kernel
theorem dX5_addBeing_16 : decode cX5_addBeing 16 = .ok (.getfield 15, 3) := by decide +kernel
theorem dX5_addBeing_19 : decode cX5_addBeing 19 = .ok (.iload_n 1, 1) := by decide +kernel
theorem dX5_addBeing_20 : decode cX5_addBeing 20 = .ok (.iastore, 1) := by decide +kernel
theorem dX5_addBeing_21 : decode cX5_addBeing 21 = .ok (.aload_n 0, 1) := by decide +kernel
theorem dX5_addBeing_22 : decode cX5_addBeing 22 = .ok (.getfield 22, 3) := by decide +kernel
theorem dX5_addBeing_25 : decode cX5_addBeing 25 = .ok (.aload_n 0, 1) := by decide +kernel
theorem dX5_addBeing_26 : decode cX5_addBeing 26 = .ok (.getfield 15, 3) := by decide +kernel
theorem dX5_addBeing_29 : decode cX5_addBeing 29 = .ok (.iload_n 2, 1) := by decide +kernel
theorem dX5_addBeing_30 : decode cX5_addBeing 30 = .ok (.iastore, 1) := by decide +kernel
theorem dX5_addBeing_31 : decode cX5_addBeing 31 = .ok (.aload_n 0, 1) := by decide +kernel
theorem dX5_addBeing_32 : decode cX5_addBeing 32 = .ok (.getfield 25, 3) := by decide +kernel
theorem dX5_addBeing_35 : decode cX5_addBeing 35 = .ok (.aload_n 0, 1) := by decide +kernel
theorem dX5_addBeing_36 : decode cX5_addBeing 36 = .ok (.getfield 15, 3) := by decide +kernel
theorem dX5_addBeing_39 : decode cX5_addBeing 39 = .ok (.iload_n 3, 1) := by decide +kernel
theorem dX5_addBeing_40 : decode cX5_addBeing 40 = .ok (.iastore, 1) := by decide +kernel
theorem dX5_addBeing_41 : decode cX5_addBeing 41 = .ok (.aload_n 0, 1) := by decide +kernel
theorem dX5_addBeing_42 : decode cX5_addBeing 42 = .ok (.dup, 1) := by decide +kernel
theorem dX5_addBeing_43 : decode cX5_addBeing 43 = .ok (.getfield 28, 3) := by decide +kernel
theorem dX5_addBeing_46 : decode cX5_addBeing 46 = .ok (.iload 4, 2) := by decide +kernel
theorem dX5_addBeing_48 : decode cX5_addBeing 48 = .ok (.ifCond .eq 12, 3) := by decide +kernel
theorem dX5_addBeing_51 : decode cX5_addBeing 51 = .ok (.iconst 1, 1) := by decide +kernel
theorem dX5_addBeing_52 : decode cX5_addBeing 52 = .ok (.aload_n 0, 1) := by decide +kernel
theorem dX5_addBeing_53 : decode cX5_addBeing 53 = .ok (.getfield 15, 3) := by decide +kernel
theorem dX5_addBeing_56 : decode cX5_addBeing 56 = .ok (.ishl, 1) := by decide +kernel
theorem dX5_addBeing_57 : decode cX5_addBeing 57 = .ok (.goto 4, 3) := by decide +kernel
theorem dX5_addBeing_60 : decode cX5_addBeing 60 = .ok (.iconst 0, 1) := by decide +kernel
theorem dX5_addBeing_61 : decode cX5_addBeing 61 = .ok (.ior, 1) := by decide +kernel
theorem dX5_addBeing_62 : decode cX5_addBeing 62 = .ok (.putfield 28, 3) := by decide +kernel
theorem dX5_addBeing_65 : decode cX5_addBeing 65 = .ok (.aload_n 0, 1) := by decide +kernel
theorem dX5_addBeing_66 : decode cX5_addBeing 66 = .ok (.dup, 1) := by decide +kernel
theorem dX5_addBeing_67 : decode cX5_addBeing 67 = .ok (.getfield 15, 3) := by decide +kernel
theorem dX5_addBeing_70 : decode cX5_addBeing 70 = .ok (.iconst 1, 1) := by decide +kernel
theorem dX5_addBeing_71 : decode cX5_addBeing 71 = .ok (.iadd, 1) := by decide +kernel
theorem dX5_addBeing_72 : decode cX5_addBeing 72 = .ok (.putfield 15, 3) := by decide +kernel
theorem dX5_addBeing_75 : decode cX5_addBeing 75 = .ok (.iconst 1, 1) := by decide +kernel
theorem dX5_addBeing_76 : decode cX5_addBeing 76 = .ok (.ireturn, 1) := by decide +kernel
theorem dX5_addApart_0 : decode cX5_addApart 0 = .ok (.aload_n 0, 1) := by decide +kernel
theorem dX5_addApart_1 : decode cX5_addApart 1 = .ok (.getfield 43, 3) := by decide +kernel
theorem dX5_addApart_4 : decode cX5_addApart 4 = .ok (.bipush 12, 2) := by decide +kernel
theorem dX5_addApart_6 : decode cX5_addApart 6 = .ok (.if_icmp .lt 5, 3) := by decide +kernel
theorem dX5_addApart_9 : decode cX5_addApart 9 = .ok (.iconst 0, 1) := by decide +kernel
theorem dX5_addApart_10 : decode cX5_addApart 10 = .ok (.ireturn, 1) := by decide +kernel
theorem dX5_addApart_11 : decode cX5_addApart 11 = .ok (.aload_n 0, 1) := by decide +kernel
theorem dX5_addApart_12 : decode cX5_addApart 12 = .ok (.getfield 46, 3) := by decide +kernel
theorem dX5_addApart_15 : decode cX5_addApart 15 = .ok (.aload_n 0, 1) := by decide +kernel
theorem dX5_addApart_16 : decode cX5_addApart 16 = .ok (.getfield 43, 3) := by decide +kernel
theorem dX5_addApart_19 : decode cX5_addApart 19 = .ok (.iload_n 1, 1) := by decide +kernel
theorem dX5_addApart_20 : decode cX5_addApart 20 = .ok (.iastore, 1) := by decide +kernel
theorem dX5_addApart_21 : decode cX5_addApart 21 = .ok (.aload_n 0, 1) := by decide +kernel
theorem dX5_addApart_22 : decode cX5_addApart 22 = .ok (.getfield 49, 3) := by decide +kernel
theorem dX5_addApart_25 : decode cX5_addApart 25 = .ok (.aload_n 0, 1) := by decide +kernel
theorem dX5_addApart_26 : decode cX5_addApart 26 = .ok (.getfield 43, 3) := by decide +kernel
theorem dX5_addApart_29 : decode cX5_addApart 29 = .ok (.iload_n 2, 1) := by decide +kernel
theorem dX5_addApart_30 : decode cX5_addApart 30 = .ok (.iastore, 1) := by decide +kernel
theorem dX5_addApart_31 : decode cX5_addApart 31 = .ok (.aload_n 0, 1) := by decide +kernel
theorem dX5_addApart_32 : decode cX5_addApart 32 = .ok (.dup, 1) := by decide +kernel
theorem dX5_addApart_33 : decode cX5_addApart 33 = .ok (.getfield 43, 3) := by decide +kernel
theorem dX5_addApart_36 : decode cX5_addApart 36 = .ok (.iconst 1, 1) := by decide +kernel
theorem dX5_addApart_37 : decode cX5_addApart 37 = .ok (.iadd, 1) := by decide +kernel
theorem dX5_addApart_38 : decode cX5_addApart 38 = .ok (.putfield 43, 3) := by decide +kernel
theorem dX5_addApart_41 : decode cX5_addApart 41 = .ok (.iconst 1, 1) := by decide +kernel
theorem dX5_addApart_42 : decode cX5_addApart 42 = .ok (.ireturn, 1) := by decide +kernel
theorem dX5_addWith_0 : decode cX5_addWith 0 = .ok (.aload_n 0, 1) := by decide +kernel
theorem dX5_addWith_1 : decode cX5_addWith 1 = .ok (.getfield 52, 3) := by decide +kernel
theorem dX5_addWith_4 : decode cX5_addWith 4 = .ok (.bipush 12, 2) := by decide +kernel
theorem dX5_addWith_6 : decode cX5_addWith 6 = .ok (.if_icmp .ge 11, 3) := by decide +kernel
theorem dX5_addWith_9 : decode cX5_addWith 9 = .ok (.aload_n 0, 1) := by decide +kernel
theorem dX5_addWith_10 : decode cX5_addWith 10 = .ok (.iload_n 1, 1) := by decide +kernel
theorem dX5_addWith_11 : decode cX5_addWith 11 = .ok (.invokevirtual 70, 3) := by decide +kernel
theorem dX5_addWith_14 : decode cX5_addWith 14 = .ok (.ifCond .ne 5, 3) := by decide +kernel
theorem dX5_addWith_17 : decode cX5_addWith 17 = .ok (.iconst 0, 1) := by decide +kernel
theorem dX5_addWith_18 : decode cX5_addWith 18 = .ok (.ireturn, 1) := by decide +kernel
theorem dX5_addWith_19 : decode cX5_addWith 19 = .ok (.aload_n 0, 1) := by decide +kernel
theorem dX5_addWith_20 : decode cX5_addWith 20 = .ok (.getfield 55, 3) := by decide +kernel
theorem dX5_addWith_23 : decode cX5_addWith 23 = .ok (.iload_n 1, 1) := by decide +kernel
theorem dX5_addWith_24 : decode cX5_addWith 24 = .ok (.dup2, 1) := by decide +kernel
theorem dX5_addWith_25 : decode cX5_addWith 25 = .ok (.iaload, 1) := by decide +kernel
theorem dX5_addWith_26 : decode cX5_addWith 26 = .ok (.iconst 1, 1) := by decide +kernel
theorem dX5_addWith_27 : decode cX5_addWith 27 = .ok (.iload_n 2, 1) := by decide +kernel
theorem dX5_addWith_28 : decode cX5_addWith 28 = .ok (.ishl, 1) := by decide +kernel
theorem dX5_addWith_29 : decode cX5_addWith 29 = .ok (.ior, 1) := by decide +kernel
theorem dX5_addWith_30 : decode cX5_addWith 30 = .ok (.iastore, 1) := by decide +kernel
theorem dX5_addWith_31 : decode cX5_addWith 31 = .ok (.aload_n 0, 1) := by decide +kernel
theorem dX5_addWith_32 : decode cX5_addWith 32 = .ok (.dup, 1) := by decide +kernel
theorem dX5_addWith_33 : decode cX5_addWith 33 = .ok (.getfield 52, 3) := by decide +kernel
theorem dX5_addWith_36 : decode cX5_addWith 36 = .ok (.iconst 1, 1) := by decide +kernel
theorem dX5_addWith_37 : decode cX5_addWith 37 = .ok (.iadd, 1) := by decide +kernel
theorem dX5_addWith_38 : decode cX5_addWith 38 = .ok (.putfield 52, 3) := by decide +kernel
theorem dX5_addWith_41 : decode cX5_addWith 41 = .ok (.iconst 1, 1) := by decide +kernel
theorem dX5_addWith_42 : decode cX5_addWith 42 = .ok (.ireturn, 1) := by decide +kernel
theorem dX5_setStream_0 : decode cX5_setStream 0 = .ok (.iload_n 1, 1) := by decide +kernel
theorem dX5_setStream_1 : decode cX5_setStream 1 = .ok (.iconst 0, 1) := by decide +kernel
theorem dX5_setStream_2 : decode cX5_setStream 2 = .ok (.invokestatic 74, 3) := by decide +kernel
theorem dX5_setStream_5 : decode cX5_setStream 5 = .ok (.istore_n 3, 1) := by decide +kernel
theorem dX5_setStream_6 : decode cX5_setStream 6 = .ok (.iload_n 3, 1) := by decide +kernel
theorem dX5_setStream_7 : decode cX5_setStream 7 = .ok (.bipush 24, 2) := by decide +kernel
theorem dX5_setStream_9 : decode cX5_setStream 9 = .ok (.if_icmp .ge 16, 3) := by decide +kernel
theorem dX5_setStream_12 : decode cX5_setStream 12 = .ok (.aload_n 0, 1) := by decide +kernel
theorem dX5_setStream_13 : decode cX5_setStream 13 = .ok (.getfield 40, 3) := by decide +kernel
theorem dX5_setStream_16 : decode cX5_setStream 16 = .ok (.iload_n 3, 1) := by decide +kernel
theorem dX5_setStream_17 : decode cX5_setStream 17 = .ok (.iload_n 2, 1) := by decide +kernel
theorem dX5_setStream_18 : decode cX5_setStream 18 = .ok (.iastore, 1) := by decide +kernel
theorem dX5_setStream_19 : decode cX5_setStream 19 = .ok (.iinc 3 1, 3) := by decide +kernel
theorem dX5_setStream_22 : decode cX5_setStream 22 = .ok (.goto (-16), 3) := by decide +kernel
theorem dX5_setStream_25 : decode cX5_setStream 25 = .ok (.return_, 1) := by decide +kernel
theorem dX6_init_0 : decode cX6_init 0 = .ok (.aload_n 0, 1) := by decide +kernel
theorem dX6_init_1 : decode cX6_init 1 = .ok (.invokespecial 3, 3) := by decide +kernel
theorem dX6_init_4 : decode cX6_init 4 = .ok (.aload_n 0, 1) := by decide +kernel
theorem dX6_init_5 : decode cX6_init 5 = .ok (.aload_n 1, 1) := by decide +kernel
theorem dX6_init_6 : decode cX6_init 6 = .ok (.putfield 9, 3) := by decide +kernel
theorem dX6_init_9 : decode cX6_init 9 = .ok (.aload_n 0, 1) := by decide +kernel
theorem dX6_init_10 : decode cX6_init 10 = .ok (.aload_n 2, 1) := by decide +kernel
theorem dX6_init_11 : decode cX6_init 11 = .ok (.putfield 15, 3) := by decide +kernel
theorem dX6_init_14 : decode cX6_init 14 = .ok (.return_, 1) := by decide +kernel
theorem dX6_readText_0 : decode cX6_readText 0 = .ok (.aload_n 0, 1) := by decide +kernel
theorem dX6_readText_1 : decode cX6_readText 1 = .ok (.getfield 9, 3) := by decide +kernel
theorem dX6_readText_4 : decode cX6_readText 4 = .ok (.invokevirtual 19, 3) := by decide +kernel
theorem dX6_readText_7 : decode cX6_readText 7 = .ok (.getstatic 25, 3) := by decide +kernel
theorem dX6_readText_10 : decode cX6_readText 10 = .ok (.if_acmp .ne 5, 3) := by decide +kernel
theorem dX6_readText_13 : decode cX6_readText 13 = .ok (.iconst 1, 1) := by decide +kernel
theorem dX6_readText_14 : decode cX6_readText 14 = .ok (.ireturn, 1) := by decide +kernel
theorem dX6_readText_15 : decode cX6_readText 15 = .ok (.iconst 0, 1) := by decide +kernel
theorem dX6_readText_16 : decode cX6_readText 16 = .ok (.istore_n 1, 1) := by decide +kernel
theorem dX6_readText_17 : decode cX6_readText 17 = .ok (.iload_n 1, 1) := by decide +kernel
theorem dX6_readText_18 : decode cX6_readText 18 = .ok (.bipush 14, 2) := by decide +kernel
theorem dX6_readText_20 : decode cX6_readText 20 = .ok (.if_icmp .ge 48, 3) := by decide +kernel
theorem dX6_readText_23 : decode cX6_readText 23 = .ok (.aload_n 0, 1) := by decide +kernel
theorem dX6_readText_24 : decode cX6_readText 24 = .ok (.invokevirtual 31, 3) := by decide +kernel
theorem dX6_readText_27 : decode cX6_readText 27 = .ok (.ifCond .ne 5, 3) := by decide +kernel
theorem dX6_readText_30 : decode cX6_readText 30 = .ok (.iconst 0, 1) := by decide +kernel
theorem dX6_readText_31 : decode cX6_readText 31 = .ok (.ireturn, 1) := by decide +kernel
theorem dX6_readText_32 : decode cX6_readText 32 = .ok (.aload_n 0, 1) := by decide +kernel
theorem dX6_readText_33 : decode cX6_readText 33 = .ok (.getfield 9, 3) := by decide +kernel
theorem dX6_readText_36 : decode cX6_readText 36 = .ok (.invokevirtual 19, 3) := by decide +kernel
theorem dX6_readText_39 : decode cX6_readText 39 = .ok (.getstatic 25, 3) := by decide +kernel
theorem dX6_readText_42 : decode cX6_readText 42 = .ok (.if_acmp .ne 5, 3) := by decide +kernel
theorem dX6_readText_45 : decode cX6_readText 45 = .ok (.iconst 1, 1) := by decide +kernel
theorem dX6_readText_46 : decode cX6_readText 46 = .ok (.ireturn, 1) := by decide +kernel
theorem dX6_readText_47 : decode cX6_readText 47 = .ok (.aload_n 0, 1) := by decide +kernel
theorem dX6_readText_48 : decode cX6_readText 48 = .ok (.getfield 9, 3) := by decide +kernel
theorem dX6_readText_51 : decode cX6_readText 51 = .ok (.getstatic 35, 3) := by decide +kernel
theorem dX6_readText_54 : decode cX6_readText 54 = .ok (.invokevirtual 38, 3) := by decide +kernel
theorem dX6_readText_57 : decode cX6_readText 57 = .ok (.ifCond .ne 5, 3) := by decide +kernel
theorem dX6_readText_60 : decode cX6_readText 60 = .ok (.iconst 0, 1) := by decide +kernel
theorem dX6_readText_61 : decode cX6_readText 61 = .ok (.ireturn, 1) := by decide +kernel
theorem dX6_readText_62 : decode cX6_readText 62 = .ok (.iinc 1 1, 3) := by decide +kernel
theorem dX6_readText_65 : decode cX6_readText 65 = .ok (.goto (-48), 3) := by decide +kernel
theorem dX6_readText_68 : decode cX6_readText 68 = .ok (.iconst 0, 1) := by decide +kernel
theorem dX6_readText_69 : decode cX6_readText 69 = .ok (.ireturn, 1) := by decide +kernel
theorem dX6_readLine_0 : decode cX6_readLine 0 = .ok (.aload_n 0, 1) := by decide +kernel
theorem dX6_readLine_1 : decode cX6_readLine 1 = .ok (.getfield 9, 3) := by decide +kernel
theorem dX6_readLine_4 : decode cX6_readLine 4 = .ok (.invokevirtual 19, 3) := by decide +kernel
theorem dX6_readLine_7 : decode cX6_readLine 7 = .ok (.astore_n 1, 1) := by decide +kernel
theorem dX6_readLine_8 : decode cX6_readLine 8 = .ok (.aload_n 1, 1) := by decide +kernel
theorem dX6_readLine_9 : decode cX6_readLine 9 = .ok (.invokestatic 42, 3) := by decide +kernel
theorem dX6_readLine_12 : decode cX6_readLine 12 = .ok (.istore_n 2, 1) := by decide +kernel
theorem dX6_readLine_13 : decode cX6_readLine 13 = .ok (.iload_n 2, 1) := by decide +kernel
theorem dX6_readLine_14 : decode cX6_readLine 14 = .ok (.iconst (-1), 1) := by decide +kernel
theorem dX6_readLine_15 : decode cX6_readLine 15 = .ok (.if_icmp .eq 9, 3) := by decide +kernel
theorem dX6_readLine_18 : decode cX6_readLine 18 = .ok (.aload_n 0, 1) := by decide +kernel
theorem dX6_readLine_19 : decode cX6_readLine 19 = .ok (.iload_n 2, 1) := by decide +kernel
theorem dX6_readLine_20 : decode cX6_readLine 20 = .ok (.invokevirtual 46, 3) := by decide +kernel
theorem dX6_readLine_23 : decode cX6_readLine 23 = .ok (.ireturn, 1) := by decide +kernel
theorem dX6_readLine_24 : decode cX6_readLine 24 = .ok (.aload_n 1, 1) := by decide +kernel
theorem dX6_readLine_25 : decode cX6_readLine 25 = .ok (.getstatic 50, 3) := by decide +kernel
theorem dX6_readLine_28 : decode cX6_readLine 28 = .ok (.if_acmp .ne 8, 3) := by decide +kernel
theorem dX6_readLine_31 : decode cX6_readLine 31 = .ok (.aload_n 0, 1) := by decide +kernel
theorem dX6_readLine_32 : decode cX6_readLine 32 = .ok (.invokevirtual 53, 3) := by decide +kernel
theorem dX6_readLine_35 : decode cX6_readLine 35 = .ok (.ireturn, 1) := by decide +kernel
theorem dX6_readLine_36 : decode cX6_readLine 36 = .ok (.aload_n 1, 1) := by decide +kernel
theorem dX6_readLine_37 : decode cX6_readLine 37 = .ok (.getstatic 56, 3) := by decide +kernel
theorem dX6_readLine_40 : decode cX6_readLine 40 = .ok (.if_acmp .ne 8, 3) := by decide +kernel
theorem dX6_readLine_43 : decode cX6_readLine 43 = .ok (.aload_n 0, 1) := by decide +kernel
theorem dX6_readLine_44 : decode cX6_readLine 44 = .ok (.invokevirtual 59, 3) := by decide +kernel
theorem dX6_readLine_47 : decode cX6_readLine 47 = .ok (.ireturn, 1) := by decide +kernel
theorem dX6_readLine_48 : decode cX6_readLine 48 = .ok (.aload_n 1, 1) := by decide +kernel
theorem dX6_readLine_49 : decode cX6_readLine 49 = .ok (.getstatic 62, 3) := by decide +kernel
theorem dX6_readLine_52 : decode cX6_readLine 52 = .ok (.if_acmp .ne 8, 3) := by decide +kernel
theorem dX6_readLine_55 : decode cX6_readLine 55 = .ok (.aload_n 0, 1) := by decide +kernel
theorem dX6_readLine_56 : decode cX6_readLine 56 = .ok (.invokevirtual 65, 3) := by decide +kernel
theorem dX6_readLine_59 : decode cX6_readLine 59 = .ok (.ireturn, 1) := by decide +kernel
theorem dX6_readLine_60 : decode cX6_readLine 60 = .ok (.aload_n 0, 1) := by decide +kernel
theorem dX6_readLine_61 : decode cX6_readLine 61 = .ok (.aload_n 1, 1) := by decide +kernel
theorem dX6_readLine_62 : decode cX6_readLine 62 = .ok (.invokevirtual 68, 3) := by decide +kernel
