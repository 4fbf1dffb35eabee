theorem dX12_has_10 : decode cX12_has 10 = .ok (.aload_n 0, 1) := by decide +kernel
theorem dX12_has_11 : decode cX12_has 11 = .ok (.getfield 91, 3) := by decide +kernel
theorem dX12_has_14 : decode cX12_has 14 = .ok (.if_icmp .ge 24, 3) := by decide +kernel
theorem dX12_has_17 : decode cX12_has 17 = .ok (.aload_n 0, 1) := by decide +kernel
theorem dX12_has_18 : decode cX12_has 18 = .ok (.iload_n 2, 1) := by decide +kernel
theorem dX12_has_19 : decode cX12_has 19 = .ok (.invokevirtual 94, 3) := by decide +kernel
theorem dX12_has_22 : decode cX12_has 22 = .ok (.bipush 97, 2) := by decide +kernel
theorem dX12_has_24 : decode cX12_has 24 = .ok (.bipush 122, 2) := by decide +kernel
theorem dX12_has_26 : decode cX12_has 26 = .ok (.invokestatic 62, 3) := by decide +kernel
theorem dX12_has_29 : decode cX12_has 29 = .ok (.ifCond .eq 9, 3) := by decide +kernel
theorem dX12_has_32 : decode cX12_has 32 = .ok (.iinc 2 1, 3) := by decide +kernel
theorem dX12_has_35 : decode cX12_has 35 = .ok (.goto (-26), 3) := by decide +kernel
theorem dX12_has_38 : decode cX12_has 38 = .ok (.iload_n 2, 1) := by decide +kernel
theorem dX12_has_39 : decode cX12_has 39 = .ok (.aload_n 0, 1) := by decide +kernel
theorem dX12_has_40 : decode cX12_has 40 = .ok (.getfield 88, 3) := by decide +kernel
theorem dX12_has_43 : decode cX12_has 43 = .ok (.isub, 1) := by decide +kernel
theorem dX12_has_44 : decode cX12_has 44 = .ok (.aload_n 1, 1) := by decide +kernel
theorem dX12_has_45 : decode cX12_has 45 = .ok (.invokevirtual 100, 3) := by decide +kernel
theorem dX12_has_48 : decode cX12_has 48 = .ok (.if_icmp .eq 5, 3) := by decide +kernel
theorem dX12_has_51 : decode cX12_has 51 = .ok (.iconst 0, 1) := by decide +kernel
theorem dX12_has_52 : decode cX12_has 52 = .ok (.ireturn, 1) := by decide +kernel
theorem dX12_has_53 : decode cX12_has 53 = .ok (.iconst 0, 1) := by decide +kernel
theorem dX12_has_54 : decode cX12_has 54 = .ok (.istore_n 3, 1) := by decide +kernel
theorem dX12_has_55 : decode cX12_has 55 = .ok (.iload_n 3, 1) := by decide +kernel
theorem dX12_has_56 : decode cX12_has 56 = .ok (.aload_n 1, 1) := by decide +kernel
theorem dX12_has_57 : decode cX12_has 57 = .ok (.invokevirtual 100, 3) := by decide +kernel
theorem dX12_has_60 : decode cX12_has 60 = .ok (.if_icmp .ge 29, 3) := by decide +kernel
theorem dX12_has_63 : decode cX12_has 63 = .ok (.aload_n 0, 1) := by decide +kernel
theorem dX12_has_64 : decode cX12_has 64 = .ok (.aload_n 0, 1) := by decide +kernel
theorem dX12_has_65 : decode cX12_has 65 = .ok (.getfield 88, 3) := by decide +kernel
theorem dX12_has_68 : decode cX12_has 68 = .ok (.iload_n 3, 1) := by decide +kernel
theorem dX12_has_69 : decode cX12_has 69 = .ok (.iadd, 1) := by decide +kernel
theorem dX12_has_70 : decode cX12_has 70 = .ok (.invokevirtual 94, 3) := by decide +kernel
theorem dX12_has_73 : decode cX12_has 73 = .ok (.aload_n 1, 1) := by decide +kernel
theorem dX12_has_74 : decode cX12_has 74 = .ok (.iload_n 3, 1) := by decide +kernel
theorem dX12_has_75 : decode cX12_has 75 = .ok (.invokevirtual 105, 3) := by decide +kernel
theorem dX12_has_78 : decode cX12_has 78 = .ok (.if_icmp .eq 5, 3) := by decide +kernel
theorem dX12_has_81 : decode cX12_has 81 = .ok (.iconst 0, 1) := by decide +kernel
theorem dX12_has_82 : decode cX12_has 82 = .ok (.ireturn, 1) := by decide +kernel
theorem dX12_has_83 : decode cX12_has 83 = .ok (.iinc 3 1, 3) := by decide +kernel
theorem dX12_has_86 : decode cX12_has 86 = .ok (.goto (-31), 3) := by decide +kernel
theorem dX12_has_89 : decode cX12_has 89 = .ok (.aload_n 0, 1) := by decide +kernel
theorem dX12_has_90 : decode cX12_has 90 = .ok (.iload_n 2, 1) := by decide +kernel
theorem dX12_has_91 : decode cX12_has 91 = .ok (.putfield 88, 3) := by decide +kernel
theorem dX12_has_94 : decode cX12_has 94 = .ok (.iconst 1, 1) := by decide +kernel
theorem dX12_has_95 : decode cX12_has 95 = .ok (.ireturn, 1) := by decide +kernel
theorem dX12_wrong_0 : decode cX12_wrong 0 = .ok (.aload_n 0, 1) := by decide +kernel
theorem dX12_wrong_1 : decode cX12_wrong 1 = .ok (.getfield 22, 3) := by decide +kernel
theorem dX12_wrong_4 : decode cX12_wrong 4 = .ok (.iconst (-1), 1) := by decide +kernel
theorem dX12_wrong_5 : decode cX12_wrong 5 = .ok (.if_icmp .ne 8, 3) := by decide +kernel
theorem dX12_wrong_8 : decode cX12_wrong 8 = .ok (.aload_n 0, 1) := by decide +kernel
theorem dX12_wrong_9 : decode cX12_wrong 9 = .ok (.iload_n 1, 1) := by decide +kernel
theorem dX12_wrong_10 : decode cX12_wrong 10 = .ok (.putfield 22, 3) := by decide +kernel
theorem dX12_wrong_13 : decode cX12_wrong 13 = .ok (.return_, 1) := by decide +kernel
theorem dX12_figures_0 : decode cX12_figures 0 = .ok (.aload_n 0, 1) := by decide +kernel
theorem dX12_figures_1 : decode cX12_figures 1 = .ok (.getfield 22, 3) := by decide +kernel
theorem dX12_figures_4 : decode cX12_figures 4 = .ok (.iconst (-1), 1) := by decide +kernel
theorem dX12_figures_5 : decode cX12_figures 5 = .ok (.if_icmp .eq 5, 3) := by decide +kernel
theorem dX12_figures_8 : decode cX12_figures 8 = .ok (.iconst 0, 1) := by decide +kernel
theorem dX12_figures_9 : decode cX12_figures 9 = .ok (.ireturn, 1) := by decide +kernel
theorem dX12_figures_10 : decode cX12_figures 10 = .ok (.aload_n 0, 1) := by decide +kernel
theorem dX12_figures_11 : decode cX12_figures 11 = .ok (.invokevirtual 97, 3) := by decide +kernel
theorem dX12_figures_14 : decode cX12_figures 14 = .ok (.aload_n 0, 1) := by decide +kernel
theorem dX12_figures_15 : decode cX12_figures 15 = .ok (.getfield 88, 3) := by decide +kernel
theorem dX12_figures_18 : decode cX12_figures 18 = .ok (.istore_n 3, 1) := by decide +kernel
theorem dX12_figures_19 : decode cX12_figures 19 = .ok (.iconst 0, 1) := by decide +kernel
theorem dX12_figures_20 : decode cX12_figures 20 = .ok (.istore 4, 2) := by decide +kernel
theorem dX12_figures_22 : decode cX12_figures 22 = .ok (.aload_n 0, 1) := by decide +kernel
theorem dX12_figures_23 : decode cX12_figures 23 = .ok (.getfield 88, 3) := by decide +kernel
theorem dX12_figures_26 : decode cX12_figures 26 = .ok (.aload_n 0, 1) := by decide +kernel
theorem dX12_figures_27 : decode cX12_figures 27 = .ok (.getfield 91, 3) := by decide +kernel
theorem dX12_figures_30 : decode cX12_figures 30 = .ok (.if_icmp .ge 63, 3) := by decide +kernel
theorem dX12_figures_33 : decode cX12_figures 33 = .ok (.aload_n 0, 1) := by decide +kernel
theorem dX12_figures_34 : decode cX12_figures 34 = .ok (.aload_n 0, 1) := by decide +kernel
theorem dX12_figures_35 : decode cX12_figures 35 = .ok (.getfield 88, 3) := by decide +kernel
theorem dX12_figures_38 : decode cX12_figures 38 = .ok (.invokevirtual 94, 3) := by decide +kernel
theorem dX12_figures_41 : decode cX12_figures 41 = .ok (.bipush 48, 2) := by decide +kernel
theorem dX12_figures_43 : decode cX12_figures 43 = .ok (.bipush 57, 2) := by decide +kernel
theorem dX12_figures_45 : decode cX12_figures 45 = .ok (.invokestatic 62, 3) := by decide +kernel
theorem dX12_figures_48 : decode cX12_figures 48 = .ok (.ifCond .eq 45, 3) := by decide +kernel
theorem dX12_figures_51 : decode cX12_figures 51 = .ok (.aload_n 0, 1) := by decide +kernel
theorem dX12_figures_52 : decode cX12_figures 52 = .ok (.getfield 88, 3) := by decide +kernel
theorem dX12_figures_55 : decode cX12_figures 55 = .ok (.iload_n 3, 1) := by decide +kernel
theorem dX12_figures_56 : decode cX12_figures 56 = .ok (.isub, 1) := by decide +kernel
theorem dX12_figures_57 : decode cX12_figures 57 = .ok (.iconst 4, 1) := by decide +kernel
theorem dX12_figures_58 : decode cX12_figures 58 = .ok (.if_icmp .ge 35, 3) := by decide +kernel
theorem dX12_figures_61 : decode cX12_figures 61 = .ok (.bipush 10, 2) := by decide +kernel
theorem dX12_figures_63 : decode cX12_figures 63 = .ok (.iload 4, 2) := by decide +kernel
theorem dX12_figures_65 : decode cX12_figures 65 = .ok (.imul, 1) := by decide +kernel
theorem dX12_figures_66 : decode cX12_figures 66 = .ok (.aload_n 0, 1) := by decide +kernel
theorem dX12_figures_67 : decode cX12_figures 67 = .ok (.aload_n 0, 1) := by decide +kernel
theorem dX12_figures_68 : decode cX12_figures 68 = .ok (.getfield 88, 3) := by decide +kernel
theorem dX12_figures_71 : decode cX12_figures 71 = .ok (.invokevirtual 94, 3) := by decide +kernel
theorem dX12_figures_74 : decode cX12_figures 74 = .ok (.iadd, 1) := by decide +kernel
theorem dX12_figures_75 : decode cX12_figures 75 = .ok (.bipush 48, 2) := by decide +kernel
theorem dX12_figures_77 : decode cX12_figures 77 = .ok (.isub, 1) := by decide +kernel
theorem dX12_figures_78 : decode cX12_figures 78 = .ok (.istore 4, 2) := by decide +kernel
theorem dX12_figures_80 : decode cX12_figures 80 = .ok (.aload_n 0, 1) := by decide +kernel
theorem dX12_figures_81 : decode cX12_figures 81 = .ok (.dup, 1) := by decide +kernel
theorem dX12_figures_82 : decode cX12_figures 82 = .ok (.getfield 88, 3) := by decide +kernel
theorem dX12_figures_85 : decode cX12_figures 85 = .ok (.iconst 1, 1) := by decide +kernel
theorem dX12_figures_86 : decode cX12_figures 86 = .ok (.iadd, 1) := by decide +kernel
theorem dX12_figures_87 : decode cX12_figures 87 = .ok (.putfield 88, 3) := by decide +kernel
theorem dX12_figures_90 : decode cX12_figures 90 = .ok (.goto (-68), 3) := by decide +kernel
theorem dX12_figures_93 : decode cX12_figures 93 = .ok (.aload_n 0, 1) := by decide +kernel
theorem dX12_figures_94 : decode cX12_figures 94 = .ok (.getfield 88, 3) := by decide +kernel
theorem dX12_figures_97 : decode cX12_figures 97 = .ok (.iload_n 3, 1) := by decide +kernel
theorem dX12_figures_98 : decode cX12_figures 98 = .ok (.if_icmp .eq 25, 3) := by decide +kernel
theorem dX12_figures_101 : decode cX12_figures 101 = .ok (.aload_n 0, 1) := by decide +kernel
theorem dX12_figures_102 : decode cX12_figures 102 = .ok (.getfield 88, 3) := by decide +kernel
theorem dX12_figures_105 : decode cX12_figures 105 = .ok (.iload_n 3, 1) := by decide +kernel
theorem dX12_figures_106 : decode cX12_figures 106 = .ok (.isub, 1) := by decide +kernel
theorem dX12_figures_107 : decode cX12_figures 107 = .ok (.iconst 3, 1) := by decide +kernel
theorem dX12_figures_108 : decode cX12_figures 108 = .ok (.if_icmp .gt 15, 3) := by decide +kernel
theorem dX12_figures_111 : decode cX12_figures 111 = .ok (.iload 4, 2) := by decide +kernel
theorem dX12_figures_113 : decode cX12_figures 113 = .ok (.iload_n 1, 1) := by decide +kernel
theorem dX12_figures_114 : decode cX12_figures 114 = .ok (.if_icmp .lt 9, 3) := by decide +kernel
theorem dX12_figures_117 : decode cX12_figures 117 = .ok (.iload 4, 2) := by decide +kernel
theorem dX12_figures_119 : decode cX12_figures 119 = .ok (.iload_n 2, 1) := by decide +kernel
theorem dX12_figures_120 : decode cX12_figures 120 = .ok (.if_icmp .le 8, 3) := by decide +kernel
theorem dX12_figures_123 : decode cX12_figures 123 = .ok (.aload_n 0, 1) := by decide +kernel
theorem dX12_figures_124 : decode cX12_figures 124 = .ok (.iload_n 3, 1) := by decide +kernel
theorem dX12_figures_125 : decode cX12_figures 125 = .ok (.invokevirtual 109, 3) := by decide +kernel
theorem dX12_figures_128 : decode cX12_figures 128 = .ok (.iload 4, 2) := by decide +kernel
theorem dX12_figures_130 : decode cX12_figures 130 = .ok (.ireturn, 1) := by decide +kernel
theorem dX12_being_0 : decode cX12_being 0 = .ok (.aload_n 0, 1) := by decide +kernel
theorem dX12_being_1 : decode cX12_being 1 = .ok (.getfield 22, 3) := by decide +kernel
theorem dX12_being_4 : decode cX12_being 4 = .ok (.iconst (-1), 1) := by decide +kernel
theorem dX12_being_5 : decode cX12_being 5 = .ok (.if_icmp .eq 5, 3) := by decide +kernel
theorem dX12_being_8 : decode cX12_being 8 = .ok (.iconst 0, 1) := by decide +kernel
theorem dX12_being_9 : decode cX12_being 9 = .ok (.ireturn, 1) := by decide +kernel
theorem dX12_being_10 : decode cX12_being 10 = .ok (.aload_n 0, 1) := by decide +kernel
theorem dX12_being_11 : decode cX12_being 11 = .ok (.invokevirtual 97, 3) := by decide +kernel
theorem dX12_being_14 : decode cX12_being 14 = .ok (.aload_n 0, 1) := by decide +kernel
theorem dX12_being_15 : decode cX12_being 15 = .ok (.getfield 88, 3) := by decide +kernel
theorem dX12_being_18 : decode cX12_being 18 = .ok (.istore_n 3, 1) := by decide +kernel
theorem dX12_being_19 : decode cX12_being 19 = .ok (.aload_n 0, 1) := by decide +kernel
theorem dX12_being_20 : decode cX12_being 20 = .ok (.iconst 0, 1) := by decide +kernel
theorem dX12_being_21 : decode cX12_being 21 = .ok (.aload_n 0, 1) := by decide +kernel
theorem dX12_being_22 : decode cX12_being 22 = .ok (.getfield 7, 3) := by decide +kernel
theorem dX12_being_25 : decode cX12_being 25 = .ok (.iconst 1, 1) := by decide +kernel
theorem dX12_being_26 : decode cX12_being 26 = .ok (.iaload, 1) := by decide +kernel
theorem dX12_being_27 : decode cX12_being 27 = .ok (.iconst 1, 1) := by decide +kernel
theorem dX12_being_28 : decode cX12_being 28 = .ok (.isub, 1) := by decide +kernel
theorem dX12_being_29 : decode cX12_being 29 = .ok (.invokevirtual 113, 3) := by decide +kernel
theorem dX12_being_32 : decode cX12_being 32 = .ok (.istore 4, 2) := by decide +kernel
theorem dX12_being_34 : decode cX12_being 34 = .ok (.aload_n 0, 1) := by decide +kernel
theorem dX12_being_35 : decode cX12_being 35 = .ok (.getfield 22, 3) := by decide +kernel
theorem dX12_being_38 : decode cX12_being 38 = .ok (.iconst (-1), 1) := by decide +kernel
theorem dX12_being_39 : decode cX12_being 39 = .ok (.if_icmp .ne 20, 3) := by decide +kernel
theorem dX12_being_42 : decode cX12_being 42 = .ok (.iload 4, 2) := by decide +kernel
theorem dX12_being_44 : decode cX12_being 44 = .ok (.iload_n 1, 1) := by decide +kernel
theorem dX12_being_45 : decode cX12_being 45 = .ok (.if_icmp .eq 9, 3) := by decide +kernel
theorem dX12_being_48 : decode cX12_being 48 = .ok (.iload 4, 2) := by decide +kernel
theorem dX12_being_50 : decode cX12_being 50 = .ok (.iload_n 2, 1) := by decide +kernel
theorem dX12_being_51 : decode cX12_being 51 = .ok (.if_icmp .ne 8, 3) := by decide +kernel
theorem dX12_being_54 : decode cX12_being 54 = .ok (.aload_n 0, 1) := by decide +kernel
theorem dX12_being_55 : decode cX12_being 55 = .ok (.iload_n 3, 1) := by decide +kernel
theorem dX12_being_56 : decode cX12_being 56 = .ok (.invokevirtual 109, 3) := by decide +kernel
theorem dX12_being_59 : decode cX12_being 59 = .ok (.iload 4, 2) := by decide +kernel
theorem dX12_being_61 : decode cX12_being 61 = .ok (.ireturn, 1) := by decide +kernel
theorem dX12_comes_0 : decode cX12_comes 0 = .ok (.aload_n 0, 1) := by decide +kernel
theorem dX12_comes_1 : decode cX12_comes 1 = .ok (.getfield 7, 3) := by decide +kernel
theorem dX12_comes_4 : decode cX12_comes 4 = .ok (.iconst 1, 1) := by decide +kernel
theorem dX12_comes_5 : decode cX12_comes 5 = .ok (.iaload, 1) := by decide +kernel
theorem dX12_comes_6 : decode cX12_comes 6 = .ok (.bipush 10, 2) := by decide +kernel
theorem dX12_comes_8 : decode cX12_comes 8 = .ok (.if_icmp .ne 8, 3) := by decide +kernel
theorem dX12_comes_11 : decode cX12_comes 11 = .ok (.aload_n 0, 1) := by decide +kernel
theorem dX12_comes_12 : decode cX12_comes 12 = .ok (.iload_n 2, 1) := by decide +kernel
theorem dX12_comes_13 : decode cX12_comes 13 = .ok (.invokevirtual 109, 3) := by decide +kernel
theorem dX12_comes_16 : decode cX12_comes 16 = .ok (.iload_n 1, 1) := by decide +kernel
theorem dX12_comes_17 : decode cX12_comes 17 = .ok (.iconst 2, 1) := by decide +kernel
theorem dX12_comes_18 : decode cX12_comes 18 = .ok (.if_icmp .ge 13, 3) := by decide +kernel
theorem dX12_comes_21 : decode cX12_comes 21 = .ok (.aload_n 0, 1) := by decide +kernel
theorem dX12_comes_22 : decode cX12_comes 22 = .ok (.iconst 0, 1) := by decide +kernel
theorem dX12_comes_23 : decode cX12_comes 23 = .ok (.bipush 9, 2) := by decide +kernel
theorem dX12_comes_25 : decode cX12_comes 25 = .ok (.invokevirtual 113, 3) := by decide +kernel
theorem dX12_comes_28 : decode cX12_comes 28 = .ok (.goto 4, 3) := by decide +kernel
theorem dX12_comes_31 : decode cX12_comes 31 = .ok (.iconst 0, 1) := by decide +kernel
theorem dX12_comes_32 : decode cX12_comes 32 = .ok (.istore_n 3, 1) := by decide +kernel
theorem dX12_comes_33 : decode cX12_comes 33 = .ok (.aload_n 0, 1) := by decide +kernel
theorem dX12_comes_34 : decode cX12_comes 34 = .ok (.iconst 1, 1) := by decide +kernel
theorem dX12_comes_35 : decode cX12_comes 35 = .ok (.bipush 99, 2) := by decide +kernel
theorem dX12_comes_37 : decode cX12_comes 37 = .ok (.invokevirtual 113, 3) := by decide +kernel
theorem dX12_comes_40 : decode cX12_comes 40 = .ok (.istore 4, 2) := by decide +kernel
theorem dX12_comes_42 : decode cX12_comes 42 = .ok (.aload_n 0, 1) := by decide +kernel
theorem dX12_comes_43 : decode cX12_comes 43 = .ok (.getfield 22, 3) := by decide +kernel
theorem dX12_comes_46 : decode cX12_comes 46 = .ok (.iconst (-1), 1) := by decide +kernel
theorem dX12_comes_47 : decode cX12_comes 47 = .ok (.if_icmp .ne 21, 3) := by decide +kernel
theorem dX12_comes_50 : decode cX12_comes 50 = .ok (.iload_n 1, 1) := by decide +kernel
theorem dX12_comes_51 : decode cX12_comes 51 = .ok (.iconst 2, 1) := by decide +kernel
theorem dX12_comes_52 : decode cX12_comes 52 = .ok (.if_icmp .ge 16, 3) := by decide +kernel
theorem dX12_comes_55 : decode cX12_comes 55 = .ok (.aload_n 0, 1) := by decide +kernel
theorem dX12_comes_56 : decode cX12_comes 56 = .ok (.ldc 116, 2) := by decide +kernel
theorem dX12_comes_58 : decode cX12_comes 58 = .ok (.invokevirtual 118, 3) := by decide +kernel
theorem dX12_comes_61 : decode cX12_comes 61 = .ok (.ifCond .eq 7, 3) := by decide +kernel
theorem dX12_comes_64 : decode cX12_comes 64 = .ok (.iconst 1, 1) := by decide +kernel
theorem dX12_comes_65 : decode cX12_comes 65 = .ok (.goto 4, 3) := by decide +kernel
theorem dX12_comes_68 : decode cX12_comes 68 = .ok (.iconst 0, 1) := by decide +kernel
theorem dX12_comes_69 : decode cX12_comes 69 = .ok (.istore 5, 2) := by decide +kernel
theorem dX12_comes_71 : decode cX12_comes 71 = .ok (.aload_n 0, 1) := by decide +kernel
theorem dX12_comes_72 : decode cX12_comes 72 = .ok (.getfield 22, 3) := by decide +kernel
theorem dX12_comes_75 : decode cX12_comes 75 = .ok (.iconst (-1), 1) := by decide +kernel
theorem dX12_comes_76 : decode cX12_comes 76 = .ok (.if_icmp .eq 4, 3) := by decide +kernel
theorem dX12_comes_79 : decode cX12_comes 79 = .ok (.return_, 1) := by decide +kernel
theorem dX12_comes_80 : decode cX12_comes 80 = .ok (.bipush 38, 2) := by decide +kernel
theorem dX12_comes_82 : decode cX12_comes 82 = .ok (.iconst 5, 1) := by decide +kernel
theorem dX12_comes_83 : decode cX12_comes 83 = .ok (.aload_n 0, 1) := by decide +kernel
theorem dX12_comes_84 : decode cX12_comes 84 = .ok (.getfield 7, 3) := by decide +kernel
theorem dX12_comes_87 : decode cX12_comes 87 = .ok (.iconst 1, 1) := by decide +kernel
theorem dX12_comes_88 : decode cX12_comes 88 = .ok (.iaload, 1) := by decide +kernel
theorem dX12_comes_89 : decode cX12_comes 89 = .ok (.imul, 1) := by decide +kernel
theorem dX12_comes_90 : decode cX12_comes 90 = .ok (.iadd, 1) := by decide +kernel
theorem dX12_comes_91 : decode cX12_comes 91 = .ok (.istore 6, 2) := by decide +kernel
theorem dX12_comes_93 : decode cX12_comes 93 = .ok (.aload_n 0, 1) := by decide +kernel
theorem dX12_comes_94 : decode cX12_comes 94 = .ok (.getfield 7, 3) := by decide +kernel
theorem dX12_comes_97 : decode cX12_comes 97 = .ok (.iload 6, 2) := by decide +kernel
theorem dX12_comes_99 : decode cX12_comes 99 = .ok (.iconst 0, 1) := by decide +kernel
theorem dX12_comes_100 : decode cX12_comes 100 = .ok (.iadd, 1) := by decide +kernel
theorem dX12_comes_101 : decode cX12_comes 101 = .ok (.iload_n 1, 1) := by decide +kernel
theorem dX12_comes_102 : decode cX12_comes 102 = .ok (.iastore, 1) := by decide +kernel
theorem dX12_comes_103 : decode cX12_comes 103 = .ok (.aload_n 0, 1) := by decide +kernel
theorem dX12_comes_104 : decode cX12_comes 104 = .ok (.getfield 7, 3) := by decide +kernel
theorem dX12_comes_107 : decode cX12_comes 107 = .ok (.iload 6, 2) := by decide +kernel
theorem dX12_comes_109 : decode cX12_comes 109 = .ok (.iconst 1, 1) := by decide +kernel
theorem dX12_comes_110 : decode cX12_comes 110 = .ok (.iadd, 1) := by decide +kernel
theorem dX12_comes_111 : decode cX12_comes 111 = .ok (.iload_n 3, 1) := by decide +kernel
theorem dX12_comes_112 : decode cX12_comes 112 = .ok (.iastore, 1) := by decide +kernel
theorem dX12_comes_113 : decode cX12_comes 113 = .ok (.aload_n 0, 1) := by decide +kernel
theorem dX12_comes_114 : decode cX12_comes 114 = .ok (.getfield 7, 3) := by decide +kernel
theorem dX12_comes_117 : decode cX12_comes 117 = .ok (.iload 6, 2) := by decide +kernel
theorem dX12_comes_119 : decode cX12_comes 119 = .ok (.iconst 2, 1) := by decide +kernel
theorem dX12_comes_120 : decode cX12_comes 120 = .ok (.iadd, 1) := by decide +kernel
theorem dX12_comes_121 : decode cX12_comes 121 = .ok (.iload 4, 2) := by decide +kernel
theorem dX12_comes_123 : decode cX12_comes 123 = .ok (.iastore, 1) := by decide +kernel
theorem dX12_comes_124 : decode cX12_comes 124 = .ok (.aload_n 0, 1) := by decide +kernel
theorem dX12_comes_125 : decode cX12_comes 125 = .ok (.getfield 7, 3) := by decide +kernel
theorem dX12_comes_128 : decode cX12_comes 128 = .ok (.iload 6, 2) := by decide +kernel
theorem dX12_comes_130 : decode cX12_comes 130 = .ok (.iconst 3, 1) := by decide +kernel
theorem dX12_comes_131 : decode cX12_comes 131 = .ok (.iadd, 1) := by decide +kernel
theorem dX12_comes_132 : decode cX12_comes 132 = .ok (.iload 5, 2) := by decide +kernel
theorem dX12_comes_134 : decode cX12_comes 134 = .ok (.ifCond .eq 7, 3) := by decide +kernel
theorem dX12_comes_137 : decode cX12_comes 137 = .ok (.iconst 1, 1) := by decide +kernel
theorem dX12_comes_138 : decode cX12_comes 138 = .ok (.goto 4, 3) := by decide +kernel
theorem dX12_comes_141 : decode cX12_comes 141 = .ok (.iconst 0, 1) := by decide +kernel
theorem dX12_comes_142 : decode cX12_comes 142 = .ok (.iastore, 1) := by decide +kernel
theorem dX12_comes_143 : decode cX12_comes 143 = .ok (.aload_n 0, 1) := by decide +kernel
theorem dX12_comes_144 : decode cX12_comes 144 = .ok (.getfield 7, 3) := by decide +kernel
theorem dX12_comes_147 : decode cX12_comes 147 = .ok (.iload 6, 2) := by decide +kernel
theorem dX12_comes_149 : decode cX12_comes 149 = .ok (.iconst 4, 1) := by decide +kernel
theorem dX12_comes_150 : decode cX12_comes 150 = .ok (.iadd, 1) := by decide +kernel
theorem dX12_comes_151 : decode cX12_comes 151 = .ok (.iconst 0, 1) := by decide +kernel
theorem dX12_comes_152 : decode cX12_comes 152 = .ok (.iastore, 1) := by decide +kernel
theorem dX12_comes_153 : decode cX12_comes 153 = .ok (.aload_n 0, 1) := by decide +kernel
theorem dX12_comes_154 : decode cX12_comes 154 = .ok (.getfield 7, 3) := by decide +kernel
theorem dX12_comes_157 : decode cX12_comes 157 = .ok (.iconst 1, 1) := by decide +kernel
theorem dX12_comes_158 : decode cX12_comes 158 = .ok (.dup2, 1) := by decide +kernel
theorem dX12_comes_159 : decode cX12_comes 159 = .ok (.iaload, 1) := by decide +kernel
theorem dX12_comes_160 : decode cX12_comes 160 = .ok (.iconst 1, 1) := by decide +kernel
theorem dX12_comes_161 : decode cX12_comes 161 = .ok (.iadd, 1) := by decide +kernel
theorem dX12_comes_162 : decode cX12_comes 162 = .ok (.iastore, 1) := by decide +kernel
theorem dX12_comes_163 : decode cX12_comes 163 = .ok (.return_, 1) := by decide +kernel
theorem dX12_riverLine_0 : decode cX12_riverLine 0 = .ok (.aload_n 0, 1) := by decide +kernel
theorem dX12_riverLine_1 : decode cX12_riverLine 1 = .ok (.invokevirtual 97, 3) := by decide +kernel
theorem dX12_riverLine_4 : decode cX12_riverLine 4 = .ok (.aload_n 0, 1) := by decide +kernel
theorem dX12_riverLine_5 : decode cX12_riverLine 5 = .ok (.getfield 88, 3) := by decide +kernel
theorem dX12_riverLine_8 : decode cX12_riverLine 8 = .ok (.istore_n 1, 1) := by decide +kernel
theorem dX12_riverLine_9 : decode cX12_riverLine 9 = .ok (.aload_n 0, 1) := by decide +kernel
theorem dX12_riverLine_10 : decode cX12_riverLine 10 = .ok (.ldc 122, 2) := by decide +kernel
theorem dX12_riverLine_12 : decode cX12_riverLine 12 = .ok (.invokevirtual 118, 3) := by decide +kernel
theorem dX12_riverLine_15 : decode cX12_riverLine 15 = .ok (.ifCond .eq 12, 3) := by decide +kernel
theorem dX12_riverLine_18 : decode cX12_riverLine 18 = .ok (.aload_n 0, 1) := by decide +kernel
theorem dX12_riverLine_19 : decode cX12_riverLine 19 = .ok (.iconst 0, 1) := by decide +kernel
theorem dX12_riverLine_20 : decode cX12_riverLine 20 = .ok (.iload_n 1, 1) := by decide +kernel
theorem dX12_riverLine_21 : decode cX12_riverLine 21 = .ok (.invokevirtual 124, 3) := by decide +kernel
theorem dX12_riverLine_24 : decode cX12_riverLine 24 = .ok (.goto 458, 3) := by decide +kernel
theorem dX12_riverLine_27 : decode cX12_riverLine 27 = .ok (.aload_n 0, 1) := by decide +kernel
theorem dX12_riverLine_28 : decode cX12_riverLine 28 = .ok (.ldc 128, 2) := by decide +kernel
theorem dX12_riverLine_30 : decode cX12_riverLine 30 = .ok (.invokevirtual 118, 3) := by decide +kernel
theorem dX12_riverLine_33 : decode cX12_riverLine 33 = .ok (.ifCond .eq 12, 3) := by decide +kernel
theorem dX12_riverLine_36 : decode cX12_riverLine 36 = .ok (.aload_n 0, 1) := by decide +kernel
theorem dX12_riverLine_37 : decode cX12_riverLine 37 = .ok (.iconst 1, 1) := by decide +kernel
theorem dX12_riverLine_38 : decode cX12_riverLine 38 = .ok (.iload_n 1, 1) := by decide +kernel
theorem dX12_riverLine_39 : decode cX12_riverLine 39 = .ok (.invokevirtual 124, 3) := by decide +kernel
theorem dX12_riverLine_42 : decode cX12_riverLine 42 = .ok (.goto 440, 3) := by decide +kernel
theorem dX12_riverLine_45 : decode cX12_riverLine 45 = .ok (.aload_n 0, 1) := by decide +kernel
theorem dX12_riverLine_46 : decode cX12_riverLine 46 = .ok (.ldc 130, 2) := by decide +kernel
theorem dX12_riverLine_48 : decode cX12_riverLine 48 = .ok (.invokevirtual 118, 3) := by decide +kernel
theorem dX12_riverLine_51 : decode cX12_riverLine 51 = .ok (.ifCond .eq 12, 3) := by decide +kernel
theorem dX12_riverLine_54 : decode cX12_riverLine 54 = .ok (.aload_n 0, 1) := by decide +kernel
theorem dX12_riverLine_55 : decode cX12_riverLine 55 = .ok (.iconst 2, 1) := by decide +kernel
theorem dX12_riverLine_56 : decode cX12_riverLine 56 = .ok (.iload_n 1, 1) := by decide +kernel
theorem dX12_riverLine_57 : decode cX12_riverLine 57 = .ok (.invokevirtual 124, 3) := by decide +kernel
theorem dX12_riverLine_60 : decode cX12_riverLine 60 = .ok (.goto 422, 3) := by decide +kernel
theorem dX12_riverLine_63 : decode cX12_riverLine 63 = .ok (.aload_n 0, 1) := by decide +kernel
theorem dX12_riverLine_64 : decode cX12_riverLine 64 = .ok (.ldc 132, 2) := by decide +kernel
theorem dX12_riverLine_66 : decode cX12_riverLine 66 = .ok (.invokevirtual 118, 3) := by decide +kernel
theorem dX12_riverLine_69 : decode cX12_riverLine 69 = .ok (.ifCond .eq 12, 3) := by decide +kernel
theorem dX12_riverLine_72 : decode cX12_riverLine 72 = .ok (.aload_n 0, 1) := by decide +kernel
theorem dX12_riverLine_73 : decode cX12_riverLine 73 = .ok (.iconst 3, 1) := by decide +kernel
theorem dX12_riverLine_74 : decode cX12_riverLine 74 = .ok (.iload_n 1, 1) := by decide +kernel
theorem dX12_riverLine_75 : decode cX12_riverLine 75 = .ok (.invokevirtual 124, 3) := by decide +kernel
theorem dX12_riverLine_78 : decode cX12_riverLine 78 = .ok (.goto 404, 3) := by decide +kernel
theorem dX12_riverLine_81 : decode cX12_riverLine 81 = .ok (.aload_n 0, 1) := by decide +kernel
theorem dX12_riverLine_82 : decode cX12_riverLine 82 = .ok (.ldc 134, 2) := by decide +kernel
theorem dX12_riverLine_84 : decode cX12_riverLine 84 = .ok (.invokevirtual 118, 3) := by decide +kernel
theorem dX12_riverLine_87 : decode cX12_riverLine 87 = .ok (.ifCond .eq 20, 3) := by decide +kernel
theorem dX12_riverLine_90 : decode cX12_riverLine 90 = .ok (.aload_n 0, 1) := by decide +kernel
theorem dX12_riverLine_91 : decode cX12_riverLine 91 = .ok (.getfield 7, 3) := by decide +kernel
theorem dX12_riverLine_94 : decode cX12_riverLine 94 = .ok (.iconst 5, 1) := by decide +kernel
theorem dX12_riverLine_95 : decode cX12_riverLine 95 = .ok (.aload_n 0, 1) := by decide +kernel
theorem dX12_riverLine_96 : decode cX12_riverLine 96 = .ok (.iconst 1, 1) := by decide +kernel
theorem dX12_riverLine_97 : decode cX12_riverLine 97 = .ok (.sipush 999, 3) := by decide +kernel
theorem dX12_riverLine_100 : decode cX12_riverLine 100 = .ok (.invokevirtual 113, 3) := by decide +kernel
theorem dX12_riverLine_103 : decode cX12_riverLine 103 = .ok (.iastore, 1) := by decide +kernel
theorem dX12_riverLine_104 : decode cX12_riverLine 104 = .ok (.goto 378, 3) := by decide +kernel
theorem dX12_riverLine_107 : decode cX12_riverLine 107 = .ok (.aload_n 0, 1) := by decide +kernel
theorem dX12_riverLine_108 : decode cX12_riverLine 108 = .ok (.ldc 136, 2) := by decide +kernel
theorem dX12_riverLine_110 : decode cX12_riverLine 110 = .ok (.invokevirtual 118, 3) := by decide +kernel
theorem dX12_riverLine_113 : decode cX12_riverLine 113 = .ok (.ifCond .eq 20, 3) := by decide +kernel
theorem dX12_riverLine_116 : decode cX12_riverLine 116 = .ok (.aload_n 0, 1) := by decide +kernel
theorem dX12_riverLine_117 : decode cX12_riverLine 117 = .ok (.getfield 7, 3) := by decide +kernel
theorem dX12_riverLine_120 : decode cX12_riverLine 120 = .ok (.bipush 6, 2) := by decide +kernel
theorem dX12_riverLine_122 : decode cX12_riverLine 122 = .ok (.aload_n 0, 1) := by decide +kernel
theorem dX12_riverLine_123 : decode cX12_riverLine 123 = .ok (.iconst 0, 1) := by decide +kernel
theorem dX12_riverLine_124 : decode cX12_riverLine 124 = .ok (.bipush 99, 2) := by decide +kernel
theorem dX12_riverLine_126 : decode cX12_riverLine 126 = .ok (.invokevirtual 113, 3) := by decide +kernel
theorem dX12_riverLine_129 : decode cX12_riverLine 129 = .ok (.iastore, 1) := by decide +kernel
theorem dX12_riverLine_130 : decode cX12_riverLine 130 = .ok (.goto 352, 3) := by decide +kernel
theorem dX12_riverLine_133 : decode cX12_riverLine 133 = .ok (.aload_n 0, 1) := by decide +kernel
theorem dX12_riverLine_134 : decode cX12_riverLine 134 = .ok (.ldc 138, 2) := by decide +kernel
theorem dX12_riverLine_136 : decode cX12_riverLine 136 = .ok (.invokevirtual 118, 3) := by decide +kernel
theorem dX12_riverLine_139 : decode cX12_riverLine 139 = .ok (.ifCond .eq 20, 3) := by decide +kernel
theorem dX12_riverLine_142 : decode cX12_riverLine 142 = .ok (.aload_n 0, 1) := by decide +kernel
theorem dX12_riverLine_143 : decode cX12_riverLine 143 = .ok (.getfield 7, 3) := by decide +kernel
theorem dX12_riverLine_146 : decode cX12_riverLine 146 = .ok (.bipush 7, 2) := by decide +kernel
theorem dX12_riverLine_148 : decode cX12_riverLine 148 = .ok (.aload_n 0, 1) := by decide +kernel
theorem dX12_riverLine_149 : decode cX12_riverLine 149 = .ok (.iconst 1, 1) := by decide +kernel
theorem dX12_riverLine_150 : decode cX12_riverLine 150 = .ok (.bipush 60, 2) := by decide +kernel
theorem dX12_riverLine_152 : decode cX12_riverLine 152 = .ok (.invokevirtual 113, 3) := by decide +kernel
theorem dX12_riverLine_155 : decode cX12_riverLine 155 = .ok (.iastore, 1) := by decide +kernel
theorem dX12_riverLine_156 : decode cX12_riverLine 156 = .ok (.goto 326, 3) := by decide +kernel
theorem dX12_riverLine_159 : decode cX12_riverLine 159 = .ok (.aload_n 0, 1) := by decide +kernel
theorem dX12_riverLine_160 : decode cX12_riverLine 160 = .ok (.ldc 140, 2) := by decide +kernel
theorem dX12_riverLine_162 : decode cX12_riverLine 162 = .ok (.invokevirtual 118, 3) := by decide +kernel
theorem dX12_riverLine_165 : decode cX12_riverLine 165 = .ok (.ifCond .eq 57, 3) := by decide +kernel
theorem dX12_riverLine_168 : decode cX12_riverLine 168 = .ok (.aload_n 0, 1) := by decide +kernel
theorem dX12_riverLine_169 : decode cX12_riverLine 169 = .ok (.iconst 0, 1) := by decide +kernel
theorem dX12_riverLine_170 : decode cX12_riverLine 170 = .ok (.bipush 23, 2) := by decide +kernel
theorem dX12_riverLine_172 : decode cX12_riverLine 172 = .ok (.invokevirtual 113, 3) := by decide +kernel
theorem dX12_riverLine_175 : decode cX12_riverLine 175 = .ok (.istore_n 2, 1) := by decide +kernel
theorem dX12_riverLine_176 : decode cX12_riverLine 176 = .ok (.aload_n 0, 1) := by decide +kernel
theorem dX12_riverLine_177 : decode cX12_riverLine 177 = .ok (.iconst 0, 1) := by decide +kernel
theorem dX12_riverLine_178 : decode cX12_riverLine 178 = .ok (.bipush 9, 2) := by decide +kernel
theorem dX12_riverLine_180 : decode cX12_riverLine 180 = .ok (.invokevirtual 113, 3) := by decide +kernel
theorem dX12_riverLine_183 : decode cX12_riverLine 183 = .ok (.istore_n 3, 1) := by decide +kernel
theorem dX12_riverLine_184 : decode cX12_riverLine 184 = .ok (.iload_n 2, 1) := by decide +kernel
theorem dX12_riverLine_185 : decode cX12_riverLine 185 = .ok (.istore 4, 2) := by decide +kernel
theorem dX12_riverLine_187 : decode cX12_riverLine 187 = .ok (.iload 4, 2) := by decide +kernel
theorem dX12_riverLine_189 : decode cX12_riverLine 189 = .ok (.bipush 24, 2) := by decide +kernel
theorem dX12_riverLine_191 : decode cX12_riverLine 191 = .ok (.if_icmp .ge 28, 3) := by decide +kernel
theorem dX12_riverLine_194 : decode cX12_riverLine 194 = .ok (.aload_n 0, 1) := by decide +kernel
theorem dX12_riverLine_195 : decode cX12_riverLine 195 = .ok (.getfield 22, 3) := by decide +kernel
theorem dX12_riverLine_198 : decode cX12_riverLine 198 = .ok (.iconst (-1), 1) := by decide +kernel
theorem dX12_riverLine_199 : decode cX12_riverLine 199 = .ok (.if_icmp .ne 20, 3) := by decide +kernel
theorem dX12_riverLine_202 : decode cX12_riverLine 202 = .ok (.aload_n 0, 1) := by decide +kernel
theorem dX12_riverLine_203 : decode cX12_riverLine 203 = .ok (.getfield 7, 3) := by decide +kernel
theorem dX12_riverLine_206 : decode cX12_riverLine 206 = .ok (.bipush 14, 2) := by decide +kernel
theorem dX12_riverLine_208 : decode cX12_riverLine 208 = .ok (.iload 4, 2) := by decide +kernel
theorem dX12_riverLine_210 : decode cX12_riverLine 210 = .ok (.iadd, 1) := by decide +kernel
theorem dX12_riverLine_211 : decode cX12_riverLine 211 = .ok (.iload_n 3, 1) := by decide +kernel
theorem dX12_riverLine_212 : decode cX12_riverLine 212 = .ok (.iastore, 1) := by decide +kernel
theorem dX12_riverLine_213 : decode cX12_riverLine 213 = .ok (.iinc 4 1, 3) := by decide +kernel
theorem dX12_riverLine_216 : decode cX12_riverLine 216 = .ok (.goto (-29), 3) := by decide +kernel
theorem dX12_riverLine_219 : decode cX12_riverLine 219 = .ok (.goto 263, 3) := by decide +kernel
theorem dX12_riverLine_222 : decode cX12_riverLine 222 = .ok (.aload_n 0, 1) := by decide +kernel
theorem dX12_riverLine_223 : decode cX12_riverLine 223 = .ok (.ldc 141, 2) := by decide +kernel
theorem dX12_riverLine_225 : decode cX12_riverLine 225 = .ok (.invokevirtual 118, 3) := by decide +kernel
theorem dX12_riverLine_228 : decode cX12_riverLine 228 = .ok (.ifCond .eq 145, 3) := by decide +kernel
theorem dX12_riverLine_231 : decode cX12_riverLine 231 = .ok (.aload_n 0, 1) := by decide +kernel
theorem dX12_riverLine_232 : decode cX12_riverLine 232 = .ok (.getfield 7, 3) := by decide +kernel
theorem dX12_riverLine_235 : decode cX12_riverLine 235 = .ok (.bipush 12, 2) := by decide +kernel
theorem dX12_riverLine_237 : decode cX12_riverLine 237 = .ok (.iaload, 1) := by decide +kernel
theorem dX12_riverLine_238 : decode cX12_riverLine 238 = .ok (.bipush 12, 2) := by decide +kernel
theorem dX12_riverLine_240 : decode cX12_riverLine 240 = .ok (.if_icmp .ne 8, 3) := by decide +kernel
theorem dX12_riverLine_243 : decode cX12_riverLine 243 = .ok (.aload_n 0, 1) := by decide +kernel
theorem dX12_riverLine_244 : decode cX12_riverLine 244 = .ok (.iload_n 1, 1) := by decide +kernel
theorem dX12_riverLine_245 : decode cX12_riverLine 245 = .ok (.invokevirtual 109, 3) := by decide +kernel
theorem dX12_riverLine_248 : decode cX12_riverLine 248 = .ok (.aload_n 0, 1) := by decide +kernel
theorem dX12_riverLine_249 : decode cX12_riverLine 249 = .ok (.iconst (-1), 1) := by decide +kernel
theorem dX12_riverLine_250 : decode cX12_riverLine 250 = .ok (.iconst (-1), 1) := by decide +kernel
theorem dX12_riverLine_251 : decode cX12_riverLine 251 = .ok (.invokevirtual 143, 3) := by decide +kernel
theorem dX12_riverLine_254 : decode cX12_riverLine 254 = .ok (.istore_n 2, 1) := by decide +kernel
theorem dX12_riverLine_255 : decode cX12_riverLine 255 = .ok (.aload_n 0, 1) := by decide +kernel
theorem dX12_riverLine_256 : decode cX12_riverLine 256 = .ok (.iload_n 2, 1) := by decide +kernel
theorem dX12_riverLine_257 : decode cX12_riverLine 257 = .ok (.iconst (-1), 1) := by decide +kernel
theorem dX12_riverLine_258 : decode cX12_riverLine 258 = .ok (.invokevirtual 143, 3) := by decide +kernel
theorem dX12_riverLine_261 : decode cX12_riverLine 261 = .ok (.istore_n 3, 1) := by decide +kernel
theorem dX12_riverLine_262 : decode cX12_riverLine 262 = .ok (.aload_n 0, 1) := by decide +kernel
theorem dX12_riverLine_263 : decode cX12_riverLine 263 = .ok (.getfield 22, 3) := by decide +kernel
theorem dX12_riverLine_266 : decode cX12_riverLine 266 = .ok (.iconst (-1), 1) := by decide +kernel
theorem dX12_riverLine_267 : decode cX12_riverLine 267 = .ok (.if_icmp .ne 21, 3) := by decide +kernel
theorem dX12_riverLine_270 : decode cX12_riverLine 270 = .ok (.aload_n 0, 1) := by decide +kernel
theorem dX12_riverLine_271 : decode cX12_riverLine 271 = .ok (.ldc 146, 2) := by decide +kernel
theorem dX12_riverLine_273 : decode cX12_riverLine 273 = .ok (.invokevirtual 118, 3) := by decide +kernel
theorem dX12_riverLine_276 : decode cX12_riverLine 276 = .ok (.ifCond .eq 12, 3) := by decide +kernel
theorem dX12_riverLine_279 : decode cX12_riverLine 279 = .ok (.aload_n 0, 1) := by decide +kernel
theorem dX12_riverLine_280 : decode cX12_riverLine 280 = .ok (.iload_n 2, 1) := by decide +kernel
theorem dX12_riverLine_281 : decode cX12_riverLine 281 = .ok (.iload_n 3, 1) := by decide +kernel
theorem dX12_riverLine_282 : decode cX12_riverLine 282 = .ok (.invokevirtual 143, 3) := by decide +kernel
theorem dX12_riverLine_285 : decode cX12_riverLine 285 = .ok (.goto 4, 3) := by decide +kernel
theorem dX12_riverLine_288 : decode cX12_riverLine 288 = .ok (.iconst (-1), 1) := by decide +kernel
theorem dX12_riverLine_289 : decode cX12_riverLine 289 = .ok (.istore 4, 2) := by decide +kernel
theorem dX12_riverLine_291 : decode cX12_riverLine 291 = .ok (.aload_n 0, 1) := by decide +kernel
theorem dX12_riverLine_292 : decode cX12_riverLine 292 = .ok (.getfield 22, 3) := by decide +kernel
theorem dX12_riverLine_295 : decode cX12_riverLine 295 = .ok (.iconst (-1), 1) := by decide +kernel
theorem dX12_riverLine_296 : decode cX12_riverLine 296 = .ok (.if_icmp .eq 4, 3) := by decide +kernel
theorem dX12_riverLine_299 : decode cX12_riverLine 299 = .ok (.return_, 1) := by decide +kernel
theorem dX12_riverLine_300 : decode cX12_riverLine 300 = .ok (.aload_n 0, 1) := by decide +kernel
theorem dX12_riverLine_301 : decode cX12_riverLine 301 = .ok (.getfield 7, 3) := by decide +kernel
theorem dX12_riverLine_304 : decode cX12_riverLine 304 = .ok (.bipush 88, 2) := by decide +kernel
theorem dX12_riverLine_306 : decode cX12_riverLine 306 = .ok (.iconst 3, 1) := by decide +kernel
theorem dX12_riverLine_307 : decode cX12_riverLine 307 = .ok (.aload_n 0, 1) := by decide +kernel
theorem dX12_riverLine_308 : decode cX12_riverLine 308 = .ok (.getfield 7, 3) := by decide +kernel
theorem dX12_riverLine_311 : decode cX12_riverLine 311 = .ok (.bipush 12, 2) := by decide +kernel
theorem dX12_riverLine_313 : decode cX12_riverLine 313 = .ok (.iaload, 1) := by decide +kernel
theorem dX12_riverLine_314 : decode cX12_riverLine 314 = .ok (.imul, 1) := by decide +kernel
theorem dX12_riverLine_315 : decode cX12_riverLine 315 = .ok (.iadd, 1) := by decide +kernel
theorem dX12_riverLine_316 : decode cX12_riverLine 316 = .ok (.iload_n 2, 1) := by decide +kernel
theorem dX12_riverLine_317 : decode cX12_riverLine 317 = .ok (.iastore, 1) := by decide +kernel
theorem dX12_riverLine_318 : decode cX12_riverLine 318 = .ok (.aload_n 0, 1) := by decide +kernel
theorem dX12_riverLine_319 : decode cX12_riverLine 319 = .ok (.getfield 7, 3) := by decide +kernel
theorem dX12_riverLine_322 : decode cX12_riverLine 322 = .ok (.bipush 88, 2) := by decide +kernel
theorem dX12_riverLine_324 : decode cX12_riverLine 324 = .ok (.iconst 3, 1) := by decide +kernel
theorem dX12_riverLine_325 : decode cX12_riverLine 325 = .ok (.aload_n 0, 1) := by decide +kernel
theorem dX12_riverLine_326 : decode cX12_riverLine 326 = .ok (.getfield 7, 3) := by decide +kernel
theorem dX12_riverLine_329 : decode cX12_riverLine 329 = .ok (.bipush 12, 2) := by decide +kernel
theorem dX12_riverLine_331 : decode cX12_riverLine 331 = .ok (.iaload, 1) := by decide +kernel
theorem dX12_riverLine_332 : decode cX12_riverLine 332 = .ok (.imul, 1) := by decide +kernel
theorem dX12_riverLine_333 : decode cX12_riverLine 333 = .ok (.iadd, 1) := by decide +kernel
theorem dX12_riverLine_334 : decode cX12_riverLine 334 = .ok (.iconst 1, 1) := by decide +kernel
theorem dX12_riverLine_335 : decode cX12_riverLine 335 = .ok (.iadd, 1) := by decide +kernel
theorem dX12_riverLine_336 : decode cX12_riverLine 336 = .ok (.iload_n 3, 1) := by decide +kernel
theorem dX12_riverLine_337 : decode cX12_riverLine 337 = .ok (.iastore, 1) := by decide +kernel
theorem dX12_riverLine_338 : decode cX12_riverLine 338 = .ok (.aload_n 0, 1) := by decide +kernel
theorem dX12_riverLine_339 : decode cX12_riverLine 339 = .ok (.getfield 7, 3) := by decide +kernel
theorem dX12_riverLine_342 : decode cX12_riverLine 342 = .ok (.bipush 88, 2) := by decide +kernel
theorem dX12_riverLine_344 : decode cX12_riverLine 344 = .ok (.iconst 3, 1) := by decide +kernel
theorem dX12_riverLine_345 : decode cX12_riverLine 345 = .ok (.aload_n 0, 1) := by decide +kernel
theorem dX12_riverLine_346 : decode cX12_riverLine 346 = .ok (.getfield 7, 3) := by decide +kernel
theorem dX12_riverLine_349 : decode cX12_riverLine 349 = .ok (.bipush 12, 2) := by decide +kernel
theorem dX12_riverLine_351 : decode cX12_riverLine 351 = .ok (.iaload, 1) := by decide +kernel
theorem dX12_riverLine_352 : decode cX12_riverLine 352 = .ok (.imul, 1) := by decide +kernel
theorem dX12_riverLine_353 : decode cX12_riverLine 353 = .ok (.iadd, 1) := by decide +kernel
theorem dX12_riverLine_354 : decode cX12_riverLine 354 = .ok (.iconst 2, 1) := by decide +kernel
theorem dX12_riverLine_355 : decode cX12_riverLine 355 = .ok (.iadd, 1) := by decide +kernel
theorem dX12_riverLine_356 : decode cX12_riverLine 356 = .ok (.iload 4, 2) := by decide +kernel
theorem dX12_riverLine_358 : decode cX12_riverLine 358 = .ok (.iastore, 1) := by decide +kernel
theorem dX12_riverLine_359 : decode cX12_riverLine 359 = .ok (.aload_n 0, 1) := by decide +kernel
theorem dX12_riverLine_360 : decode cX12_riverLine 360 = .ok (.getfield 7, 3) := by decide +kernel
theorem dX12_riverLine_363 : decode cX12_riverLine 363 = .ok (.bipush 12, 2) := by decide +kernel
theorem dX12_riverLine_365 : decode cX12_riverLine 365 = .ok (.dup2, 1) := by decide +kernel
theorem dX12_riverLine_366 : decode cX12_riverLine 366 = .ok (.iaload, 1) := by decide +kernel
theorem dX12_riverLine_367 : decode cX12_riverLine 367 = .ok (.iconst 1, 1) := by decide +kernel
theorem dX12_riverLine_368 : decode cX12_riverLine 368 = .ok (.iadd, 1) := by decide +kernel
theorem dX12_riverLine_369 : decode cX12_riverLine 369 = .ok (.iastore, 1) := by decide +kernel
theorem dX12_riverLine_370 : decode cX12_riverLine 370 = .ok (.goto 112, 3) := by decide +kernel
theorem dX12_riverLine_373 : decode cX12_riverLine 373 = .ok (.aload_n 0, 1) := by decide +kernel
theorem dX12_riverLine_374 : decode cX12_riverLine 374 = .ok (.ldc 148, 2) := by decide +kernel
theorem dX12_riverLine_376 : decode cX12_riverLine 376 = .ok (.invokevirtual 118, 3) := by decide +kernel
theorem dX12_riverLine_379 : decode cX12_riverLine 379 = .ok (.ifCond .eq 95, 3) := by decide +kernel
theorem dX12_riverLine_382 : decode cX12_riverLine 382 = .ok (.aload_n 0, 1) := by decide +kernel
theorem dX12_riverLine_383 : decode cX12_riverLine 383 = .ok (.getfield 7, 3) := by decide +kernel
theorem dX12_riverLine_386 : decode cX12_riverLine 386 = .ok (.bipush 13, 2) := by decide +kernel
theorem dX12_riverLine_388 : decode cX12_riverLine 388 = .ok (.iaload, 1) := by decide +kernel
theorem dX12_riverLine_389 : decode cX12_riverLine 389 = .ok (.bipush 12, 2) := by decide +kernel
theorem dX12_riverLine_391 : decode cX12_riverLine 391 = .ok (.if_icmp .ne 8, 3) := by decide +kernel
theorem dX12_riverLine_394 : decode cX12_riverLine 394 = .ok (.aload_n 0, 1) := by decide +kernel
theorem dX12_riverLine_395 : decode cX12_riverLine 395 = .ok (.iload_n 1, 1) := by decide +kernel
theorem dX12_riverLine_396 : decode cX12_riverLine 396 = .ok (.invokevirtual 109, 3) := by decide +kernel
theorem dX12_riverLine_399 : decode cX12_riverLine 399 = .ok (.aload_n 0, 1) := by decide +kernel
theorem dX12_riverLine_400 : decode cX12_riverLine 400 = .ok (.iconst (-1), 1) := by decide +kernel
theorem dX12_riverLine_401 : decode cX12_riverLine 401 = .ok (.iconst (-1), 1) := by decide +kernel
theorem dX12_riverLine_402 : decode cX12_riverLine 402 = .ok (.invokevirtual 143, 3) := by decide +kernel
theorem dX12_riverLine_405 : decode cX12_riverLine 405 = .ok (.istore_n 2, 1) := by decide +kernel
theorem dX12_riverLine_406 : decode cX12_riverLine 406 = .ok (.aload_n 0, 1) := by decide +kernel
theorem dX12_riverLine_407 : decode cX12_riverLine 407 = .ok (.iload_n 2, 1) := by decide +kernel
theorem dX12_riverLine_408 : decode cX12_riverLine 408 = .ok (.iconst (-1), 1) := by decide +kernel
theorem dX12_riverLine_409 : decode cX12_riverLine 409 = .ok (.invokevirtual 143, 3) := by decide +kernel
theorem dX12_riverLine_412 : decode cX12_riverLine 412 = .ok (.istore_n 3, 1) := by decide +kernel
theorem dX12_riverLine_413 : decode cX12_riverLine 413 = .ok (.aload_n 0, 1) := by decide +kernel
theorem dX12_riverLine_414 : decode cX12_riverLine 414 = .ok (.getfield 22, 3) := by decide +kernel
theorem dX12_riverLine_417 : decode cX12_riverLine 417 = .ok (.iconst (-1), 1) := by decide +kernel
theorem dX12_riverLine_418 : decode cX12_riverLine 418 = .ok (.if_icmp .eq 4, 3) := by decide +kernel
theorem dX12_riverLine_421 : decode cX12_riverLine 421 = .ok (.return_, 1) := by decide +kernel
theorem dX12_riverLine_422 : decode cX12_riverLine 422 = .ok (.aload_n 0, 1) := by decide +kernel
theorem dX12_riverLine_423 : decode cX12_riverLine 423 = .ok (.getfield 7, 3) := by decide +kernel
theorem dX12_riverLine_426 : decode cX12_riverLine 426 = .ok (.bipush 124, 2) := by decide +kernel
theorem dX12_riverLine_428 : decode cX12_riverLine 428 = .ok (.iconst 2, 1) := by decide +kernel
theorem dX12_riverLine_429 : decode cX12_riverLine 429 = .ok (.aload_n 0, 1) := by decide +kernel
theorem dX12_riverLine_430 : decode cX12_riverLine 430 = .ok (.getfield 7, 3) := by decide +kernel
theorem dX12_riverLine_433 : decode cX12_riverLine 433 = .ok (.bipush 13, 2) := by decide +kernel
theorem dX12_riverLine_435 : decode cX12_riverLine 435 = .ok (.iaload, 1) := by decide +kernel
theorem dX12_riverLine_436 : decode cX12_riverLine 436 = .ok (.imul, 1) := by decide +kernel
theorem dX12_riverLine_437 : decode cX12_riverLine 437 = .ok (.iadd, 1) := by decide +kernel
theorem dX12_riverLine_438 : decode cX12_riverLine 438 = .ok (.iload_n 2, 1) := by decide +kernel
theorem dX12_riverLine_439 : decode cX12_riverLine 439 = .ok (.iastore, 1) := by decide +kernel
theorem dX12_riverLine_440 : decode cX12_riverLine 440 = .ok (.aload_n 0, 1) := by decide +kernel
theorem dX12_riverLine_441 : decode cX12_riverLine 441 = .ok (.getfield 7, 3) := by decide +kernel
theorem dX12_riverLine_444 : decode cX12_riverLine 444 = .ok (.bipush 124, 2) := by decide +kernel
theorem dX12_riverLine_446 : decode cX12_riverLine 446 = .ok (.iconst 2, 1) := by decide +kernel
theorem dX12_riverLine_447 : decode cX12_riverLine 447 = .ok (.aload_n 0, 1) := by decide +kernel
theorem dX12_riverLine_448 : decode cX12_riverLine 448 = .ok (.getfield 7, 3) := by decide +kernel
theorem dX12_riverLine_451 : decode cX12_riverLine 451 = .ok (.bipush 13, 2) := by decide +kernel
theorem dX12_riverLine_453 : decode cX12_riverLine 453 = .ok (.iaload, 1) := by decide +kernel
theorem dX12_riverLine_454 : decode cX12_riverLine 454 = .ok (.imul, 1) := by decide +kernel
theorem dX12_riverLine_455 : decode cX12_riverLine 455 = .ok (.iadd, 1) := by decide +kernel
theorem dX12_riverLine_456 : decode cX12_riverLine 456 = .ok (.iconst 1, 1) := by decide +kernel
theorem dX12_riverLine_457 : decode cX12_riverLine 457 = .ok (.iadd, 1) := by decide +kernel
theorem dX12_riverLine_458 : decode cX12_riverLine 458 = .ok (.iload_n 3, 1) := by decide +kernel
theorem dX12_riverLine_459 : decode cX12_riverLine 459 = .ok (.iastore, 1) := by decide +kernel
theorem dX12_riverLine_460 : decode cX12_riverLine 460 = .ok (.aload_n 0, 1) := by decide +kernel
theorem dX12_riverLine_461 : decode cX12_riverLine 461 = .ok (.getfield 7, 3) := by decide +kernel
theorem dX12_riverLine_464 : decode cX12_riverLine 464 = .ok (.bipush 13, 2) := by decide +kernel
theorem dX12_riverLine_466 : decode cX12_riverLine 466 = .ok (.dup2, 1) := by decide +kernel
theorem dX12_riverLine_467 : decode cX12_riverLine 467 = .ok (.iaload, 1) := by decide +kernel
theorem dX12_riverLine_468 : decode cX12_riverLine 468 = .ok (.iconst 1, 1) := by decide +kernel
theorem dX12_riverLine_469 : decode cX12_riverLine 469 = .ok (.iadd, 1) := by decide +kernel
theorem dX12_riverLine_470 : decode cX12_riverLine 470 = .ok (.iastore, 1) := by decide +kernel
theorem dX12_riverLine_471 : decode cX12_riverLine 471 = .ok (.goto 11, 3) := by decide +kernel
theorem dX12_riverLine_474 : decode cX12_riverLine 474 = .ok (.aload_n 0, 1) := by decide +kernel
theorem dX12_riverLine_475 : decode cX12_riverLine 475 = .ok (.aload_n 0, 1) := by decide +kernel
theorem dX12_riverLine_476 : decode cX12_riverLine 476 = .ok (.getfield 88, 3) := by decide +kernel
theorem dX12_riverLine_479 : decode cX12_riverLine 479 = .ok (.invokevirtual 109, 3) := by decide +kernel
theorem dX12_riverLine_482 : decode cX12_riverLine 482 = .ok (.return_, 1) := by decide +kernel
theorem dX12_begins_0 : decode cX12_begins 0 = .ok (.aload_n 0, 1) := by decide +kernel
theorem dX12_begins_1 : decode cX12_begins 1 = .ok (.iconst (-1), 1) := by decide +kernel
theorem dX12_begins_2 : decode cX12_begins 2 = .ok (.putfield 22, 3) := by decide +kernel
theorem dX12_begins_5 : decode cX12_begins 5 = .ok (.aload_n 0, 1) := by decide +kernel
theorem dX12_begins_6 : decode cX12_begins 6 = .ok (.iconst (-1), 1) := by decide +kernel
theorem dX12_begins_7 : decode cX12_begins 7 = .ok (.putfield 85, 3) := by decide +kernel
theorem dX12_begins_10 : decode cX12_begins 10 = .ok (.aload_n 0, 1) := by decide +kernel
theorem dX12_begins_11 : decode cX12_begins 11 = .ok (.aload_n 0, 1) := by decide +kernel
theorem dX12_begins_12 : decode cX12_begins 12 = .ok (.getfield 82, 3) := by decide +kernel
theorem dX12_begins_15 : decode cX12_begins 15 = .ok (.putfield 91, 3) := by decide +kernel
theorem dX12_begins_18 : decode cX12_begins 18 = .ok (.aload_n 0, 1) := by decide +kernel
theorem dX12_begins_19 : decode cX12_begins 19 = .ok (.iconst 0, 1) := by decide +kernel
theorem dX12_begins_20 : decode cX12_begins 20 = .ok (.putfield 82, 3) := by decide +kernel
theorem dX12_begins_23 : decode cX12_begins 23 = .ok (.aload_n 0, 1) := by decide +kernel
theorem dX12_begins_24 : decode cX12_begins 24 = .ok (.iconst 0, 1) := by decide +kernel
theorem dX12_begins_25 : decode cX12_begins 25 = .ok (.putfield 88, 3) := by decide +kernel
theorem dX12_begins_28 : decode cX12_begins 28 = .ok (.aload_n 0, 1) := by decide +kernel
theorem dX12_begins_29 : decode cX12_begins 29 = .ok (.iconst 0, 1) := by decide +kernel
theorem dX12_begins_30 : decode cX12_begins 30 = .ok (.putfield 150, 3) := by decide +kernel
theorem dX12_begins_33 : decode cX12_begins 33 = .ok (.return_, 1) := by decide +kernel
theorem dX12_read_0 : decode cX12_read 0 = .ok (.aload_n 0, 1) := by decide +kernel
theorem dX12_read_1 : decode cX12_read 1 = .ok (.invokevirtual 97, 3) := by decide +kernel
theorem dX12_read_4 : decode cX12_read 4 = .ok (.aload_n 0, 1) := by decide +kernel
theorem dX12_read_5 : decode cX12_read 5 = .ok (.getfield 88, 3) := by decide +kernel
theorem dX12_read_8 : decode cX12_read 8 = .ok (.aload_n 0, 1) := by decide +kernel
theorem dX12_read_9 : decode cX12_read 9 = .ok (.getfield 91, 3) := by decide +kernel
theorem dX12_read_12 : decode cX12_read 12 = .ok (.if_icmp .ge 7, 3) := by decide +kernel
theorem dX12_read_15 : decode cX12_read 15 = .ok (.iconst 1, 1) := by decide +kernel
theorem dX12_read_16 : decode cX12_read 16 = .ok (.goto 4, 3) := by decide +kernel
theorem dX12_read_19 : decode cX12_read 19 = .ok (.iconst 0, 1) := by decide +kernel
theorem dX12_read_20 : decode cX12_read 20 = .ok (.istore_n 2, 1) := by decide +kernel
theorem dX12_read_21 : decode cX12_read 21 = .ok (.iconst 0, 1) := by decide +kernel
theorem dX12_read_22 : decode cX12_read 22 = .ok (.istore_n 3, 1) := by decide +kernel
theorem dX12_read_23 : decode cX12_read 23 = .ok (.iload_n 2, 1) := by decide +kernel
theorem dX12_read_24 : decode cX12_read 24 = .ok (.ifCond .eq 120, 3) := by decide +kernel
theorem dX12_read_27 : decode cX12_read 27 = .ok (.aload_n 0, 1) := by decide +kernel
theorem dX12_read_28 : decode cX12_read 28 = .ok (.getfield 22, 3) := by decide +kernel
theorem dX12_read_31 : decode cX12_read 31 = .ok (.iconst (-1), 1) := by decide +kernel
theorem dX12_read_32 : decode cX12_read 32 = .ok (.if_icmp .ne 112, 3) := by decide +kernel
theorem dX12_read_35 : decode cX12_read 35 = .ok (.aload_n 0, 1) := by decide +kernel
theorem dX12_read_36 : decode cX12_read 36 = .ok (.invokevirtual 97, 3) := by decide +kernel
theorem dX12_read_39 : decode cX12_read 39 = .ok (.iload_n 3, 1) := by decide +kernel
theorem dX12_read_40 : decode cX12_read 40 = .ok (.iload_n 1, 1) := by decide +kernel
theorem dX12_read_41 : decode cX12_read 41 = .ok (.ifCond .eq 8, 3) := by decide +kernel
theorem dX12_read_44 : decode cX12_read 44 = .ok (.bipush 12, 2) := by decide +kernel
theorem dX12_read_46 : decode cX12_read 46 = .ok (.goto 5, 3) := by decide +kernel
theorem dX12_read_49 : decode cX12_read 49 = .ok (.bipush 14, 2) := by decide +kernel
theorem dX12_read_51 : decode cX12_read 51 = .ok (.if_icmp .ne 14, 3) := by decide +kernel
theorem dX12_read_54 : decode cX12_read 54 = .ok (.aload_n 0, 1) := by decide +kernel
theorem dX12_read_55 : decode cX12_read 55 = .ok (.aload_n 0, 1) := by decide +kernel
theorem dX12_read_56 : decode cX12_read 56 = .ok (.getfield 88, 3) := by decide +kernel
theorem dX12_read_59 : decode cX12_read 59 = .ok (.invokevirtual 109, 3) := by decide +kernel
theorem dX12_read_62 : decode cX12_read 62 = .ok (.goto 18, 3) := by decide +kernel
theorem dX12_read_65 : decode cX12_read 65 = .ok (.iload_n 1, 1) := by decide +kernel
theorem dX12_read_66 : decode cX12_read 66 = .ok (.ifCond .eq 10, 3) := by decide +kernel
theorem dX12_read_69 : decode cX12_read 69 = .ok (.aload_n 0, 1) := by decide +kernel
theorem dX12_read_70 : decode cX12_read 70 = .ok (.invokevirtual 153, 3) := by decide +kernel
theorem dX12_read_73 : decode cX12_read 73 = .ok (.goto 7, 3) := by decide +kernel
theorem dX12_read_76 : decode cX12_read 76 = .ok (.aload_n 0, 1) := by decide +kernel
theorem dX12_read_77 : decode cX12_read 77 = .ok (.invokevirtual 156, 3) := by decide +kernel
theorem dX12_read_80 : decode cX12_read 80 = .ok (.iinc 3 1, 3) := by decide +kernel
theorem dX12_read_83 : decode cX12_read 83 = .ok (.aload_n 0, 1) := by decide +kernel
theorem dX12_read_84 : decode cX12_read 84 = .ok (.invokevirtual 97, 3) := by decide +kernel
theorem dX12_read_87 : decode cX12_read 87 = .ok (.aload_n 0, 1) := by decide +kernel
theorem dX12_read_88 : decode cX12_read 88 = .ok (.getfield 22, 3) := by decide +kernel
theorem dX12_read_91 : decode cX12_read 91 = .ok (.iconst (-1), 1) := by decide +kernel
theorem dX12_read_92 : decode cX12_read 92 = .ok (.if_icmp .ne 14, 3) := by decide +kernel
theorem dX12_read_95 : decode cX12_read 95 = .ok (.aload_n 0, 1) := by decide +kernel
theorem dX12_read_96 : decode cX12_read 96 = .ok (.getfield 88, 3) := by decide +kernel
theorem dX12_read_99 : decode cX12_read 99 = .ok (.aload_n 0, 1) := by decide +kernel
theorem dX12_read_100 : decode cX12_read 100 = .ok (.getfield 91, 3) := by decide +kernel
theorem dX12_read_103 : decode cX12_read 103 = .ok (.if_icmp .ne 8, 3) := by decide +kernel
theorem dX12_read_106 : decode cX12_read 106 = .ok (.iconst 0, 1) := by decide +kernel
theorem dX12_read_107 : decode cX12_read 107 = .ok (.istore_n 2, 1) := by decide +kernel
theorem dX12_read_108 : decode cX12_read 108 = .ok (.goto (-85), 3) := by decide +kernel
theorem dX12_read_111 : decode cX12_read 111 = .ok (.aload_n 0, 1) := by decide +kernel
theorem dX12_read_112 : decode cX12_read 112 = .ok (.bipush 59, 2) := by decide +kernel
theorem dX12_read_114 : decode cX12_read 114 = .ok (.invokevirtual 159, 3) := by decide +kernel
theorem dX12_read_117 : decode cX12_read 117 = .ok (.ifCond .eq 16, 3) := by decide +kernel
theorem dX12_read_120 : decode cX12_read 120 = .ok (.aload_n 0, 1) := by decide +kernel
theorem dX12_read_121 : decode cX12_read 121 = .ok (.dup, 1) := by decide +kernel
theorem dX12_read_122 : decode cX12_read 122 = .ok (.getfield 88, 3) := by decide +kernel
theorem dX12_read_125 : decode cX12_read 125 = .ok (.iconst 1, 1) := by decide +kernel
theorem dX12_read_126 : decode cX12_read 126 = .ok (.iadd, 1) := by decide +kernel
theorem dX12_read_127 : decode cX12_read 127 = .ok (.putfield 88, 3) := by decide +kernel
theorem dX12_read_130 : decode cX12_read 130 = .ok (.goto (-107), 3) := by decide +kernel
theorem dX12_read_133 : decode cX12_read 133 = .ok (.aload_n 0, 1) := by decide +kernel
theorem dX12_read_134 : decode cX12_read 134 = .ok (.aload_n 0, 1) := by decide +kernel
theorem dX12_read_135 : decode cX12_read 135 = .ok (.getfield 88, 3) := by decide +kernel
theorem dX12_read_138 : decode cX12_read 138 = .ok (.invokevirtual 109, 3) := by decide +kernel
theorem dX12_read_141 : decode cX12_read 141 = .ok (.goto (-118), 3) := by decide +kernel
theorem dX12_read_144 : decode cX12_read 144 = .ok (.iload_n 3, 1) := by decide +kernel
theorem dX12_read_145 : decode cX12_read 145 = .ok (.ireturn, 1) := by decide +kernel
theorem dX12_river_0 : decode cX12_river 0 = .ok (.iconst 0, 1) := by decide +kernel
theorem dX12_river_1 : decode cX12_river 1 = .ok (.istore_n 1, 1) := by decide +kernel
theorem dX12_river_2 : decode cX12_river 2 = .ok (.iload_n 1, 1) := by decide +kernel
theorem dX12_river_3 : decode cX12_river 3 = .ok (.sipush 248, 3) := by decide +kernel
theorem dX12_river_6 : decode cX12_river 6 = .ok (.if_icmp .ge 21, 3) := by decide +kernel
theorem dX12_river_9 : decode cX12_river 9 = .ok (.aload_n 0, 1) := by decide +kernel
theorem dX12_river_10 : decode cX12_river 10 = .ok (.getfield 16, 3) := by decide +kernel
theorem dX12_river_13 : decode cX12_river 13 = .ok (.iload_n 1, 1) := by decide +kernel
theorem dX12_river_14 : decode cX12_river 14 = .ok (.aload_n 0, 1) := by decide +kernel
theorem dX12_river_15 : decode cX12_river 15 = .ok (.getfield 7, 3) := by decide +kernel
theorem dX12_river_18 : decode cX12_river 18 = .ok (.iload_n 1, 1) := by decide +kernel
theorem dX12_river_19 : decode cX12_river 19 = .ok (.iaload, 1) := by decide +kernel
theorem dX12_river_20 : decode cX12_river 20 = .ok (.iastore, 1) := by decide +kernel
theorem dX12_river_21 : decode cX12_river 21 = .ok (.iinc 1 1, 3) := by decide +kernel
theorem dX12_river_24 : decode cX12_river 24 = .ok (.goto (-22), 3) := by decide +kernel
theorem dX12_river_27 : decode cX12_river 27 = .ok (.aload_n 0, 1) := by decide +kernel
theorem dX12_river_28 : decode cX12_river 28 = .ok (.invokevirtual 163, 3) := by decide +kernel
theorem dX12_river_31 : decode cX12_river 31 = .ok (.aload_n 0, 1) := by decide +kernel
theorem dX12_river_32 : decode cX12_river 32 = .ok (.iconst 0, 1) := by decide +kernel
theorem dX12_river_33 : decode cX12_river 33 = .ok (.invokevirtual 166, 3) := by decide +kernel
theorem dX12_river_36 : decode cX12_river 36 = .ok (.pop, 1) := by decide +kernel
theorem dX12_river_37 : decode cX12_river 37 = .ok (.aload_n 0, 1) := by decide +kernel
theorem dX12_river_38 : decode cX12_river 38 = .ok (.aload_n 0, 1) := by decide +kernel
theorem dX12_river_39 : decode cX12_river 39 = .ok (.getfield 22, 3) := by decide +kernel
theorem dX12_river_42 : decode cX12_river 42 = .ok (.iconst (-1), 1) := by decide +kernel
theorem dX12_river_43 : decode cX12_river 43 = .ok (.if_icmp .eq 7, 3) := by decide +kernel
theorem dX12_river_46 : decode cX12_river 46 = .ok (.iconst 1, 1) := by decide +kernel
theorem dX12_river_47 : decode cX12_river 47 = .ok (.goto 19, 3) := by decide +kernel
theorem dX12_river_50 : decode cX12_river 50 = .ok (.aload_n 0, 1) := by decide +kernel
theorem dX12_river_51 : decode cX12_river 51 = .ok (.getfield 7, 3) := by decide +kernel
theorem dX12_river_54 : decode cX12_river 54 = .ok (.iconst 0, 1) := by decide +kernel
theorem dX12_river_55 : decode cX12_river 55 = .ok (.iaload, 1) := by decide +kernel
theorem dX12_river_56 : decode cX12_river 56 = .ok (.bipush 10, 2) := by decide +kernel
theorem dX12_river_58 : decode cX12_river 58 = .ok (.if_icmp .ne 7, 3) := by decide +kernel
theorem dX12_river_61 : decode cX12_river 61 = .ok (.iconst 2, 1) := by decide +kernel
theorem dX12_river_62 : decode cX12_river 62 = .ok (.goto 4, 3) := by decide +kernel
theorem dX12_river_65 : decode cX12_river 65 = .ok (.iconst 0, 1) := by decide +kernel
theorem dX12_river_66 : decode cX12_river 66 = .ok (.putfield 59, 3) := by decide +kernel
theorem dX12_river_69 : decode cX12_river 69 = .ok (.aload_n 0, 1) := by decide +kernel
theorem dX12_river_70 : decode cX12_river 70 = .ok (.getfield 59, 3) := by decide +kernel
theorem dX12_river_73 : decode cX12_river 73 = .ok (.ifCond .le 32, 3) := by decide +kernel
theorem dX12_river_76 : decode cX12_river 76 = .ok (.iconst 0, 1) := by decide +kernel
theorem dX12_river_77 : decode cX12_river 77 = .ok (.istore_n 1, 1) := by decide +kernel
theorem dX12_river_78 : decode cX12_river 78 = .ok (.iload_n 1, 1) := by decide +kernel
theorem dX12_river_79 : decode cX12_river 79 = .ok (.sipush 248, 3) := by decide +kernel
theorem dX12_river_82 : decode cX12_river 82 = .ok (.if_icmp .ge 21, 3) := by decide +kernel
theorem dX12_river_85 : decode cX12_river 85 = .ok (.aload_n 0, 1) := by decide +kernel
theorem dX12_river_86 : decode cX12_river 86 = .ok (.getfield 7, 3) := by decide +kernel
theorem dX12_river_89 : decode cX12_river 89 = .ok (.iload_n 1, 1) := by decide +kernel
theorem dX12_river_90 : decode cX12_river 90 = .ok (.aload_n 0, 1) := by decide +kernel
theorem dX12_river_91 : decode cX12_river 91 = .ok (.getfield 16, 3) := by decide +kernel
theorem dX12_river_94 : decode cX12_river 94 = .ok (.iload_n 1, 1) := by decide +kernel
theorem dX12_river_95 : decode cX12_river 95 = .ok (.iaload, 1) := by decide +kernel
theorem dX12_river_96 : decode cX12_river 96 = .ok (.iastore, 1) := by decide +kernel
theorem dX12_river_97 : decode cX12_river 97 = .ok (.iinc 1 1, 3) := by decide +kernel
theorem dX12_river_100 : decode cX12_river 100 = .ok (.goto (-22), 3) := by decide +kernel
theorem dX12_river_103 : decode cX12_river 103 = .ok (.iconst 0, 1) := by decide +kernel
theorem dX12_river_104 : decode cX12_river 104 = .ok (.ireturn, 1) := by decide +kernel
theorem dX12_river_105 : decode cX12_river 105 = .ok (.aload_n 0, 1) := by decide +kernel
theorem dX12_river_106 : decode cX12_river 106 = .ok (.getfield 7, 3) := by decide +kernel
theorem dX12_river_109 : decode cX12_river 109 = .ok (.iconst 0, 1) := by decide +kernel
theorem dX12_river_110 : decode cX12_river 110 = .ok (.dup2, 1) := by decide +kernel
theorem dX12_river_111 : decode cX12_river 111 = .ok (.iaload, 1) := by decide +kernel
theorem dX12_river_112 : decode cX12_river 112 = .ok (.iconst 1, 1) := by decide +kernel
theorem dX12_river_113 : decode cX12_river 113 = .ok (.iadd, 1) := by decide +kernel
theorem dX12_river_114 : decode cX12_river 114 = .ok (.iastore, 1) := by decide +kernel
theorem dX12_river_115 : decode cX12_river 115 = .ok (.aload_n 0, 1) := by decide +kernel
theorem dX12_river_116 : decode cX12_river 116 = .ok (.getfield 7, 3) := by decide +kernel
theorem dX12_river_119 : decode cX12_river 119 = .ok (.iconst 0, 1) := by decide +kernel
theorem dX12_river_120 : decode cX12_river 120 = .ok (.iaload, 1) := by decide +kernel
theorem dX12_river_121 : decode cX12_river 121 = .ok (.ireturn, 1) := by decide +kernel
theorem dX12_part_0 : decode cX12_part 0 = .ok (.aload_n 0, 1) := by decide +kernel
theorem dX12_part_1 : decode cX12_part 1 = .ok (.getfield 22, 3) := by decide +kernel
theorem dX12_part_4 : decode cX12_part 4 = .ok (.iconst (-1), 1) := by decide +kernel
theorem dX12_part_5 : decode cX12_part 5 = .ok (.if_icmp .eq 5, 3) := by decide +kernel
theorem dX12_part_8 : decode cX12_part 8 = .ok (.iconst 0, 1) := by decide +kernel
theorem dX12_part_9 : decode cX12_part 9 = .ok (.ireturn, 1) := by decide +kernel
theorem dX12_part_10 : decode cX12_part 10 = .ok (.aload_n 0, 1) := by decide +kernel
theorem dX12_part_11 : decode cX12_part 11 = .ok (.invokevirtual 97, 3) := by decide +kernel
theorem dX12_part_14 : decode cX12_part 14 = .ok (.aload_n 0, 1) := by decide +kernel
theorem dX12_part_15 : decode cX12_part 15 = .ok (.getfield 88, 3) := by decide +kernel
theorem dX12_part_18 : decode cX12_part 18 = .ok (.aload_n 0, 1) := by decide +kernel
theorem dX12_part_19 : decode cX12_part 19 = .ok (.getfield 91, 3) := by decide +kernel
theorem dX12_part_22 : decode cX12_part 22 = .ok (.if_icmp .ge 30, 3) := by decide +kernel
theorem dX12_part_25 : decode cX12_part 25 = .ok (.aload_n 0, 1) := by decide +kernel
theorem dX12_part_26 : decode cX12_part 26 = .ok (.aload_n 0, 1) := by decide +kernel
theorem dX12_part_27 : decode cX12_part 27 = .ok (.getfield 88, 3) := by decide +kernel
theorem dX12_part_30 : decode cX12_part 30 = .ok (.invokevirtual 94, 3) := by decide +kernel
theorem dX12_part_33 : decode cX12_part 33 = .ok (.bipush 48, 2) := by decide +kernel
theorem dX12_part_35 : decode cX12_part 35 = .ok (.bipush 57, 2) := by decide +kernel
theorem dX12_part_37 : decode cX12_part 37 = .ok (.invokestatic 62, 3) := by decide +kernel
theorem dX12_part_40 : decode cX12_part 40 = .ok (.ifCond .eq 12, 3) := by decide +kernel
theorem dX12_part_43 : decode cX12_part 43 = .ok (.aload_n 0, 1) := by decide +kernel
theorem dX12_part_44 : decode cX12_part 44 = .ok (.iconst 0, 1) := by decide +kernel
theorem dX12_part_45 : decode cX12_part 45 = .ok (.sipush 999, 3) := by decide +kernel
theorem dX12_part_48 : decode cX12_part 48 = .ok (.invokevirtual 113, 3) := by decide +kernel
theorem dX12_part_51 : decode cX12_part 51 = .ok (.ireturn, 1) := by decide +kernel
theorem dX12_part_52 : decode cX12_part 52 = .ok (.aload_n 0, 1) := by decide +kernel
theorem dX12_part_53 : decode cX12_part 53 = .ok (.ldc 170, 2) := by decide +kernel
theorem dX12_part_55 : decode cX12_part 55 = .ok (.invokevirtual 118, 3) := by decide +kernel
theorem dX12_part_58 : decode cX12_part 58 = .ok (.ifCond .eq 7, 3) := by decide +kernel
theorem dX12_part_61 : decode cX12_part 61 = .ok (.iconst 0, 1) := by decide +kernel
theorem dX12_part_62 : decode cX12_part 62 = .ok (.goto 43, 3) := by decide +kernel
theorem dX12_part_65 : decode cX12_part 65 = .ok (.aload_n 0, 1) := by decide +kernel
theorem dX12_part_66 : decode cX12_part 66 = .ok (.ldc 172, 2) := by decide +kernel
theorem dX12_part_68 : decode cX12_part 68 = .ok (.invokevirtual 118, 3) := by decide +kernel
theorem dX12_part_71 : decode cX12_part 71 = .ok (.ifCond .eq 7, 3) := by decide +kernel
theorem dX12_part_74 : decode cX12_part 74 = .ok (.iconst 1, 1) := by decide +kernel
theorem dX12_part_75 : decode cX12_part 75 = .ok (.goto 30, 3) := by decide +kernel
theorem dX12_part_78 : decode cX12_part 78 = .ok (.aload_n 0, 1) := by decide +kernel
theorem dX12_part_79 : decode cX12_part 79 = .ok (.ldc 174, 2) := by decide +kernel
theorem dX12_part_81 : decode cX12_part 81 = .ok (.invokevirtual 118, 3) := by decide +kernel
theorem dX12_part_84 : decode cX12_part 84 = .ok (.ifCond .eq 7, 3) := by decide +kernel
theorem dX12_part_87 : decode cX12_part 87 = .ok (.iconst 2, 1) := by decide +kernel
theorem dX12_part_88 : decode cX12_part 88 = .ok (.goto 17, 3) := by decide +kernel
theorem dX12_part_91 : decode cX12_part 91 = .ok (.aload_n 0, 1) := by decide +kernel
theorem dX12_part_92 : decode cX12_part 92 = .ok (.ldc 176, 2) := by decide +kernel
theorem dX12_part_94 : decode cX12_part 94 = .ok (.invokevirtual 118, 3) := by decide +kernel
theorem dX12_part_97 : decode cX12_part 97 = .ok (.ifCond .eq 7, 3) := by decide +kernel
theorem dX12_part_100 : decode cX12_part 100 = .ok (.iconst 3, 1) := by decide +kernel
theorem dX12_part_101 : decode cX12_part 101 = .ok (.goto 4, 3) := by decide +kernel
theorem dX12_part_104 : decode cX12_part 104 = .ok (.iconst (-1), 1) := by decide +kernel
theorem dX12_part_105 : decode cX12_part 105 = .ok (.istore_n 1, 1) := by decide +kernel
theorem dX12_part_106 : decode cX12_part 106 = .ok (.iload_n 1, 1) := by decide +kernel
theorem dX12_part_107 : decode cX12_part 107 = .ok (.iconst (-1), 1) := by decide +kernel
theorem dX12_part_108 : decode cX12_part 108 = .ok (.if_icmp .ne 13, 3) := by decide +kernel
theorem dX12_part_111 : decode cX12_part 111 = .ok (.aload_n 0, 1) := by decide +kernel
theorem dX12_part_112 : decode cX12_part 112 = .ok (.aload_n 0, 1) := by decide +kernel
theorem dX12_part_113 : decode cX12_part 113 = .ok (.getfield 88, 3) := by decide +kernel
theorem dX12_part_116 : decode cX12_part 116 = .ok (.invokevirtual 109, 3) := by decide +kernel
theorem dX12_part_119 : decode cX12_part 119 = .ok (.iconst 0, 1) := by decide +kernel
theorem dX12_part_120 : decode cX12_part 120 = .ok (.ireturn, 1) := by decide +kernel
theorem dX12_part_121 : decode cX12_part 121 = .ok (.aload_n 0, 1) := by decide +kernel
theorem dX12_part_122 : decode cX12_part 122 = .ok (.getfield 26, 3) := by decide +kernel
theorem dX12_part_125 : decode cX12_part 125 = .ok (.iload_n 1, 1) := by decide +kernel
theorem dX12_part_126 : decode cX12_part 126 = .ok (.iaload, 1) := by decide +kernel
theorem dX12_part_127 : decode cX12_part 127 = .ok (.ireturn, 1) := by decide +kernel
theorem dX12_sum_0 : decode cX12_sum 0 = .ok (.aload_n 0, 1) := by decide +kernel
theorem dX12_sum_1 : decode cX12_sum 1 = .ok (.invokevirtual 178, 3) := by decide +kernel
theorem dX12_sum_4 : decode cX12_sum 4 = .ok (.istore_n 1, 1) := by decide +kernel
theorem dX12_sum_5 : decode cX12_sum 5 = .ok (.aload_n 0, 1) := by decide +kernel
theorem dX12_sum_6 : decode cX12_sum 6 = .ok (.getfield 22, 3) := by decide +kernel
theorem dX12_sum_9 : decode cX12_sum 9 = .ok (.iconst (-1), 1) := by decide +kernel
theorem dX12_sum_10 : decode cX12_sum 10 = .ok (.if_icmp .ne 32, 3) := by decide +kernel
theorem dX12_sum_13 : decode cX12_sum 13 = .ok (.aload_n 0, 1) := by decide +kernel
theorem dX12_sum_14 : decode cX12_sum 14 = .ok (.bipush 43, 2) := by decide +kernel
theorem dX12_sum_16 : decode cX12_sum 16 = .ok (.invokevirtual 159, 3) := by decide +kernel
theorem dX12_sum_19 : decode cX12_sum 19 = .ok (.ifCond .eq 23, 3) := by decide +kernel
theorem dX12_sum_22 : decode cX12_sum 22 = .ok (.aload_n 0, 1) := by decide +kernel
theorem dX12_sum_23 : decode cX12_sum 23 = .ok (.dup, 1) := by decide +kernel
theorem dX12_sum_24 : decode cX12_sum 24 = .ok (.getfield 88, 3) := by decide +kernel
theorem dX12_sum_27 : decode cX12_sum 27 = .ok (.iconst 1, 1) := by decide +kernel
theorem dX12_sum_28 : decode cX12_sum 28 = .ok (.iadd, 1) := by decide +kernel
theorem dX12_sum_29 : decode cX12_sum 29 = .ok (.putfield 88, 3) := by decide +kernel
theorem dX12_sum_32 : decode cX12_sum 32 = .ok (.iload_n 1, 1) := by decide +kernel
theorem dX12_sum_33 : decode cX12_sum 33 = .ok (.aload_n 0, 1) := by decide +kernel
theorem dX12_sum_34 : decode cX12_sum 34 = .ok (.invokevirtual 178, 3) := by decide +kernel
theorem dX12_sum_37 : decode cX12_sum 37 = .ok (.iadd, 1) := by decide +kernel
theorem dX12_sum_38 : decode cX12_sum 38 = .ok (.istore_n 1, 1) := by decide +kernel
theorem dX12_sum_39 : decode cX12_sum 39 = .ok (.goto (-34), 3) := by decide +kernel
theorem dX12_sum_42 : decode cX12_sum 42 = .ok (.iload_n 1, 1) := by decide +kernel
theorem dX12_sum_43 : decode cX12_sum 43 = .ok (.ireturn, 1) := by decide +kernel
theorem dX12_plain_0 : decode cX12_plain 0 = .ok (.aload_n 0, 1) := by decide +kernel
theorem dX12_plain_1 : decode cX12_plain 1 = .ok (.invokevirtual 181, 3) := by decide +kernel
theorem dX12_plain_4 : decode cX12_plain 4 = .ok (.istore_n 1, 1) := by decide +kernel
theorem dX12_plain_5 : decode cX12_plain 5 = .ok (.aload_n 0, 1) := by decide +kernel
theorem dX12_plain_6 : decode cX12_plain 6 = .ok (.getfield 22, 3) := by decide +kernel
theorem dX12_plain_9 : decode cX12_plain 9 = .ok (.iconst (-1), 1) := by decide +kernel
theorem dX12_plain_10 : decode cX12_plain 10 = .ok (.if_icmp .eq 5, 3) := by decide +kernel
theorem dX12_plain_13 : decode cX12_plain 13 = .ok (.iconst 0, 1) := by decide +kernel
theorem dX12_plain_14 : decode cX12_plain 14 = .ok (.ireturn, 1) := by decide +kernel
theorem dX12_plain_15 : decode cX12_plain 15 = .ok (.aload_n 0, 1) := by decide +kernel
theorem dX12_plain_16 : decode cX12_plain 16 = .ok (.bipush 60, 2) := by decide +kernel
theorem dX12_plain_18 : decode cX12_plain 18 = .ok (.invokevirtual 159, 3) := by decide +kernel
theorem dX12_plain_21 : decode cX12_plain 21 = .ok (.istore_n 2, 1) := by decide +kernel
theorem dX12_plain_22 : decode cX12_plain 22 = .ok (.iload_n 2, 1) := by decide +kernel
theorem dX12_plain_23 : decode cX12_plain 23 = .ok (.ifCond .ne 22, 3) := by decide +kernel
theorem dX12_plain_26 : decode cX12_plain 26 = .ok (.aload_n 0, 1) := by decide +kernel
theorem dX12_plain_27 : decode cX12_plain 27 = .ok (.bipush 62, 2) := by decide +kernel
theorem dX12_plain_29 : decode cX12_plain 29 = .ok (.invokevirtual 159, 3) := by decide +kernel
theorem dX12_plain_32 : decode cX12_plain 32 = .ok (.ifCond .ne 13, 3) := by decide +kernel
theorem dX12_plain_35 : decode cX12_plain 35 = .ok (.aload_n 0, 1) := by decide +kernel
theorem dX12_plain_36 : decode cX12_plain 36 = .ok (.aload_n 0, 1) := by decide +kernel
theorem dX12_plain_37 : decode cX12_plain 37 = .ok (.getfield 88, 3) := by decide +kernel
theorem dX12_plain_40 : decode cX12_plain 40 = .ok (.invokevirtual 109, 3) := by decide +kernel
theorem dX12_plain_43 : decode cX12_plain 43 = .ok (.iconst 0, 1) := by decide +kernel
theorem dX12_plain_44 : decode cX12_plain 44 = .ok (.ireturn, 1) := by decide +kernel
theorem dX12_plain_45 : decode cX12_plain 45 = .ok (.aload_n 0, 1) := by decide +kernel
theorem dX12_plain_46 : decode cX12_plain 46 = .ok (.dup, 1) := by decide +kernel
theorem dX12_plain_47 : decode cX12_plain 47 = .ok (.getfield 88, 3) := by decide +kernel
theorem dX12_plain_50 : decode cX12_plain 50 = .ok (.iconst 1, 1) := by decide +kernel
theorem dX12_plain_51 : decode cX12_plain 51 = .ok (.iadd, 1) := by decide +kernel
theorem dX12_plain_52 : decode cX12_plain 52 = .ok (.putfield 88, 3) := by decide +kernel
theorem dX12_plain_55 : decode cX12_plain 55 = .ok (.aload_n 0, 1) := by decide +kernel
theorem dX12_plain_56 : decode cX12_plain 56 = .ok (.invokevirtual 181, 3) := by decide +kernel
theorem dX12_plain_59 : decode cX12_plain 59 = .ok (.istore_n 3, 1) := by decide +kernel
theorem dX12_plain_60 : decode cX12_plain 60 = .ok (.iload_n 2, 1) := by decide +kernel
theorem dX12_plain_61 : decode cX12_plain 61 = .ok (.ifCond .eq 16, 3) := by decide +kernel
theorem dX12_plain_64 : decode cX12_plain 64 = .ok (.iload_n 1, 1) := by decide +kernel
theorem dX12_plain_65 : decode cX12_plain 65 = .ok (.iload_n 3, 1) := by decide +kernel
theorem dX12_plain_66 : decode cX12_plain 66 = .ok (.if_icmp .ge 7, 3) := by decide +kernel
theorem dX12_plain_69 : decode cX12_plain 69 = .ok (.iconst 1, 1) := by decide +kernel
theorem dX12_plain_70 : decode cX12_plain 70 = .ok (.goto 17, 3) := by decide +kernel
theorem dX12_plain_73 : decode cX12_plain 73 = .ok (.iconst 0, 1) := by decide +kernel
theorem dX12_plain_74 : decode cX12_plain 74 = .ok (.goto 13, 3) := by decide +kernel
theorem dX12_plain_77 : decode cX12_plain 77 = .ok (.iload_n 1, 1) := by decide +kernel
theorem dX12_plain_78 : decode cX12_plain 78 = .ok (.iload_n 3, 1) := by decide +kernel
theorem dX12_plain_79 : decode cX12_plain 79 = .ok (.if_icmp .le 7, 3) := by decide +kernel
theorem dX12_plain_82 : decode cX12_plain 82 = .ok (.iconst 1, 1) := by decide +kernel
theorem dX12_plain_83 : decode cX12_plain 83 = .ok (.goto 4, 3) := by decide +kernel
theorem dX12_plain_86 : decode cX12_plain 86 = .ok (.iconst 0, 1) := by decide +kernel
theorem dX12_plain_87 : decode cX12_plain 87 = .ok (.ireturn, 1) := by decide +kernel
theorem dX12_atom_0 : decode cX12_atom 0 = .ok (.aload_n 0, 1) := by decide +kernel
theorem dX12_atom_1 : decode cX12_atom 1 = .ok (.getfield 22, 3) := by decide +kernel
theorem dX12_atom_4 : decode cX12_atom 4 = .ok (.iconst (-1), 1) := by decide +kernel
theorem dX12_atom_5 : decode cX12_atom 5 = .ok (.if_icmp .eq 5, 3) := by decide +kernel
theorem dX12_atom_8 : decode cX12_atom 8 = .ok (.iconst 0, 1) := by decide +kernel
theorem dX12_atom_9 : decode cX12_atom 9 = .ok (.ireturn, 1) := by decide +kernel
theorem dX12_atom_10 : decode cX12_atom 10 = .ok (.aload_n 0, 1) := by decide +kernel
theorem dX12_atom_11 : decode cX12_atom 11 = .ok (.invokevirtual 97, 3) := by decide +kernel
theorem dX12_atom_14 : decode cX12_atom 14 = .ok (.aload_n 0, 1) := by decide +kernel
theorem dX12_atom_15 : decode cX12_atom 15 = .ok (.getfield 88, 3) := by decide +kernel
theorem dX12_atom_18 : decode cX12_atom 18 = .ok (.istore_n 1, 1) := by decide +kernel
theorem dX12_atom_19 : decode cX12_atom 19 = .ok (.aload_n 0, 1) := by decide +kernel
theorem dX12_atom_20 : decode cX12_atom 20 = .ok (.ldc 184, 2) := by decide +kernel
theorem dX12_atom_22 : decode cX12_atom 22 = .ok (.invokevirtual 118, 3) := by decide +kernel
theorem dX12_atom_25 : decode cX12_atom 25 = .ok (.istore_n 2, 1) := by decide +kernel
theorem dX12_atom_26 : decode cX12_atom 26 = .ok (.iload_n 2, 1) := by decide +kernel
theorem dX12_atom_27 : decode cX12_atom 27 = .ok (.ifCond .ne 17, 3) := by decide +kernel
theorem dX12_atom_30 : decode cX12_atom 30 = .ok (.aload_n 0, 1) := by decide +kernel
theorem dX12_atom_31 : decode cX12_atom 31 = .ok (.bipush 40, 2) := by decide +kernel
theorem dX12_atom_33 : decode cX12_atom 33 = .ok (.invokevirtual 159, 3) := by decide +kernel
theorem dX12_atom_36 : decode cX12_atom 36 = .ok (.ifCond .ne 8, 3) := by decide +kernel
theorem dX12_atom_39 : decode cX12_atom 39 = .ok (.aload_n 0, 1) := by decide +kernel
theorem dX12_atom_40 : decode cX12_atom 40 = .ok (.invokevirtual 186, 3) := by decide +kernel
theorem dX12_atom_43 : decode cX12_atom 43 = .ok (.ireturn, 1) := by decide +kernel
theorem dX12_atom_44 : decode cX12_atom 44 = .ok (.aload_n 0, 1) := by decide +kernel
theorem dX12_atom_45 : decode cX12_atom 45 = .ok (.getfield 150, 3) := by decide +kernel
theorem dX12_atom_48 : decode cX12_atom 48 = .ok (.bipush 6, 2) := by decide +kernel
theorem dX12_atom_50 : decode cX12_atom 50 = .ok (.if_icmp .ne 10, 3) := by decide +kernel
theorem dX12_atom_53 : decode cX12_atom 53 = .ok (.aload_n 0, 1) := by decide +kernel
theorem dX12_atom_54 : decode cX12_atom 54 = .ok (.iload_n 1, 1) := by decide +kernel
theorem dX12_atom_55 : decode cX12_atom 55 = .ok (.invokevirtual 109, 3) := by decide +kernel
theorem dX12_atom_58 : decode cX12_atom 58 = .ok (.iconst 0, 1) := by decide +kernel
theorem dX12_atom_59 : decode cX12_atom 59 = .ok (.ireturn, 1) := by decide +kernel
theorem dX12_atom_60 : decode cX12_atom 60 = .ok (.aload_n 0, 1) := by decide +kernel
theorem dX12_atom_61 : decode cX12_atom 61 = .ok (.dup, 1) := by decide +kernel
theorem dX12_atom_62 : decode cX12_atom 62 = .ok (.getfield 150, 3) := by decide +kernel
theorem dX12_atom_65 : decode cX12_atom 65 = .ok (.iconst 1, 1) := by decide +kernel
theorem dX12_atom_66 : decode cX12_atom 66 = .ok (.iadd, 1) := by decide +kernel
theorem dX12_atom_67 : decode cX12_atom 67 = .ok (.putfield 150, 3) := by decide +kernel
theorem dX12_atom_70 : decode cX12_atom 70 = .ok (.iconst 0, 1) := by decide +kernel
theorem dX12_atom_71 : decode cX12_atom 71 = .ok (.istore_n 3, 1) := by decide +kernel
theorem dX12_atom_72 : decode cX12_atom 72 = .ok (.iload_n 2, 1) := by decide +kernel
theorem dX12_atom_73 : decode cX12_atom 73 = .ok (.ifCond .eq 19, 3) := by decide +kernel
theorem dX12_atom_76 : decode cX12_atom 76 = .ok (.aload_n 0, 1) := by decide +kernel
theorem dX12_atom_77 : decode cX12_atom 77 = .ok (.invokevirtual 190, 3) := by decide +kernel
theorem dX12_atom_80 : decode cX12_atom 80 = .ok (.ifCond .ne 7, 3) := by decide +kernel
theorem dX12_atom_83 : decode cX12_atom 83 = .ok (.iconst 1, 1) := by decide +kernel
theorem dX12_atom_84 : decode cX12_atom 84 = .ok (.goto 4, 3) := by decide +kernel
theorem dX12_atom_87 : decode cX12_atom 87 = .ok (.iconst 0, 1) := by decide +kernel
theorem dX12_atom_88 : decode cX12_atom 88 = .ok (.istore_n 3, 1) := by decide +kernel
theorem dX12_atom_89 : decode cX12_atom 89 = .ok (.goto 53, 3) := by decide +kernel
theorem dX12_atom_92 : decode cX12_atom 92 = .ok (.aload_n 0, 1) := by decide +kernel
theorem dX12_atom_93 : decode cX12_atom 93 = .ok (.dup, 1) := by decide +kernel
theorem dX12_atom_94 : decode cX12_atom 94 = .ok (.getfield 88, 3) := by decide +kernel
theorem dX12_atom_97 : decode cX12_atom 97 = .ok (.iconst 1, 1) := by decide +kernel
theorem dX12_atom_98 : decode cX12_atom 98 = .ok (.iadd, 1) := by decide +kernel
theorem dX12_atom_99 : decode cX12_atom 99 = .ok (.putfield 88, 3) := by decide +kernel
theorem dX12_atom_102 : decode cX12_atom 102 = .ok (.aload_n 0, 1) := by decide +kernel
theorem dX12_atom_103 : decode cX12_atom 103 = .ok (.invokevirtual 193, 3) := by decide +kernel
theorem dX12_atom_106 : decode cX12_atom 106 = .ok (.istore_n 3, 1) := by decide +kernel
theorem dX12_atom_107 : decode cX12_atom 107 = .ok (.aload_n 0, 1) := by decide +kernel
theorem dX12_atom_108 : decode cX12_atom 108 = .ok (.getfield 22, 3) := by decide +kernel
theorem dX12_atom_111 : decode cX12_atom 111 = .ok (.iconst (-1), 1) := by decide +kernel
theorem dX12_atom_112 : decode cX12_atom 112 = .ok (.if_icmp .ne 20, 3) := by decide +kernel
theorem dX12_atom_115 : decode cX12_atom 115 = .ok (.aload_n 0, 1) := by decide +kernel
theorem dX12_atom_116 : decode cX12_atom 116 = .ok (.bipush 41, 2) := by decide +kernel
theorem dX12_atom_118 : decode cX12_atom 118 = .ok (.invokevirtual 159, 3) := by decide +kernel
theorem dX12_atom_121 : decode cX12_atom 121 = .ok (.ifCond .ne 11, 3) := by decide +kernel
theorem dX12_atom_124 : decode cX12_atom 124 = .ok (.aload_n 0, 1) := by decide +kernel
theorem dX12_atom_125 : decode cX12_atom 125 = .ok (.aload_n 0, 1) := by decide +kernel
theorem dX12_atom_126 : decode cX12_atom 126 = .ok (.getfield 88, 3) := by decide +kernel
theorem dX12_atom_129 : decode cX12_atom 129 = .ok (.invokevirtual 109, 3) := by decide +kernel
theorem dX12_atom_132 : decode cX12_atom 132 = .ok (.aload_n 0, 1) := by decide +kernel
theorem dX12_atom_133 : decode cX12_atom 133 = .ok (.dup, 1) := by decide +kernel
theorem dX12_atom_134 : decode cX12_atom 134 = .ok (.getfield 88, 3) := by decide +kernel
theorem dX12_atom_137 : decode cX12_atom 137 = .ok (.iconst 1, 1) := by decide +kernel
theorem dX12_atom_138 : decode cX12_atom 138 = .ok (.iadd, 1) := by decide +kernel
theorem dX12_atom_139 : decode cX12_atom 139 = .ok (.putfield 88, 3) := by decide +kernel
theorem dX12_atom_142 : decode cX12_atom 142 = .ok (.aload_n 0, 1) := by decide +kernel
theorem dX12_atom_143 : decode cX12_atom 143 = .ok (.dup, 1) := by decide +kernel
theorem dX12_atom_144 : decode cX12_atom 144 = .ok (.getfield 150, 3) := by decide +kernel
theorem dX12_atom_147 : decode cX12_atom 147 = .ok (.iconst 1, 1) := by decide +kernel
theorem dX12_atom_148 : decode cX12_atom 148 = .ok (.isub, 1) := by decide +kernel
theorem dX12_atom_149 : decode cX12_atom 149 = .ok (.putfield 150, 3) := by decide +kernel
theorem dX12_atom_152 : decode cX12_atom 152 = .ok (.iload_n 3, 1) := by decide +kernel
theorem dX12_atom_153 : decode cX12_atom 153 = .ok (.ireturn, 1) := by decide +kernel
theorem dX12_every_0 : decode cX12_every 0 = .ok (.aload_n 0, 1) := by decide +kernel
theorem dX12_every_1 : decode cX12_every 1 = .ok (.invokevirtual 190, 3) := by decide +kernel
theorem dX12_every_4 : decode cX12_every 4 = .ok (.istore_n 1, 1) := by decide +kernel
theorem dX12_every_5 : decode cX12_every 5 = .ok (.aload_n 0, 1) := by decide +kernel
theorem dX12_every_6 : decode cX12_every 6 = .ok (.getfield 22, 3) := by decide +kernel
theorem dX12_every_9 : decode cX12_every 9 = .ok (.iconst (-1), 1) := by decide +kernel
theorem dX12_every_10 : decode cX12_every 10 = .ok (.if_icmp .ne 34, 3) := by decide +kernel
theorem dX12_every_13 : decode cX12_every 13 = .ok (.aload_n 0, 1) := by decide +kernel
theorem dX12_every_14 : decode cX12_every 14 = .ok (.ldc 196, 2) := by decide +kernel
theorem dX12_every_16 : decode cX12_every 16 = .ok (.invokevirtual 118, 3) := by decide +kernel
theorem dX12_every_19 : decode cX12_every 19 = .ok (.ifCond .eq 25, 3) := by decide +kernel
theorem dX12_every_22 : decode cX12_every 22 = .ok (.aload_n 0, 1) := by decide +kernel
theorem dX12_every_23 : decode cX12_every 23 = .ok (.invokevirtual 190, 3) := by decide +kernel
theorem dX12_every_26 : decode cX12_every 26 = .ok (.istore_n 2, 1) := by decide +kernel
theorem dX12_every_27 : decode cX12_every 27 = .ok (.iload_n 1, 1) := by decide +kernel
theorem dX12_every_28 : decode cX12_every 28 = .ok (.ifCond .eq 11, 3) := by decide +kernel
theorem dX12_every_31 : decode cX12_every 31 = .ok (.iload_n 2, 1) := by decide +kernel
theorem dX12_every_32 : decode cX12_every 32 = .ok (.ifCond .eq 7, 3) := by decide +kernel
theorem dX12_every_35 : decode cX12_every 35 = .ok (.iconst 1, 1) := by decide +kernel
theorem dX12_every_36 : decode cX12_every 36 = .ok (.goto 4, 3) := by decide +kernel
theorem dX12_every_39 : decode cX12_every 39 = .ok (.iconst 0, 1) := by decide +kernel
theorem dX12_every_40 : decode cX12_every 40 = .ok (.istore_n 1, 1) := by decide +kernel
theorem dX12_every_41 : decode cX12_every 41 = .ok (.goto (-36), 3) := by decide +kernel
theorem dX12_every_44 : decode cX12_every 44 = .ok (.iload_n 1, 1) := by decide +kernel
theorem dX12_every_45 : decode cX12_every 45 = .ok (.ireturn, 1) := by decide +kernel
theorem dX12_some_0 : decode cX12_some 0 = .ok (.aload_n 0, 1) := by decide +kernel
theorem dX12_some_1 : decode cX12_some 1 = .ok (.invokevirtual 198, 3) := by decide +kernel
theorem dX12_some_4 : decode cX12_some 4 = .ok (.istore_n 1, 1) := by decide +kernel
theorem dX12_some_5 : decode cX12_some 5 = .ok (.aload_n 0, 1) := by decide +kernel
theorem dX12_some_6 : decode cX12_some 6 = .ok (.getfield 22, 3) := by decide +kernel
theorem dX12_some_9 : decode cX12_some 9 = .ok (.iconst (-1), 1) := by decide +kernel
theorem dX12_some_10 : decode cX12_some 10 = .ok (.if_icmp .ne 34, 3) := by decide +kernel
theorem dX12_some_13 : decode cX12_some 13 = .ok (.aload_n 0, 1) := by decide +kernel
theorem dX12_some_14 : decode cX12_some 14 = .ok (.ldc 201, 2) := by decide +kernel
theorem dX12_some_16 : decode cX12_some 16 = .ok (.invokevirtual 118, 3) := by decide +kernel
theorem dX12_some_19 : decode cX12_some 19 = .ok (.ifCond .eq 25, 3) := by decide +kernel
theorem dX12_some_22 : decode cX12_some 22 = .ok (.aload_n 0, 1) := by decide +kernel
theorem dX12_some_23 : decode cX12_some 23 = .ok (.invokevirtual 198, 3) := by decide +kernel
theorem dX12_some_26 : decode cX12_some 26 = .ok (.istore_n 2, 1) := by decide +kernel
theorem dX12_some_27 : decode cX12_some 27 = .ok (.iload_n 1, 1) := by decide +kernel
theorem dX12_some_28 : decode cX12_some 28 = .ok (.ifCond .ne 7, 3) := by decide +kernel
theorem dX12_some_31 : decode cX12_some 31 = .ok (.iload_n 2, 1) := by decide +kernel
theorem dX12_some_32 : decode cX12_some 32 = .ok (.ifCond .eq 7, 3) := by decide +kernel
theorem dX12_some_35 : decode cX12_some 35 = .ok (.iconst 1, 1) := by decide +kernel
theorem dX12_some_36 : decode cX12_some 36 = .ok (.goto 4, 3) := by decide +kernel
theorem dX12_some_39 : decode cX12_some 39 = .ok (.iconst 0, 1) := by decide +kernel
theorem dX12_some_40 : decode cX12_some 40 = .ok (.istore_n 1, 1) := by decide +kernel
theorem dX12_some_41 : decode cX12_some 41 = .ok (.goto (-36), 3) := by decide +kernel
theorem dX12_some_44 : decode cX12_some 44 = .ok (.iload_n 1, 1) := by decide +kernel
theorem dX12_some_45 : decode cX12_some 45 = .ok (.ireturn, 1) := by decide +kernel
theorem dX12_ruleLine_0 : decode cX12_ruleLine 0 = .ok (.aload_n 0, 1) := by decide +kernel
theorem dX12_ruleLine_1 : decode cX12_ruleLine 1 = .ok (.iconst 0, 1) := by decide +kernel
theorem dX12_ruleLine_2 : decode cX12_ruleLine 2 = .ok (.sipush 999, 3) := by decide +kernel
theorem dX12_ruleLine_5 : decode cX12_ruleLine 5 = .ok (.invokevirtual 113, 3) := by decide +kernel
theorem dX12_ruleLine_8 : decode cX12_ruleLine 8 = .ok (.istore_n 1, 1) := by decide +kernel
theorem dX12_ruleLine_9 : decode cX12_ruleLine 9 = .ok (.aload_n 0, 1) := by decide +kernel
theorem dX12_ruleLine_10 : decode cX12_ruleLine 10 = .ok (.getfield 22, 3) := by decide +kernel
theorem dX12_ruleLine_13 : decode cX12_ruleLine 13 = .ok (.iconst (-1), 1) := by decide +kernel
theorem dX12_ruleLine_14 : decode cX12_ruleLine 14 = .ok (.if_icmp .eq 4, 3) := by decide +kernel
theorem dX12_ruleLine_17 : decode cX12_ruleLine 17 = .ok (.return_, 1) := by decide +kernel
theorem dX12_ruleLine_18 : decode cX12_ruleLine 18 = .ok (.aload_n 0, 1) := by decide +kernel
theorem dX12_ruleLine_19 : decode cX12_ruleLine 19 = .ok (.ldc 203, 2) := by decide +kernel
theorem dX12_ruleLine_21 : decode cX12_ruleLine 21 = .ok (.invokevirtual 118, 3) := by decide +kernel
theorem dX12_ruleLine_24 : decode cX12_ruleLine 24 = .ok (.ifCond .eq 10, 3) := by decide +kernel
theorem dX12_ruleLine_27 : decode cX12_ruleLine 27 = .ok (.aload_n 0, 1) := by decide +kernel
theorem dX12_ruleLine_28 : decode cX12_ruleLine 28 = .ok (.invokevirtual 193, 3) := by decide +kernel
theorem dX12_ruleLine_31 : decode cX12_ruleLine 31 = .ok (.ifCond .eq 7, 3) := by decide +kernel
theorem dX12_ruleLine_34 : decode cX12_ruleLine 34 = .ok (.iconst 1, 1) := by decide +kernel
theorem dX12_ruleLine_35 : decode cX12_ruleLine 35 = .ok (.goto 4, 3) := by decide +kernel
theorem dX12_ruleLine_38 : decode cX12_ruleLine 38 = .ok (.iconst 0, 1) := by decide +kernel
theorem dX12_ruleLine_39 : decode cX12_ruleLine 39 = .ok (.istore_n 2, 1) := by decide +kernel
theorem dX12_ruleLine_40 : decode cX12_ruleLine 40 = .ok (.aload_n 0, 1) := by decide +kernel
theorem dX12_ruleLine_41 : decode cX12_ruleLine 41 = .ok (.getfield 22, 3) := by decide +kernel
theorem dX12_ruleLine_44 : decode cX12_ruleLine 44 = .ok (.iconst (-1), 1) := by decide +kernel
theorem dX12_ruleLine_45 : decode cX12_ruleLine 45 = .ok (.if_icmp .ne 20, 3) := by decide +kernel
theorem dX12_ruleLine_48 : decode cX12_ruleLine 48 = .ok (.iload_n 2, 1) := by decide +kernel
theorem dX12_ruleLine_49 : decode cX12_ruleLine 49 = .ok (.ifCond .eq 16, 3) := by decide +kernel
theorem dX12_ruleLine_52 : decode cX12_ruleLine 52 = .ok (.aload_n 0, 1) := by decide +kernel
theorem dX12_ruleLine_53 : decode cX12_ruleLine 53 = .ok (.getfield 205, 3) := by decide +kernel
theorem dX12_ruleLine_56 : decode cX12_ruleLine 56 = .ok (.iconst (-1), 1) := by decide +kernel
theorem dX12_ruleLine_57 : decode cX12_ruleLine 57 = .ok (.if_icmp .ne 8, 3) := by decide +kernel
theorem dX12_ruleLine_60 : decode cX12_ruleLine 60 = .ok (.aload_n 0, 1) := by decide +kernel
theorem dX12_ruleLine_61 : decode cX12_ruleLine 61 = .ok (.iload_n 1, 1) := by decide +kernel
theorem dX12_ruleLine_62 : decode cX12_ruleLine 62 = .ok (.putfield 205, 3) := by decide +kernel
theorem dX12_ruleLine_65 : decode cX12_ruleLine 65 = .ok (.return_, 1) := by decide +kernel
theorem dX12_rule_0 : decode cX12_rule 0 = .ok (.aload_n 0, 1) := by decide +kernel
theorem dX12_rule_1 : decode cX12_rule 1 = .ok (.invokevirtual 163, 3) := by decide +kernel
theorem dX12_rule_4 : decode cX12_rule 4 = .ok (.aload_n 0, 1) := by decide +kernel
theorem dX12_rule_5 : decode cX12_rule 5 = .ok (.iconst (-1), 1) := by decide +kernel
theorem dX12_rule_6 : decode cX12_rule 6 = .ok (.putfield 205, 3) := by decide +kernel
theorem dX12_rule_9 : decode cX12_rule 9 = .ok (.aload_n 0, 1) := by decide +kernel
theorem dX12_rule_10 : decode cX12_rule 10 = .ok (.iconst 1, 1) := by decide +kernel
theorem dX12_rule_11 : decode cX12_rule 11 = .ok (.invokevirtual 166, 3) := by decide +kernel
theorem dX12_rule_14 : decode cX12_rule 14 = .ok (.istore_n 1, 1) := by decide +kernel
theorem dX12_rule_15 : decode cX12_rule 15 = .ok (.aload_n 0, 1) := by decide +kernel
theorem dX12_rule_16 : decode cX12_rule 16 = .ok (.aload_n 0, 1) := by decide +kernel
theorem dX12_rule_17 : decode cX12_rule 17 = .ok (.getfield 22, 3) := by decide +kernel
theorem dX12_rule_20 : decode cX12_rule 20 = .ok (.iconst (-1), 1) := by decide +kernel
theorem dX12_rule_21 : decode cX12_rule 21 = .ok (.if_icmp .eq 7, 3) := by decide +kernel
theorem dX12_rule_24 : decode cX12_rule 24 = .ok (.iconst 1, 1) := by decide +kernel
theorem dX12_rule_25 : decode cX12_rule 25 = .ok (.goto 4, 3) := by decide +kernel
theorem dX12_rule_28 : decode cX12_rule 28 = .ok (.iconst 0, 1) := by decide +kernel
theorem dX12_rule_29 : decode cX12_rule 29 = .ok (.putfield 59, 3) := by decide +kernel
theorem dX12_rule_32 : decode cX12_rule 32 = .ok (.aload_n 0, 1) := by decide +kernel
theorem dX12_rule_33 : decode cX12_rule 33 = .ok (.getfield 59, 3) := by decide +kernel
theorem dX12_rule_36 : decode cX12_rule 36 = .ok (.ifCond .le 5, 3) := by decide +kernel
theorem dX12_rule_39 : decode cX12_rule 39 = .ok (.iconst 0, 1) := by decide +kernel
theorem dX12_rule_40 : decode cX12_rule 40 = .ok (.ireturn, 1) := by decide +kernel
theorem dX12_rule_41 : decode cX12_rule 41 = .ok (.aload_n 0, 1) := by decide +kernel
theorem dX12_rule_42 : decode cX12_rule 42 = .ok (.getfield 7, 3) := by decide +kernel
theorem dX12_rule_45 : decode cX12_rule 45 = .ok (.bipush 8, 2) := by decide +kernel
theorem dX12_rule_47 : decode cX12_rule 47 = .ok (.iload_n 1, 1) := by decide +kernel
theorem dX12_rule_48 : decode cX12_rule 48 = .ok (.iastore, 1) := by decide +kernel
theorem dX12_rule_49 : decode cX12_rule 49 = .ok (.aload_n 0, 1) := by decide +kernel
theorem dX12_rule_50 : decode cX12_rule 50 = .ok (.getfield 7, 3) := by decide +kernel
theorem dX12_rule_53 : decode cX12_rule 53 = .ok (.bipush 9, 2) := by decide +kernel
theorem dX12_rule_55 : decode cX12_rule 55 = .ok (.aload_n 0, 1) := by decide +kernel
theorem dX12_rule_56 : decode cX12_rule 56 = .ok (.getfield 91, 3) := by decide +kernel
theorem dX12_rule_59 : decode cX12_rule 59 = .ok (.iastore, 1) := by decide +kernel
theorem dX12_rule_60 : decode cX12_rule 60 = .ok (.iconst 0, 1) := by decide +kernel
theorem dX12_rule_61 : decode cX12_rule 61 = .ok (.istore_n 2, 1) := by decide +kernel
theorem dX12_rule_62 : decode cX12_rule 62 = .ok (.iload_n 2, 1) := by decide +kernel
theorem dX12_rule_63 : decode cX12_rule 63 = .ok (.aload_n 0, 1) := by decide +kernel
theorem dX12_rule_64 : decode cX12_rule 64 = .ok (.getfield 91, 3) := by decide +kernel
theorem dX12_rule_67 : decode cX12_rule 67 = .ok (.if_icmp .ge 25, 3) := by decide +kernel
theorem dX12_rule_70 : decode cX12_rule 70 = .ok (.aload_n 0, 1) := by decide +kernel
theorem dX12_rule_71 : decode cX12_rule 71 = .ok (.getfield 7, 3) := by decide +kernel
theorem dX12_rule_74 : decode cX12_rule 74 = .ok (.sipush 248, 3) := by decide +kernel
theorem dX12_rule_77 : decode cX12_rule 77 = .ok (.iload_n 2, 1) := by decide +kernel
theorem dX12_rule_78 : decode cX12_rule 78 = .ok (.iadd, 1) := by decide +kernel
theorem dX12_rule_79 : decode cX12_rule 79 = .ok (.aload_n 0, 1) := by decide +kernel
theorem dX12_rule_80 : decode cX12_rule 80 = .ok (.getfield 19, 3) := by decide +kernel
theorem dX12_rule_83 : decode cX12_rule 83 = .ok (.iload_n 2, 1) := by decide +kernel
theorem dX12_rule_84 : decode cX12_rule 84 = .ok (.iaload, 1) := by decide +kernel
theorem dX12_rule_85 : decode cX12_rule 85 = .ok (.iastore, 1) := by decide +kernel
theorem dX12_rule_86 : decode cX12_rule 86 = .ok (.iinc 2 1, 3) := by decide +kernel
theorem dX12_rule_89 : decode cX12_rule 89 = .ok (.goto (-27), 3) := by decide +kernel
theorem dX12_rule_92 : decode cX12_rule 92 = .ok (.iload_n 1, 1) := by decide +kernel
theorem dX12_rule_93 : decode cX12_rule 93 = .ok (.ireturn, 1) := by decide +kernel
theorem dX12_fault_0 : decode cX12_fault 0 = .ok (.aload_n 0, 1) := by decide +kernel
theorem dX12_fault_1 : decode cX12_fault 1 = .ok (.iconst 0, 1) := by decide +kernel
theorem dX12_fault_2 : decode cX12_fault 2 = .ok (.putfield 59, 3) := by decide +kernel
theorem dX12_fault_5 : decode cX12_fault 5 = .ok (.aload_n 0, 1) := by decide +kernel
theorem dX12_fault_6 : decode cX12_fault 6 = .ok (.getfield 22, 3) := by decide +kernel
theorem dX12_fault_9 : decode cX12_fault 9 = .ok (.ireturn, 1) := by decide +kernel
theorem dX12_mayBe_0 : decode cX12_mayBe 0 = .ok (.iconst 0, 1) := by decide +kernel
theorem dX12_mayBe_1 : decode cX12_mayBe 1 = .ok (.istore_n 2, 1) := by decide +kernel
theorem dX12_mayBe_2 : decode cX12_mayBe 2 = .ok (.iload_n 2, 1) := by decide +kernel
theorem dX12_mayBe_3 : decode cX12_mayBe 3 = .ok (.aload_n 0, 1) := by decide +kernel
theorem dX12_mayBe_4 : decode cX12_mayBe 4 = .ok (.getfield 7, 3) := by decide +kernel
theorem dX12_mayBe_7 : decode cX12_mayBe 7 = .ok (.bipush 12, 2) := by decide +kernel
theorem dX12_mayBe_9 : decode cX12_mayBe 9 = .ok (.iaload, 1) := by decide +kernel
theorem dX12_mayBe_10 : decode cX12_mayBe 10 = .ok (.if_icmp .ge 76, 3) := by decide +kernel
theorem dX12_mayBe_13 : decode cX12_mayBe 13 = .ok (.aload_n 0, 1) := by decide +kernel
theorem dX12_mayBe_14 : decode cX12_mayBe 14 = .ok (.getfield 7, 3) := by decide +kernel
theorem dX12_mayBe_17 : decode cX12_mayBe 17 = .ok (.bipush 88, 2) := by decide +kernel
theorem dX12_mayBe_19 : decode cX12_mayBe 19 = .ok (.iconst 3, 1) := by decide +kernel
theorem dX12_mayBe_20 : decode cX12_mayBe 20 = .ok (.iload_n 2, 1) := by decide +kernel
theorem dX12_mayBe_21 : decode cX12_mayBe 21 = .ok (.imul, 1) := by decide +kernel
theorem dX12_mayBe_22 : decode cX12_mayBe 22 = .ok (.iadd, 1) := by decide +kernel
theorem dX12_mayBe_23 : decode cX12_mayBe 23 = .ok (.iconst 2, 1) := by decide +kernel
theorem dX12_mayBe_24 : decode cX12_mayBe 24 = .ok (.iadd, 1) := by decide +kernel
theorem dX12_mayBe_25 : decode cX12_mayBe 25 = .ok (.iaload, 1) := by decide +kernel
theorem dX12_mayBe_26 : decode cX12_mayBe 26 = .ok (.istore_n 3, 1) := by decide +kernel
theorem dX12_mayBe_27 : decode cX12_mayBe 27 = .ok (.iload_n 1, 1) := by decide +kernel
theorem dX12_mayBe_28 : decode cX12_mayBe 28 = .ok (.aload_n 0, 1) := by decide +kernel
theorem dX12_mayBe_29 : decode cX12_mayBe 29 = .ok (.getfield 7, 3) := by decide +kernel
theorem dX12_mayBe_32 : decode cX12_mayBe 32 = .ok (.bipush 88, 2) := by decide +kernel
theorem dX12_mayBe_34 : decode cX12_mayBe 34 = .ok (.iconst 3, 1) := by decide +kernel
theorem dX12_mayBe_35 : decode cX12_mayBe 35 = .ok (.iload_n 2, 1) := by decide +kernel
theorem dX12_mayBe_36 : decode cX12_mayBe 36 = .ok (.imul, 1) := by decide +kernel
theorem dX12_mayBe_37 : decode cX12_mayBe 37 = .ok (.iadd, 1) := by decide +kernel
theorem dX12_mayBe_38 : decode cX12_mayBe 38 = .ok (.iaload, 1) := by decide +kernel
theorem dX12_mayBe_39 : decode cX12_mayBe 39 = .ok (.invokestatic 70, 3) := by decide +kernel
theorem dX12_mayBe_42 : decode cX12_mayBe 42 = .ok (.ifCond .eq 38, 3) := by decide +kernel
theorem dX12_mayBe_45 : decode cX12_mayBe 45 = .ok (.iload_n 1, 1) := by decide +kernel
theorem dX12_mayBe_46 : decode cX12_mayBe 46 = .ok (.aload_n 0, 1) := by decide +kernel
theorem dX12_mayBe_47 : decode cX12_mayBe 47 = .ok (.getfield 7, 3) := by decide +kernel
theorem dX12_mayBe_50 : decode cX12_mayBe 50 = .ok (.bipush 88, 2) := by decide +kernel
theorem dX12_mayBe_52 : decode cX12_mayBe 52 = .ok (.iconst 3, 1) := by decide +kernel
theorem dX12_mayBe_53 : decode cX12_mayBe 53 = .ok (.iload_n 2, 1) := by decide +kernel
theorem dX12_mayBe_54 : decode cX12_mayBe 54 = .ok (.imul, 1) := by decide +kernel
theorem dX12_mayBe_55 : decode cX12_mayBe 55 = .ok (.iadd, 1) := by decide +kernel
theorem dX12_mayBe_56 : decode cX12_mayBe 56 = .ok (.iconst 1, 1) := by decide +kernel
theorem dX12_mayBe_57 : decode cX12_mayBe 57 = .ok (.iadd, 1) := by decide +kernel
theorem dX12_mayBe_58 : decode cX12_mayBe 58 = .ok (.iaload, 1) := by decide +kernel
theorem dX12_mayBe_59 : decode cX12_mayBe 59 = .ok (.invokestatic 70, 3) := by decide +kernel
theorem dX12_mayBe_62 : decode cX12_mayBe 62 = .ok (.ifCond .eq 18, 3) := by decide +kernel
theorem dX12_mayBe_65 : decode cX12_mayBe 65 = .ok (.iload_n 3, 1) := by decide +kernel
theorem dX12_mayBe_66 : decode cX12_mayBe 66 = .ok (.iconst (-1), 1) := by decide +kernel
theorem dX12_mayBe_67 : decode cX12_mayBe 67 = .ok (.if_icmp .eq 11, 3) := by decide +kernel
theorem dX12_mayBe_70 : decode cX12_mayBe 70 = .ok (.iload_n 1, 1) := by decide +kernel
theorem dX12_mayBe_71 : decode cX12_mayBe 71 = .ok (.iload_n 3, 1) := by decide +kernel
theorem dX12_mayBe_72 : decode cX12_mayBe 72 = .ok (.invokestatic 70, 3) := by decide +kernel
theorem dX12_mayBe_75 : decode cX12_mayBe 75 = .ok (.ifCond .ne 5, 3) := by decide +kernel
theorem dX12_mayBe_78 : decode cX12_mayBe 78 = .ok (.iconst 0, 1) := by decide +kernel
theorem dX12_mayBe_79 : decode cX12_mayBe 79 = .ok (.ireturn, 1) := by decide +kernel
theorem dX12_mayBe_80 : decode cX12_mayBe 80 = .ok (.iinc 2 1, 3) := by decide +kernel
theorem dX12_mayBe_83 : decode cX12_mayBe 83 = .ok (.goto (-81), 3) := by decide +kernel
theorem dX12_mayBe_86 : decode cX12_mayBe 86 = .ok (.iconst 1, 1) := by decide +kernel
theorem dX12_mayBe_87 : decode cX12_mayBe 87 = .ok (.ireturn, 1) := by decide +kernel
theorem dX12_hasWith_0 : decode cX12_hasWith 0 = .ok (.iconst 0, 1) := by decide +kernel
theorem dX12_hasWith_1 : decode cX12_hasWith 1 = .ok (.istore_n 2, 1) := by decide +kernel
theorem dX12_hasWith_2 : decode cX12_hasWith 2 = .ok (.iload_n 2, 1) := by decide +kernel
theorem dX12_hasWith_3 : decode cX12_hasWith 3 = .ok (.aload_n 0, 1) := by decide +kernel
theorem dX12_hasWith_4 : decode cX12_hasWith 4 = .ok (.getfield 7, 3) := by decide +kernel
theorem dX12_hasWith_7 : decode cX12_hasWith 7 = .ok (.bipush 13, 2) := by decide +kernel
theorem dX12_hasWith_9 : decode cX12_hasWith 9 = .ok (.iaload, 1) := by decide +kernel
theorem dX12_hasWith_10 : decode cX12_hasWith 10 = .ok (.if_icmp .ge 26, 3) := by decide +kernel
theorem dX12_hasWith_13 : decode cX12_hasWith 13 = .ok (.aload_n 0, 1) := by decide +kernel
theorem dX12_hasWith_14 : decode cX12_hasWith 14 = .ok (.getfield 7, 3) := by decide +kernel
theorem dX12_hasWith_17 : decode cX12_hasWith 17 = .ok (.bipush 124, 2) := by decide +kernel
theorem dX12_hasWith_19 : decode cX12_hasWith 19 = .ok (.iconst 2, 1) := by decide +kernel
theorem dX12_hasWith_20 : decode cX12_hasWith 20 = .ok (.iload_n 2, 1) := by decide +kernel
theorem dX12_hasWith_21 : decode cX12_hasWith 21 = .ok (.imul, 1) := by decide +kernel
theorem dX12_hasWith_22 : decode cX12_hasWith 22 = .ok (.iadd, 1) := by decide +kernel
theorem dX12_hasWith_23 : decode cX12_hasWith 23 = .ok (.iaload, 1) := by decide +kernel
theorem dX12_hasWith_24 : decode cX12_hasWith 24 = .ok (.iload_n 1, 1) := by decide +kernel
theorem dX12_hasWith_25 : decode cX12_hasWith 25 = .ok (.if_icmp .ne 5, 3) := by decide +kernel
theorem dX12_hasWith_28 : decode cX12_hasWith 28 = .ok (.iconst 1, 1) := by decide +kernel
theorem dX12_hasWith_29 : decode cX12_hasWith 29 = .ok (.ireturn, 1) := by decide +kernel
theorem dX12_hasWith_30 : decode cX12_hasWith 30 = .ok (.iinc 2 1, 3) := by decide +kernel
theorem dX12_hasWith_33 : decode cX12_hasWith 33 = .ok (.goto (-31), 3) := by decide +kernel
theorem dX12_hasWith_36 : decode cX12_hasWith 36 = .ok (.iconst 0, 1) := by decide +kernel
theorem dX12_hasWith_37 : decode cX12_hasWith 37 = .ok (.ireturn, 1) := by decide +kernel
theorem dX12_mayCross_0 : decode cX12_mayCross 0 = .ok (.aload_n 0, 1) := by decide +kernel
theorem dX12_mayCross_1 : decode cX12_mayCross 1 = .ok (.invokevirtual 208, 3) := by decide +kernel
theorem dX12_mayCross_4 : decode cX12_mayCross 4 = .ok (.istore 5, 2) := by decide +kernel
theorem dX12_mayCross_6 : decode cX12_mayCross 6 = .ok (.iload_n 2, 1) := by decide +kernel
theorem dX12_mayCross_7 : decode cX12_mayCross 7 = .ok (.ifCond .ne 12, 3) := by decide +kernel
theorem dX12_mayCross_10 : decode cX12_mayCross 10 = .ok (.iload 5, 2) := by decide +kernel
theorem dX12_mayCross_12 : decode cX12_mayCross 12 = .ok (.iload_n 1, 1) := by decide +kernel
theorem dX12_mayCross_13 : decode cX12_mayCross 13 = .ok (.iconst (-1), 1) := by decide +kernel
theorem dX12_mayCross_14 : decode cX12_mayCross 14 = .ok (.ixor, 1) := by decide +kernel
theorem dX12_mayCross_15 : decode cX12_mayCross 15 = .ok (.iand, 1) := by decide +kernel
theorem dX12_mayCross_16 : decode cX12_mayCross 16 = .ok (.goto 4, 3) := by decide +kernel
theorem dX12_mayCross_19 : decode cX12_mayCross 19 = .ok (.iload_n 1, 1) := by decide +kernel
theorem dX12_mayCross_20 : decode cX12_mayCross 20 = .ok (.istore 6, 2) := by decide +kernel
theorem dX12_mayCross_22 : decode cX12_mayCross 22 = .ok (.iload 5, 2) := by decide +kernel
theorem dX12_mayCross_24 : decode cX12_mayCross 24 = .ok (.iload 6, 2) := by decide +kernel
theorem dX12_mayCross_26 : decode cX12_mayCross 26 = .ok (.iconst (-1), 1) := by decide +kernel
theorem dX12_mayCross_27 : decode cX12_mayCross 27 = .ok (.ixor, 1) := by decide +kernel
theorem dX12_mayCross_28 : decode cX12_mayCross 28 = .ok (.iand, 1) := by decide +kernel
theorem dX12_mayCross_29 : decode cX12_mayCross 29 = .ok (.istore 7, 2) := by decide +kernel
theorem dX12_mayCross_31 : decode cX12_mayCross 31 = .ok (.iload_n 3, 1) := by decide +kernel
theorem dX12_mayCross_32 : decode cX12_mayCross 32 = .ok (.iload 6, 2) := by decide +kernel
theorem dX12_mayCross_34 : decode cX12_mayCross 34 = .ok (.iconst (-1), 1) := by decide +kernel
theorem dX12_mayCross_35 : decode cX12_mayCross 35 = .ok (.ixor, 1) := by decide +kernel
theorem dX12_mayCross_36 : decode cX12_mayCross 36 = .ok (.iand, 1) := by decide +kernel
theorem dX12_mayCross_37 : decode cX12_mayCross 37 = .ok (.ifCond .ne 13, 3) := by decide +kernel
theorem dX12_mayCross_40 : decode cX12_mayCross 40 = .ok (.iload 4, 2) := by decide +kernel
theorem dX12_mayCross_42 : decode cX12_mayCross 42 = .ok (.iload 7, 2) := by decide +kernel
theorem dX12_mayCross_44 : decode cX12_mayCross 44 = .ok (.iconst (-1), 1) := by decide +kernel
theorem dX12_mayCross_45 : decode cX12_mayCross 45 = .ok (.ixor, 1) := by decide +kernel
theorem dX12_mayCross_46 : decode cX12_mayCross 46 = .ok (.iand, 1) := by decide +kernel
theorem dX12_mayCross_47 : decode cX12_mayCross 47 = .ok (.ifCond .eq 5, 3) := by decide +kernel
theorem dX12_mayCross_50 : decode cX12_mayCross 50 = .ok (.iconst 0, 1) := by decide +kernel
theorem dX12_mayCross_51 : decode cX12_mayCross 51 = .ok (.ireturn, 1) := by decide +kernel
theorem dX12_mayCross_52 : decode cX12_mayCross 52 = .ok (.aload_n 0, 1) := by decide +kernel
theorem dX12_mayCross_53 : decode cX12_mayCross 53 = .ok (.iload_n 3, 1) := by decide +kernel
theorem dX12_mayCross_54 : decode cX12_mayCross 54 = .ok (.invokevirtual 211, 3) := by decide +kernel
theorem dX12_mayCross_57 : decode cX12_mayCross 57 = .ok (.istore 8, 2) := by decide +kernel
theorem dX12_mayCross_59 : decode cX12_mayCross 59 = .ok (.aload_n 0, 1) := by decide +kernel
theorem dX12_mayCross_60 : decode cX12_mayCross 60 = .ok (.iload 8, 2) := by decide +kernel
theorem dX12_mayCross_62 : decode cX12_mayCross 62 = .ok (.invokevirtual 214, 3) := by decide +kernel
theorem dX12_mayCross_65 : decode cX12_mayCross 65 = .ok (.istore 9, 2) := by decide +kernel
theorem dX12_mayCross_67 : decode cX12_mayCross 67 = .ok (.aload_n 0, 1) := by decide +kernel
theorem dX12_mayCross_68 : decode cX12_mayCross 68 = .ok (.iload 4, 2) := by decide +kernel
theorem dX12_mayCross_70 : decode cX12_mayCross 70 = .ok (.invokevirtual 217, 3) := by decide +kernel
theorem dX12_mayCross_73 : decode cX12_mayCross 73 = .ok (.istore 10, 2) := by decide +kernel
theorem dX12_mayCross_75 : decode cX12_mayCross 75 = .ok (.iload 8, 2) := by decide +kernel
theorem dX12_mayCross_77 : decode cX12_mayCross 77 = .ok (.aload_n 0, 1) := by decide +kernel
theorem dX12_mayCross_78 : decode cX12_mayCross 78 = .ok (.getfield 7, 3) := by decide +kernel
theorem dX12_mayCross_81 : decode cX12_mayCross 81 = .ok (.iconst 5, 1) := by decide +kernel
