theorem dX0_init_0 : decode cX0_init 0 = .ok (.aload_n 0, 1) := by decide +kernel
theorem dX0_init_1 : decode cX0_init 1 = .ok (.invokespecial 3, 3) := by decide +kernel
theorem dX0_init_4 : decode cX0_init 4 = .ok (.aload_n 0, 1) := by decide +kernel
theorem dX0_init_5 : decode cX0_init 5 = .ok (.iconst 0, 1) := by decide +kernel
theorem dX0_init_6 : decode cX0_init 6 = .ok (.putfield 9, 3) := by decide +kernel
theorem dX0_init_9 : decode cX0_init 9 = .ok (.aload_n 0, 1) := by decide +kernel
theorem dX0_init_10 : decode cX0_init 10 = .ok (.iconst 0, 1) := by decide +kernel
theorem dX0_init_11 : decode cX0_init 11 = .ok (.putfield 15, 3) := by decide +kernel
theorem dX0_init_14 : decode cX0_init 14 = .ok (.aload_n 0, 1) := by decide +kernel
theorem dX0_init_15 : decode cX0_init 15 = .ok (.iconst 0, 1) := by decide +kernel
theorem dX0_init_16 : decode cX0_init 16 = .ok (.putfield 18, 3) := by decide +kernel
theorem dX0_init_19 : decode cX0_init 19 = .ok (.aload_n 0, 1) := by decide +kernel
theorem dX0_init_20 : decode cX0_init 20 = .ok (.iconst 0, 1) := by decide +kernel
theorem dX0_init_21 : decode cX0_init 21 = .ok (.putfield 21, 3) := by decide +kernel
theorem dX0_init_24 : decode cX0_init 24 = .ok (.aload_n 0, 1) := by decide +kernel
theorem dX0_init_25 : decode cX0_init 25 = .ok (.iconst 0, 1) := by decide +kernel
theorem dX0_init_26 : decode cX0_init 26 = .ok (.putfield 24, 3) := by decide +kernel
theorem dX0_init_29 : decode cX0_init 29 = .ok (.aload_n 0, 1) := by decide +kernel
theorem dX0_init_30 : decode cX0_init 30 = .ok (.bipush 10, 2) := by decide +kernel
theorem dX0_init_32 : decode cX0_init 32 = .ok (.newarray .int, 2) := by decide +kernel
theorem dX0_init_34 : decode cX0_init 34 = .ok (.putfield 27, 3) := by decide +kernel
theorem dX0_init_37 : decode cX0_init 37 = .ok (.aload_n 0, 1) := by decide +kernel
theorem dX0_init_38 : decode cX0_init 38 = .ok (.bipush 10, 2) := by decide +kernel
theorem dX0_init_40 : decode cX0_init 40 = .ok (.bipush 10, 2) := by decide +kernel
theorem dX0_init_42 : decode cX0_init 42 = .ok (.multianewarray 31 2, 4) := by decide +kernel
theorem dX0_init_46 : decode cX0_init 46 = .ok (.putfield 33, 3) := by decide +kernel
theorem dX0_init_49 : decode cX0_init 49 = .ok (.aload_n 0, 1) := by decide +kernel
theorem dX0_init_50 : decode cX0_init 50 = .ok (.bipush 10, 2) := by decide +kernel
theorem dX0_init_52 : decode cX0_init 52 = .ok (.newarray .int, 2) := by decide +kernel
theorem dX0_init_54 : decode cX0_init 54 = .ok (.putfield 36, 3) := by decide +kernel
theorem dX0_init_57 : decode cX0_init 57 = .ok (.return_, 1) := by decide +kernel
theorem dX0_copyFrom_0 : decode cX0_copyFrom 0 = .ok (.aload_n 0, 1) := by decide +kernel
theorem dX0_copyFrom_1 : decode cX0_copyFrom 1 = .ok (.aload_n 1, 1) := by decide +kernel
theorem dX0_copyFrom_2 : decode cX0_copyFrom 2 = .ok (.getfield 9, 3) := by decide +kernel
theorem dX0_copyFrom_5 : decode cX0_copyFrom 5 = .ok (.putfield 9, 3) := by decide +kernel
theorem dX0_copyFrom_8 : decode cX0_copyFrom 8 = .ok (.aload_n 0, 1) := by decide +kernel
theorem dX0_copyFrom_9 : decode cX0_copyFrom 9 = .ok (.aload_n 1, 1) := by decide +kernel
theorem dX0_copyFrom_10 : decode cX0_copyFrom 10 = .ok (.getfield 15, 3) := by decide +kernel
theorem dX0_copyFrom_13 : decode cX0_copyFrom 13 = .ok (.putfield 15, 3) := by decide +kernel
theorem dX0_copyFrom_16 : decode cX0_copyFrom 16 = .ok (.aload_n 0, 1) := by decide +kernel
theorem dX0_copyFrom_17 : decode cX0_copyFrom 17 = .ok (.aload_n 1, 1) := by decide +kernel
theorem dX0_copyFrom_18 : decode cX0_copyFrom 18 = .ok (.getfield 18, 3) := by decide +kernel
theorem dX0_copyFrom_21 : decode cX0_copyFrom 21 = .ok (.putfield 18, 3) := by decide +kernel
theorem dX0_copyFrom_24 : decode cX0_copyFrom 24 = .ok (.aload_n 0, 1) := by decide +kernel
theorem dX0_copyFrom_25 : decode cX0_copyFrom 25 = .ok (.aload_n 1, 1) := by decide +kernel
theorem dX0_copyFrom_26 : decode cX0_copyFrom 26 = .ok (.getfield 21, 3) := by decide +kernel
theorem dX0_copyFrom_29 : decode cX0_copyFrom 29 = .ok (.putfield 21, 3) := by decide +kernel
theorem dX0_copyFrom_32 : decode cX0_copyFrom 32 = .ok (.aload_n 0, 1) := by decide +kernel
theorem dX0_copyFrom_33 : decode cX0_copyFrom 33 = .ok (.aload_n 1, 1) := by decide +kernel
theorem dX0_copyFrom_34 : decode cX0_copyFrom 34 = .ok (.getfield 24, 3) := by decide +kernel
theorem dX0_copyFrom_37 : decode cX0_copyFrom 37 = .ok (.putfield 24, 3) := by decide +kernel
theorem dX0_copyFrom_40 : decode cX0_copyFrom 40 = .ok (.aload_n 1, 1) := by decide +kernel
theorem dX0_copyFrom_41 : decode cX0_copyFrom 41 = .ok (.getfield 27, 3) := by decide +kernel
theorem dX0_copyFrom_44 : decode cX0_copyFrom 44 = .ok (.iconst 0, 1) := by decide +kernel
theorem dX0_copyFrom_45 : decode cX0_copyFrom 45 = .ok (.aload_n 0, 1) := by decide +kernel
theorem dX0_copyFrom_46 : decode cX0_copyFrom 46 = .ok (.getfield 27, 3) := by decide +kernel
theorem dX0_copyFrom_49 : decode cX0_copyFrom 49 = .ok (.iconst 0, 1) := by decide +kernel
theorem dX0_copyFrom_50 : decode cX0_copyFrom 50 = .ok (.bipush 10, 2) := by decide +kernel
theorem dX0_copyFrom_52 : decode cX0_copyFrom 52 = .ok (.invokestatic 39, 3) := by decide +kernel
theorem dX0_copyFrom_55 : decode cX0_copyFrom 55 = .ok (.iconst 0, 1) := by decide +kernel
theorem dX0_copyFrom_56 : decode cX0_copyFrom 56 = .ok (.istore_n 2, 1) := by decide +kernel
theorem dX0_copyFrom_57 : decode cX0_copyFrom 57 = .ok (.iload_n 2, 1) := by decide +kernel
theorem dX0_copyFrom_58 : decode cX0_copyFrom 58 = .ok (.bipush 10, 2) := by decide +kernel
theorem dX0_copyFrom_60 : decode cX0_copyFrom 60 = .ok (.if_icmp .ge 28, 3) := by decide +kernel
theorem dX0_copyFrom_63 : decode cX0_copyFrom 63 = .ok (.aload_n 1, 1) := by decide +kernel
theorem dX0_copyFrom_64 : decode cX0_copyFrom 64 = .ok (.getfield 33, 3) := by decide +kernel
theorem dX0_copyFrom_67 : decode cX0_copyFrom 67 = .ok (.iload_n 2, 1) := by decide +kernel
theorem dX0_copyFrom_68 : decode cX0_copyFrom 68 = .ok (.aaload, 1) := by decide +kernel
theorem dX0_copyFrom_69 : decode cX0_copyFrom 69 = .ok (.iconst 0, 1) := by decide +kernel
theorem dX0_copyFrom_70 : decode cX0_copyFrom 70 = .ok (.aload_n 0, 1) := by decide +kernel
theorem dX0_copyFrom_71 : decode cX0_copyFrom 71 = .ok (.getfield 33, 3) := by decide +kernel
theorem dX0_copyFrom_74 : decode cX0_copyFrom 74 = .ok (.iload_n 2, 1) := by decide +kernel
theorem dX0_copyFrom_75 : decode cX0_copyFrom 75 = .ok (.aaload, 1) := by decide +kernel
theorem dX0_copyFrom_76 : decode cX0_copyFrom 76 = .ok (.iconst 0, 1) := by decide +kernel
theorem dX0_copyFrom_77 : decode cX0_copyFrom 77 = .ok (.bipush 10, 2) := by decide +kernel
theorem dX0_copyFrom_79 : decode cX0_copyFrom 79 = .ok (.invokestatic 39, 3) := by decide +kernel
theorem dX0_copyFrom_82 : decode cX0_copyFrom 82 = .ok (.iinc 2 1, 3) := by decide +kernel
theorem dX0_copyFrom_85 : decode cX0_copyFrom 85 = .ok (.goto (-28), 3) := by decide +kernel
theorem dX0_copyFrom_88 : decode cX0_copyFrom 88 = .ok (.return_, 1) := by decide +kernel
theorem dX0_state_0 : decode cX0_state 0 = .ok (.aload_n 0, 1) := by decide +kernel
theorem dX0_state_1 : decode cX0_state 1 = .ok (.getfield 9, 3) := by decide +kernel
theorem dX0_state_4 : decode cX0_state 4 = .ok (.iconst 1, 1) := by decide +kernel
theorem dX0_state_5 : decode cX0_state 5 = .ok (.ishl, 1) := by decide +kernel
theorem dX0_state_6 : decode cX0_state 6 = .ok (.aload_n 0, 1) := by decide +kernel
theorem dX0_state_7 : decode cX0_state 7 = .ok (.getfield 15, 3) := by decide +kernel
theorem dX0_state_10 : decode cX0_state 10 = .ok (.ior, 1) := by decide +kernel
theorem dX0_state_11 : decode cX0_state 11 = .ok (.ireturn, 1) := by decide +kernel
theorem dX0_hour_0 : decode cX0_hour 0 = .ok (.aload_n 0, 1) := by decide +kernel
theorem dX0_hour_1 : decode cX0_hour 1 = .ok (.getfield 18, 3) := by decide +kernel
theorem dX0_hour_4 : decode cX0_hour 4 = .ok (.bipush 60, 2) := by decide +kernel
theorem dX0_hour_6 : decode cX0_hour 6 = .ok (.idiv, 1) := by decide +kernel
theorem dX0_hour_7 : decode cX0_hour 7 = .ok (.bipush 24, 2) := by decide +kernel
theorem dX0_hour_9 : decode cX0_hour 9 = .ok (.invokestatic 47, 3) := by decide +kernel
theorem dX0_hour_12 : decode cX0_hour 12 = .ok (.ireturn, 1) := by decide +kernel
theorem dX0_forceOf_0 : decode cX0_forceOf 0 = .ok (.iconst 0, 1) := by decide +kernel
theorem dX0_forceOf_1 : decode cX0_forceOf 1 = .ok (.aload_n 2, 1) := by decide +kernel
theorem dX0_forceOf_2 : decode cX0_forceOf 2 = .ok (.getfield 53, 3) := by decide +kernel
theorem dX0_forceOf_5 : decode cX0_forceOf 5 = .ok (.iload_n 1, 1) := by decide +kernel
theorem dX0_forceOf_6 : decode cX0_forceOf 6 = .ok (.iaload, 1) := by decide +kernel
theorem dX0_forceOf_7 : decode cX0_forceOf 7 = .ok (.aload_n 0, 1) := by decide +kernel
theorem dX0_forceOf_8 : decode cX0_forceOf 8 = .ok (.getfield 27, 3) := by decide +kernel
theorem dX0_forceOf_11 : decode cX0_forceOf 11 = .ok (.iload_n 1, 1) := by decide +kernel
theorem dX0_forceOf_12 : decode cX0_forceOf 12 = .ok (.iaload, 1) := by decide +kernel
theorem dX0_forceOf_13 : decode cX0_forceOf 13 = .ok (.isub, 1) := by decide +kernel
theorem dX0_forceOf_14 : decode cX0_forceOf 14 = .ok (.invokestatic 56, 3) := by decide +kernel
theorem dX0_forceOf_17 : decode cX0_forceOf 17 = .ok (.ireturn, 1) := by decide +kernel
theorem dX0_noteCrossing_0 : decode cX0_noteCrossing 0 = .ok (.aload_n 0, 1) := by decide +kernel
theorem dX0_noteCrossing_1 : decode cX0_noteCrossing 1 = .ok (.dup, 1) := by decide +kernel
theorem dX0_noteCrossing_2 : decode cX0_noteCrossing 2 = .ok (.getfield 9, 3) := by decide +kernel
theorem dX0_noteCrossing_5 : decode cX0_noteCrossing 5 = .ok (.iload_n 1, 1) := by decide +kernel
theorem dX0_noteCrossing_6 : decode cX0_noteCrossing 6 = .ok (.ixor, 1) := by decide +kernel
theorem dX0_noteCrossing_7 : decode cX0_noteCrossing 7 = .ok (.putfield 9, 3) := by decide +kernel
theorem dX0_noteCrossing_10 : decode cX0_noteCrossing 10 = .ok (.aload_n 0, 1) := by decide +kernel
theorem dX0_noteCrossing_11 : decode cX0_noteCrossing 11 = .ok (.dup, 1) := by decide +kernel
theorem dX0_noteCrossing_12 : decode cX0_noteCrossing 12 = .ok (.getfield 15, 3) := by decide +kernel
theorem dX0_noteCrossing_15 : decode cX0_noteCrossing 15 = .ok (.iconst 1, 1) := by decide +kernel
theorem dX0_noteCrossing_16 : decode cX0_noteCrossing 16 = .ok (.ixor, 1) := by decide +kernel
theorem dX0_noteCrossing_17 : decode cX0_noteCrossing 17 = .ok (.putfield 15, 3) := by decide +kernel
theorem dX0_noteCrossing_20 : decode cX0_noteCrossing 20 = .ok (.aload_n 0, 1) := by decide +kernel
theorem dX0_noteCrossing_21 : decode cX0_noteCrossing 21 = .ok (.dup, 1) := by decide +kernel
theorem dX0_noteCrossing_22 : decode cX0_noteCrossing 22 = .ok (.getfield 21, 3) := by decide +kernel
theorem dX0_noteCrossing_25 : decode cX0_noteCrossing 25 = .ok (.iconst 1, 1) := by decide +kernel
theorem dX0_noteCrossing_26 : decode cX0_noteCrossing 26 = .ok (.iadd, 1) := by decide +kernel
theorem dX0_noteCrossing_27 : decode cX0_noteCrossing 27 = .ok (.putfield 21, 3) := by decide +kernel
theorem dX0_noteCrossing_30 : decode cX0_noteCrossing 30 = .ok (.iconst 0, 1) := by decide +kernel
theorem dX0_noteCrossing_31 : decode cX0_noteCrossing 31 = .ok (.istore 4, 2) := by decide +kernel
theorem dX0_noteCrossing_33 : decode cX0_noteCrossing 33 = .ok (.iload 4, 2) := by decide +kernel
theorem dX0_noteCrossing_35 : decode cX0_noteCrossing 35 = .ok (.bipush 10, 2) := by decide +kernel
theorem dX0_noteCrossing_37 : decode cX0_noteCrossing 37 = .ok (.if_icmp .ge 38, 3) := by decide +kernel
theorem dX0_noteCrossing_40 : decode cX0_noteCrossing 40 = .ok (.iload_n 2, 1) := by decide +kernel
theorem dX0_noteCrossing_41 : decode cX0_noteCrossing 41 = .ok (.iload 4, 2) := by decide +kernel
theorem dX0_noteCrossing_43 : decode cX0_noteCrossing 43 = .ok (.ishr, 1) := by decide +kernel
theorem dX0_noteCrossing_44 : decode cX0_noteCrossing 44 = .ok (.iconst 1, 1) := by decide +kernel
theorem dX0_noteCrossing_45 : decode cX0_noteCrossing 45 = .ok (.iand, 1) := by decide +kernel
theorem dX0_noteCrossing_46 : decode cX0_noteCrossing 46 = .ok (.ifCond .eq 23, 3) := by decide +kernel
theorem dX0_noteCrossing_49 : decode cX0_noteCrossing 49 = .ok (.aload_n 0, 1) := by decide +kernel
theorem dX0_noteCrossing_50 : decode cX0_noteCrossing 50 = .ok (.getfield 27, 3) := by decide +kernel
theorem dX0_noteCrossing_53 : decode cX0_noteCrossing 53 = .ok (.iload 4, 2) := by decide +kernel
theorem dX0_noteCrossing_55 : decode cX0_noteCrossing 55 = .ok (.dup2, 1) := by decide +kernel
theorem dX0_noteCrossing_56 : decode cX0_noteCrossing 56 = .ok (.iaload, 1) := by decide +kernel
theorem dX0_noteCrossing_57 : decode cX0_noteCrossing 57 = .ok (.iconst 1, 1) := by decide +kernel
theorem dX0_noteCrossing_58 : decode cX0_noteCrossing 58 = .ok (.iadd, 1) := by decide +kernel
theorem dX0_noteCrossing_59 : decode cX0_noteCrossing 59 = .ok (.iastore, 1) := by decide +kernel
theorem dX0_noteCrossing_60 : decode cX0_noteCrossing 60 = .ok (.aload_n 0, 1) := by decide +kernel
theorem dX0_noteCrossing_61 : decode cX0_noteCrossing 61 = .ok (.iload_n 1, 1) := by decide +kernel
theorem dX0_noteCrossing_62 : decode cX0_noteCrossing 62 = .ok (.iload_n 3, 1) := by decide +kernel
theorem dX0_noteCrossing_63 : decode cX0_noteCrossing 63 = .ok (.iand, 1) := by decide +kernel
theorem dX0_noteCrossing_64 : decode cX0_noteCrossing 64 = .ok (.iload 4, 2) := by decide +kernel
theorem dX0_noteCrossing_66 : decode cX0_noteCrossing 66 = .ok (.invokevirtual 59, 3) := by decide +kernel
theorem dX0_noteCrossing_69 : decode cX0_noteCrossing 69 = .ok (.iinc 4 1, 3) := by decide +kernel
theorem dX0_noteCrossing_72 : decode cX0_noteCrossing 72 = .ok (.goto (-39), 3) := by decide +kernel
theorem dX0_noteCrossing_75 : decode cX0_noteCrossing 75 = .ok (.return_, 1) := by decide +kernel
theorem dX0_notePulls_0 : decode cX0_notePulls 0 = .ok (.iconst 0, 1) := by decide +kernel
theorem dX0_notePulls_1 : decode cX0_notePulls 1 = .ok (.istore_n 3, 1) := by decide +kernel
theorem dX0_notePulls_2 : decode cX0_notePulls 2 = .ok (.iload_n 3, 1) := by decide +kernel
theorem dX0_notePulls_3 : decode cX0_notePulls 3 = .ok (.bipush 10, 2) := by decide +kernel
theorem dX0_notePulls_5 : decode cX0_notePulls 5 = .ok (.if_icmp .ge 25, 3) := by decide +kernel
theorem dX0_notePulls_8 : decode cX0_notePulls 8 = .ok (.aload_n 0, 1) := by decide +kernel
theorem dX0_notePulls_9 : decode cX0_notePulls 9 = .ok (.getfield 33, 3) := by decide +kernel
theorem dX0_notePulls_12 : decode cX0_notePulls 12 = .ok (.iload_n 3, 1) := by decide +kernel
theorem dX0_notePulls_13 : decode cX0_notePulls 13 = .ok (.aaload, 1) := by decide +kernel
theorem dX0_notePulls_14 : decode cX0_notePulls 14 = .ok (.iload_n 2, 1) := by decide +kernel
theorem dX0_notePulls_15 : decode cX0_notePulls 15 = .ok (.dup2, 1) := by decide +kernel
theorem dX0_notePulls_16 : decode cX0_notePulls 16 = .ok (.iaload, 1) := by decide +kernel
theorem dX0_notePulls_17 : decode cX0_notePulls 17 = .ok (.iload_n 1, 1) := by decide +kernel
theorem dX0_notePulls_18 : decode cX0_notePulls 18 = .ok (.iload_n 3, 1) := by decide +kernel
theorem dX0_notePulls_19 : decode cX0_notePulls 19 = .ok (.ishr, 1) := by decide +kernel
theorem dX0_notePulls_20 : decode cX0_notePulls 20 = .ok (.iconst 1, 1) := by decide +kernel
theorem dX0_notePulls_21 : decode cX0_notePulls 21 = .ok (.iand, 1) := by decide +kernel
theorem dX0_notePulls_22 : decode cX0_notePulls 22 = .ok (.iadd, 1) := by decide +kernel
theorem dX0_notePulls_23 : decode cX0_notePulls 23 = .ok (.iastore, 1) := by decide +kernel
theorem dX0_notePulls_24 : decode cX0_notePulls 24 = .ok (.iinc 3 1, 3) := by decide +kernel
theorem dX0_notePulls_27 : decode cX0_notePulls 27 = .ok (.goto (-25), 3) := by decide +kernel
theorem dX0_notePulls_30 : decode cX0_notePulls 30 = .ok (.return_, 1) := by decide +kernel
theorem dX0_noteSwim_0 : decode cX0_noteSwim 0 = .ok (.aload_n 0, 1) := by decide +kernel
theorem dX0_noteSwim_1 : decode cX0_noteSwim 1 = .ok (.dup, 1) := by decide +kernel
theorem dX0_noteSwim_2 : decode cX0_noteSwim 2 = .ok (.getfield 9, 3) := by decide +kernel
theorem dX0_noteSwim_5 : decode cX0_noteSwim 5 = .ok (.iconst 1, 1) := by decide +kernel
theorem dX0_noteSwim_6 : decode cX0_noteSwim 6 = .ok (.iload_n 1, 1) := by decide +kernel
theorem dX0_noteSwim_7 : decode cX0_noteSwim 7 = .ok (.ishl, 1) := by decide +kernel
theorem dX0_noteSwim_8 : decode cX0_noteSwim 8 = .ok (.ixor, 1) := by decide +kernel
theorem dX0_noteSwim_9 : decode cX0_noteSwim 9 = .ok (.putfield 9, 3) := by decide +kernel
theorem dX0_noteSwim_12 : decode cX0_noteSwim 12 = .ok (.aload_n 0, 1) := by decide +kernel
theorem dX0_noteSwim_13 : decode cX0_noteSwim 13 = .ok (.dup, 1) := by decide +kernel
theorem dX0_noteSwim_14 : decode cX0_noteSwim 14 = .ok (.getfield 24, 3) := by decide +kernel
theorem dX0_noteSwim_17 : decode cX0_noteSwim 17 = .ok (.iconst 1, 1) := by decide +kernel
theorem dX0_noteSwim_18 : decode cX0_noteSwim 18 = .ok (.iadd, 1) := by decide +kernel
theorem dX0_noteSwim_19 : decode cX0_noteSwim 19 = .ok (.putfield 24, 3) := by decide +kernel
theorem dX0_noteSwim_22 : decode cX0_noteSwim 22 = .ok (.aload_n 0, 1) := by decide +kernel
theorem dX0_noteSwim_23 : decode cX0_noteSwim 23 = .ok (.getfield 27, 3) := by decide +kernel
theorem dX0_noteSwim_26 : decode cX0_noteSwim 26 = .ok (.iload_n 1, 1) := by decide +kernel
theorem dX0_noteSwim_27 : decode cX0_noteSwim 27 = .ok (.dup2, 1) := by decide +kernel
theorem dX0_noteSwim_28 : decode cX0_noteSwim 28 = .ok (.iaload, 1) := by decide +kernel
theorem dX0_noteSwim_29 : decode cX0_noteSwim 29 = .ok (.iconst 2, 1) := by decide +kernel
theorem dX0_noteSwim_30 : decode cX0_noteSwim 30 = .ok (.iadd, 1) := by decide +kernel
theorem dX0_noteSwim_31 : decode cX0_noteSwim 31 = .ok (.iastore, 1) := by decide +kernel
theorem dX0_noteSwim_32 : decode cX0_noteSwim 32 = .ok (.return_, 1) := by decide +kernel
theorem dX0_passMinutes_0 : decode cX0_passMinutes 0 = .ok (.aload_n 0, 1) := by decide +kernel
theorem dX0_passMinutes_1 : decode cX0_passMinutes 1 = .ok (.getfield 18, 3) := by decide +kernel
theorem dX0_passMinutes_4 : decode cX0_passMinutes 4 = .ok (.iload_n 1, 1) := by decide +kernel
theorem dX0_passMinutes_5 : decode cX0_passMinutes 5 = .ok (.iadd, 1) := by decide +kernel
theorem dX0_passMinutes_6 : decode cX0_passMinutes 6 = .ok (.bipush 60, 2) := by decide +kernel
theorem dX0_passMinutes_8 : decode cX0_passMinutes 8 = .ok (.idiv, 1) := by decide +kernel
theorem dX0_passMinutes_9 : decode cX0_passMinutes 9 = .ok (.aload_n 0, 1) := by decide +kernel
theorem dX0_passMinutes_10 : decode cX0_passMinutes 10 = .ok (.getfield 18, 3) := by decide +kernel
theorem dX0_passMinutes_13 : decode cX0_passMinutes 13 = .ok (.bipush 60, 2) := by decide +kernel
theorem dX0_passMinutes_15 : decode cX0_passMinutes 15 = .ok (.idiv, 1) := by decide +kernel
theorem dX0_passMinutes_16 : decode cX0_passMinutes 16 = .ok (.isub, 1) := by decide +kernel
theorem dX0_passMinutes_17 : decode cX0_passMinutes 17 = .ok (.istore_n 2, 1) := by decide +kernel
theorem dX0_passMinutes_18 : decode cX0_passMinutes 18 = .ok (.aload_n 0, 1) := by decide +kernel
theorem dX0_passMinutes_19 : decode cX0_passMinutes 19 = .ok (.dup, 1) := by decide +kernel
theorem dX0_passMinutes_20 : decode cX0_passMinutes 20 = .ok (.getfield 18, 3) := by decide +kernel
theorem dX0_passMinutes_23 : decode cX0_passMinutes 23 = .ok (.iload_n 1, 1) := by decide +kernel
theorem dX0_passMinutes_24 : decode cX0_passMinutes 24 = .ok (.iadd, 1) := by decide +kernel
theorem dX0_passMinutes_25 : decode cX0_passMinutes 25 = .ok (.putfield 18, 3) := by decide +kernel
theorem dX0_passMinutes_28 : decode cX0_passMinutes 28 = .ok (.iconst 0, 1) := by decide +kernel
theorem dX0_passMinutes_29 : decode cX0_passMinutes 29 = .ok (.istore_n 3, 1) := by decide +kernel
theorem dX0_passMinutes_30 : decode cX0_passMinutes 30 = .ok (.iload_n 3, 1) := by decide +kernel
theorem dX0_passMinutes_31 : decode cX0_passMinutes 31 = .ok (.bipush 10, 2) := by decide +kernel
theorem dX0_passMinutes_33 : decode cX0_passMinutes 33 = .ok (.if_icmp .ge 27, 3) := by decide +kernel
theorem dX0_passMinutes_36 : decode cX0_passMinutes 36 = .ok (.aload_n 0, 1) := by decide +kernel
theorem dX0_passMinutes_37 : decode cX0_passMinutes 37 = .ok (.getfield 27, 3) := by decide +kernel
theorem dX0_passMinutes_40 : decode cX0_passMinutes 40 = .ok (.iload_n 3, 1) := by decide +kernel
theorem dX0_passMinutes_41 : decode cX0_passMinutes 41 = .ok (.iconst 0, 1) := by decide +kernel
theorem dX0_passMinutes_42 : decode cX0_passMinutes 42 = .ok (.aload_n 0, 1) := by decide +kernel
theorem dX0_passMinutes_43 : decode cX0_passMinutes 43 = .ok (.getfield 27, 3) := by decide +kernel
theorem dX0_passMinutes_46 : decode cX0_passMinutes 46 = .ok (.iload_n 3, 1) := by decide +kernel
theorem dX0_passMinutes_47 : decode cX0_passMinutes 47 = .ok (.iaload, 1) := by decide +kernel
theorem dX0_passMinutes_48 : decode cX0_passMinutes 48 = .ok (.iload_n 2, 1) := by decide +kernel
theorem dX0_passMinutes_49 : decode cX0_passMinutes 49 = .ok (.isub, 1) := by decide +kernel
theorem dX0_passMinutes_50 : decode cX0_passMinutes 50 = .ok (.invokestatic 56, 3) := by decide +kernel
theorem dX0_passMinutes_53 : decode cX0_passMinutes 53 = .ok (.iastore, 1) := by decide +kernel
theorem dX0_passMinutes_54 : decode cX0_passMinutes 54 = .ok (.iinc 3 1, 3) := by decide +kernel
theorem dX0_passMinutes_57 : decode cX0_passMinutes 57 = .ok (.goto (-27), 3) := by decide +kernel
theorem dX0_passMinutes_60 : decode cX0_passMinutes 60 = .ok (.return_, 1) := by decide +kernel
theorem dX0_balanceOf_0 : decode cX0_balanceOf 0 = .ok (.iconst 0, 1) := by decide +kernel
theorem dX0_balanceOf_1 : decode cX0_balanceOf 1 = .ok (.istore_n 2, 1) := by decide +kernel
theorem dX0_balanceOf_2 : decode cX0_balanceOf 2 = .ok (.iconst 0, 1) := by decide +kernel
theorem dX0_balanceOf_3 : decode cX0_balanceOf 3 = .ok (.istore_n 3, 1) := by decide +kernel
theorem dX0_balanceOf_4 : decode cX0_balanceOf 4 = .ok (.iload_n 3, 1) := by decide +kernel
theorem dX0_balanceOf_5 : decode cX0_balanceOf 5 = .ok (.bipush 10, 2) := by decide +kernel
theorem dX0_balanceOf_7 : decode cX0_balanceOf 7 = .ok (.if_icmp .ge 29, 3) := by decide +kernel
theorem dX0_balanceOf_10 : decode cX0_balanceOf 10 = .ok (.iload_n 2, 1) := by decide +kernel
theorem dX0_balanceOf_11 : decode cX0_balanceOf 11 = .ok (.aload_n 0, 1) := by decide +kernel
theorem dX0_balanceOf_12 : decode cX0_balanceOf 12 = .ok (.getfield 33, 3) := by decide +kernel
theorem dX0_balanceOf_15 : decode cX0_balanceOf 15 = .ok (.iload_n 3, 1) := by decide +kernel
theorem dX0_balanceOf_16 : decode cX0_balanceOf 16 = .ok (.aaload, 1) := by decide +kernel
theorem dX0_balanceOf_17 : decode cX0_balanceOf 17 = .ok (.iload_n 1, 1) := by decide +kernel
theorem dX0_balanceOf_18 : decode cX0_balanceOf 18 = .ok (.iaload, 1) := by decide +kernel
theorem dX0_balanceOf_19 : decode cX0_balanceOf 19 = .ok (.aload_n 0, 1) := by decide +kernel
theorem dX0_balanceOf_20 : decode cX0_balanceOf 20 = .ok (.getfield 33, 3) := by decide +kernel
theorem dX0_balanceOf_23 : decode cX0_balanceOf 23 = .ok (.iload_n 1, 1) := by decide +kernel
theorem dX0_balanceOf_24 : decode cX0_balanceOf 24 = .ok (.aaload, 1) := by decide +kernel
theorem dX0_balanceOf_25 : decode cX0_balanceOf 25 = .ok (.iload_n 3, 1) := by decide +kernel
theorem dX0_balanceOf_26 : decode cX0_balanceOf 26 = .ok (.iaload, 1) := by decide +kernel
theorem dX0_balanceOf_27 : decode cX0_balanceOf 27 = .ok (.isub, 1) := by decide +kernel
theorem dX0_balanceOf_28 : decode cX0_balanceOf 28 = .ok (.iadd, 1) := by decide +kernel
theorem dX0_balanceOf_29 : decode cX0_balanceOf 29 = .ok (.istore_n 2, 1) := by decide +kernel
theorem dX0_balanceOf_30 : decode cX0_balanceOf 30 = .ok (.iinc 3 1, 3) := by decide +kernel
theorem dX0_balanceOf_33 : decode cX0_balanceOf 33 = .ok (.goto (-29), 3) := by decide +kernel
theorem dX0_balanceOf_36 : decode cX0_balanceOf 36 = .ok (.iload_n 2, 1) := by decide +kernel
theorem dX0_balanceOf_37 : decode cX0_balanceOf 37 = .ok (.ireturn, 1) := by decide +kernel
theorem dX0_payment_0 : decode cX0_payment 0 = .ok (.iconst 0, 1) := by decide +kernel
theorem dX0_payment_1 : decode cX0_payment 1 = .ok (.istore_n 2, 1) := by decide +kernel
theorem dX0_payment_2 : decode cX0_payment 2 = .ok (.iload_n 2, 1) := by decide +kernel
theorem dX0_payment_3 : decode cX0_payment 3 = .ok (.bipush 10, 2) := by decide +kernel
theorem dX0_payment_5 : decode cX0_payment 5 = .ok (.if_icmp .ge 20, 3) := by decide +kernel
theorem dX0_payment_8 : decode cX0_payment 8 = .ok (.aload_n 0, 1) := by decide +kernel
theorem dX0_payment_9 : decode cX0_payment 9 = .ok (.getfield 36, 3) := by decide +kernel
theorem dX0_payment_12 : decode cX0_payment 12 = .ok (.iload_n 2, 1) := by decide +kernel
theorem dX0_payment_13 : decode cX0_payment 13 = .ok (.aload_n 0, 1) := by decide +kernel
theorem dX0_payment_14 : decode cX0_payment 14 = .ok (.iload_n 2, 1) := by decide +kernel
theorem dX0_payment_15 : decode cX0_payment 15 = .ok (.invokevirtual 63, 3) := by decide +kernel
theorem dX0_payment_18 : decode cX0_payment 18 = .ok (.iastore, 1) := by decide +kernel
theorem dX0_payment_19 : decode cX0_payment 19 = .ok (.iinc 2 1, 3) := by decide +kernel
theorem dX0_payment_22 : decode cX0_payment 22 = .ok (.goto (-20), 3) := by decide +kernel
theorem dX0_payment_25 : decode cX0_payment 25 = .ok (.iconst 0, 1) := by decide +kernel
theorem dX0_payment_26 : decode cX0_payment 26 = .ok (.istore_n 2, 1) := by decide +kernel
theorem dX0_payment_27 : decode cX0_payment 27 = .ok (.iconst 0, 1) := by decide +kernel
theorem dX0_payment_28 : decode cX0_payment 28 = .ok (.istore_n 3, 1) := by decide +kernel
theorem dX0_payment_29 : decode cX0_payment 29 = .ok (.iload_n 3, 1) := by decide +kernel
theorem dX0_payment_30 : decode cX0_payment 30 = .ok (.bipush 10, 2) := by decide +kernel
theorem dX0_payment_32 : decode cX0_payment 32 = .ok (.if_icmp .ge 100, 3) := by decide +kernel
theorem dX0_payment_35 : decode cX0_payment 35 = .ok (.aload_n 0, 1) := by decide +kernel
theorem dX0_payment_36 : decode cX0_payment 36 = .ok (.invokevirtual 67, 3) := by decide +kernel
theorem dX0_payment_39 : decode cX0_payment 39 = .ok (.istore 4, 2) := by decide +kernel
theorem dX0_payment_41 : decode cX0_payment 41 = .ok (.aload_n 0, 1) := by decide +kernel
theorem dX0_payment_42 : decode cX0_payment 42 = .ok (.invokevirtual 71, 3) := by decide +kernel
theorem dX0_payment_45 : decode cX0_payment 45 = .ok (.istore 5, 2) := by decide +kernel
theorem dX0_payment_47 : decode cX0_payment 47 = .ok (.aload_n 0, 1) := by decide +kernel
theorem dX0_payment_48 : decode cX0_payment 48 = .ok (.getfield 36, 3) := by decide +kernel
theorem dX0_payment_51 : decode cX0_payment 51 = .ok (.iload 4, 2) := by decide +kernel
theorem dX0_payment_53 : decode cX0_payment 53 = .ok (.iaload, 1) := by decide +kernel
theorem dX0_payment_54 : decode cX0_payment 54 = .ok (.aload_n 0, 1) := by decide +kernel
theorem dX0_payment_55 : decode cX0_payment 55 = .ok (.getfield 36, 3) := by decide +kernel
theorem dX0_payment_58 : decode cX0_payment 58 = .ok (.iload 5, 2) := by decide +kernel
theorem dX0_payment_60 : decode cX0_payment 60 = .ok (.iaload, 1) := by decide +kernel
theorem dX0_payment_61 : decode cX0_payment 61 = .ok (.ineg, 1) := by decide +kernel
theorem dX0_payment_62 : decode cX0_payment 62 = .ok (.invokestatic 74, 3) := by decide +kernel
theorem dX0_payment_65 : decode cX0_payment 65 = .ok (.istore 6, 2) := by decide +kernel
theorem dX0_payment_67 : decode cX0_payment 67 = .ok (.iload 6, 2) := by decide +kernel
theorem dX0_payment_69 : decode cX0_payment 69 = .ok (.ifCond .gt 6, 3) := by decide +kernel
theorem dX0_payment_72 : decode cX0_payment 72 = .ok (.goto 60, 3) := by decide +kernel
theorem dX0_payment_75 : decode cX0_payment 75 = .ok (.iload_n 2, 1) := by decide +kernel
theorem dX0_payment_76 : decode cX0_payment 76 = .ok (.iload_n 1, 1) := by decide +kernel
theorem dX0_payment_77 : decode cX0_payment 77 = .ok (.if_icmp .ne 22, 3) := by decide +kernel
theorem dX0_payment_80 : decode cX0_payment 80 = .ok (.sipush 10000, 3) := by decide +kernel
theorem dX0_payment_83 : decode cX0_payment 83 = .ok (.iload 5, 2) := by decide +kernel
theorem dX0_payment_85 : decode cX0_payment 85 = .ok (.imul, 1) := by decide +kernel
theorem dX0_payment_86 : decode cX0_payment 86 = .ok (.bipush 100, 2) := by decide +kernel
theorem dX0_payment_88 : decode cX0_payment 88 = .ok (.iload 4, 2) := by decide +kernel
theorem dX0_payment_90 : decode cX0_payment 90 = .ok (.imul, 1) := by decide +kernel
theorem dX0_payment_91 : decode cX0_payment 91 = .ok (.iadd, 1) := by decide +kernel
theorem dX0_payment_92 : decode cX0_payment 92 = .ok (.iload 6, 2) := by decide +kernel
theorem dX0_payment_94 : decode cX0_payment 94 = .ok (.bipush 100, 2) := by decide +kernel
theorem dX0_payment_96 : decode cX0_payment 96 = .ok (.irem, 1) := by decide +kernel
theorem dX0_payment_97 : decode cX0_payment 97 = .ok (.iadd, 1) := by decide +kernel
theorem dX0_payment_98 : decode cX0_payment 98 = .ok (.ireturn, 1) := by decide +kernel
theorem dX0_payment_99 : decode cX0_payment 99 = .ok (.aload_n 0, 1) := by decide +kernel
theorem dX0_payment_100 : decode cX0_payment 100 = .ok (.getfield 36, 3) := by decide +kernel
theorem dX0_payment_103 : decode cX0_payment 103 = .ok (.iload 4, 2) := by decide +kernel
theorem dX0_payment_105 : decode cX0_payment 105 = .ok (.dup2, 1) := by decide +kernel
theorem dX0_payment_106 : decode cX0_payment 106 = .ok (.iaload, 1) := by decide +kernel
theorem dX0_payment_107 : decode cX0_payment 107 = .ok (.iload 6, 2) := by decide +kernel
theorem dX0_payment_109 : decode cX0_payment 109 = .ok (.isub, 1) := by decide +kernel
theorem dX0_payment_110 : decode cX0_payment 110 = .ok (.iastore, 1) := by decide +kernel
theorem dX0_payment_111 : decode cX0_payment 111 = .ok (.aload_n 0, 1) := by decide +kernel
theorem dX0_payment_112 : decode cX0_payment 112 = .ok (.getfield 36, 3) := by decide +kernel
theorem dX0_payment_115 : decode cX0_payment 115 = .ok (.iload 5, 2) := by decide +kernel
theorem dX0_payment_117 : decode cX0_payment 117 = .ok (.dup2, 1) := by decide +kernel
theorem dX0_payment_118 : decode cX0_payment 118 = .ok (.iaload, 1) := by decide +kernel
theorem dX0_payment_119 : decode cX0_payment 119 = .ok (.iload 6, 2) := by decide +kernel
theorem dX0_payment_121 : decode cX0_payment 121 = .ok (.iadd, 1) := by decide +kernel
theorem dX0_payment_122 : decode cX0_payment 122 = .ok (.iastore, 1) := by decide +kernel
theorem dX0_payment_123 : decode cX0_payment 123 = .ok (.iinc 2 1, 3) := by decide +kernel
theorem dX0_payment_126 : decode cX0_payment 126 = .ok (.iinc 3 1, 3) := by decide +kernel
theorem dX0_payment_129 : decode cX0_payment 129 = .ok (.goto (-100), 3) := by decide +kernel
theorem dX0_payment_132 : decode cX0_payment 132 = .ok (.iload_n 1, 1) := by decide +kernel
theorem dX0_payment_133 : decode cX0_payment 133 = .ok (.iconst (-1), 1) := by decide +kernel
theorem dX0_payment_134 : decode cX0_payment 134 = .ok (.if_icmp .ne 7, 3) := by decide +kernel
theorem dX0_payment_137 : decode cX0_payment 137 = .ok (.iload_n 2, 1) := by decide +kernel
theorem dX0_payment_138 : decode cX0_payment 138 = .ok (.goto 4, 3) := by decide +kernel
theorem dX0_payment_141 : decode cX0_payment 141 = .ok (.iconst (-1), 1) := by decide +kernel
theorem dX0_payment_142 : decode cX0_payment 142 = .ok (.ireturn, 1) := by decide +kernel
theorem dX0_greatest_0 : decode cX0_greatest 0 = .ok (.iconst 0, 1) := by decide +kernel
theorem dX0_greatest_1 : decode cX0_greatest 1 = .ok (.istore_n 1, 1) := by decide +kernel
theorem dX0_greatest_2 : decode cX0_greatest 2 = .ok (.iconst 1, 1) := by decide +kernel
theorem dX0_greatest_3 : decode cX0_greatest 3 = .ok (.istore_n 2, 1) := by decide +kernel
theorem dX0_greatest_4 : decode cX0_greatest 4 = .ok (.iload_n 2, 1) := by decide +kernel
theorem dX0_greatest_5 : decode cX0_greatest 5 = .ok (.bipush 10, 2) := by decide +kernel
theorem dX0_greatest_7 : decode cX0_greatest 7 = .ok (.if_icmp .ge 26, 3) := by decide +kernel
theorem dX0_greatest_10 : decode cX0_greatest 10 = .ok (.aload_n 0, 1) := by decide +kernel
theorem dX0_greatest_11 : decode cX0_greatest 11 = .ok (.getfield 36, 3) := by decide +kernel
theorem dX0_greatest_14 : decode cX0_greatest 14 = .ok (.iload_n 2, 1) := by decide +kernel
theorem dX0_greatest_15 : decode cX0_greatest 15 = .ok (.iaload, 1) := by decide +kernel
theorem dX0_greatest_16 : decode cX0_greatest 16 = .ok (.aload_n 0, 1) := by decide +kernel
theorem dX0_greatest_17 : decode cX0_greatest 17 = .ok (.getfield 36, 3) := by decide +kernel
theorem dX0_greatest_20 : decode cX0_greatest 20 = .ok (.iload_n 1, 1) := by decide +kernel
theorem dX0_greatest_21 : decode cX0_greatest 21 = .ok (.iaload, 1) := by decide +kernel
theorem dX0_greatest_22 : decode cX0_greatest 22 = .ok (.if_icmp .le 5, 3) := by decide +kernel
theorem dX0_greatest_25 : decode cX0_greatest 25 = .ok (.iload_n 2, 1) := by decide +kernel
theorem dX0_greatest_26 : decode cX0_greatest 26 = .ok (.istore_n 1, 1) := by decide +kernel
theorem dX0_greatest_27 : decode cX0_greatest 27 = .ok (.iinc 2 1, 3) := by decide +kernel
theorem dX0_greatest_30 : decode cX0_greatest 30 = .ok (.goto (-26), 3) := by decide +kernel
theorem dX0_greatest_33 : decode cX0_greatest 33 = .ok (.iload_n 1, 1) := by decide +kernel
theorem dX0_greatest_34 : decode cX0_greatest 34 = .ok (.ireturn, 1) := by decide +kernel
theorem dX0_least_0 : decode cX0_least 0 = .ok (.iconst 0, 1) := by decide +kernel
theorem dX0_least_1 : decode cX0_least 1 = .ok (.istore_n 1, 1) := by decide +kernel
theorem dX0_least_2 : decode cX0_least 2 = .ok (.iconst 1, 1) := by decide +kernel
theorem dX0_least_3 : decode cX0_least 3 = .ok (.istore_n 2, 1) := by decide +kernel
theorem dX0_least_4 : decode cX0_least 4 = .ok (.iload_n 2, 1) := by decide +kernel
theorem dX0_least_5 : decode cX0_least 5 = .ok (.bipush 10, 2) := by decide +kernel
theorem dX0_least_7 : decode cX0_least 7 = .ok (.if_icmp .ge 26, 3) := by decide +kernel
theorem dX0_least_10 : decode cX0_least 10 = .ok (.aload_n 0, 1) := by decide +kernel
theorem dX0_least_11 : decode cX0_least 11 = .ok (.getfield 36, 3) := by decide +kernel
theorem dX0_least_14 : decode cX0_least 14 = .ok (.iload_n 2, 1) := by decide +kernel
theorem dX0_least_15 : decode cX0_least 15 = .ok (.iaload, 1) := by decide +kernel
theorem dX0_least_16 : decode cX0_least 16 = .ok (.aload_n 0, 1) := by decide +kernel
theorem dX0_least_17 : decode cX0_least 17 = .ok (.getfield 36, 3) := by decide +kernel
theorem dX0_least_20 : decode cX0_least 20 = .ok (.iload_n 1, 1) := by decide +kernel
theorem dX0_least_21 : decode cX0_least 21 = .ok (.iaload, 1) := by decide +kernel
theorem dX0_least_22 : decode cX0_least 22 = .ok (.if_icmp .ge 5, 3) := by decide +kernel
theorem dX0_least_25 : decode cX0_least 25 = .ok (.iload_n 2, 1) := by decide +kernel
theorem dX0_least_26 : decode cX0_least 26 = .ok (.istore_n 1, 1) := by decide +kernel
theorem dX0_least_27 : decode cX0_least 27 = .ok (.iinc 2 1, 3) := by decide +kernel
theorem dX0_least_30 : decode cX0_least 30 = .ok (.goto (-26), 3) := by decide +kernel
theorem dX0_least_33 : decode cX0_least 33 = .ok (.iload_n 1, 1) := by decide +kernel
theorem dX0_least_34 : decode cX0_least 34 = .ok (.ireturn, 1) := by decide +kernel
theorem dX1_init_0 : decode cX1_init 0 = .ok (.aload_n 0, 1) := by decide +kernel
theorem dX1_init_1 : decode cX1_init 1 = .ok (.invokespecial 3, 3) := by decide +kernel
theorem dX1_init_4 : decode cX1_init 4 = .ok (.aload_n 0, 1) := by decide +kernel
theorem dX1_init_5 : decode cX1_init 5 = .ok (.bipush 40, 2) := by decide +kernel
theorem dX1_init_7 : decode cX1_init 7 = .ok (.newarray .int, 2) := by decide +kernel
theorem dX1_init_9 : decode cX1_init 9 = .ok (.putfield 11, 3) := by decide +kernel
theorem dX1_init_12 : decode cX1_init 12 = .ok (.aload_n 0, 1) := by decide +kernel
theorem dX1_init_13 : decode cX1_init 13 = .ok (.bipush 40, 2) := by decide +kernel
theorem dX1_init_15 : decode cX1_init 15 = .ok (.newarray .int, 2) := by decide +kernel
theorem dX1_init_17 : decode cX1_init 17 = .ok (.putfield 15, 3) := by decide +kernel
theorem dX1_init_20 : decode cX1_init 20 = .ok (.aload_n 0, 1) := by decide +kernel
theorem dX1_init_21 : decode cX1_init 21 = .ok (.bipush 40, 2) := by decide +kernel
theorem dX1_init_23 : decode cX1_init 23 = .ok (.newarray .int, 2) := by decide +kernel
theorem dX1_init_25 : decode cX1_init 25 = .ok (.putfield 18, 3) := by decide +kernel
theorem dX1_init_28 : decode cX1_init 28 = .ok (.aload_n 0, 1) := by decide +kernel
theorem dX1_init_29 : decode cX1_init 29 = .ok (.bipush 40, 2) := by decide +kernel
theorem dX1_init_31 : decode cX1_init 31 = .ok (.newarray .boolean, 2) := by decide +kernel
theorem dX1_init_33 : decode cX1_init 33 = .ok (.putfield 21, 3) := by decide +kernel
theorem dX1_init_36 : decode cX1_init 36 = .ok (.aload_n 0, 1) := by decide +kernel
theorem dX1_init_37 : decode cX1_init 37 = .ok (.bipush 40, 2) := by decide +kernel
theorem dX1_init_39 : decode cX1_init 39 = .ok (.newarray .boolean, 2) := by decide +kernel
theorem dX1_init_41 : decode cX1_init 41 = .ok (.putfield 25, 3) := by decide +kernel
theorem dX1_init_44 : decode cX1_init 44 = .ok (.aload_n 0, 1) := by decide +kernel
theorem dX1_init_45 : decode cX1_init 45 = .ok (.iconst 0, 1) := by decide +kernel
theorem dX1_init_46 : decode cX1_init 46 = .ok (.putfield 28, 3) := by decide +kernel
theorem dX1_init_49 : decode cX1_init 49 = .ok (.aload_n 0, 1) := by decide +kernel
theorem dX1_init_50 : decode cX1_init 50 = .ok (.iconst 0, 1) := by decide +kernel
theorem dX1_init_51 : decode cX1_init 51 = .ok (.putfield 32, 3) := by decide +kernel
theorem dX1_init_54 : decode cX1_init 54 = .ok (.aload_n 0, 1) := by decide +kernel
theorem dX1_init_55 : decode cX1_init 55 = .ok (.iconst 0, 1) := by decide +kernel
theorem dX1_init_56 : decode cX1_init 56 = .ok (.putfield 35, 3) := by decide +kernel
theorem dX1_init_59 : decode cX1_init 59 = .ok (.aload_n 0, 1) := by decide +kernel
theorem dX1_init_60 : decode cX1_init 60 = .ok (.iconst 0, 1) := by decide +kernel
theorem dX1_init_61 : decode cX1_init 61 = .ok (.putfield 38, 3) := by decide +kernel
theorem dX1_init_64 : decode cX1_init 64 = .ok (.aload_n 0, 1) := by decide +kernel
theorem dX1_init_65 : decode cX1_init 65 = .ok (.iconst 0, 1) := by decide +kernel
theorem dX1_init_66 : decode cX1_init 66 = .ok (.putfield 41, 3) := by decide +kernel
theorem dX1_init_69 : decode cX1_init 69 = .ok (.aload_n 0, 1) := by decide +kernel
theorem dX1_init_70 : decode cX1_init 70 = .ok (.iconst 0, 1) := by decide +kernel
theorem dX1_init_71 : decode cX1_init 71 = .ok (.putfield 44, 3) := by decide +kernel
theorem dX1_init_74 : decode cX1_init 74 = .ok (.aload_n 0, 1) := by decide +kernel
theorem dX1_init_75 : decode cX1_init 75 = .ok (.iconst 0, 1) := by decide +kernel
theorem dX1_init_76 : decode cX1_init 76 = .ok (.putfield 47, 3) := by decide +kernel
theorem dX1_init_79 : decode cX1_init 79 = .ok (.aload_n 0, 1) := by decide +kernel
theorem dX1_init_80 : decode cX1_init 80 = .ok (.aload_n 1, 1) := by decide +kernel
theorem dX1_init_81 : decode cX1_init 81 = .ok (.putfield 50, 3) := by decide +kernel
theorem dX1_init_84 : decode cX1_init 84 = .ok (.aload_n 0, 1) := by decide +kernel
theorem dX1_init_85 : decode cX1_init 85 = .ok (.aload_n 2, 1) := by decide +kernel
theorem dX1_init_86 : decode cX1_init 86 = .ok (.putfield 54, 3) := by decide +kernel
theorem dX1_init_89 : decode cX1_init 89 = .ok (.return_, 1) := by decide +kernel
theorem dX1_hold_0 : decode cX1_hold 0 = .ok (.aload_n 0, 1) := by decide +kernel
theorem dX1_hold_1 : decode cX1_hold 1 = .ok (.iload_n 1, 1) := by decide +kernel
theorem dX1_hold_2 : decode cX1_hold 2 = .ok (.invokevirtual 58, 3) := by decide +kernel
theorem dX1_hold_5 : decode cX1_hold 5 = .ok (.iconst 0, 1) := by decide +kernel
theorem dX1_hold_6 : decode cX1_hold 6 = .ok (.istore 5, 2) := by decide +kernel
theorem dX1_hold_8 : decode cX1_hold 8 = .ok (.iconst 0, 1) := by decide +kernel
theorem dX1_hold_9 : decode cX1_hold 9 = .ok (.istore 6, 2) := by decide +kernel
theorem dX1_hold_11 : decode cX1_hold 11 = .ok (.iload 6, 2) := by decide +kernel
theorem dX1_hold_13 : decode cX1_hold 13 = .ok (.iload_n 2, 1) := by decide +kernel
theorem dX1_hold_14 : decode cX1_hold 14 = .ok (.if_icmp .ge 65, 3) := by decide +kernel
theorem dX1_hold_17 : decode cX1_hold 17 = .ok (.aload_n 0, 1) := by decide +kernel
theorem dX1_hold_18 : decode cX1_hold 18 = .ok (.invokevirtual 62, 3) := by decide +kernel
theorem dX1_hold_21 : decode cX1_hold 21 = .ok (.bipush 100, 2) := by decide +kernel
theorem dX1_hold_23 : decode cX1_hold 23 = .ok (.irem, 1) := by decide +kernel
theorem dX1_hold_24 : decode cX1_hold 24 = .ok (.iload_n 3, 1) := by decide +kernel
theorem dX1_hold_25 : decode cX1_hold 25 = .ok (.if_icmp .ge 21, 3) := by decide +kernel
theorem dX1_hold_28 : decode cX1_hold 28 = .ok (.aload_n 0, 1) := by decide +kernel
theorem dX1_hold_29 : decode cX1_hold 29 = .ok (.iload 6, 2) := by decide +kernel
theorem dX1_hold_31 : decode cX1_hold 31 = .ok (.bipush 10, 2) := by decide +kernel
theorem dX1_hold_33 : decode cX1_hold 33 = .ok (.aload_n 0, 1) := by decide +kernel
theorem dX1_hold_34 : decode cX1_hold 34 = .ok (.invokevirtual 62, 3) := by decide +kernel
theorem dX1_hold_37 : decode cX1_hold 37 = .ok (.bipush 9, 2) := by decide +kernel
theorem dX1_hold_39 : decode cX1_hold 39 = .ok (.irem, 1) := by decide +kernel
theorem dX1_hold_40 : decode cX1_hold 40 = .ok (.iconst 1, 1) := by decide +kernel
theorem dX1_hold_41 : decode cX1_hold 41 = .ok (.iadd, 1) := by decide +kernel
theorem dX1_hold_42 : decode cX1_hold 42 = .ok (.imul, 1) := by decide +kernel
theorem dX1_hold_43 : decode cX1_hold 43 = .ok (.invokevirtual 66, 3) := by decide +kernel
theorem dX1_hold_46 : decode cX1_hold 46 = .ok (.iload 6, 2) := by decide +kernel
theorem dX1_hold_48 : decode cX1_hold 48 = .ok (.iload 5, 2) := by decide +kernel
theorem dX1_hold_50 : decode cX1_hold 50 = .ok (.if_icmp .lt 23, 3) := by decide +kernel
theorem dX1_hold_53 : decode cX1_hold 53 = .ok (.aload_n 0, 1) := by decide +kernel
theorem dX1_hold_54 : decode cX1_hold 54 = .ok (.getfield 28, 3) := by decide +kernel
theorem dX1_hold_57 : decode cX1_hold 57 = .ok (.ifCond .le 16, 3) := by decide +kernel
theorem dX1_hold_60 : decode cX1_hold 60 = .ok (.iload 6, 2) := by decide +kernel
theorem dX1_hold_62 : decode cX1_hold 62 = .ok (.aload_n 0, 1) := by decide +kernel
theorem dX1_hold_63 : decode cX1_hold 63 = .ok (.iload 6, 2) := by decide +kernel
theorem dX1_hold_65 : decode cX1_hold 65 = .ok (.iload 4, 2) := by decide +kernel
theorem dX1_hold_67 : decode cX1_hold 67 = .ok (.invokevirtual 70, 3) := by decide +kernel
theorem dX1_hold_70 : decode cX1_hold 70 = .ok (.iadd, 1) := by decide +kernel
theorem dX1_hold_71 : decode cX1_hold 71 = .ok (.istore 5, 2) := by decide +kernel
theorem dX1_hold_73 : decode cX1_hold 73 = .ok (.iinc 6 1, 3) := by decide +kernel
theorem dX1_hold_76 : decode cX1_hold 76 = .ok (.goto (-65), 3) := by decide +kernel
theorem dX1_hold_79 : decode cX1_hold 79 = .ok (.return_, 1) := by decide +kernel
theorem dX1_answer_0 : decode cX1_answer 0 = .ok (.iload_n 1, 1) := by decide +kernel
theorem dX1_answer_1 : decode cX1_answer 1 = .ok (.tableswitch 60 0 4 #[35, 40, 45, 50, 55], 35) := by decide +kernel
theorem dX1_answer_36 : decode cX1_answer 36 = .ok (.aload_n 0, 1) := by decide +kernel
theorem dX1_answer_37 : decode cX1_answer 37 = .ok (.getfield 35, 3) := by decide +kernel
theorem dX1_answer_40 : decode cX1_answer 40 = .ok (.ireturn, 1) := by decide +kernel
theorem dX1_answer_41 : decode cX1_answer 41 = .ok (.aload_n 0, 1) := by decide +kernel
theorem dX1_answer_42 : decode cX1_answer 42 = .ok (.getfield 28, 3) := by decide +kernel
theorem dX1_answer_45 : decode cX1_answer 45 = .ok (.ireturn, 1) := by decide +kernel
theorem dX1_answer_46 : decode cX1_answer 46 = .ok (.aload_n 0, 1) := by decide +kernel
theorem dX1_answer_47 : decode cX1_answer 47 = .ok (.getfield 38, 3) := by decide +kernel
theorem dX1_answer_50 : decode cX1_answer 50 = .ok (.ireturn, 1) := by decide +kernel
theorem dX1_answer_51 : decode cX1_answer 51 = .ok (.aload_n 0, 1) := by decide +kernel
theorem dX1_answer_52 : decode cX1_answer 52 = .ok (.getfield 41, 3) := by decide +kernel
theorem dX1_answer_55 : decode cX1_answer 55 = .ok (.ireturn, 1) := by decide +kernel
theorem dX1_answer_56 : decode cX1_answer 56 = .ok (.aload_n 0, 1) := by decide +kernel
theorem dX1_answer_57 : decode cX1_answer 57 = .ok (.getfield 44, 3) := by decide +kernel
theorem dX1_answer_60 : decode cX1_answer 60 = .ok (.ireturn, 1) := by decide +kernel
theorem dX1_answer_61 : decode cX1_answer 61 = .ok (.aload_n 0, 1) := by decide +kernel
theorem dX1_answer_62 : decode cX1_answer 62 = .ok (.getfield 47, 3) := by decide +kernel
theorem dX1_answer_65 : decode cX1_answer 65 = .ok (.ireturn, 1) := by decide +kernel
theorem dX1_begin_0 : decode cX1_begin 0 = .ok (.aload_n 0, 1) := by decide +kernel
theorem dX1_begin_1 : decode cX1_begin 1 = .ok (.iload_n 1, 1) := by decide +kernel
theorem dX1_begin_2 : decode cX1_begin 2 = .ok (.putfield 32, 3) := by decide +kernel
theorem dX1_begin_5 : decode cX1_begin 5 = .ok (.aload_n 0, 1) := by decide +kernel
theorem dX1_begin_6 : decode cX1_begin 6 = .ok (.iconst 0, 1) := by decide +kernel
theorem dX1_begin_7 : decode cX1_begin 7 = .ok (.putfield 28, 3) := by decide +kernel
theorem dX1_begin_10 : decode cX1_begin 10 = .ok (.aload_n 0, 1) := by decide +kernel
theorem dX1_begin_11 : decode cX1_begin 11 = .ok (.iconst 0, 1) := by decide +kernel
theorem dX1_begin_12 : decode cX1_begin 12 = .ok (.putfield 35, 3) := by decide +kernel
theorem dX1_begin_15 : decode cX1_begin 15 = .ok (.aload_n 0, 1) := by decide +kernel
theorem dX1_begin_16 : decode cX1_begin 16 = .ok (.iconst 0, 1) := by decide +kernel
theorem dX1_begin_17 : decode cX1_begin 17 = .ok (.putfield 38, 3) := by decide +kernel
theorem dX1_begin_20 : decode cX1_begin 20 = .ok (.aload_n 0, 1) := by decide +kernel
theorem dX1_begin_21 : decode cX1_begin 21 = .ok (.iconst 0, 1) := by decide +kernel
theorem dX1_begin_22 : decode cX1_begin 22 = .ok (.putfield 41, 3) := by decide +kernel
theorem dX1_begin_25 : decode cX1_begin 25 = .ok (.aload_n 0, 1) := by decide +kernel
theorem dX1_begin_26 : decode cX1_begin 26 = .ok (.iconst 0, 1) := by decide +kernel
theorem dX1_begin_27 : decode cX1_begin 27 = .ok (.putfield 44, 3) := by decide +kernel
theorem dX1_begin_30 : decode cX1_begin 30 = .ok (.aload_n 0, 1) := by decide +kernel
theorem dX1_begin_31 : decode cX1_begin 31 = .ok (.iconst 0, 1) := by decide +kernel
theorem dX1_begin_32 : decode cX1_begin 32 = .ok (.putfield 47, 3) := by decide +kernel
theorem dX1_begin_35 : decode cX1_begin 35 = .ok (.return_, 1) := by decide +kernel
theorem dX1_draw_0 : decode cX1_draw 0 = .ok (.aload_n 0, 1) := by decide +kernel
theorem dX1_draw_1 : decode cX1_draw 1 = .ok (.ldc 74, 2) := by decide +kernel
theorem dX1_draw_3 : decode cX1_draw 3 = .ok (.aload_n 0, 1) := by decide +kernel
theorem dX1_draw_4 : decode cX1_draw 4 = .ok (.getfield 32, 3) := by decide +kernel
theorem dX1_draw_7 : decode cX1_draw 7 = .ok (.imul, 1) := by decide +kernel
theorem dX1_draw_8 : decode cX1_draw 8 = .ok (.sipush 12345, 3) := by decide +kernel
theorem dX1_draw_11 : decode cX1_draw 11 = .ok (.iadd, 1) := by decide +kernel
theorem dX1_draw_12 : decode cX1_draw 12 = .ok (.putfield 32, 3) := by decide +kernel
theorem dX1_draw_15 : decode cX1_draw 15 = .ok (.aload_n 0, 1) := by decide +kernel
theorem dX1_draw_16 : decode cX1_draw 16 = .ok (.getfield 32, 3) := by decide +kernel
theorem dX1_draw_19 : decode cX1_draw 19 = .ok (.bipush 16, 2) := by decide +kernel
theorem dX1_draw_21 : decode cX1_draw 21 = .ok (.ishr, 1) := by decide +kernel
theorem dX1_draw_22 : decode cX1_draw 22 = .ok (.sipush 32767, 3) := by decide +kernel
theorem dX1_draw_25 : decode cX1_draw 25 = .ok (.iand, 1) := by decide +kernel
theorem dX1_draw_26 : decode cX1_draw 26 = .ok (.ireturn, 1) := by decide +kernel
theorem dX1_comeOne_0 : decode cX1_comeOne 0 = .ok (.aload_n 0, 1) := by decide +kernel
theorem dX1_comeOne_1 : decode cX1_comeOne 1 = .ok (.getfield 28, 3) := by decide +kernel
theorem dX1_comeOne_4 : decode cX1_comeOne 4 = .ok (.bipush 40, 2) := by decide +kernel
theorem dX1_comeOne_6 : decode cX1_comeOne 6 = .ok (.if_icmp .lt 14, 3) := by decide +kernel
theorem dX1_comeOne_9 : decode cX1_comeOne 9 = .ok (.aload_n 0, 1) := by decide +kernel
theorem dX1_comeOne_10 : decode cX1_comeOne 10 = .ok (.dup, 1) := by decide +kernel
theorem dX1_comeOne_11 : decode cX1_comeOne 11 = .ok (.getfield 38, 3) := by decide +kernel
theorem dX1_comeOne_14 : decode cX1_comeOne 14 = .ok (.iconst 1, 1) := by decide +kernel
theorem dX1_comeOne_15 : decode cX1_comeOne 15 = .ok (.iadd, 1) := by decide +kernel
theorem dX1_comeOne_16 : decode cX1_comeOne 16 = .ok (.putfield 38, 3) := by decide +kernel
theorem dX1_comeOne_19 : decode cX1_comeOne 19 = .ok (.return_, 1) := by decide +kernel
theorem dX1_comeOne_20 : decode cX1_comeOne 20 = .ok (.aload_n 0, 1) := by decide +kernel
theorem dX1_comeOne_21 : decode cX1_comeOne 21 = .ok (.getfield 11, 3) := by decide +kernel
theorem dX1_comeOne_24 : decode cX1_comeOne 24 = .ok (.aload_n 0, 1) := by decide +kernel
theorem dX1_comeOne_25 : decode cX1_comeOne 25 = .ok (.getfield 28, 3) := by decide +kernel
theorem dX1_comeOne_28 : decode cX1_comeOne 28 = .ok (.iload_n 1, 1) := by decide +kernel
theorem dX1_comeOne_29 : decode cX1_comeOne 29 = .ok (.iastore, 1) := by decide +kernel
theorem dX1_comeOne_30 : decode cX1_comeOne 30 = .ok (.aload_n 0, 1) := by decide +kernel
theorem dX1_comeOne_31 : decode cX1_comeOne 31 = .ok (.getfield 15, 3) := by decide +kernel
theorem dX1_comeOne_34 : decode cX1_comeOne 34 = .ok (.aload_n 0, 1) := by decide +kernel
theorem dX1_comeOne_35 : decode cX1_comeOne 35 = .ok (.getfield 28, 3) := by decide +kernel
theorem dX1_comeOne_38 : decode cX1_comeOne 38 = .ok (.iload_n 2, 1) := by decide +kernel
theorem dX1_comeOne_39 : decode cX1_comeOne 39 = .ok (.iastore, 1) := by decide +kernel
theorem dX1_comeOne_40 : decode cX1_comeOne 40 = .ok (.aload_n 0, 1) := by decide +kernel
theorem dX1_comeOne_41 : decode cX1_comeOne 41 = .ok (.dup, 1) := by decide +kernel
theorem dX1_comeOne_42 : decode cX1_comeOne 42 = .ok (.getfield 28, 3) := by decide +kernel
theorem dX1_comeOne_45 : decode cX1_comeOne 45 = .ok (.iconst 1, 1) := by decide +kernel
theorem dX1_comeOne_46 : decode cX1_comeOne 46 = .ok (.iadd, 1) := by decide +kernel
theorem dX1_comeOne_47 : decode cX1_comeOne 47 = .ok (.putfield 28, 3) := by decide +kernel
theorem dX1_comeOne_50 : decode cX1_comeOne 50 = .ok (.return_, 1) := by decide +kernel
theorem dX1_minutesAway_0 : decode cX1_minutesAway 0 = .ok (.aload_n 0, 1) := by decide +kernel
theorem dX1_minutesAway_1 : decode cX1_minutesAway 1 = .ok (.iload_n 1, 1) := by decide +kernel
theorem dX1_minutesAway_2 : decode cX1_minutesAway 2 = .ok (.invokevirtual 75, 3) := by decide +kernel
theorem dX1_minutesAway_5 : decode cX1_minutesAway 5 = .ok (.iconst 0, 1) := by decide +kernel
theorem dX1_minutesAway_6 : decode cX1_minutesAway 6 = .ok (.istore_n 3, 1) := by decide +kernel
theorem dX1_minutesAway_7 : decode cX1_minutesAway 7 = .ok (.iconst 0, 1) := by decide +kernel
theorem dX1_minutesAway_8 : decode cX1_minutesAway 8 = .ok (.istore 4, 2) := by decide +kernel
theorem dX1_minutesAway_10 : decode cX1_minutesAway 10 = .ok (.iload 4, 2) := by decide +kernel
theorem dX1_minutesAway_12 : decode cX1_minutesAway 12 = .ok (.aload_n 0, 1) := by decide +kernel
theorem dX1_minutesAway_13 : decode cX1_minutesAway 13 = .ok (.getfield 28, 3) := by decide +kernel
theorem dX1_minutesAway_16 : decode cX1_minutesAway 16 = .ok (.if_icmp .ge 58, 3) := by decide +kernel
theorem dX1_minutesAway_19 : decode cX1_minutesAway 19 = .ok (.aload_n 0, 1) := by decide +kernel
theorem dX1_minutesAway_20 : decode cX1_minutesAway 20 = .ok (.invokevirtual 78, 3) := by decide +kernel
theorem dX1_minutesAway_23 : decode cX1_minutesAway 23 = .ok (.istore 5, 2) := by decide +kernel
theorem dX1_minutesAway_25 : decode cX1_minutesAway 25 = .ok (.aload_n 0, 1) := by decide +kernel
theorem dX1_minutesAway_26 : decode cX1_minutesAway 26 = .ok (.getfield 21, 3) := by decide +kernel
theorem dX1_minutesAway_29 : decode cX1_minutesAway 29 = .ok (.iload 5, 2) := by decide +kernel
theorem dX1_minutesAway_31 : decode cX1_minutesAway 31 = .ok (.iconst 1, 1) := by decide +kernel
theorem dX1_minutesAway_32 : decode cX1_minutesAway 32 = .ok (.bastore, 1) := by decide +kernel
theorem dX1_minutesAway_33 : decode cX1_minutesAway 33 = .ok (.aload_n 0, 1) := by decide +kernel
theorem dX1_minutesAway_34 : decode cX1_minutesAway 34 = .ok (.iload_n 3, 1) := by decide +kernel
theorem dX1_minutesAway_35 : decode cX1_minutesAway 35 = .ok (.aload_n 0, 1) := by decide +kernel
theorem dX1_minutesAway_36 : decode cX1_minutesAway 36 = .ok (.getfield 15, 3) := by decide +kernel
theorem dX1_minutesAway_39 : decode cX1_minutesAway 39 = .ok (.iload 5, 2) := by decide +kernel
theorem dX1_minutesAway_41 : decode cX1_minutesAway 41 = .ok (.iaload, 1) := by decide +kernel
theorem dX1_minutesAway_42 : decode cX1_minutesAway 42 = .ok (.iadd, 1) := by decide +kernel
theorem dX1_minutesAway_43 : decode cX1_minutesAway 43 = .ok (.iload_n 2, 1) := by decide +kernel
theorem dX1_minutesAway_44 : decode cX1_minutesAway 44 = .ok (.invokevirtual 81, 3) := by decide +kernel
theorem dX1_minutesAway_47 : decode cX1_minutesAway 47 = .ok (.ifCond .eq 21, 3) := by decide +kernel
theorem dX1_minutesAway_50 : decode cX1_minutesAway 50 = .ok (.aload_n 0, 1) := by decide +kernel
theorem dX1_minutesAway_51 : decode cX1_minutesAway 51 = .ok (.getfield 25, 3) := by decide +kernel
theorem dX1_minutesAway_54 : decode cX1_minutesAway 54 = .ok (.iload 5, 2) := by decide +kernel
theorem dX1_minutesAway_56 : decode cX1_minutesAway 56 = .ok (.iconst 1, 1) := by decide +kernel
theorem dX1_minutesAway_57 : decode cX1_minutesAway 57 = .ok (.bastore, 1) := by decide +kernel
theorem dX1_minutesAway_58 : decode cX1_minutesAway 58 = .ok (.iload_n 3, 1) := by decide +kernel
theorem dX1_minutesAway_59 : decode cX1_minutesAway 59 = .ok (.aload_n 0, 1) := by decide +kernel
theorem dX1_minutesAway_60 : decode cX1_minutesAway 60 = .ok (.getfield 15, 3) := by decide +kernel
theorem dX1_minutesAway_63 : decode cX1_minutesAway 63 = .ok (.iload 5, 2) := by decide +kernel
theorem dX1_minutesAway_65 : decode cX1_minutesAway 65 = .ok (.iaload, 1) := by decide +kernel
theorem dX1_minutesAway_66 : decode cX1_minutesAway 66 = .ok (.iadd, 1) := by decide +kernel
theorem dX1_minutesAway_67 : decode cX1_minutesAway 67 = .ok (.istore_n 3, 1) := by decide +kernel
theorem dX1_minutesAway_68 : decode cX1_minutesAway 68 = .ok (.iinc 4 1, 3) := by decide +kernel
theorem dX1_minutesAway_71 : decode cX1_minutesAway 71 = .ok (.goto (-61), 3) := by decide +kernel
theorem dX1_minutesAway_74 : decode cX1_minutesAway 74 = .ok (.iload_n 3, 1) := by decide +kernel
theorem dX1_minutesAway_75 : decode cX1_minutesAway 75 = .ok (.ifCond .ne 5, 3) := by decide +kernel
theorem dX1_minutesAway_78 : decode cX1_minutesAway 78 = .ok (.iconst 0, 1) := by decide +kernel
theorem dX1_minutesAway_79 : decode cX1_minutesAway 79 = .ok (.ireturn, 1) := by decide +kernel
theorem dX1_minutesAway_80 : decode cX1_minutesAway 80 = .ok (.aload_n 0, 1) := by decide +kernel
theorem dX1_minutesAway_81 : decode cX1_minutesAway 81 = .ok (.iload_n 1, 1) := by decide +kernel
theorem dX1_minutesAway_82 : decode cX1_minutesAway 82 = .ok (.invokevirtual 85, 3) := by decide +kernel
theorem dX1_minutesAway_85 : decode cX1_minutesAway 85 = .ok (.aload_n 0, 1) := by decide +kernel
theorem dX1_minutesAway_86 : decode cX1_minutesAway 86 = .ok (.dup, 1) := by decide +kernel
theorem dX1_minutesAway_87 : decode cX1_minutesAway 87 = .ok (.getfield 47, 3) := by decide +kernel
theorem dX1_minutesAway_90 : decode cX1_minutesAway 90 = .ok (.iconst 1, 1) := by decide +kernel
theorem dX1_minutesAway_91 : decode cX1_minutesAway 91 = .ok (.iadd, 1) := by decide +kernel
theorem dX1_minutesAway_92 : decode cX1_minutesAway 92 = .ok (.putfield 47, 3) := by decide +kernel
theorem dX1_minutesAway_95 : decode cX1_minutesAway 95 = .ok (.aload_n 0, 1) := by decide +kernel
theorem dX1_minutesAway_96 : decode cX1_minutesAway 96 = .ok (.getfield 50, 3) := by decide +kernel
theorem dX1_minutesAway_99 : decode cX1_minutesAway 99 = .ok (.aload_n 0, 1) := by decide +kernel
theorem dX1_minutesAway_100 : decode cX1_minutesAway 100 = .ok (.getfield 50, 3) := by decide +kernel
theorem dX1_minutesAway_103 : decode cX1_minutesAway 103 = .ok (.iload_n 3, 1) := by decide +kernel
theorem dX1_minutesAway_104 : decode cX1_minutesAway 104 = .ok (.invokevirtual 88, 3) := by decide +kernel
theorem dX1_minutesAway_107 : decode cX1_minutesAway 107 = .ok (.iload_n 2, 1) := by decide +kernel
theorem dX1_minutesAway_108 : decode cX1_minutesAway 108 = .ok (.invokevirtual 94, 3) := by decide +kernel
theorem dX1_minutesAway_111 : decode cX1_minutesAway 111 = .ok (.aload_n 0, 1) := by decide +kernel
theorem dX1_minutesAway_112 : decode cX1_minutesAway 112 = .ok (.getfield 50, 3) := by decide +kernel
theorem dX1_minutesAway_115 : decode cX1_minutesAway 115 = .ok (.aload_n 0, 1) := by decide +kernel
theorem dX1_minutesAway_116 : decode cX1_minutesAway 116 = .ok (.getfield 50, 3) := by decide +kernel
theorem dX1_minutesAway_119 : decode cX1_minutesAway 119 = .ok (.iconst 0, 1) := by decide +kernel
theorem dX1_minutesAway_120 : decode cX1_minutesAway 120 = .ok (.invokevirtual 88, 3) := by decide +kernel
theorem dX1_minutesAway_123 : decode cX1_minutesAway 123 = .ok (.iload_n 2, 1) := by decide +kernel
theorem dX1_minutesAway_124 : decode cX1_minutesAway 124 = .ok (.invokevirtual 94, 3) := by decide +kernel
theorem dX1_minutesAway_127 : decode cX1_minutesAway 127 = .ok (.iadd, 1) := by decide +kernel
theorem dX1_minutesAway_128 : decode cX1_minutesAway 128 = .ok (.ireturn, 1) := by decide +kernel
theorem dX1_giveNumbers_0 : decode cX1_giveNumbers 0 = .ok (.aload_n 0, 1) := by decide +kernel
theorem dX1_giveNumbers_1 : decode cX1_giveNumbers 1 = .ok (.getfield 54, 3) := by decide +kernel
theorem dX1_giveNumbers_4 : decode cX1_giveNumbers 4 = .ok (.aload_n 0, 1) := by decide +kernel
theorem dX1_giveNumbers_5 : decode cX1_giveNumbers 5 = .ok (.getfield 28, 3) := by decide +kernel
theorem dX1_giveNumbers_8 : decode cX1_giveNumbers 8 = .ok (.iload_n 1, 1) := by decide +kernel
theorem dX1_giveNumbers_9 : decode cX1_giveNumbers 9 = .ok (.invokevirtual 97, 3) := by decide +kernel
theorem dX1_giveNumbers_12 : decode cX1_giveNumbers 12 = .ok (.iconst 0, 1) := by decide +kernel
theorem dX1_giveNumbers_13 : decode cX1_giveNumbers 13 = .ok (.istore_n 2, 1) := by decide +kernel
theorem dX1_giveNumbers_14 : decode cX1_giveNumbers 14 = .ok (.iload_n 2, 1) := by decide +kernel
theorem dX1_giveNumbers_15 : decode cX1_giveNumbers 15 = .ok (.aload_n 0, 1) := by decide +kernel
theorem dX1_giveNumbers_16 : decode cX1_giveNumbers 16 = .ok (.getfield 28, 3) := by decide +kernel
theorem dX1_giveNumbers_19 : decode cX1_giveNumbers 19 = .ok (.if_icmp .ge 50, 3) := by decide +kernel
theorem dX1_giveNumbers_22 : decode cX1_giveNumbers 22 = .ok (.aload_n 0, 1) := by decide +kernel
theorem dX1_giveNumbers_23 : decode cX1_giveNumbers 23 = .ok (.getfield 18, 3) := by decide +kernel
theorem dX1_giveNumbers_26 : decode cX1_giveNumbers 26 = .ok (.iload_n 2, 1) := by decide +kernel
theorem dX1_giveNumbers_27 : decode cX1_giveNumbers 27 = .ok (.aload_n 0, 1) := by decide +kernel
theorem dX1_giveNumbers_28 : decode cX1_giveNumbers 28 = .ok (.getfield 54, 3) := by decide +kernel
theorem dX1_giveNumbers_31 : decode cX1_giveNumbers 31 = .ok (.iload_n 1, 1) := by decide +kernel
theorem dX1_giveNumbers_32 : decode cX1_giveNumbers 32 = .ok (.aload_n 0, 1) := by decide +kernel
theorem dX1_giveNumbers_33 : decode cX1_giveNumbers 33 = .ok (.getfield 11, 3) := by decide +kernel
theorem dX1_giveNumbers_36 : decode cX1_giveNumbers 36 = .ok (.iload_n 2, 1) := by decide +kernel
theorem dX1_giveNumbers_37 : decode cX1_giveNumbers 37 = .ok (.iaload, 1) := by decide +kernel
theorem dX1_giveNumbers_38 : decode cX1_giveNumbers 38 = .ok (.isub, 1) := by decide +kernel
theorem dX1_giveNumbers_39 : decode cX1_giveNumbers 39 = .ok (.aload_n 0, 1) := by decide +kernel
theorem dX1_giveNumbers_40 : decode cX1_giveNumbers 40 = .ok (.getfield 15, 3) := by decide +kernel
theorem dX1_giveNumbers_43 : decode cX1_giveNumbers 43 = .ok (.iload_n 2, 1) := by decide +kernel
theorem dX1_giveNumbers_44 : decode cX1_giveNumbers 44 = .ok (.iaload, 1) := by decide +kernel
theorem dX1_giveNumbers_45 : decode cX1_giveNumbers 45 = .ok (.invokevirtual 102, 3) := by decide +kernel
theorem dX1_giveNumbers_48 : decode cX1_giveNumbers 48 = .ok (.iastore, 1) := by decide +kernel
theorem dX1_giveNumbers_49 : decode cX1_giveNumbers 49 = .ok (.aload_n 0, 1) := by decide +kernel
theorem dX1_giveNumbers_50 : decode cX1_giveNumbers 50 = .ok (.getfield 21, 3) := by decide +kernel
theorem dX1_giveNumbers_53 : decode cX1_giveNumbers 53 = .ok (.iload_n 2, 1) := by decide +kernel
theorem dX1_giveNumbers_54 : decode cX1_giveNumbers 54 = .ok (.iconst 0, 1) := by decide +kernel
theorem dX1_giveNumbers_55 : decode cX1_giveNumbers 55 = .ok (.bastore, 1) := by decide +kernel
theorem dX1_giveNumbers_56 : decode cX1_giveNumbers 56 = .ok (.aload_n 0, 1) := by decide +kernel
theorem dX1_giveNumbers_57 : decode cX1_giveNumbers 57 = .ok (.getfield 25, 3) := by decide +kernel
theorem dX1_giveNumbers_60 : decode cX1_giveNumbers 60 = .ok (.iload_n 2, 1) := by decide +kernel
theorem dX1_giveNumbers_61 : decode cX1_giveNumbers 61 = .ok (.iconst 0, 1) := by decide +kernel
theorem dX1_giveNumbers_62 : decode cX1_giveNumbers 62 = .ok (.bastore, 1) := by decide +kernel
theorem dX1_giveNumbers_63 : decode cX1_giveNumbers 63 = .ok (.iinc 2 1, 3) := by decide +kernel
theorem dX1_giveNumbers_66 : decode cX1_giveNumbers 66 = .ok (.goto (-52), 3) := by decide +kernel
theorem dX1_giveNumbers_69 : decode cX1_giveNumbers 69 = .ok (.return_, 1) := by decide +kernel
theorem dX1_nextToAsk_0 : decode cX1_nextToAsk 0 = .ok (.iconst (-1), 1) := by decide +kernel
theorem dX1_nextToAsk_1 : decode cX1_nextToAsk 1 = .ok (.istore_n 1, 1) := by decide +kernel
theorem dX1_nextToAsk_2 : decode cX1_nextToAsk 2 = .ok (.iconst 0, 1) := by decide +kernel
theorem dX1_nextToAsk_3 : decode cX1_nextToAsk 3 = .ok (.istore_n 2, 1) := by decide +kernel
theorem dX1_nextToAsk_4 : decode cX1_nextToAsk 4 = .ok (.iload_n 2, 1) := by decide +kernel
theorem dX1_nextToAsk_5 : decode cX1_nextToAsk 5 = .ok (.aload_n 0, 1) := by decide +kernel
theorem dX1_nextToAsk_6 : decode cX1_nextToAsk 6 = .ok (.getfield 28, 3) := by decide +kernel
theorem dX1_nextToAsk_9 : decode cX1_nextToAsk 9 = .ok (.if_icmp .ge 40, 3) := by decide +kernel
theorem dX1_nextToAsk_12 : decode cX1_nextToAsk 12 = .ok (.aload_n 0, 1) := by decide +kernel
theorem dX1_nextToAsk_13 : decode cX1_nextToAsk 13 = .ok (.getfield 21, 3) := by decide +kernel
theorem dX1_nextToAsk_16 : decode cX1_nextToAsk 16 = .ok (.iload_n 2, 1) := by decide +kernel
theorem dX1_nextToAsk_17 : decode cX1_nextToAsk 17 = .ok (.baload, 1) := by decide +kernel
theorem dX1_nextToAsk_18 : decode cX1_nextToAsk 18 = .ok (.ifCond .ne 25, 3) := by decide +kernel
theorem dX1_nextToAsk_21 : decode cX1_nextToAsk 21 = .ok (.iload_n 1, 1) := by decide +kernel
theorem dX1_nextToAsk_22 : decode cX1_nextToAsk 22 = .ok (.iconst (-1), 1) := by decide +kernel
theorem dX1_nextToAsk_23 : decode cX1_nextToAsk 23 = .ok (.if_icmp .eq 18, 3) := by decide +kernel
theorem dX1_nextToAsk_26 : decode cX1_nextToAsk 26 = .ok (.aload_n 0, 1) := by decide +kernel
theorem dX1_nextToAsk_27 : decode cX1_nextToAsk 27 = .ok (.getfield 18, 3) := by decide +kernel
theorem dX1_nextToAsk_30 : decode cX1_nextToAsk 30 = .ok (.iload_n 2, 1) := by decide +kernel
theorem dX1_nextToAsk_31 : decode cX1_nextToAsk 31 = .ok (.iaload, 1) := by decide +kernel
theorem dX1_nextToAsk_32 : decode cX1_nextToAsk 32 = .ok (.aload_n 0, 1) := by decide +kernel
theorem dX1_nextToAsk_33 : decode cX1_nextToAsk 33 = .ok (.getfield 18, 3) := by decide +kernel
theorem dX1_nextToAsk_36 : decode cX1_nextToAsk 36 = .ok (.iload_n 1, 1) := by decide +kernel
theorem dX1_nextToAsk_37 : decode cX1_nextToAsk 37 = .ok (.iaload, 1) := by decide +kernel
theorem dX1_nextToAsk_38 : decode cX1_nextToAsk 38 = .ok (.if_icmp .le 5, 3) := by decide +kernel
theorem dX1_nextToAsk_41 : decode cX1_nextToAsk 41 = .ok (.iload_n 2, 1) := by decide +kernel
theorem dX1_nextToAsk_42 : decode cX1_nextToAsk 42 = .ok (.istore_n 1, 1) := by decide +kernel
theorem dX1_nextToAsk_43 : decode cX1_nextToAsk 43 = .ok (.iinc 2 1, 3) := by decide +kernel
theorem dX1_nextToAsk_46 : decode cX1_nextToAsk 46 = .ok (.goto (-42), 3) := by decide +kernel
theorem dX1_nextToAsk_49 : decode cX1_nextToAsk 49 = .ok (.iload_n 1, 1) := by decide +kernel
theorem dX1_nextToAsk_50 : decode cX1_nextToAsk 50 = .ok (.iconst 0, 1) := by decide +kernel
theorem dX1_nextToAsk_51 : decode cX1_nextToAsk 51 = .ok (.invokestatic 105, 3) := by decide +kernel
theorem dX1_nextToAsk_54 : decode cX1_nextToAsk 54 = .ok (.ireturn, 1) := by decide +kernel
theorem dX1_bears_0 : decode cX1_bears 0 = .ok (.aload_n 0, 1) := by decide +kernel
theorem dX1_bears_1 : decode cX1_bears 1 = .ok (.getfield 50, 3) := by decide +kernel
theorem dX1_bears_4 : decode cX1_bears 4 = .ok (.iload_n 1, 1) := by decide +kernel
theorem dX1_bears_5 : decode cX1_bears 5 = .ok (.invokevirtual 110, 3) := by decide +kernel
theorem dX1_bears_8 : decode cX1_bears 8 = .ok (.ifCond .eq 19, 3) := by decide +kernel
theorem dX1_bears_11 : decode cX1_bears 11 = .ok (.aload_n 0, 1) := by decide +kernel
theorem dX1_bears_12 : decode cX1_bears 12 = .ok (.getfield 50, 3) := by decide +kernel
theorem dX1_bears_15 : decode cX1_bears 15 = .ok (.iload_n 1, 1) := by decide +kernel
theorem dX1_bears_16 : decode cX1_bears 16 = .ok (.invokevirtual 88, 3) := by decide +kernel
theorem dX1_bears_19 : decode cX1_bears 19 = .ok (.iload_n 2, 1) := by decide +kernel
theorem dX1_bears_20 : decode cX1_bears 20 = .ok (.if_icmp .gt 7, 3) := by decide +kernel
theorem dX1_bears_23 : decode cX1_bears 23 = .ok (.iconst 1, 1) := by decide +kernel
theorem dX1_bears_24 : decode cX1_bears 24 = .ok (.goto 4, 3) := by decide +kernel
theorem dX1_bears_27 : decode cX1_bears 27 = .ok (.iconst 0, 1) := by decide +kernel
theorem dX1_bears_28 : decode cX1_bears 28 = .ok (.ireturn, 1) := by decide +kernel
theorem dX1_leave_0 : decode cX1_leave 0 = .ok (.iconst 0, 1) := by decide +kernel
theorem dX1_leave_1 : decode cX1_leave 1 = .ok (.istore_n 2, 1) := by decide +kernel
theorem dX1_leave_2 : decode cX1_leave 2 = .ok (.iconst 0, 1) := by decide +kernel
theorem dX1_leave_3 : decode cX1_leave 3 = .ok (.istore_n 3, 1) := by decide +kernel
theorem dX1_leave_4 : decode cX1_leave 4 = .ok (.iload_n 3, 1) := by decide +kernel
theorem dX1_leave_5 : decode cX1_leave 5 = .ok (.aload_n 0, 1) := by decide +kernel
theorem dX1_leave_6 : decode cX1_leave 6 = .ok (.getfield 28, 3) := by decide +kernel
theorem dX1_leave_9 : decode cX1_leave 9 = .ok (.if_icmp .ge 92, 3) := by decide +kernel
theorem dX1_leave_12 : decode cX1_leave 12 = .ok (.aload_n 0, 1) := by decide +kernel
theorem dX1_leave_13 : decode cX1_leave 13 = .ok (.getfield 25, 3) := by decide +kernel
theorem dX1_leave_16 : decode cX1_leave 16 = .ok (.iload_n 3, 1) := by decide +kernel
theorem dX1_leave_17 : decode cX1_leave 17 = .ok (.baload, 1) := by decide +kernel
theorem dX1_leave_18 : decode cX1_leave 18 = .ok (.ifCond .eq 50, 3) := by decide +kernel
theorem dX1_leave_21 : decode cX1_leave 21 = .ok (.iload_n 1, 1) := by decide +kernel
theorem dX1_leave_22 : decode cX1_leave 22 = .ok (.aload_n 0, 1) := by decide +kernel
theorem dX1_leave_23 : decode cX1_leave 23 = .ok (.getfield 11, 3) := by decide +kernel
theorem dX1_leave_26 : decode cX1_leave 26 = .ok (.iload_n 3, 1) := by decide +kernel
theorem dX1_leave_27 : decode cX1_leave 27 = .ok (.iaload, 1) := by decide +kernel
theorem dX1_leave_28 : decode cX1_leave 28 = .ok (.isub, 1) := by decide +kernel
theorem dX1_leave_29 : decode cX1_leave 29 = .ok (.istore 4, 2) := by decide +kernel
theorem dX1_leave_31 : decode cX1_leave 31 = .ok (.aload_n 0, 1) := by decide +kernel
theorem dX1_leave_32 : decode cX1_leave 32 = .ok (.dup, 1) := by decide +kernel
theorem dX1_leave_33 : decode cX1_leave 33 = .ok (.getfield 35, 3) := by decide +kernel
theorem dX1_leave_36 : decode cX1_leave 36 = .ok (.iconst 1, 1) := by decide +kernel
theorem dX1_leave_37 : decode cX1_leave 37 = .ok (.iadd, 1) := by decide +kernel
theorem dX1_leave_38 : decode cX1_leave 38 = .ok (.putfield 35, 3) := by decide +kernel
theorem dX1_leave_41 : decode cX1_leave 41 = .ok (.aload_n 0, 1) := by decide +kernel
theorem dX1_leave_42 : decode cX1_leave 42 = .ok (.dup, 1) := by decide +kernel
theorem dX1_leave_43 : decode cX1_leave 43 = .ok (.getfield 44, 3) := by decide +kernel
theorem dX1_leave_46 : decode cX1_leave 46 = .ok (.iload 4, 2) := by decide +kernel
theorem dX1_leave_48 : decode cX1_leave 48 = .ok (.iadd, 1) := by decide +kernel
theorem dX1_leave_49 : decode cX1_leave 49 = .ok (.putfield 44, 3) := by decide +kernel
theorem dX1_leave_52 : decode cX1_leave 52 = .ok (.aload_n 0, 1) := by decide +kernel
theorem dX1_leave_53 : decode cX1_leave 53 = .ok (.aload_n 0, 1) := by decide +kernel
theorem dX1_leave_54 : decode cX1_leave 54 = .ok (.getfield 41, 3) := by decide +kernel
theorem dX1_leave_57 : decode cX1_leave 57 = .ok (.iload 4, 2) := by decide +kernel
theorem dX1_leave_59 : decode cX1_leave 59 = .ok (.invokestatic 105, 3) := by decide +kernel
theorem dX1_leave_62 : decode cX1_leave 62 = .ok (.putfield 41, 3) := by decide +kernel
theorem dX1_leave_65 : decode cX1_leave 65 = .ok (.goto 30, 3) := by decide +kernel
theorem dX1_leave_68 : decode cX1_leave 68 = .ok (.aload_n 0, 1) := by decide +kernel
theorem dX1_leave_69 : decode cX1_leave 69 = .ok (.getfield 11, 3) := by decide +kernel
theorem dX1_leave_72 : decode cX1_leave 72 = .ok (.iload_n 2, 1) := by decide +kernel
theorem dX1_leave_73 : decode cX1_leave 73 = .ok (.aload_n 0, 1) := by decide +kernel
theorem dX1_leave_74 : decode cX1_leave 74 = .ok (.getfield 11, 3) := by decide +kernel
theorem dX1_leave_77 : decode cX1_leave 77 = .ok (.iload_n 3, 1) := by decide +kernel
theorem dX1_leave_78 : decode cX1_leave 78 = .ok (.iaload, 1) := by decide +kernel
theorem dX1_leave_79 : decode cX1_leave 79 = .ok (.iastore, 1) := by decide +kernel
theorem dX1_leave_80 : decode cX1_leave 80 = .ok (.aload_n 0, 1) := by decide +kernel
theorem dX1_leave_81 : decode cX1_leave 81 = .ok (.getfield 15, 3) := by decide +kernel
theorem dX1_leave_84 : decode cX1_leave 84 = .ok (.iload_n 2, 1) := by decide +kernel
theorem dX1_leave_85 : decode cX1_leave 85 = .ok (.aload_n 0, 1) := by decide +kernel
theorem dX1_leave_86 : decode cX1_leave 86 = .ok (.getfield 15, 3) := by decide +kernel
theorem dX1_leave_89 : decode cX1_leave 89 = .ok (.iload_n 3, 1) := by decide +kernel
theorem dX1_leave_90 : decode cX1_leave 90 = .ok (.iaload, 1) := by decide +kernel
theorem dX1_leave_91 : decode cX1_leave 91 = .ok (.iastore, 1) := by decide +kernel
theorem dX1_leave_92 : decode cX1_leave 92 = .ok (.iinc 2 1, 3) := by decide +kernel
theorem dX1_leave_95 : decode cX1_leave 95 = .ok (.iinc 3 1, 3) := by decide +kernel
theorem dX1_leave_98 : decode cX1_leave 98 = .ok (.goto (-94), 3) := by decide +kernel
theorem dX1_leave_101 : decode cX1_leave 101 = .ok (.aload_n 0, 1) := by decide +kernel
theorem dX1_leave_102 : decode cX1_leave 102 = .ok (.iload_n 2, 1) := by decide +kernel
theorem dX1_leave_103 : decode cX1_leave 103 = .ok (.putfield 28, 3) := by decide +kernel
theorem dX1_leave_106 : decode cX1_leave 106 = .ok (.return_, 1) := by decide +kernel
theorem dX2_init_0 : decode cX2_init 0 = .ok (.aload_n 0, 1) := by decide +kernel
theorem dX2_init_1 : decode cX2_init 1 = .ok (.invokespecial 3, 3) := by decide +kernel
theorem dX2_init_4 : decode cX2_init 4 = .ok (.aload_n 0, 1) := by decide +kernel
theorem dX2_init_5 : decode cX2_init 5 = .ok (.iconst 0, 1) := by decide +kernel
theorem dX2_init_6 : decode cX2_init 6 = .ok (.putfield 9, 3) := by decide +kernel
theorem dX2_init_9 : decode cX2_init 9 = .ok (.aload_n 0, 1) := by decide +kernel
theorem dX2_init_10 : decode cX2_init 10 = .ok (.iconst 0, 1) := by decide +kernel
theorem dX2_init_11 : decode cX2_init 11 = .ok (.putfield 15, 3) := by decide +kernel
theorem dX2_init_14 : decode cX2_init 14 = .ok (.aload_n 0, 1) := by decide +kernel
theorem dX2_init_15 : decode cX2_init 15 = .ok (.sipush 1024, 3) := by decide +kernel
theorem dX2_init_18 : decode cX2_init 18 = .ok (.newarray .int, 2) := by decide +kernel
theorem dX2_init_20 : decode cX2_init 20 = .ok (.putfield 18, 3) := by decide +kernel
theorem dX2_init_23 : decode cX2_init 23 = .ok (.aload_n 0, 1) := by decide +kernel
theorem dX2_init_24 : decode cX2_init 24 = .ok (.sipush 1024, 3) := by decide +kernel
theorem dX2_init_27 : decode cX2_init 27 = .ok (.newarray .int, 2) := by decide +kernel
theorem dX2_init_29 : decode cX2_init 29 = .ok (.putfield 22, 3) := by decide +kernel
theorem dX2_init_32 : decode cX2_init 32 = .ok (.aload_n 0, 1) := by decide +kernel
theorem dX2_init_33 : decode cX2_init 33 = .ok (.sipush 1024, 3) := by decide +kernel
theorem dX2_init_36 : decode cX2_init 36 = .ok (.newarray .int, 2) := by decide +kernel
theorem dX2_init_38 : decode cX2_init 38 = .ok (.putfield 25, 3) := by decide +kernel
theorem dX2_init_41 : decode cX2_init 41 = .ok (.aload_n 0, 1) := by decide +kernel
theorem dX2_init_42 : decode cX2_init 42 = .ok (.sipush 1024, 3) := by decide +kernel
theorem dX2_init_45 : decode cX2_init 45 = .ok (.newarray .boolean, 2) := by decide +kernel
theorem dX2_init_47 : decode cX2_init 47 = .ok (.putfield 28, 3) := by decide +kernel
theorem dX2_init_50 : decode cX2_init 50 = .ok (.aload_n 0, 1) := by decide +kernel
theorem dX2_init_51 : decode cX2_init 51 = .ok (.sipush 1034, 3) := by decide +kernel
theorem dX2_init_54 : decode cX2_init 54 = .ok (.newarray .int, 2) := by decide +kernel
theorem dX2_init_56 : decode cX2_init 56 = .ok (.putfield 32, 3) := by decide +kernel
theorem dX2_init_59 : decode cX2_init 59 = .ok (.aload_n 0, 1) := by decide +kernel
theorem dX2_init_60 : decode cX2_init 60 = .ok (.sipush 1034, 3) := by decide +kernel
theorem dX2_init_63 : decode cX2_init 63 = .ok (.newarray .int, 2) := by decide +kernel
theorem dX2_init_65 : decode cX2_init 65 = .ok (.putfield 35, 3) := by decide +kernel
theorem dX2_init_68 : decode cX2_init 68 = .ok (.aload_n 0, 1) := by decide +kernel
theorem dX2_init_69 : decode cX2_init 69 = .ok (.iconst 0, 1) := by decide +kernel
theorem dX2_init_70 : decode cX2_init 70 = .ok (.putfield 38, 3) := by decide +kernel
theorem dX2_init_73 : decode cX2_init 73 = .ok (.aload_n 0, 1) := by decide +kernel
theorem dX2_init_74 : decode cX2_init 74 = .ok (.aload_n 1, 1) := by decide +kernel
theorem dX2_init_75 : decode cX2_init 75 = .ok (.putfield 41, 3) := by decide +kernel
theorem dX2_init_78 : decode cX2_init 78 = .ok (.aload_n 0, 1) := by decide +kernel
theorem dX2_init_79 : decode cX2_init 79 = .ok (.aload_n 2, 1) := by decide +kernel
theorem dX2_init_80 : decode cX2_init 80 = .ok (.putfield 45, 3) := by decide +kernel
theorem dX2_init_83 : decode cX2_init 83 = .ok (.return_, 1) := by decide +kernel
theorem dX2_prepare_0 : decode cX2_prepare 0 = .ok (.aload_n 0, 1) := by decide +kernel
theorem dX2_prepare_1 : decode cX2_prepare 1 = .ok (.aload_n 0, 1) := by decide +kernel
theorem dX2_prepare_2 : decode cX2_prepare 2 = .ok (.getfield 41, 3) := by decide +kernel
theorem dX2_prepare_5 : decode cX2_prepare 5 = .ok (.invokevirtual 49, 3) := by decide +kernel
theorem dX2_prepare_8 : decode cX2_prepare 8 = .ok (.putfield 9, 3) := by decide +kernel
theorem dX2_prepare_11 : decode cX2_prepare 11 = .ok (.aload_n 0, 1) := by decide +kernel
theorem dX2_prepare_12 : decode cX2_prepare 12 = .ok (.aload_n 0, 1) := by decide +kernel
theorem dX2_prepare_13 : decode cX2_prepare 13 = .ok (.getfield 41, 3) := by decide +kernel
theorem dX2_prepare_16 : decode cX2_prepare 16 = .ok (.getfield 54, 3) := by decide +kernel
theorem dX2_prepare_19 : decode cX2_prepare 19 = .ok (.aload_n 0, 1) := by decide +kernel
theorem dX2_prepare_20 : decode cX2_prepare 20 = .ok (.getfield 45, 3) := by decide +kernel
theorem dX2_prepare_23 : decode cX2_prepare 23 = .ok (.invokevirtual 56, 3) := by decide +kernel
theorem dX2_prepare_26 : decode cX2_prepare 26 = .ok (.iaload, 1) := by decide +kernel
theorem dX2_prepare_27 : decode cX2_prepare 27 = .ok (.putfield 15, 3) := by decide +kernel
theorem dX2_prepare_30 : decode cX2_prepare 30 = .ok (.iconst 0, 1) := by decide +kernel
theorem dX2_prepare_31 : decode cX2_prepare 31 = .ok (.istore_n 1, 1) := by decide +kernel
theorem dX2_prepare_32 : decode cX2_prepare 32 = .ok (.iload_n 1, 1) := by decide +kernel
theorem dX2_prepare_33 : decode cX2_prepare 33 = .ok (.aload_n 0, 1) := by decide +kernel
theorem dX2_prepare_34 : decode cX2_prepare 34 = .ok (.getfield 41, 3) := by decide +kernel
theorem dX2_prepare_37 : decode cX2_prepare 37 = .ok (.getfield 61, 3) := by decide +kernel
theorem dX2_prepare_40 : decode cX2_prepare 40 = .ok (.if_icmp .ge 26, 3) := by decide +kernel
theorem dX2_prepare_43 : decode cX2_prepare 43 = .ok (.aload_n 0, 1) := by decide +kernel
theorem dX2_prepare_44 : decode cX2_prepare 44 = .ok (.iload_n 1, 1) := by decide +kernel
theorem dX2_prepare_45 : decode cX2_prepare 45 = .ok (.aload_n 0, 1) := by decide +kernel
theorem dX2_prepare_46 : decode cX2_prepare 46 = .ok (.getfield 45, 3) := by decide +kernel
theorem dX2_prepare_49 : decode cX2_prepare 49 = .ok (.iload_n 1, 1) := by decide +kernel
theorem dX2_prepare_50 : decode cX2_prepare 50 = .ok (.aload_n 0, 1) := by decide +kernel
theorem dX2_prepare_51 : decode cX2_prepare 51 = .ok (.getfield 41, 3) := by decide +kernel
theorem dX2_prepare_54 : decode cX2_prepare 54 = .ok (.invokevirtual 64, 3) := by decide +kernel
theorem dX2_prepare_57 : decode cX2_prepare 57 = .ok (.invokevirtual 67, 3) := by decide +kernel
theorem dX2_prepare_60 : decode cX2_prepare 60 = .ok (.iinc 1 1, 3) := by decide +kernel
theorem dX2_prepare_63 : decode cX2_prepare 63 = .ok (.goto (-31), 3) := by decide +kernel
theorem dX2_prepare_66 : decode cX2_prepare 66 = .ok (.iconst 0, 1) := by decide +kernel
theorem dX2_prepare_67 : decode cX2_prepare 67 = .ok (.istore_n 1, 1) := by decide +kernel
theorem dX2_prepare_68 : decode cX2_prepare 68 = .ok (.iload_n 1, 1) := by decide +kernel
theorem dX2_prepare_69 : decode cX2_prepare 69 = .ok (.aload_n 0, 1) := by decide +kernel
theorem dX2_prepare_70 : decode cX2_prepare 70 = .ok (.getfield 9, 3) := by decide +kernel
theorem dX2_prepare_73 : decode cX2_prepare 73 = .ok (.if_icmp .gt 30, 3) := by decide +kernel
theorem dX2_prepare_76 : decode cX2_prepare 76 = .ok (.iload_n 1, 1) := by decide +kernel
theorem dX2_prepare_77 : decode cX2_prepare 77 = .ok (.sipush 1024, 3) := by decide +kernel
theorem dX2_prepare_80 : decode cX2_prepare 80 = .ok (.if_icmp .ge 23, 3) := by decide +kernel
theorem dX2_prepare_83 : decode cX2_prepare 83 = .ok (.aload_n 0, 1) := by decide +kernel
theorem dX2_prepare_84 : decode cX2_prepare 84 = .ok (.getfield 28, 3) := by decide +kernel
theorem dX2_prepare_87 : decode cX2_prepare 87 = .ok (.iload_n 1, 1) := by decide +kernel
theorem dX2_prepare_88 : decode cX2_prepare 88 = .ok (.aload_n 0, 1) := by decide +kernel
theorem dX2_prepare_89 : decode cX2_prepare 89 = .ok (.getfield 41, 3) := by decide +kernel
theorem dX2_prepare_92 : decode cX2_prepare 92 = .ok (.iload_n 1, 1) := by decide +kernel
theorem dX2_prepare_93 : decode cX2_prepare 93 = .ok (.invokevirtual 71, 3) := by decide +kernel
theorem dX2_prepare_96 : decode cX2_prepare 96 = .ok (.bastore, 1) := by decide +kernel
theorem dX2_prepare_97 : decode cX2_prepare 97 = .ok (.iinc 1 1, 3) := by decide +kernel
theorem dX2_prepare_100 : decode cX2_prepare 100 = .ok (.goto (-32), 3) := by decide +kernel
theorem dX2_prepare_103 : decode cX2_prepare 103 = .ok (.return_, 1) := by decide +kernel
theorem dX2_prepareBeing_0 : decode cX2_prepareBeing 0 = .ok (.iconst 1, 1) := by decide +kernel
theorem dX2_prepareBeing_1 : decode cX2_prepareBeing 1 = .ok (.iload_n 1, 1) := by decide +kernel
theorem dX2_prepareBeing_2 : decode cX2_prepareBeing 2 = .ok (.ishl, 1) := by decide +kernel
theorem dX2_prepareBeing_3 : decode cX2_prepareBeing 3 = .ok (.istore_n 3, 1) := by decide +kernel
theorem dX2_prepareBeing_4 : decode cX2_prepareBeing 4 = .ok (.iconst 0, 1) := by decide +kernel
theorem dX2_prepareBeing_5 : decode cX2_prepareBeing 5 = .ok (.istore 4, 2) := by decide +kernel
theorem dX2_prepareBeing_7 : decode cX2_prepareBeing 7 = .ok (.iload 4, 2) := by decide +kernel
theorem dX2_prepareBeing_9 : decode cX2_prepareBeing 9 = .ok (.iload_n 3, 1) := by decide +kernel
theorem dX2_prepareBeing_10 : decode cX2_prepareBeing 10 = .ok (.if_icmp .ge 89, 3) := by decide +kernel
theorem dX2_prepareBeing_13 : decode cX2_prepareBeing 13 = .ok (.iload_n 3, 1) := by decide +kernel
theorem dX2_prepareBeing_14 : decode cX2_prepareBeing 14 = .ok (.iload 4, 2) := by decide +kernel
theorem dX2_prepareBeing_16 : decode cX2_prepareBeing 16 = .ok (.ior, 1) := by decide +kernel
theorem dX2_prepareBeing_17 : decode cX2_prepareBeing 17 = .ok (.sipush 1024, 3) := by decide +kernel
theorem dX2_prepareBeing_20 : decode cX2_prepareBeing 20 = .ok (.if_icmp .ge 79, 3) := by decide +kernel
theorem dX2_prepareBeing_23 : decode cX2_prepareBeing 23 = .ok (.aload_n 0, 1) := by decide +kernel
theorem dX2_prepareBeing_24 : decode cX2_prepareBeing 24 = .ok (.getfield 18, 3) := by decide +kernel
theorem dX2_prepareBeing_27 : decode cX2_prepareBeing 27 = .ok (.iload_n 3, 1) := by decide +kernel
theorem dX2_prepareBeing_28 : decode cX2_prepareBeing 28 = .ok (.iload 4, 2) := by decide +kernel
theorem dX2_prepareBeing_30 : decode cX2_prepareBeing 30 = .ok (.ior, 1) := by decide +kernel
theorem dX2_prepareBeing_31 : decode cX2_prepareBeing 31 = .ok (.aload_n 0, 1) := by decide +kernel
theorem dX2_prepareBeing_32 : decode cX2_prepareBeing 32 = .ok (.getfield 18, 3) := by decide +kernel
theorem dX2_prepareBeing_35 : decode cX2_prepareBeing 35 = .ok (.iload 4, 2) := by decide +kernel
theorem dX2_prepareBeing_37 : decode cX2_prepareBeing 37 = .ok (.iaload, 1) := by decide +kernel
theorem dX2_prepareBeing_38 : decode cX2_prepareBeing 38 = .ok (.aload_n 0, 1) := by decide +kernel
theorem dX2_prepareBeing_39 : decode cX2_prepareBeing 39 = .ok (.getfield 41, 3) := by decide +kernel
theorem dX2_prepareBeing_42 : decode cX2_prepareBeing 42 = .ok (.getfield 75, 3) := by decide +kernel
theorem dX2_prepareBeing_45 : decode cX2_prepareBeing 45 = .ok (.iload_n 1, 1) := by decide +kernel
theorem dX2_prepareBeing_46 : decode cX2_prepareBeing 46 = .ok (.iaload, 1) := by decide +kernel
theorem dX2_prepareBeing_47 : decode cX2_prepareBeing 47 = .ok (.iadd, 1) := by decide +kernel
theorem dX2_prepareBeing_48 : decode cX2_prepareBeing 48 = .ok (.iastore, 1) := by decide +kernel
theorem dX2_prepareBeing_49 : decode cX2_prepareBeing 49 = .ok (.aload_n 0, 1) := by decide +kernel
theorem dX2_prepareBeing_50 : decode cX2_prepareBeing 50 = .ok (.getfield 22, 3) := by decide +kernel
theorem dX2_prepareBeing_53 : decode cX2_prepareBeing 53 = .ok (.iload_n 3, 1) := by decide +kernel
theorem dX2_prepareBeing_54 : decode cX2_prepareBeing 54 = .ok (.iload 4, 2) := by decide +kernel
theorem dX2_prepareBeing_56 : decode cX2_prepareBeing 56 = .ok (.ior, 1) := by decide +kernel
theorem dX2_prepareBeing_57 : decode cX2_prepareBeing 57 = .ok (.aload_n 0, 1) := by decide +kernel
theorem dX2_prepareBeing_58 : decode cX2_prepareBeing 58 = .ok (.getfield 22, 3) := by decide +kernel
theorem dX2_prepareBeing_61 : decode cX2_prepareBeing 61 = .ok (.iload 4, 2) := by decide +kernel
theorem dX2_prepareBeing_63 : decode cX2_prepareBeing 63 = .ok (.iaload, 1) := by decide +kernel
theorem dX2_prepareBeing_64 : decode cX2_prepareBeing 64 = .ok (.iload_n 2, 1) := by decide +kernel
theorem dX2_prepareBeing_65 : decode cX2_prepareBeing 65 = .ok (.iadd, 1) := by decide +kernel
theorem dX2_prepareBeing_66 : decode cX2_prepareBeing 66 = .ok (.iastore, 1) := by decide +kernel
theorem dX2_prepareBeing_67 : decode cX2_prepareBeing 67 = .ok (.aload_n 0, 1) := by decide +kernel
theorem dX2_prepareBeing_68 : decode cX2_prepareBeing 68 = .ok (.getfield 25, 3) := by decide +kernel
theorem dX2_prepareBeing_71 : decode cX2_prepareBeing 71 = .ok (.iload_n 3, 1) := by decide +kernel
theorem dX2_prepareBeing_72 : decode cX2_prepareBeing 72 = .ok (.iload 4, 2) := by decide +kernel
theorem dX2_prepareBeing_74 : decode cX2_prepareBeing 74 = .ok (.ior, 1) := by decide +kernel
theorem dX2_prepareBeing_75 : decode cX2_prepareBeing 75 = .ok (.aload_n 0, 1) := by decide +kernel
theorem dX2_prepareBeing_76 : decode cX2_prepareBeing 76 = .ok (.getfield 25, 3) := by decide +kernel
theorem dX2_prepareBeing_79 : decode cX2_prepareBeing 79 = .ok (.iload 4, 2) := by decide +kernel
theorem dX2_prepareBeing_81 : decode cX2_prepareBeing 81 = .ok (.iaload, 1) := by decide +kernel
theorem dX2_prepareBeing_82 : decode cX2_prepareBeing 82 = .ok (.aload_n 0, 1) := by decide +kernel
theorem dX2_prepareBeing_83 : decode cX2_prepareBeing 83 = .ok (.getfield 41, 3) := by decide +kernel
theorem dX2_prepareBeing_86 : decode cX2_prepareBeing 86 = .ok (.getfield 78, 3) := by decide +kernel
theorem dX2_prepareBeing_89 : decode cX2_prepareBeing 89 = .ok (.iload_n 1, 1) := by decide +kernel
theorem dX2_prepareBeing_90 : decode cX2_prepareBeing 90 = .ok (.iaload, 1) := by decide +kernel
theorem dX2_prepareBeing_91 : decode cX2_prepareBeing 91 = .ok (.ior, 1) := by decide +kernel
theorem dX2_prepareBeing_92 : decode cX2_prepareBeing 92 = .ok (.iastore, 1) := by decide +kernel
theorem dX2_prepareBeing_93 : decode cX2_prepareBeing 93 = .ok (.iinc 4 1, 3) := by decide +kernel
theorem dX2_prepareBeing_96 : decode cX2_prepareBeing 96 = .ok (.goto (-89), 3) := by decide +kernel
theorem dX2_prepareBeing_99 : decode cX2_prepareBeing 99 = .ok (.return_, 1) := by decide +kernel
theorem dX2_needFor_0 : decode cX2_needFor 0 = .ok (.aload_n 0, 1) := by decide +kernel
theorem dX2_needFor_1 : decode cX2_needFor 1 = .ok (.getfield 15, 3) := by decide +kernel
theorem dX2_needFor_4 : decode cX2_needFor 4 = .ok (.iload_n 1, 1) := by decide +kernel
theorem dX2_needFor_5 : decode cX2_needFor 5 = .ok (.aload_n 0, 1) := by decide +kernel
theorem dX2_needFor_6 : decode cX2_needFor 6 = .ok (.getfield 41, 3) := by decide +kernel
theorem dX2_needFor_9 : decode cX2_needFor 9 = .ok (.getfield 81, 3) := by decide +kernel
theorem dX2_needFor_12 : decode cX2_needFor 12 = .ok (.iadd, 1) := by decide +kernel
theorem dX2_needFor_13 : decode cX2_needFor 13 = .ok (.bipush 19, 2) := by decide +kernel
theorem dX2_needFor_15 : decode cX2_needFor 15 = .ok (.iadd, 1) := by decide +kernel
theorem dX2_needFor_16 : decode cX2_needFor 16 = .ok (.bipush 20, 2) := by decide +kernel
theorem dX2_needFor_18 : decode cX2_needFor 18 = .ok (.idiv, 1) := by decide +kernel
theorem dX2_needFor_19 : decode cX2_needFor 19 = .ok (.iadd, 1) := by decide +kernel
theorem dX2_needFor_20 : decode cX2_needFor 20 = .ok (.ireturn, 1) := by decide +kernel
theorem dX2_ropeBears_0 : decode cX2_ropeBears 0 = .ok (.iload_n 1, 1) := by decide +kernel
theorem dX2_ropeBears_1 : decode cX2_ropeBears 1 = .ok (.aload_n 0, 1) := by decide +kernel
theorem dX2_ropeBears_2 : decode cX2_ropeBears 2 = .ok (.getfield 41, 3) := by decide +kernel
theorem dX2_ropeBears_5 : decode cX2_ropeBears 5 = .ok (.getfield 81, 3) := by decide +kernel
theorem dX2_ropeBears_8 : decode cX2_ropeBears 8 = .ok (.iadd, 1) := by decide +kernel
theorem dX2_ropeBears_9 : decode cX2_ropeBears 9 = .ok (.aload_n 0, 1) := by decide +kernel
theorem dX2_ropeBears_10 : decode cX2_ropeBears 10 = .ok (.getfield 41, 3) := by decide +kernel
theorem dX2_ropeBears_13 : decode cX2_ropeBears 13 = .ok (.getfield 84, 3) := by decide +kernel
theorem dX2_ropeBears_16 : decode cX2_ropeBears 16 = .ok (.if_icmp .gt 7, 3) := by decide +kernel
theorem dX2_ropeBears_19 : decode cX2_ropeBears 19 = .ok (.iconst 1, 1) := by decide +kernel
theorem dX2_ropeBears_20 : decode cX2_ropeBears 20 = .ok (.goto 4, 3) := by decide +kernel
theorem dX2_ropeBears_23 : decode cX2_ropeBears 23 = .ok (.iconst 0, 1) := by decide +kernel
theorem dX2_ropeBears_24 : decode cX2_ropeBears 24 = .ok (.ireturn, 1) := by decide +kernel
theorem dX2_minutesFor_0 : decode cX2_minutesFor 0 = .ok (.iload_n 2, 1) := by decide +kernel
theorem dX2_minutesFor_1 : decode cX2_minutesFor 1 = .ok (.ifCond .gt 5, 3) := by decide +kernel
theorem dX2_minutesFor_4 : decode cX2_minutesFor 4 = .ok (.iconst (-1), 1) := by decide +kernel
theorem dX2_minutesFor_5 : decode cX2_minutesFor 5 = .ok (.ireturn, 1) := by decide +kernel
theorem dX2_minutesFor_6 : decode cX2_minutesFor 6 = .ok (.aload_n 0, 1) := by decide +kernel
theorem dX2_minutesFor_7 : decode cX2_minutesFor 7 = .ok (.getfield 41, 3) := by decide +kernel
theorem dX2_minutesFor_10 : decode cX2_minutesFor 10 = .ok (.getfield 87, 3) := by decide +kernel
theorem dX2_minutesFor_13 : decode cX2_minutesFor 13 = .ok (.iload_n 1, 1) := by decide +kernel
theorem dX2_minutesFor_14 : decode cX2_minutesFor 14 = .ok (.imul, 1) := by decide +kernel
theorem dX2_minutesFor_15 : decode cX2_minutesFor 15 = .ok (.iload_n 2, 1) := by decide +kernel
theorem dX2_minutesFor_16 : decode cX2_minutesFor 16 = .ok (.iadd, 1) := by decide +kernel
theorem dX2_minutesFor_17 : decode cX2_minutesFor 17 = .ok (.iconst 1, 1) := by decide +kernel
theorem dX2_minutesFor_18 : decode cX2_minutesFor 18 = .ok (.isub, 1) := by decide +kernel
theorem dX2_minutesFor_19 : decode cX2_minutesFor 19 = .ok (.iload_n 2, 1) := by decide +kernel
theorem dX2_minutesFor_20 : decode cX2_minutesFor 20 = .ok (.idiv, 1) := by decide +kernel
theorem dX2_minutesFor_21 : decode cX2_minutesFor 21 = .ok (.istore_n 3, 1) := by decide +kernel
theorem dX2_minutesFor_22 : decode cX2_minutesFor 22 = .ok (.iload_n 3, 1) := by decide +kernel
theorem dX2_minutesFor_23 : decode cX2_minutesFor 23 = .ok (.iconst 1, 1) := by decide +kernel
theorem dX2_minutesFor_24 : decode cX2_minutesFor 24 = .ok (.if_icmp .ge 7, 3) := by decide +kernel
theorem dX2_minutesFor_27 : decode cX2_minutesFor 27 = .ok (.iconst 1, 1) := by decide +kernel
theorem dX2_minutesFor_28 : decode cX2_minutesFor 28 = .ok (.goto 4, 3) := by decide +kernel
theorem dX2_minutesFor_31 : decode cX2_minutesFor 31 = .ok (.iload_n 3, 1) := by decide +kernel
theorem dX2_minutesFor_32 : decode cX2_minutesFor 32 = .ok (.ireturn, 1) := by decide +kernel
theorem dX2_here_0 : decode cX2_here 0 = .ok (.iload_n 1, 1) := by decide +kernel
theorem dX2_here_1 : decode cX2_here 1 = .ok (.iconst 1, 1) := by decide +kernel
theorem dX2_here_2 : decode cX2_here 2 = .ok (.iand, 1) := by decide +kernel
theorem dX2_here_3 : decode cX2_here 3 = .ok (.ifCond .eq 9, 3) := by decide +kernel
theorem dX2_here_6 : decode cX2_here 6 = .ok (.iload_n 1, 1) := by decide +kernel
theorem dX2_here_7 : decode cX2_here 7 = .ok (.iconst 1, 1) := by decide +kernel
theorem dX2_here_8 : decode cX2_here 8 = .ok (.ishr, 1) := by decide +kernel
theorem dX2_here_9 : decode cX2_here 9 = .ok (.goto 8, 3) := by decide +kernel
theorem dX2_here_12 : decode cX2_here 12 = .ok (.iload_n 1, 1) := by decide +kernel
theorem dX2_here_13 : decode cX2_here 13 = .ok (.iconst 1, 1) := by decide +kernel
theorem dX2_here_14 : decode cX2_here 14 = .ok (.ishr, 1) := by decide +kernel
theorem dX2_here_15 : decode cX2_here 15 = .ok (.iconst (-1), 1) := by decide +kernel
theorem dX2_here_16 : decode cX2_here 16 = .ok (.ixor, 1) := by decide +kernel
theorem dX2_here_17 : decode cX2_here 17 = .ok (.aload_n 0, 1) := by decide +kernel
theorem dX2_here_18 : decode cX2_here 18 = .ok (.getfield 9, 3) := by decide +kernel
theorem dX2_here_21 : decode cX2_here 21 = .ok (.iand, 1) := by decide +kernel
theorem dX2_here_22 : decode cX2_here 22 = .ok (.ireturn, 1) := by decide +kernel
theorem dX2_crossing_0 : decode cX2_crossing 0 = .ok (.aload_n 0, 1) := by decide +kernel
theorem dX2_crossing_1 : decode cX2_crossing 1 = .ok (.iload_n 1, 1) := by decide +kernel
theorem dX2_crossing_2 : decode cX2_crossing 2 = .ok (.invokevirtual 90, 3) := by decide +kernel
theorem dX2_crossing_5 : decode cX2_crossing 5 = .ok (.istore 4, 2) := by decide +kernel
theorem dX2_crossing_7 : decode cX2_crossing 7 = .ok (.aload_n 0, 1) := by decide +kernel
theorem dX2_crossing_8 : decode cX2_crossing 8 = .ok (.getfield 9, 3) := by decide +kernel
theorem dX2_crossing_11 : decode cX2_crossing 11 = .ok (.iload 4, 2) := by decide +kernel
theorem dX2_crossing_13 : decode cX2_crossing 13 = .ok (.iconst (-1), 1) := by decide +kernel
theorem dX2_crossing_14 : decode cX2_crossing 14 = .ok (.ixor, 1) := by decide +kernel
theorem dX2_crossing_15 : decode cX2_crossing 15 = .ok (.iand, 1) := by decide +kernel
theorem dX2_crossing_16 : decode cX2_crossing 16 = .ok (.istore 5, 2) := by decide +kernel
theorem dX2_crossing_18 : decode cX2_crossing 18 = .ok (.iload_n 2, 1) := by decide +kernel
theorem dX2_crossing_19 : decode cX2_crossing 19 = .ok (.iload 4, 2) := by decide +kernel
theorem dX2_crossing_21 : decode cX2_crossing 21 = .ok (.iconst (-1), 1) := by decide +kernel
theorem dX2_crossing_22 : decode cX2_crossing 22 = .ok (.ixor, 1) := by decide +kernel
theorem dX2_crossing_23 : decode cX2_crossing 23 = .ok (.iand, 1) := by decide +kernel
theorem dX2_crossing_24 : decode cX2_crossing 24 = .ok (.ifCond .ne 12, 3) := by decide +kernel
theorem dX2_crossing_27 : decode cX2_crossing 27 = .ok (.iload_n 3, 1) := by decide +kernel
theorem dX2_crossing_28 : decode cX2_crossing 28 = .ok (.iload 5, 2) := by decide +kernel
theorem dX2_crossing_30 : decode cX2_crossing 30 = .ok (.iconst (-1), 1) := by decide +kernel
theorem dX2_crossing_31 : decode cX2_crossing 31 = .ok (.ixor, 1) := by decide +kernel
theorem dX2_crossing_32 : decode cX2_crossing 32 = .ok (.iand, 1) := by decide +kernel
theorem dX2_crossing_33 : decode cX2_crossing 33 = .ok (.ifCond .eq 5, 3) := by decide +kernel
theorem dX2_crossing_36 : decode cX2_crossing 36 = .ok (.iconst (-1), 1) := by decide +kernel
theorem dX2_crossing_37 : decode cX2_crossing 37 = .ok (.ireturn, 1) := by decide +kernel
theorem dX2_crossing_38 : decode cX2_crossing 38 = .ok (.aload_n 0, 1) := by decide +kernel
theorem dX2_crossing_39 : decode cX2_crossing 39 = .ok (.aload_n 0, 1) := by decide +kernel
theorem dX2_crossing_40 : decode cX2_crossing 40 = .ok (.getfield 18, 3) := by decide +kernel
theorem dX2_crossing_43 : decode cX2_crossing 43 = .ok (.iload_n 2, 1) := by decide +kernel
theorem dX2_crossing_44 : decode cX2_crossing 44 = .ok (.iaload, 1) := by decide +kernel
theorem dX2_crossing_45 : decode cX2_crossing 45 = .ok (.invokevirtual 94, 3) := by decide +kernel
theorem dX2_crossing_48 : decode cX2_crossing 48 = .ok (.istore 6, 2) := by decide +kernel
theorem dX2_crossing_50 : decode cX2_crossing 50 = .ok (.aload_n 0, 1) := by decide +kernel
theorem dX2_crossing_51 : decode cX2_crossing 51 = .ok (.getfield 22, 3) := by decide +kernel
theorem dX2_crossing_54 : decode cX2_crossing 54 = .ok (.iload_n 3, 1) := by decide +kernel
theorem dX2_crossing_55 : decode cX2_crossing 55 = .ok (.iaload, 1) := by decide +kernel
theorem dX2_crossing_56 : decode cX2_crossing 56 = .ok (.istore 7, 2) := by decide +kernel
theorem dX2_crossing_58 : decode cX2_crossing 58 = .ok (.aload_n 0, 1) := by decide +kernel
theorem dX2_crossing_59 : decode cX2_crossing 59 = .ok (.aload_n 0, 1) := by decide +kernel
theorem dX2_crossing_60 : decode cX2_crossing 60 = .ok (.getfield 18, 3) := by decide +kernel
theorem dX2_crossing_63 : decode cX2_crossing 63 = .ok (.iload_n 2, 1) := by decide +kernel
theorem dX2_crossing_64 : decode cX2_crossing 64 = .ok (.iaload, 1) := by decide +kernel
theorem dX2_crossing_65 : decode cX2_crossing 65 = .ok (.invokevirtual 97, 3) := by decide +kernel
theorem dX2_crossing_68 : decode cX2_crossing 68 = .ok (.ifCond .eq 10, 3) := by decide +kernel
theorem dX2_crossing_71 : decode cX2_crossing 71 = .ok (.iload 7, 2) := by decide +kernel
theorem dX2_crossing_73 : decode cX2_crossing 73 = .ok (.iload 6, 2) := by decide +kernel
theorem dX2_crossing_75 : decode cX2_crossing 75 = .ok (.if_icmp .ge 5, 3) := by decide +kernel
theorem dX2_crossing_78 : decode cX2_crossing 78 = .ok (.iconst (-1), 1) := by decide +kernel
theorem dX2_crossing_79 : decode cX2_crossing 79 = .ok (.ireturn, 1) := by decide +kernel
theorem dX2_crossing_80 : decode cX2_crossing 80 = .ok (.aload_n 0, 1) := by decide +kernel
theorem dX2_crossing_81 : decode cX2_crossing 81 = .ok (.getfield 25, 3) := by decide +kernel
theorem dX2_crossing_84 : decode cX2_crossing 84 = .ok (.iload_n 2, 1) := by decide +kernel
theorem dX2_crossing_85 : decode cX2_crossing 85 = .ok (.iaload, 1) := by decide +kernel
theorem dX2_crossing_86 : decode cX2_crossing 86 = .ok (.iload_n 2, 1) := by decide +kernel
theorem dX2_crossing_87 : decode cX2_crossing 87 = .ok (.iconst (-1), 1) := by decide +kernel
theorem dX2_crossing_88 : decode cX2_crossing 88 = .ok (.ixor, 1) := by decide +kernel
theorem dX2_crossing_89 : decode cX2_crossing 89 = .ok (.iand, 1) := by decide +kernel
theorem dX2_crossing_90 : decode cX2_crossing 90 = .ok (.ifCond .ne 15, 3) := by decide +kernel
theorem dX2_crossing_93 : decode cX2_crossing 93 = .ok (.aload_n 0, 1) := by decide +kernel
theorem dX2_crossing_94 : decode cX2_crossing 94 = .ok (.iload 4, 2) := by decide +kernel
theorem dX2_crossing_96 : decode cX2_crossing 96 = .ok (.iload 5, 2) := by decide +kernel
theorem dX2_crossing_98 : decode cX2_crossing 98 = .ok (.iload_n 2, 1) := by decide +kernel
theorem dX2_crossing_99 : decode cX2_crossing 99 = .ok (.invokevirtual 100, 3) := by decide +kernel
theorem dX2_crossing_102 : decode cX2_crossing 102 = .ok (.ifCond .ne 5, 3) := by decide +kernel
theorem dX2_crossing_105 : decode cX2_crossing 105 = .ok (.iconst (-1), 1) := by decide +kernel
theorem dX2_crossing_106 : decode cX2_crossing 106 = .ok (.ireturn, 1) := by decide +kernel
theorem dX2_crossing_107 : decode cX2_crossing 107 = .ok (.aload_n 0, 1) := by decide +kernel
theorem dX2_crossing_108 : decode cX2_crossing 108 = .ok (.iload 6, 2) := by decide +kernel
theorem dX2_crossing_110 : decode cX2_crossing 110 = .ok (.iload 7, 2) := by decide +kernel
theorem dX2_crossing_112 : decode cX2_crossing 112 = .ok (.invokevirtual 104, 3) := by decide +kernel
theorem dX2_crossing_115 : decode cX2_crossing 115 = .ok (.ireturn, 1) := by decide +kernel
theorem dX2_swimming_0 : decode cX2_swimming 0 = .ok (.aload_n 0, 1) := by decide +kernel
theorem dX2_swimming_1 : decode cX2_swimming 1 = .ok (.getfield 41, 3) := by decide +kernel
theorem dX2_swimming_4 : decode cX2_swimming 4 = .ok (.iload_n 2, 1) := by decide +kernel
theorem dX2_swimming_5 : decode cX2_swimming 5 = .ok (.invokevirtual 108, 3) := by decide +kernel
theorem dX2_swimming_8 : decode cX2_swimming 8 = .ok (.ifCond .ne 5, 3) := by decide +kernel
theorem dX2_swimming_11 : decode cX2_swimming 11 = .ok (.iconst (-1), 1) := by decide +kernel
theorem dX2_swimming_12 : decode cX2_swimming 12 = .ok (.ireturn, 1) := by decide +kernel
theorem dX2_swimming_13 : decode cX2_swimming 13 = .ok (.iconst 1, 1) := by decide +kernel
theorem dX2_swimming_14 : decode cX2_swimming 14 = .ok (.iload_n 2, 1) := by decide +kernel
theorem dX2_swimming_15 : decode cX2_swimming 15 = .ok (.ishl, 1) := by decide +kernel
theorem dX2_swimming_16 : decode cX2_swimming 16 = .ok (.istore_n 3, 1) := by decide +kernel
theorem dX2_swimming_17 : decode cX2_swimming 17 = .ok (.iload_n 1, 1) := by decide +kernel
theorem dX2_swimming_18 : decode cX2_swimming 18 = .ok (.iconst 1, 1) := by decide +kernel
theorem dX2_swimming_19 : decode cX2_swimming 19 = .ok (.ishr, 1) := by decide +kernel
theorem dX2_swimming_20 : decode cX2_swimming 20 = .ok (.aload_n 0, 1) := by decide +kernel
theorem dX2_swimming_21 : decode cX2_swimming 21 = .ok (.getfield 9, 3) := by decide +kernel
theorem dX2_swimming_24 : decode cX2_swimming 24 = .ok (.iand, 1) := by decide +kernel
theorem dX2_swimming_25 : decode cX2_swimming 25 = .ok (.istore 4, 2) := by decide +kernel
theorem dX2_swimming_27 : decode cX2_swimming 27 = .ok (.iload 4, 2) := by decide +kernel
theorem dX2_swimming_29 : decode cX2_swimming 29 = .ok (.iload_n 3, 1) := by decide +kernel
theorem dX2_swimming_30 : decode cX2_swimming 30 = .ok (.iand, 1) := by decide +kernel
theorem dX2_swimming_31 : decode cX2_swimming 31 = .ok (.ifCond .eq 8, 3) := by decide +kernel
theorem dX2_swimming_34 : decode cX2_swimming 34 = .ok (.iload 4, 2) := by decide +kernel
theorem dX2_swimming_36 : decode cX2_swimming 36 = .ok (.goto 12, 3) := by decide +kernel
theorem dX2_swimming_39 : decode cX2_swimming 39 = .ok (.aload_n 0, 1) := by decide +kernel
theorem dX2_swimming_40 : decode cX2_swimming 40 = .ok (.getfield 9, 3) := by decide +kernel
theorem dX2_swimming_43 : decode cX2_swimming 43 = .ok (.iload 4, 2) := by decide +kernel
theorem dX2_swimming_45 : decode cX2_swimming 45 = .ok (.iconst (-1), 1) := by decide +kernel
theorem dX2_swimming_46 : decode cX2_swimming 46 = .ok (.ixor, 1) := by decide +kernel
theorem dX2_swimming_47 : decode cX2_swimming 47 = .ok (.iand, 1) := by decide +kernel
theorem dX2_swimming_48 : decode cX2_swimming 48 = .ok (.istore 5, 2) := by decide +kernel
theorem dX2_swimming_50 : decode cX2_swimming 50 = .ok (.aload_n 0, 1) := by decide +kernel
theorem dX2_swimming_51 : decode cX2_swimming 51 = .ok (.getfield 41, 3) := by decide +kernel
theorem dX2_swimming_54 : decode cX2_swimming 54 = .ok (.getfield 111, 3) := by decide +kernel
theorem dX2_swimming_57 : decode cX2_swimming 57 = .ok (.iload_n 3, 1) := by decide +kernel
theorem dX2_swimming_58 : decode cX2_swimming 58 = .ok (.iand, 1) := by decide +kernel
theorem dX2_swimming_59 : decode cX2_swimming 59 = .ok (.ifCond .eq 44, 3) := by decide +kernel
theorem dX2_swimming_62 : decode cX2_swimming 62 = .ok (.aload_n 0, 1) := by decide +kernel
theorem dX2_swimming_63 : decode cX2_swimming 63 = .ok (.getfield 22, 3) := by decide +kernel
theorem dX2_swimming_66 : decode cX2_swimming 66 = .ok (.iload_n 3, 1) := by decide +kernel
theorem dX2_swimming_67 : decode cX2_swimming 67 = .ok (.iaload, 1) := by decide +kernel
theorem dX2_swimming_68 : decode cX2_swimming 68 = .ok (.aload_n 0, 1) := by decide +kernel
theorem dX2_swimming_69 : decode cX2_swimming 69 = .ok (.getfield 15, 3) := by decide +kernel
theorem dX2_swimming_72 : decode cX2_swimming 72 = .ok (.if_icmp .lt 31, 3) := by decide +kernel
theorem dX2_swimming_75 : decode cX2_swimming 75 = .ok (.aload_n 0, 1) := by decide +kernel
theorem dX2_swimming_76 : decode cX2_swimming 76 = .ok (.getfield 25, 3) := by decide +kernel
theorem dX2_swimming_79 : decode cX2_swimming 79 = .ok (.iload_n 3, 1) := by decide +kernel
theorem dX2_swimming_80 : decode cX2_swimming 80 = .ok (.iaload, 1) := by decide +kernel
theorem dX2_swimming_81 : decode cX2_swimming 81 = .ok (.ifCond .ne 22, 3) := by decide +kernel
theorem dX2_swimming_84 : decode cX2_swimming 84 = .ok (.aload_n 0, 1) := by decide +kernel
theorem dX2_swimming_85 : decode cX2_swimming 85 = .ok (.iload 5, 2) := by decide +kernel
theorem dX2_swimming_87 : decode cX2_swimming 87 = .ok (.aload_n 0, 1) := by decide +kernel
theorem dX2_swimming_88 : decode cX2_swimming 88 = .ok (.getfield 9, 3) := by decide +kernel
theorem dX2_swimming_91 : decode cX2_swimming 91 = .ok (.iload 5, 2) := by decide +kernel
theorem dX2_swimming_93 : decode cX2_swimming 93 = .ok (.iconst (-1), 1) := by decide +kernel
theorem dX2_swimming_94 : decode cX2_swimming 94 = .ok (.ixor, 1) := by decide +kernel
theorem dX2_swimming_95 : decode cX2_swimming 95 = .ok (.iand, 1) := by decide +kernel
theorem dX2_swimming_96 : decode cX2_swimming 96 = .ok (.iload_n 3, 1) := by decide +kernel
theorem dX2_swimming_97 : decode cX2_swimming 97 = .ok (.invokevirtual 100, 3) := by decide +kernel
theorem dX2_swimming_100 : decode cX2_swimming 100 = .ok (.ifCond .ne 5, 3) := by decide +kernel
theorem dX2_swimming_103 : decode cX2_swimming 103 = .ok (.iconst (-1), 1) := by decide +kernel
theorem dX2_swimming_104 : decode cX2_swimming 104 = .ok (.ireturn, 1) := by decide +kernel
theorem dX2_swimming_105 : decode cX2_swimming 105 = .ok (.aload_n 0, 1) := by decide +kernel
theorem dX2_swimming_106 : decode cX2_swimming 106 = .ok (.getfield 41, 3) := by decide +kernel
theorem dX2_swimming_109 : decode cX2_swimming 109 = .ok (.getfield 87, 3) := by decide +kernel
theorem dX2_swimming_112 : decode cX2_swimming 112 = .ok (.aload_n 0, 1) := by decide +kernel
theorem dX2_swimming_113 : decode cX2_swimming 113 = .ok (.getfield 15, 3) := by decide +kernel
theorem dX2_swimming_116 : decode cX2_swimming 116 = .ok (.iadd, 1) := by decide +kernel
theorem dX2_swimming_117 : decode cX2_swimming 117 = .ok (.ireturn, 1) := by decide +kernel
theorem dX2_keepsPeace_0 : decode cX2_keepsPeace 0 = .ok (.aload_n 0, 1) := by decide +kernel
theorem dX2_keepsPeace_1 : decode cX2_keepsPeace 1 = .ok (.getfield 28, 3) := by decide +kernel
theorem dX2_keepsPeace_4 : decode cX2_keepsPeace 4 = .ok (.iload_n 1, 1) := by decide +kernel
theorem dX2_keepsPeace_5 : decode cX2_keepsPeace 5 = .ok (.iload_n 3, 1) := by decide +kernel
theorem dX2_keepsPeace_6 : decode cX2_keepsPeace 6 = .ok (.iconst (-1), 1) := by decide +kernel
theorem dX2_keepsPeace_7 : decode cX2_keepsPeace 7 = .ok (.ixor, 1) := by decide +kernel
theorem dX2_keepsPeace_8 : decode cX2_keepsPeace 8 = .ok (.iand, 1) := by decide +kernel
theorem dX2_keepsPeace_9 : decode cX2_keepsPeace 9 = .ok (.baload, 1) := by decide +kernel
theorem dX2_keepsPeace_10 : decode cX2_keepsPeace 10 = .ok (.ifCond .eq 27, 3) := by decide +kernel
theorem dX2_keepsPeace_13 : decode cX2_keepsPeace 13 = .ok (.aload_n 0, 1) := by decide +kernel
theorem dX2_keepsPeace_14 : decode cX2_keepsPeace 14 = .ok (.getfield 28, 3) := by decide +kernel
theorem dX2_keepsPeace_17 : decode cX2_keepsPeace 17 = .ok (.iload_n 2, 1) := by decide +kernel
theorem dX2_keepsPeace_18 : decode cX2_keepsPeace 18 = .ok (.baload, 1) := by decide +kernel
theorem dX2_keepsPeace_19 : decode cX2_keepsPeace 19 = .ok (.ifCond .eq 18, 3) := by decide +kernel
theorem dX2_keepsPeace_22 : decode cX2_keepsPeace 22 = .ok (.aload_n 0, 1) := by decide +kernel
theorem dX2_keepsPeace_23 : decode cX2_keepsPeace 23 = .ok (.getfield 28, 3) := by decide +kernel
theorem dX2_keepsPeace_26 : decode cX2_keepsPeace 26 = .ok (.iload_n 2, 1) := by decide +kernel
theorem dX2_keepsPeace_27 : decode cX2_keepsPeace 27 = .ok (.iload_n 3, 1) := by decide +kernel
theorem dX2_keepsPeace_28 : decode cX2_keepsPeace 28 = .ok (.ior, 1) := by decide +kernel
theorem dX2_keepsPeace_29 : decode cX2_keepsPeace 29 = .ok (.baload, 1) := by decide +kernel
theorem dX2_keepsPeace_30 : decode cX2_keepsPeace 30 = .ok (.ifCond .eq 7, 3) := by decide +kernel
theorem dX2_keepsPeace_33 : decode cX2_keepsPeace 33 = .ok (.iconst 1, 1) := by decide +kernel
theorem dX2_keepsPeace_34 : decode cX2_keepsPeace 34 = .ok (.goto 4, 3) := by decide +kernel
theorem dX2_keepsPeace_37 : decode cX2_keepsPeace 37 = .ok (.iconst 0, 1) := by decide +kernel
theorem dX2_keepsPeace_38 : decode cX2_keepsPeace 38 = .ok (.ireturn, 1) := by decide +kernel
theorem dX2_ferrying_0 : decode cX2_ferrying 0 = .ok (.aload_n 0, 1) := by decide +kernel
theorem dX2_ferrying_1 : decode cX2_ferrying 1 = .ok (.iload_n 1, 1) := by decide +kernel
theorem dX2_ferrying_2 : decode cX2_ferrying 2 = .ok (.iload_n 2, 1) := by decide +kernel
theorem dX2_ferrying_3 : decode cX2_ferrying 3 = .ok (.aload_n 0, 1) := by decide +kernel
theorem dX2_ferrying_4 : decode cX2_ferrying 4 = .ok (.getfield 9, 3) := by decide +kernel
theorem dX2_ferrying_7 : decode cX2_ferrying 7 = .ok (.aload_n 0, 1) := by decide +kernel
theorem dX2_ferrying_8 : decode cX2_ferrying 8 = .ok (.iload_n 1, 1) := by decide +kernel
theorem dX2_ferrying_9 : decode cX2_ferrying 9 = .ok (.invokevirtual 90, 3) := by decide +kernel
theorem dX2_ferrying_12 : decode cX2_ferrying 12 = .ok (.iconst (-1), 1) := by decide +kernel
theorem dX2_ferrying_13 : decode cX2_ferrying 13 = .ok (.ixor, 1) := by decide +kernel
theorem dX2_ferrying_14 : decode cX2_ferrying 14 = .ok (.iand, 1) := by decide +kernel
theorem dX2_ferrying_15 : decode cX2_ferrying 15 = .ok (.invokevirtual 114, 3) := by decide +kernel
theorem dX2_ferrying_18 : decode cX2_ferrying 18 = .ok (.ireturn, 1) := by decide +kernel
theorem dX2_behind_0 : decode cX2_behind 0 = .ok (.iload_n 2, 1) := by decide +kernel
theorem dX2_behind_1 : decode cX2_behind 1 = .ok (.sipush 1024, 3) := by decide +kernel
theorem dX2_behind_4 : decode cX2_behind 4 = .ok (.if_icmp .lt 15, 3) := by decide +kernel
theorem dX2_behind_7 : decode cX2_behind 7 = .ok (.iload_n 1, 1) := by decide +kernel
theorem dX2_behind_8 : decode cX2_behind 8 = .ok (.iconst 2, 1) := by decide +kernel
theorem dX2_behind_9 : decode cX2_behind 9 = .ok (.iload_n 2, 1) := by decide +kernel
theorem dX2_behind_10 : decode cX2_behind 10 = .ok (.sipush 1024, 3) := by decide +kernel
